/-! THE MODEL: sly, stop -/
/-- the offered ones that a set's bits name, below j -/
def subK (off : List Nat) (bits j : Nat) : List Nat := ((List.range j).filter (fun i => bits.testBit i)).map (fun i => off.getD i 0)
def subL (off : List Nat) (bits : Nat) : List Nat := subK off bits off.length
theorem subK_succ (off : List Nat) (bits j : Nat) : subK off bits (j + 1) = if bits.testBit j then subK off bits j ++ [off.getD j 0] else subK off bits j := by
  unfold subK
  rw [List.range_succ, List.filter_append, List.map_append]
  by_cases q : bits.testBit j
  · rw [if_pos q]; simp [q]
  · rw [if_neg q]; simp [q]
theorem subK_len (off : List Nat) (bits : Nat) : ∀ j, (subK off bits j).length = popK bits j
  | 0 => rfl
  | j + 1 => by
    rw [subK_succ, popK_succ, bit_mod]
    have := subK_len off bits j
    by_cases q : bits.testBit j
    · rw [if_pos q, if_pos q, List.length_append, List.length_singleton, this]
    · rw [if_neg q, if_neg q, this]; rfl
theorem popK_mono (v : Nat) : ∀ {a b : Nat}, a ≤ b → popK v a ≤ popK v b := by
  intro a b h
  induction b with
  | zero => rw [show a = 0 by omega]; exact Nat.le_refl _
  | succ b ih =>
    rcases Nat.lt_or_ge b a with q | q
    · rw [show a = b + 1 by omega]; exact Nat.le_refl _
    · have := ih q
      rw [popK_succ]; omega
theorem getD_mem {l : List Nat} {k d : Nat} (h : k < l.length) : l.getD k d ∈ l := by
  rw [List.getD_eq_getElem?_getD, List.getElem?_eq_getElem h]
  exact List.getElem_mem h
theorem sub_in {x : Ab} (h : inD x (aO x)) (bits : Nat) {j : Nat} (hj : j ≤ (aO x).length) : inD x (subK (aO x) bits j) := by
  intro d hd
  unfold subK at hd
  rw [List.mem_map] at hd
  obtain ⟨i, hi, rfl⟩ := hd
  rw [List.mem_filter, List.mem_range] at hi
  exact h _ (getD_mem (by omega))
/-- is a set sly, of at most k -/
def slyB (x : Ab) (k bits : Nat) : Bool := decide (pop bits ≤ k) && !(bars1 (aF x) (lawS x) (lvs (aD x) (subL (aO x) bits))) && (loanN (aF x) (aD x) (subL (aO x) bits) != 0)
def slyL (x : Ab) (k n : Nat) : List Nat := (List.range' 1 n).filter (slyB x k)
def slyAll (x : Ab) (k : Nat) : List Nat := slyL x k (2 ^ (aO x).length - 1)
theorem slyL_succ (x : Ab) (k n : Nat) : slyL x k (n + 1) = if slyB x k (n + 1) then slyL x k n ++ [n + 1] else slyL x k n := by
  unfold slyL
  rw [List.range'_concat, List.filter_append]
  simp only [Nat.one_mul]
  rw [Nat.add_comm 1 n]
  by_cases q : slyB x k (n + 1)
  · rw [if_pos q]; simp [q]
  · rw [if_neg q]; simp [q]
/-- the best of a row of sets: the fewest, the first (0: none) -/
def bst (b s : Nat) : Nat := if b = 0 ∨ pop s < pop b then s else b
def SSl (a k : Nat) : Prop := SLo a k ∨ SBr a k ∨ SLs a k ∨ a = 103 ∨ a = 51 ∧ (k = 84 ∨ k = 85)
theorem SSl_Scr : ∀ a k, SSl a k → Scr a k := by unfold SSl SLo SLe SBr SLs Scr Last; omega
theorem slyL_len (x : Ab) (k n : Nat) : (slyL x k n).length ≤ n := by
  unfold slyL
  refine Nat.le_trans (List.length_filter_le _ _) ?_
  rw [List.length_range']
  exact Nat.le_refl _
def bv (b : Nat) : Int32 := if b = 0 then -1 else n32 b
/-- what was found till now -/
def SlyA (x : Ab) (l : List Nat) (h : Hp) : Prop := hI h 51 84 = n32 l.length ∧ hI h 51 85 = bv (l.foldl bst 0) ∧ ∀ j, j < l.length → hI h 103 j = n32 (wBits x (lvs (aD x) (subL (aO x) (l.getD j 0))) (aW x).length)
theorem SlyA.mv {x : Ab} {l : List Nat} {h h' : Hp} {S : Nat → Nat → Prop} (A : SlyA x l h) (f : fr S h h') (h1 : ¬ S 51 84) (h2 : ¬ S 51 85) (h3 : ∀ k, ¬ S 103 k) : SlyA x l h' :=
  ⟨by rw [f.I h1]; exact A.1, by rw [f.I h2]; exact A.2.1, fun j hj => by rw [f.I (h3 j)]; exact A.2.2 j hj⟩
theorem bst_lt {M : Nat} : ∀ (l : List Nat) (b : Nat), b < M → (∀ s ∈ l, s < M) → l.foldl bst b < M
  | [], _, hb, _ => hb
  | s :: l, b, hb, h => by
    rw [List.foldl_cons]
    refine bst_lt l _ ?_ (fun q hq => h q (by simp [hq]))
    unfold bst
    split
    · exact h s (by simp)
    · exact hb
theorem sly_mem {x : Ab} {k n s : Nat} (h : s ∈ slyL x k n) : 1 ≤ s ∧ s ≤ n := by
  unfold slyL at h
  rw [List.mem_filter, List.mem_range'] at h
  obtain ⟨⟨i, hi, rfl⟩, -⟩ := h
  omega
set_option maxHeartbeats 4000000 in
set_option maxRecDepth 100000 in
theorem q_sly40 {x : Ab} {K0 bits : Nat} {Q : Hp → Prop} {k90 : Int32 → Int32 → Hp → Prop} (h0 : Hp) (I : InvR x h0) (hk : pop bits ≤ 6) (hb : bits < 1024) (k : ∀ h', fr SLs h0 h' → LstIs (subL (aO x) bits) h' → k90 (n32 K0) (n32 bits) h') :
    ∀ (r i : Nat) (h : Hp), r + i = (aO x).length → fr SLs h0 h → LstIs (subK (aO x) bits i) h → m_X12_findSly_40 (r + 1) k90 Q (n32 K0) (n32 bits) (n32 i) h := by
  obtain ⟨b1, b2, b3, b4, b5⟩ := id I.2.2.2.2.2.2.2.2.1
  intro r
  induction r with
  | zero =>
    intro i h hr f L
    have e83 : hI h 51 83 = n32 (aO x).length := by rw [f.I (by unfold SLs; omega)]; exact b1
    rw [m_X12_findSly_40]
    refine ⟨fun _ => k h f (by rw [show i = (aO x).length by omega] at L; exact L), fun z => ?_⟩
    rw [e83, n32_le (by omega) (by omega)] at z; omega
  | succ r ih =>
    intro i h hr f L
    have e83 : hI h 51 83 = n32 (aO x).length := by rw [f.I (by unfold SLs; omega)]; exact b1
    have e102 : hI h 102 i = n32 ((aO x).getD i 0) := by rw [f.I (by unfold SLs; omega)]; exact b3 i (by omega)
    have e55 := L.1; have l6 := L.2.1
    have hbm := bit_mod bits i
    rw [m_X12_findSly_40]
    unfold m_X12_findSly_84
    rw [e83, n32_ix (by omega), e55, n32_ix (by omega), e102, show (31 : Int32) = n32 31 from rfl, show (1 : Int32) = n32 1 from rfl, n32_bit (by omega) (by omega), hbm]
    refine ⟨fun z => ?_, fun _ => ⟨fun q => ?_, fun q => ?_⟩⟩
    · rw [n32_le (by omega) (by omega)] at z; omega
    · have qb : bits.testBit i = true := by
        cases hq : bits.testBit i with
        | true => rfl
        | false => rw [hq] at q; exact absurd (by decide) q
      have hlen : (subK (aO x) bits (i + 1)).length ≤ 6 := by
        rw [subK_len]
        exact Nat.le_trans (popK_mono bits (show i + 1 ≤ 24 by omega)) hk
      rw [subK_succ, if_pos qb, List.length_append, List.length_singleton] at hlen
      refine ⟨vpI (by omega) (by decide), vpI (by omega) (by decide), fun x12 e12 => ?_⟩
      rw [e12, n32_add, hI_wI, if_neg (by omega), e55, n32_add]
      refine ih (i + 1) _ (by omega) (fr_wI (fr_wI f _ (by unfold SLs; omega)) _ (by unfold SLs; omega)) ?_
      rw [subK_succ, if_pos qb]
      refine ⟨by rw [hI_wI, if_pos ⟨rfl, rfl⟩]; simp, by simp; omega, ?_⟩
      refine L.2.2.app (fun j => ?_)
      rw [hI_wI, if_neg (by omega), hI_wI]
      simp
    · have qb : bits.testBit i = false := by
        cases hq : bits.testBit i with
        | false => rfl
        | true => rw [hq] at q; exact absurd q (by decide)
      intro x12 e12
      rw [e12, n32_add]
      refine ih (i + 1) h (by omega) f ?_
      rw [subK_succ, if_neg (by rw [qb]; decide)]
      exact L
set_option maxHeartbeats 4000000 in
set_option maxRecDepth 100000 in
theorem q_findSly {x : Ab} {k0 : Nat} {h : Hp} {Q : Hp → Prop} (I : InvR x h) (K : OkA x) (h1 : 1 ≤ k0) (h6 : k0 ≤ 6) (k : ∀ h', fr SSl h h' → InvR x h' → SlyA x (slyAll x k0) h' → Q h') : m_X12_findSly (n32 k0) h Q := by
  unfold m_X12_findSly
  obtain ⟨b1, b2, b3, b4, b5⟩ := id I.2.2.2.2.2.2.2.2.1
  obtain ⟨e68, l12, -⟩ := id I.2.2.2.2.2.2.1
  have hp : 2 ^ (aO x).length ≤ 2 ^ 10 := pw_le b2
  have hp0 : 0 < 2 ^ (aO x).length := Nat.two_pow_pos _
  have T1 : ∀ a k, SLs a k → SSl a k := fun a k h => Or.inr (Or.inr (Or.inl h))
  have T2 : ∀ a k, SBr a k → SSl a k := fun a k h => Or.inr (Or.inl h)
  have T3 : ∀ a k, SLo a k → SSl a k := fun a k h => Or.inl h
  have main : ∀ (r n : Nat) (h2 : Hp), r + n + 1 = 2 ^ (aO x).length → fr SSl h h2 → SlyA x (slyL x k0 n) h2 → m_X12_findSly_12 (r + 1) Q (n32 k0) (n32 (n + 1)) h2 := by
    intro r
    induction r with
    | zero =>
      intro n h2 hr f2 A2
      have I2 := I.fr (f2.mono SSl_Scr)
      have e83 := I2.2.2.2.2.2.2.2.2.1.1
      rw [m_X12_findSly_12, e83, show (1 : Int32) = n32 1 from rfl, show (31 : Int32) = n32 31 from rfl, shl1 (by omega)]
      refine ⟨fun _ => k h2 f2 I2 ?_, fun z => ?_⟩
      · unfold slyAll
        rw [show 2 ^ (aO x).length - 1 = n by omega]
        exact A2
      · rw [n32_le (by omega) (by omega)] at z; omega
    | succ r ih =>
      intro n h2 hr f2 A2
      have I2 := I.fr (f2.mono SSl_Scr)
      have e83 := I2.2.2.2.2.2.2.2.2.1.1
      have hpop := popK_le (n + 1) 24
      have hpe : pop (n + 1) = popK (n + 1) 24 := rfl
      rw [m_X12_findSly_12, e83, show (1 : Int32) = n32 1 from rfl, show (31 : Int32) = n32 31 from rfl, shl1 (by omega)]
      have next : ∀ h3, fr SSl h h3 → SlyA x (slyL x k0 (n + 1)) h3 → m_X12_findSly_156 (fun v1 v2 hh => m_X12_findSly_12 (r + 1) Q v1 v2 hh) Q (n32 k0) (n32 (n + 1)) h3 := by
        intro h3 f3 A3
        unfold m_X12_findSly_156
        intro x1 e1
        rw [e1, show n32 (n + 1) + 1 = n32 (n + 1 + 1) from n32_add _ 1]
        exact ih (n + 1) h3 (by omega) f3 A3
      have skip : slyB x k0 (n + 1) = false → ∀ h3, fr SSl h h3 → SlyA x (slyL x k0 n) h3 → m_X12_findSly_156 (fun v1 v2 hh => m_X12_findSly_12 (r + 1) Q v1 v2 hh) Q (n32 k0) (n32 (n + 1)) h3 := by
        intro hq h3 f3 A3
        exact next h3 f3 (by rw [slyL_succ, if_neg (by rw [hq]; decide)]; exact A3)
      refine ⟨fun z => ?_, fun _ => ?_⟩
      · rw [n32_le (by omega) (by omega)] at z; omega
      · refine q_bits (by omega) ?_
        rw [n32_le (by omega) (by omega)]
        refine ⟨fun q => ?_, fun q => skip (by unfold slyB; rw [show decide (pop (n + 1) ≤ k0) = false by simp; omega]; rfl) h2 f2 A2⟩
        have f3 : fr SLs h2 (wI h2 51 55 0) := fr_wI (fr.rf _ _) _ (by unfold SLs; omega)
        refine ⟨_, q_sly40 (K0 := k0) (wI h2 51 55 0) (I2.fr (f3.mono SLs_Scr)) (bits := n + 1) (by omega) (by omega) (fun h4 f4 L4 => ?_) (aO x).length 0 _ (by omega) (fr.rf _ _) ⟨by rw [hI_wI, if_pos ⟨rfl, rfl⟩]; rfl, by simp [subK], fun j hj => by simp [subK] at hj⟩⟩
        have f24 : fr SLs h2 h4 := f3.trans f4
        have I4 := I2.fr (f24.mono SLs_Scr)
        have A4 := A2.mv f24 (by unfold SLs; omega) (by unfold SLs; omega) (by unfold SLs; omega)
        have hin : inD x (subL (aO x) (n + 1)) := sub_in (x := x) b4 (n + 1) (Nat.le_refl _)
        unfold m_X12_findSly_90
        refine q_breachNow I4 K hin L4 (fun h5 f5 I5 L5 hit => ?_)
        have A5 := A4.mv f5 (by unfold SBr; omega) (by unfold SBr; omega) (by unfold SBr; omega)
        have f05 : fr SSl h h5 := (f2.trans (f24.mono T1)).trans (f5.mono T2)
        cases hbr : brc (aF x) (lawS x) (lvs (aD x) (subL (aO x) (n + 1))) with
        | some q3 =>
          obtain ⟨s, a, b⟩ := q3
          have hs := (hit s a b hbr).1
          refine ⟨fun _ => skip ?_ h5 f05 A5, fun z => absurd ((pm_ge0 (by show s + 1 ≤ _; omega)).mpr (by show 0 < s + 1; omega)) z⟩
          unfold slyB bars1
          rw [hbr]; simp
        | none =>
          refine ⟨fun z => absurd z (by decide), fun _ => ?_⟩
          refine q_loanAt I5 K hin L5 (fun h6 f6 => ?_)
          have I6 := I5.fr (f6.mono SLo_Scr)
          have L6 := L5.fr f6 (by unfold SLo SLe; omega) (by unfold SLo SLe; omega)
          have A6 := A5.mv f6 (by unfold SLo SLe; omega) (by unfold SLo SLe; omega) (by unfold SLo SLe; omega)
          have f06 : fr SSl h h6 := f05.trans (f6.mono T3)
          have l78 := loanN_le (aF x) (aD x) (subL (aO x) (n + 1))
          by_cases hln : loanN (aF x) (aD x) (subL (aO x) (n + 1)) = 0
          · rw [hln]
            refine ⟨fun z => absurd z (by decide), fun _ => skip ?_ h6 f06 A6⟩
            unfold slyB
            rw [hln]; simp
          · refine ⟨fun _ => ?_, fun z => absurd ((pm_ge0 (by omega)).mpr (by omega)) z⟩
            have hsly : slyB x k0 (n + 1) = true := by
              unfold slyB bars1
              rw [hbr, show decide (pop (n + 1) ≤ k0) = true by simp; omega]
              simp [hln]
            refine q_words I6 K hin L6 (fun h7 f7 I7 L7 => ?_)
            have A7 := A6.mv f7 (by unfold SBr; omega) (by unfold SBr; omega) (by unfold SBr; omega)
            have f07 : fr SSl h h7 := f06.trans (f7.mono T2)
            have hlen := slyL_len x k0 n
            obtain ⟨a1, a2, a3⟩ := A7
            have hbst : (slyL x k0 n).foldl bst 0 < 1024 := bst_lt _ 0 (by decide) (fun s hs => by have := sly_mem hs; omega)
            rw [A6.1, n32_ix (by omega)]
            have f8 : fr SSl h (wI (wI h7 103 (slyL x k0 n).length (n32 (wBits x (lvs (aD x) (subL (aO x) (n + 1))) (aW x).length))) 51 84 (n32 ((slyL x k0 n).length + 1))) := fr_wI (fr_wI f07 _ (by unfold SSl; omega)) _ (by unfold SSl; omega)
            have e1 : hI (wI h7 103 (slyL x k0 n).length (n32 (wBits x (lvs (aD x) (subL (aO x) (n + 1))) (aW x).length))) 51 84 = n32 (slyL x k0 n).length := by rw [hI_wI, if_neg (by omega)]; exact a1
            rw [e1, show n32 (slyL x k0 n).length + 1 = n32 ((slyL x k0 n).length + 1) from n32_add _ 1]
            have e84 : hI (wI (wI h7 103 (slyL x k0 n).length (n32 (wBits x (lvs (aD x) (subL (aO x) (n + 1))) (aW x).length))) 51 84 (n32 ((slyL x k0 n).length + 1))) 51 84 = n32 ((slyL x k0 n).length + 1) := by rw [hI_wI, if_pos ⟨rfl, rfl⟩]
            have e85 : hI (wI (wI h7 103 (slyL x k0 n).length (n32 (wBits x (lvs (aD x) (subL (aO x) (n + 1))) (aW x).length))) 51 84 (n32 ((slyL x k0 n).length + 1))) 51 85 = bv ((slyL x k0 n).foldl bst 0) := by rw [hI_wI, if_neg (by omega), hI_wI, if_neg (by omega)]; exact a2
            have e103 : ∀ j, j < (slyL x k0 n).length + 1 → hI (wI (wI h7 103 (slyL x k0 n).length (n32 (wBits x (lvs (aD x) (subL (aO x) (n + 1))) (aW x).length))) 51 84 (n32 ((slyL x k0 n).length + 1))) 103 j = n32 (wBits x (lvs (aD x) (subL (aO x) ((slyL x k0 n ++ [n + 1]).getD j 0))) (aW x).length) := by
              intro j hj
              rw [hI_wI, if_neg (by omega), hI_wI]
              by_cases q : j = (slyL x k0 n).length
              · subst q; rw [if_pos ⟨rfl, rfl⟩, getD_app_at]
              · rw [if_neg (by omega), getD_app_lt (by omega)]; exact a3 j (by omega)
            generalize wI (wI h7 103 (slyL x k0 n).length (n32 (wBits x (lvs (aD x) (subL (aO x) (n + 1))) (aW x).length))) 51 84 (n32 ((slyL x k0 n).length + 1)) = h8 at f8 e84 e85 e103
            refine ⟨vpI (by omega) (by decide), ?_⟩
            have better : bst ((slyL x k0 n).foldl bst 0) (n + 1) = n + 1 → m_X12_findSly_151 (fun v1 v2 hh => m_X12_findSly_12 (r + 1) Q v1 v2 hh) Q (n32 k0) (n32 (n + 1)) h8 := by
              intro hb
              unfold m_X12_findSly_151
              refine next _ (fr_wI f8 _ (by unfold SSl; omega)) ?_
              rw [slyL_succ, if_pos hsly]
              refine ⟨by rw [hI_wI, if_neg (by omega), e84]; simp, ?_, fun j hj => ?_⟩
              · rw [hI_wI, if_pos ⟨rfl, rfl⟩, List.foldl_append]
                show _ = bv (bst _ (n + 1))
                rw [hb]
                unfold bv
                rw [if_neg (by omega)]
              · rw [hI_wI, if_neg (by omega)]
                exact e103 j (by simpa using hj)
            have worse : bst ((slyL x k0 n).foldl bst 0) (n + 1) = (slyL x k0 n).foldl bst 0 → m_X12_findSly_156 (fun v1 v2 hh => m_X12_findSly_12 (r + 1) Q v1 v2 hh) Q (n32 k0) (n32 (n + 1)) h8 := by
              intro hb
              refine next h8 f8 ?_
              rw [slyL_succ, if_pos hsly]
              refine ⟨by rw [e84]; simp, ?_, fun j hj => e103 j (by simpa using hj)⟩
              rw [List.foldl_append]
              show _ = bv (bst _ (n + 1))
              rw [hb]
              exact e85
            rw [e85]
            generalize hB : (slyL x k0 n).foldl bst 0 = B at hbst better worse e85
            by_cases hB0 : B = 0
            · refine ⟨fun _ => better (by unfold bst; rw [if_pos (Or.inl hB0)]), fun z => absurd (by unfold bv; rw [if_pos hB0]; decide) z⟩
            · have ebv : bv B = n32 B := by unfold bv; rw [if_neg hB0]
              rw [ebv]
              have pB := popK_le B 24
              have pBe : pop B = popK B 24 := rfl
              refine ⟨fun z => ?_, fun _ => ?_⟩
              · rw [show (0 : Int32) = n32 0 from rfl, n32_lt (by omega) (by decide)] at z; omega
              · refine q_bits (by omega) ?_
                rw [e85, ebv]
                refine q_bits (by omega) ?_
                rw [n32_le (by omega) (by omega)]
                exact ⟨fun z => worse (by unfold bst; rw [if_neg (by omega)]), fun z => better (by unfold bst; rw [if_pos (by omega)])⟩
  have f0 : fr SSl h (wI (wI h 51 84 0) 51 85 (-1)) := fr_wI (fr_wI (fr.rf _ _) _ (by unfold SSl; omega)) _ (by unfold SSl; omega)
  exact ⟨_, main (2 ^ (aO x).length - 1) 0 _ (by omega) f0 ⟨by rw [hI_wI, if_neg (by omega), hI_wI, if_pos ⟨rfl, rfl⟩]; rfl, by rw [hI_wI, if_pos ⟨rfl, rfl⟩]; rfl, fun j hj => by simp [slyL] at hj⟩⟩
/-- k from 1 to 6 -/
def arg6 (v : Int32) : Option Nat := match argN v 7 with | some 0 => none | o => o
theorem q_six {v : Int32} {h : Hp} {Q : Int32 → Hp → Prop} (k1 : arg6 v = none → Q 0 h) (k2 : ∀ a : Nat, 1 ≤ a → a ≤ 6 → v = n32 a → arg6 v = some a → Q 1 h) : m_X12_within v 1 6 h Q := by
  unfold arg6 at k1 k2
  rcases arg_cases v 7 with ⟨e, c⟩ | ⟨a, h1, h2, rfl, e⟩
  · refine q_within (fun _ => k1 (by rw [e])) (fun c1 c2 => ?_)
    rcases c with c | ⟨a, g1, g2, rfl⟩
    · exact absurd (Int32.lt_trans c (by decide)) c1
    · rw [show (6 : Int32) = n32 6 from rfl, n32_lt (by omega) g2] at c2; omega
  · refine q_within (fun c => ?_) (fun c1 c2 => ?_)
    · rw [show (1 : Int32) = n32 1 from rfl, show (6 : Int32) = n32 6 from rfl, n32_lt (by omega) (by omega), n32_lt (by omega) (by omega)] at c
      refine k1 ?_
      rw [e, show a = 0 by omega]; rfl
    · rw [show (1 : Int32) = n32 1 from rfl, n32_lt (by omega) (by omega)] at c1
      refine k2 a (by omega) (by omega) rfl ?_
      rw [e]
      cases a with
      | zero => omega
      | succ a => rfl
def ansSly (x : Ab) (v1 v2 : Int32) : Int32 := match arg6 v1, argN v2 2 with
  | some k, some w => if w = 0 then n32 (slyAll x k).length else bv ((slyAll x k).foldl bst 0)
  | _, _ => -1
theorem R_sly {x : Ab} {v1 v2 : Int32} {h : Hp} {Q : Int32 → Hp → Prop} (I : InvR x h) (K : OkA x) (k : ∀ h', fr Scr h h' → Q (ansSly x v1 v2) h') : m_X12_sly v1 v2 h Q := by
  unfold m_X12_sly
  unfold ansSly at k
  refine q_six (fun e => ?_) (fun k0 h1 h6 e1 e2 => ?_)
  · rw [e] at k; exact ⟨fun _ => k h (fr.rf _ _), fun z => absurd rfl z⟩
  · rw [e2] at k
    refine ⟨fun z => absurd z (by decide), fun _ => ?_⟩
    refine q_upto (hi := 1) (by decide) (fun e => ?_) (fun w hw e3 e4 => ?_)
    · rw [e] at k; exact ⟨fun z => absurd rfl z, fun _ => k h (fr.rf _ _)⟩
    · rw [e4] at k
      subst e1; subst e3
      refine ⟨fun _ => ?_, fun z => absurd z (by decide)⟩
      refine q_findSly I K h1 h6 (fun h2 f2 I2 A2 => ?_)
      have := k h2 (f2.mono SSl_Scr)
      dsimp only at this
      rw [A2.1, A2.2.1, show (0 : Int32) = n32 0 from rfl, n32_eq (by omega) (by decide)]
      refine ⟨fun q => ?_, fun q => ?_⟩
      · rw [if_neg q] at this; exact this
      · rw [if_pos q] at this; exact this
