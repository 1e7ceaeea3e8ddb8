/-! THE CLASS: which of the offered stand barred together -/
def RuO (S : List Rec) (ro : Option Nat) (h : Hp) : Prop := (ro = none ∧ S = []) ∨ ∃ a, ro = some a ∧ 108 ≤ a ∧ S.length ≤ 16 ∧ CRul S h a
def BrA (x : Ab) (S : List Rec) (b base m : Nat) (h : Hp) : Prop := ∀ i, i < m → ∃ v, hI h b (base + i) = n32 v ∧ v < 2 ^ (i + 1) ∧ ∀ j, j ≤ i → v.testBit j = prB x S j i
def SFbr (b base : Nat) (a k : Nat) : Prop := SJg a k ∨ a = b ∧ base ≤ k ∧ k < base + 10
theorem BrA.mv {x : Ab} {S : List Rec} {b base m : Nat} {h h' : Hp} (A : BrA x S b base m h) (e : ∀ i, i < m → hI h' b (base + i) = hI h b (base + i)) : BrA x S b base m h' := fun i hi => by
  rw [e i hi]; exact A i hi
theorem prB_nil (x : Ab) (j i : Nat) : prB x [] j i = false := rfl
theorem RuO.mv {S : List Rec} {T : Nat → Nat → Prop} {ro : Option Nat} {h h' : Hp} (R : RuO S ro h) (f : fr T h h') (n : ∀ a k, T a k → a < 108) : RuO S ro h' := by
  rcases R with R | ⟨a, e, ha, hs, C⟩
  · exact Or.inl R
  · exact Or.inr ⟨a, e, ha, hs, C.fr f (fun b k h1 h2 z => by have := n b k z; omega)⟩
theorem COff.at {x : Ab} {da : Nat → Nat} {h : Hp} (O : COff x da h) {i : Nat} (hi : i < (aO x).length) : hR h 33 i = some (da ((aO x).getD i 0)) ∧ (aO x).getD i 0 < (aD x).length ∧ i < 10 :=
  ⟨O.2.2.1 i hi, O.2.2.2.1 _ (getD_mem hi), by have := O.2.1; omega⟩
theorem COff.fr {x : Ab} {da : Nat → Nat} {T : Nat → Nat → Prop} {h h' : Hp} (O : COff x da h) (f : fr T h h') (n1 : ¬ T 32 3) (n2 : ∀ k, ¬ T 33 k) : COff x da h' := O.mv (f.I n1) (fun k => f.R (n2 k))
set_option maxHeartbeats 4000000 in
set_option maxRecDepth 100000 in
theorem c_fb22 {x : Ab} {da : Nat → Nat} {S : List Rec} {b n base i ra : Nat} {h0 : Hp} {Q : Hp → Prop} {k85 : Option Nat → Nat → Nat → Int32 → Int32 → Hp → Prop} (V : CVw x da h0) (D : KdA x da h0) (K : OkA x) (O : COff x da h0) (hb : b = 36 ∨ b = 37) (hn : base + 10 ≤ n) (hn2 : n < 2147483648) (hS : S.length ≤ 16) (hra : 108 ≤ ra) (C : CRul S h0 ra) (hi : i < (aO x).length)
    (k : ∀ h' v, fr (SFbr b base) h0 h' → (∀ t, t < i → hI h' b (base + t) = hI h0 b (base + t)) → hI h' b (base + i) = n32 v → v < 2 ^ (i + 1) → (∀ j, j ≤ i → v.testBit j = prB x S j i) → k85 (some ra) n b (n32 base) (n32 i) h') :
    ∀ (r j v : Nat) (h : Hp), r + j = i + 1 → fr (SFbr b base) h0 h → (∀ t, t < i → hI h b (base + t) = hI h0 b (base + t)) → hI h b (base + i) = n32 v → v < 2 ^ (i + 1) → (∀ t, t < j → v.testBit t = prB x S t i) → (∀ t, j ≤ t → v.testBit t = false) → m_X7_findBarred_22 (r + 1) k85 Q (some ra) n b (n32 base) (n32 i) (n32 j) h := by
  have S8 : ∀ a k, SFbr b base a k → a ≠ 1 ∧ a ≠ 8 ∧ a ≠ 32 ∧ a ≠ 33 ∧ a < 108 := by unfold SFbr SJg; omega
  obtain ⟨ri, di, i10⟩ := O.at hi
  intro r
  induction r with
  | zero =>
    intro j v h hr f e1 e2 hv tb tz
    rw [m_X7_findBarred_22, n32_lt (by omega) (by omega)]
    exact ⟨fun _ => k h v f e1 e2 hv (fun t ht => tb t (by omega)), fun z => absurd (by omega) z⟩
  | succ r ih =>
    intro j v h hr f e1 e2 hv tb tz
    obtain ⟨rj, dj, j10⟩ := O.at (show j < (aO x).length by omega)
    have V1 := V.mv f (fun a k z => ⟨(S8 a k z).1, (S8 a k z).2.2.2.2⟩)
    have D1 := D.mv f (fun a k z => ⟨(S8 a k z).2.1, (S8 a k z).2.2.2.2⟩)
    have p2 : 2 ^ (i + 1) ≤ 2 ^ 10 := pw_le (by omega)
    have pj : 2 ^ j ≤ 2 ^ i := pw_le (by omega)
    rw [Nat.pow_succ] at p2
    rw [m_X7_findBarred_22, n32_lt (by omega) (by omega), n32_ix (by omega), n32_ix (by omega), f.R (fun z => (S8 _ _ z).2.2.2.1 rfl), f.R (fun z => (S8 _ _ z).2.2.2.1 rfl)]
    refine ⟨fun z => absurd z (by omega), fun _ => ⟨fun z => absurd z (by simp), fun b3 z => ?_⟩⟩
    injection z with z
    subst z
    refine ⟨vpI j10 (by decide), _, rj, vpI i10 (by decide), _, ri, ?_⟩
    refine c_hearPair V1 D1 K dj di (fun h2 f2 A2 => ?_)
    have F02 : fr (SFbr b base) h0 h2 := f.trans (f2.mono (fun a k z => Or.inl z))
    have V2 := V1.mv f2 (by unfold SJg; omega)
    have go : ∀ h3, fr SJg h2 h3 → ∀ bb : Bool, prB x S j i = bb → m_X7_findBarred_79 (fun (v1 : Option Nat) (v2n : Nat) (v2 : Nat) (v3 : Int32) (v4 : Int32) (v5 : Int32) hh => m_X7_findBarred_22 (r + 1) k85 Q v1 v2n v2 v3 v4 v5 hh) k85 Q ra n b (n32 base) (n32 i) (n32 j) (if bb then wI h3 b (base + i) (n32 (v ||| 2 ^ j)) else h3) := by
      intro h3 f3 bb hbb
      have F03 : fr (SFbr b base) h0 h3 := F02.trans (f3.mono (fun a k z => Or.inl z))
      have e13 : ∀ t, hI h3 b (base + t) = hI h b (base + t) := fun t => by
        rw [f3.I (by unfold SJg; omega), f2.I (by unfold SJg; omega)]
      unfold m_X7_findBarred_79
      intro x2 ex
      rw [ex, show n32 j + 1 = n32 (j + 1) from n32_add _ 1]
      cases bb with
      | false =>
        refine ih (j + 1) v h3 (by omega) F03 (fun t ht => by rw [e13]; exact e1 t ht) (by rw [e13]; exact e2) hv (fun t ht => ?_) (fun t ht => tz t (by omega))
        by_cases q : t = j
        · rw [q, hbb]; exact tz j (Nat.le_refl _)
        · exact tb t (by omega)
      | true =>
        rw [if_pos rfl]
        refine ih (j + 1) (v ||| 2 ^ j) _ (by omega) (fr_wI F03 _ (Or.inr ⟨rfl, by omega, by omega⟩)) (fun t ht => ?_) ?_ ?_ (fun t ht => ?_) (fun t ht => ?_)
        · rw [hI_wI, if_neg (by omega), e13]; exact e1 t ht
        · rw [hI_wI, if_pos ⟨rfl, rfl⟩]
        · exact Nat.or_lt_two_pow hv (Nat.pow_lt_pow_right (by decide) (by omega))
        · rw [tb_or]
          by_cases q : t = j
          · rw [q, hbb]; simp
          · rw [tb t (by omega)]; simp; intro z; exact absurd z.symm q
        · rw [tb_or, tz t (by omega)]; simp; omega
    have hpr : prB x S j i = bars1 (aF x) S (lvs (aD x) (if (aO x).getD j 0 = (aO x).getD i 0 then [(aO x).getD j 0] else [(aO x).getD j 0, (aO x).getD i 0])) := rfl
    unfold bars1 at hpr
    refine c_first V2 A2 (C.fr F02 (fun a k h1 h2 z => by have := (S8 a k z).2.2.2.2; omega)) hS hra (fun z => ⟨fun _ => ?_, fun y => absurd rfl y⟩) (fun s p q h3 z hs f3 _ _ => ⟨fun y => ?_, fun _ => ?_⟩)
    · rw [z] at hpr
      exact go h2 (fr.rf _ _) false hpr
    · rw [n32_m1 (by omega)] at y; exact y.elim
    · rw [z] at hpr
      have f3' := f3.mono SHt_SJg
      have G := go h3 f3' true hpr
      rw [if_pos rfl] at G
      have ei : hI h3 b (base + i) = n32 v := by rw [f3'.I (by unfold SJg; omega), f2.I (by unfold SJg; omega)]; exact e2
      rw [n32_add, n32_ix (by omega), ei, show (1 : Int32) = n32 1 from rfl, show (31 : Int32) = n32 31 from rfl, shl1 (by omega), n32_or (by omega) (by omega)]
      exact ⟨vpI (by omega) (by omega), vpI (by omega) (by omega), G⟩
set_option maxHeartbeats 4000000 in
set_option maxRecDepth 100000 in
theorem c_findBarred {x : Ab} {da : Nat → Nat} {S : List Rec} {ro : Option Nat} {b n base : Nat} {h0 : Hp} {Q : Hp → Prop} (V : CVw x da h0) (D : KdA x da h0) (K : OkA x) (O : COff x da h0) (hb : b = 36 ∨ b = 37) (hn : base + 10 ≤ n) (hn2 : n < 2147483648) (R : RuO S ro h0)
    (k : ∀ h', fr (SFbr b base) h0 h' → BrA x S b base (aO x).length h' → Q h') : m_X7_findBarred ro b n (n32 base) h0 Q := by
  have S8 : ∀ a k, SFbr b base a k → a ≠ 1 ∧ a ≠ 8 ∧ a ≠ 32 ∧ a ≠ 33 ∧ a < 108 := by unfold SFbr SJg; omega
  have o10 := O.2.1
  have main : ∀ (r i : Nat) (h : Hp), r + i = (aO x).length → fr (SFbr b base) h0 h → BrA x S b base i h → m_X7_findBarred_3 (r + 1) Q ro n b (n32 base) (n32 i) h := by
    intro r
    induction r with
    | zero =>
      intro i h hr f A
      rw [m_X7_findBarred_3, f.I (fun z => (S8 _ _ z).2.2.1 rfl), O.1, n32_le (by omega) (by omega)]
      exact ⟨fun _ => k h f (by rw [show i = (aO x).length by omega] at A; exact A), fun z => absurd (by omega) z⟩
    | succ r ih =>
      intro i h hr f A
      rw [m_X7_findBarred_3, f.I (fun z => (S8 _ _ z).2.2.1 rfl), O.1, n32_le (by omega) (by omega), n32_add, n32_ix (by omega)]
      refine ⟨fun z => absurd z (by omega), fun _ => ⟨vpI (by omega) (by omega), ?_⟩⟩
      have f1 : fr (SFbr b base) h0 (wI h b (base + i) 0) := fr_wI f _ (Or.inr ⟨rfl, by omega, by omega⟩)
      have e1 : hI (wI h b (base + i) 0) b (base + i) = n32 0 := by rw [hI_wI, if_pos ⟨rfl, rfl⟩]; rfl
      have e2 : ∀ t, t < i → hI (wI h b (base + i) 0) b (base + t) = hI h b (base + t) := fun t ht => by rw [hI_wI, if_neg (by omega)]
      generalize wI h b (base + i) 0 = h1 at f1 e1 e2
      have nx : ∀ h' v, fr (SFbr b base) h0 h' → (∀ t, t < i → hI h' b (base + t) = hI h1 b (base + t)) → hI h' b (base + i) = n32 v → v < 2 ^ (i + 1) → (∀ j, j ≤ i → v.testBit j = prB x S j i) → m_X7_findBarred_85 (fun (v1 : Option Nat) (v2n : Nat) (v2 : Nat) (v3 : Int32) (v4 : Int32) hh => m_X7_findBarred_3 (r + 1) Q v1 v2n v2 v3 v4 hh) Q ro n b (n32 base) (n32 i) h' := by
        intro h' v f' g1 g2 g3 g4
        unfold m_X7_findBarred_85
        intro x1 ex
        rw [ex, show n32 i + 1 = n32 (i + 1) from n32_add _ 1]
        refine ih (i + 1) h' (by omega) f' (fun t ht => ?_)
        by_cases q : t = i
        · subst q; exact ⟨v, g2, g3, g4⟩
        · rw [g1 t (by omega), e2 t (by omega)]; exact A t (by omega)
      rcases R with ⟨rfl, rfl⟩ | ⟨ra, rfl, hra, hS, C⟩
      · refine ⟨1, ?_⟩
        rw [m_X7_findBarred_22]
        rw [show (0 : Int32) = n32 0 from rfl, n32_lt (by omega) (by decide)]
        refine ⟨fun z => absurd z (by omega), fun _ => ⟨fun _ => nx h1 0 f1 (fun t _ => rfl) e1 (Nat.two_pow_pos _) (fun j _ => by rw [prB_nil, Nat.zero_testBit]), fun b3 z => absurd z (by simp)⟩⟩
      · have V1 := V.mv f1 (fun a k z => ⟨(S8 a k z).1, (S8 a k z).2.2.2.2⟩)
        have D1 := D.mv f1 (fun a k z => ⟨(S8 a k z).2.1, (S8 a k z).2.2.2.2⟩)
        have O1 := O.fr f1 (fun z => (S8 _ _ z).2.2.1 rfl) (fun k z => (S8 _ _ z).2.2.2.1 rfl)
        have C1 := C.fr f1 (fun a k h1 h2 z => by have := (S8 a k z).2.2.2.2; omega)
        exact ⟨_, c_fb22 (S := S) V1 D1 K O1 hb hn hn2 hS hra C1 (show i < (aO x).length by omega) (fun h' v f' g1 g2 g3 g4 => nx h' v (f1.trans f') g1 g2 g3 g4) (i + 1) 0 0 h1 (by omega) (fr.rf _ _) (fun t _ => rfl) e1 (Nat.two_pow_pos _) (fun t ht => absurd ht (by omega)) (fun t _ => Nat.zero_testBit t)⟩
  exact ⟨_, main (aO x).length 0 h0 (by omega) (fr.rf _ _) (fun i hi => absurd hi (by omega))⟩
