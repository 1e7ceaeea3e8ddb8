/-! THE CLASS: the search looks; sly -/
def SLk (a k : Nat) : Prop := 14 ≤ a ∧ a ≤ 25 ∨ a = 30 ∨ a = 31 ∨ a = 32 ∧ (k = 5 ∨ k = 6 ∨ k = 11) ∨ 34 ≤ a ∧ a ≤ 50
theorem InvC.sea {x : Ab} {da : Nat → Nat} {h h' : Hp} (I : InvC x da h) (f : fr SLk h h') (S : CSea x h') (T : CTdy h') (Z : CSm h') : InvC x da h' := by
  obtain ⟨i1, i2, i3, i4, i5, i6, i7, i8, i9, i10, i11, i12, i13⟩ := I
  have n' : hN h ≤ hN h' := by rw [f.1]; exact Nat.le_refl _
  have t' : ∀ b, b < hN h → hT h' b = hT h b := fun b _ => by rw [f.2.1]
  have e : ∀ a k, (a < 14 ∨ 26 ≤ a ∧ a ≤ 29 ∨ a = 32 ∧ k = 3 ∨ a = 33 ∨ 51 ≤ a) → hI h' a k = hI h a k ∧ hJ h' a k = hJ h a k ∧ hR h' a k = hR h a k := fun a k q => f.2.2 a k (by unfold SLk; omega)
  refine ⟨by omega, i2.mv (fun k => (e 1 k (by omega)).1), ?_, i4.mv (e 2 1 (by omega)).1 (fun k => (e 3 k (by omega)).1), ⟨by rw [(e 0 9 (by omega)).1]; exact i5.1, i5.2⟩, ?_, i7.mv (e 11 1 (by omega)).1 (fun k => (e 12 k (by omega)).2.2), i8.mv (e 32 3 (by omega)).1 (fun k => (e 33 k (by omega)).2.2), ?_, ?_, i11.mv (fun k => (e 26 k (by omega)).1) (fun k => (e 27 k (by omega)).1) (fun k => (e 28 k (by omega)).2.1) (fun k => (e 29 k (by omega)).2.1), S, T, Z⟩
  · exact i3.mv n' t' (e 0 4 (by omega)).1 (fun d => (e 8 d (by omega)).2.2) (fun a B b k b1 b2 => ⟨(e b k (by have := B.1; omega)).1, (e b k (by have := B.1; omega)).2.1⟩)
  · exact i6.mv n' t' (e 0 6 (by omega)).1 (e 0 8 (by omega)).1 (fun i => (e 9 i (by omega)).2.2) (fun i => (e 10 i (by omega)).2.2) (fun a B b k b1 b2 => (e b k (by have := B.1; omega)).1)
  · exact i9.mv n' t' (e 0 12 (by omega)).1 (fun i => (e 13 i (by omega)).2.2) (fun a B => ⟨fun k => (e a k (by have := B.1; omega)).1, fun k => (e (a + 1) k (by have := B.1; omega)).2.2⟩)
  · exact i10.mv (fun d hd k => (e _ k (by have := (i3.da hd).2.1.1; omega)).1)
theorem SLk_M : ∀ a k, SLk a k → a < 51 ∨ 107 < a := by unfold SLk; omega
theorem sly_len (x : Ab) (r : Nat) (o10 : (aO x).length ≤ 10) : (slyAll x r).length ≤ 1023 := by
  have h1 : 2 ^ (aO x).length ≤ 2 ^ 10 := pw_le o10
  have := slyL_len x r (2 ^ (aO x).length - 1)
  unfold slyAll
  omega
set_option maxHeartbeats 4000000 in
set_option maxRecDepth 100000 in
theorem c_look47 {x : Ab} {da : Nat → Nat} {h0 : Hp} {Q : Hp → Prop} {k84 : Hp → Prop} (V : CVw x da h0) (K : OkA x) (O : COff x da h0) (Z : ∀ j, j < 480 → hJ h0 41 j = 0) (k : ∀ h', fr (fun a _ => a = 41) h0 h' → OwA x h' → k84 h') :
    ∀ (r i : Nat) (h : Hp), r + i = (aO x).length → fr (fun a _ => a = 41) h0 h → (∀ t, t < i → SmA h 41 (48 * t) (fun k => net (aF x) (dlRows (dL (aD x) ((aO x).getD t 0)) 0) (k / 6) (k % 6))) → (∀ j, 48 * i ≤ j → j < 480 → hJ h 41 j = 0) → m_X7_look_47 (r + 1) k84 Q (n32 i) h := by
  have o10 := O.2.1
  intro r
  induction r with
  | zero =>
    intro i h hr f A z
    rw [m_X7_look_47, f.I (by omega), O.1, n32_le (by omega) (by omega)]
    exact ⟨fun _ => k h f (fun t ht => A t (by omega)), fun y => absurd (by omega) y⟩
  | succ r ih =>
    intro i h hr f A z
    obtain ⟨ri, di, i10⟩ := O.at (show i < (aO x).length by omega)
    rw [m_X7_look_47, f.I (by omega), O.1, n32_le (by omega) (by omega), n32_ix (by omega), f.R (by omega)]
    refine ⟨fun y => absurd y (by omega), fun _ => ⟨vpI i10 (by decide), _, ri, ?_⟩⟩
    rw [show (48 : Int32) = n32 48 from rfl, n32_mul, Nat.mul_comm i 48, show m_X5_sumInto (da ((aO x).getD i 0)) 0 = m_X5_sumInto (da ((aO x).getD i 0)) (n32 0) from rfl]
    have V1 := V.mv f (by omega)
    refine c_sumInto (si := 1) (A := fun _ => 0) V1 K di (by decide) (by decide) (by decide) (by omega) (by decide) (by decide) (fun j hj => z _ (by omega) (by omega)) (fun h2 f2 S2 => ?_)
    intro x6 e6
    rw [e6, show n32 i + 1 = n32 (i + 1) from n32_add _ 1]
    refine ih (i + 1) h2 (by omega) (f.trans (f2.mono (fun a k y => y.1))) (fun t ht => ?_) (fun j h1 h2 => by rw [f2.J (by omega)]; exact z j (by omega) h2)
    by_cases e : t = i
    · subst e
      intro j hj
      rw [S2 j hj]; dsimp only; rw [Int.zero_add, Int.one_mul]
    · intro j hj
      rw [f2.J (by omega)]; exact A t (by omega) j hj
set_option maxHeartbeats 4000000 in
set_option maxRecDepth 100000 in
theorem c_look {x : Ab} {da : Nat → Nat} {k0 : Nat} {ro : Option Nat} {h : Hp} {Q : Hp → Prop} (I : InvC x da h) (K : OkA x) (M : OkM x) (h1 : 1 ≤ k0) (h6 : k0 ≤ 6) (R : RuO (lawS x) ro h)
    (k : ∀ h' r fl, fr SLk h h' → InvC x da h' → k0 ≤ r → r ≤ 6 → SlyF x r fl h' → Q h') : m_X7_look (n32 k0) ro h Q := by
  obtain ⟨W, r, r6, er, sf⟩ := id I.2.2.2.2.2.2.2.2.2.2.2.1
  have O := I.2.2.2.2.2.2.2.1
  have o10 := O.2.1
  have nd := O.2.2.2.2
  have T := I.2.2.2.2.2.2.2.2.2.2.2.2.1
  have Z := I.2.2.2.2.2.2.2.2.2.2.2.2.2
  unfold m_X7_look
  rw [er, n32_lt (by omega) (by omega)]
  refine ⟨fun q => ?_, fun q => ?_⟩
  · have f1 : fr SLk h (wI (wI (wI h 32 6 (n32 k0)) 32 5 0) 39 1 0) := fr_wI (fr_wI (fr_wI (fr.rf _ _) _ (by unfold SLk; omega)) _ (by unfold SLk; omega)) _ (by unfold SLk; omega)
    have e6 : hI (wI (wI (wI h 32 6 (n32 k0)) 32 5 0) 39 1 0) 32 6 = n32 k0 := by rw [hI_wI, if_neg (by omega), hI_wI, if_neg (by omega), hI_wI, if_pos ⟨rfl, rfl⟩]
    have e5 : hI (wI (wI (wI h 32 6 (n32 k0)) 32 5 0) 39 1 0) 32 5 = n32 0 := by rw [hI_wI, if_neg (by omega), hI_wI, if_pos ⟨rfl, rfl⟩]; rfl
    have W1 : CWgh x (wI (wI (wI h 32 6 (n32 k0)) 32 5 0) 39 1 0) := fun s hs => by rw [hI_wI, if_neg (by omega), hI_wI, if_neg (by omega), hI_wI, if_neg (by omega)]; exact W s hs
    have T1 : CTdy (wI (wI (wI h 32 6 (n32 k0)) 32 5 0) 39 1 0) := T
    have Z1 : CSm (wI (wI (wI h 32 6 (n32 k0)) 32 5 0) 39 1 0) := Z
    generalize wI (wI (wI h 32 6 (n32 k0)) 32 5 0) 39 1 0 = h2 at f1 e6 e5 W1 T1 Z1
    have V2 := I.vw.mv f1 (by unfold SLk; omega)
    have D2 := I.kd.mv f1 (by unfold SLk; omega)
    have O2 := O.fr f1 (by unfold SLk; omega) (by unfold SLk; omega)
    have R2 := R.mv f1 (by unfold SLk; omega)
    rw [show m_X7_findBarred ro 36 10 0 = m_X7_findBarred ro 36 10 (n32 0) from rfl]
    refine c_findBarred V2 D2 K O2 (Or.inl rfl) (by decide) (by decide) R2 (fun h3 f3 A3 => ?_)
    have V3 := V2.mv f3 (by unfold SFbr SJg; omega)
    have O3 := O2.fr f3 (by unfold SFbr SJg; omega) (by unfold SFbr SJg; omega)
    refine q_fillJ (by decide) (fun h4 f4 z4 => ?_)
    have V4 := V3.mv f4 (by omega)
    have O4 := O3.fr f4 (by omega) (by omega)
    refine ⟨_, c_look47 V4 K O4 z4 (fun h5 f5 W5 => ?_) (aO x).length 0 h4 (by omega) (fr.rf _ _) (fun t ht => absurd ht (by omega)) (fun j _ hj => z4 j hj)⟩
    unfold m_X7_look_84
    have V5 := V4.mv f5 (by omega)
    have O5 := O4.fr f5 (by omega) (by omega)
    have f35 : fr (fun a _ => a = 41) h3 h5 := (f4.mono (fun a k z => z.1)).trans f5
    have A5 : BrA x (lawS x) 36 0 (aO x).length h5 := A3.mv (fun i _ => f35.I (by omega))
    have e6' : hI h5 32 6 = n32 k0 := by rw [f35.I (by omega), f3.I (by unfold SFbr SJg; omega)]; exact e6
    have e5' : hI h5 32 5 = n32 0 := by rw [f35.I (by omega), f3.I (by unfold SFbr SJg; omega)]; exact e5
    have W5' : CWgh x h5 := (W1.mv f3 (by unfold SFbr SJg; omega)).mv f35 (by omega)
    have T5 : CTdy h5 := (T1.mv f3 (by unfold SFbr SJg; omega)).mv f35 (by omega)
    have Z5 : CSm h5 := fun j hj => by rw [f35.J (by omega), f3.J (by unfold SFbr SJg; omega)]; exact Z1 j hj
    have P := grw_sly nd o10 k0
    have s0 : subL (aO x) 0 = [] := by unfold subL subK; simp
    rw [show m_X7_growR 8 0 0 0 = m_X7_growR 8 (n32 0) (n32 0) (n32 0) from rfl]
    refine c_grow (r := k0) K M h6 k0 8 (by omega) 0 0 0 [] h5 _ (by omega) (by omega) (by decide) (okB_0 x) ⟨V5, O5, A5, W5, e6'⟩ ⟨by rw [s0]; intro j hj; exact absurd hj (by simp), by rw [s0]; rfl, ?_⟩ ⟨e5', fun j hj => absurd hj (by simp)⟩ W5' T5 ?_ (fun h7 f7 W7 T7 A7 => ?_)
    · intro j hj
      rw [s0, Nat.mul_zero, Nat.zero_add]
      exact Z5 j hj
    · rw [P.length_eq]
      have := sly_len x k0 o10
      simpa using this
    · rw [List.nil_append] at A7
      have f57 : fr SLk h5 h7 := f7.mono (fun a k z => by have := SGrw_out a k z; unfold SLk; omega)
      have f07 : fr SLk h h7 := ((f1.trans (f3.mono (by unfold SFbr SJg SLk; omega))).trans (f35.mono (by unfold SLk; omega))).trans f57
      have e67 : hI h7 32 6 = n32 k0 := by rw [f7.I (fun z => by have := SGrw_out _ _ z; omega)]; exact e6'
      have Z7 : CSm h7 := fun j hj => by rw [f7.J (fun z => by have := SGrw_out _ _ z; omega)]; exact Z5 j hj
      have S7 : SlyF x k0 (grw x k0 0 0) h7 := ⟨A7.1, by rw [P.length_eq]; have := sly_len x k0 o10; omega, A7.2, P⟩
      exact k h7 k0 _ f07 (I.sea f07 ⟨W7, k0, h6, e67, Or.inr ⟨_, S7⟩⟩ T7 Z7) (Nat.le_refl _) h6 S7
  · rcases sf with sf | ⟨fl, sf⟩
    · omega
    · exact k h r fl (fr.rf _ _) I (by omega) r6 sf
/-- fewer, or as many and a smaller number -/
def lsB (a b : Nat) : Bool := decide (pop a < pop b) || (decide (pop a = pop b) && decide (a < b))
def bsC (b s : Nat) : Nat := if b = 0 ∨ lsB s b = true then s else b
theorem c_isLess {a b : Nat} {h : Hp} {Q : Int32 → Hp → Prop} (ha : a < 16777216) (hb : b < 16777216) (k : Q (bI (lsB a b)) h) : m_X7_isLess (n32 a) (n32 b) h Q := by
  unfold m_X7_isLess
  have p1 : pop a ≤ 24 := popK_le a 24
  have p2 : pop b ≤ 24 := popK_le b 24
  refine q_bitCount ha (q_bitCount hb ?_)
  unfold lsB at k
  rw [n32_lt (by omega) (by omega), n32_eq (by omega) (by omega), n32_le (by omega) (by omega)]
  refine ⟨fun z => ?_, fun z => ⟨fun y => ?_, fun y => ⟨fun w => ?_, fun w => ?_⟩⟩⟩
  · rw [decide_eq_true z] at k; exact k
  · rw [decide_eq_false z, decide_eq_false y] at k; exact k
  · rw [decide_eq_false z, decide_eq_true y, decide_eq_false (by omega : ¬ a < b)] at k; exact k
  · rw [decide_eq_false z, decide_eq_true y, decide_eq_true (by omega : a < b)] at k; exact k
theorem SlyF.lt {x : Ab} {r : Nat} {fl : List Nat} {h : Hp} (S : SlyF x r fl h) (o10 : (aO x).length ≤ 10) : ∀ s ∈ fl, 1 ≤ s ∧ s < 1024 := by
  intro s hs
  have := sly_mem (S.2.2.2.mem_iff.mp hs)
  have h1 : 2 ^ (aO x).length ≤ 2 ^ 10 := pw_le o10
  omega
theorem sly_cut (x : Ab) {k r : Nat} (h : k ≤ r) : (slyAll x r).filter (fun s => decide (pop s ≤ k)) = slyAll x k := by
  unfold slyAll slyL
  rw [List.filter_filter]
  refine List.filter_congr (fun s _ => ?_)
  unfold slyB
  by_cases q : pop s ≤ k
  · rw [decide_eq_true q, decide_eq_true (show pop s ≤ r by omega)]; simp
  · rw [decide_eq_false q]; simp
theorem c_howMany {x : Ab} {k0 r : Nat} {fl : List Nat} {h : Hp} {Q : Int32 → Hp → Prop} (S : SlyF x r fl h) (o10 : (aO x).length ≤ 10) (h6 : k0 ≤ 6) (k : Q (n32 (fl.filter (fun s => decide (pop s ≤ k0))).length) h) : m_X7_howMany (n32 k0) h Q := by
  have lt := S.lt o10
  have main : ∀ (rest pre : List Nat), fl = pre ++ rest → m_X7_howMany_4 (rest.length + 1) Q (n32 k0) (n32 (pre.filter (fun s => decide (pop s ≤ k0))).length) (n32 pre.length) h := by
    intro rest
    induction rest with
    | nil =>
      intro pre e
      rw [List.append_nil] at e
      subst e
      have := S.2.1
      rw [m_X7_howMany_4, S.1, n32_le (by omega) (by omega)]
      exact ⟨fun _ => k, fun z => absurd (Nat.le_refl _) z⟩
    | cons s rest ih =>
      intro pre e
      have hl := S.2.1
      have el : fl.length = pre.length + (rest.length + 1) := by rw [e]; simp
      have hs := lt s (by rw [e]; simp)
      have es : hI h 34 pre.length = n32 s := by rw [S.2.2.1 _ (by omega), e, getD_mid]
      have p1 : pop s ≤ 24 := popK_le s 24
      have nx := ih (pre ++ [s]) (by rw [e]; simp)
      rw [List.length_append, List.filter_append, List.length_append, List.length_singleton] at nx
      rw [m_X7_howMany_4, S.1, n32_le (by omega) (by omega), n32_ix (by omega), es]
      refine ⟨fun z => absurd z (by omega), fun _ => ⟨vpI (by omega) (by decide), q_bitCount (by omega) ?_⟩⟩
      rw [n32_lt (by omega) (by omega)]
      unfold m_X7_howMany_28
      refine ⟨fun z x1 e1 => ?_, fun z x4 e4 x1 e1 => ?_⟩
      · rw [e1, show n32 pre.length + 1 = n32 (pre.length + 1) from n32_add _ 1]
        rw [List.filter_cons, if_neg (by simp; omega), List.filter_nil] at nx
        exact nx
      · rw [e1, e4, show n32 pre.length + 1 = n32 (pre.length + 1) from n32_add _ 1]
        rw [List.filter_cons, if_pos (by simp; omega), List.filter_nil] at nx
        rw [show ∀ w, n32 w + 1 = n32 (w + 1) from fun w => n32_add w 1]
        exact nx
  exact ⟨_, main fl [] rfl⟩
theorem bsC_lt {M : Nat} : ∀ (l : List Nat) (b : Nat), b < M → (∀ s ∈ l, s < M) → l.foldl bsC b < M
  | [], _, hb, _ => hb
  | s :: l, b, hb, h => by
    rw [List.foldl_cons]
    refine bsC_lt l _ ?_ (fun q hq => h q (by simp [hq]))
    unfold bsC
    split
    · exact h s (by simp)
    · exact hb
theorem c_fewest {x : Ab} {k0 r : Nat} {fl : List Nat} {h : Hp} {Q : Int32 → Hp → Prop} (S : SlyF x r fl h) (o10 : (aO x).length ≤ 10) (h6 : k0 ≤ 6) (k : Q (bv ((fl.filter (fun s => decide (pop s ≤ k0))).foldl bsC 0)) h) : m_X7_fewest (n32 k0) h Q := by
  have lt := S.lt o10
  have main : ∀ (rest pre : List Nat), fl = pre ++ rest → m_X7_fewest_4 (rest.length + 1) Q (n32 k0) (bv ((pre.filter (fun s => decide (pop s ≤ k0))).foldl bsC 0)) (n32 pre.length) h := by
    intro rest
    induction rest with
    | nil =>
      intro pre e
      rw [List.append_nil] at e
      subst e
      have := S.2.1
      rw [m_X7_fewest_4, S.1, n32_le (by omega) (by omega)]
      exact ⟨fun _ => k, fun z => absurd (Nat.le_refl _) z⟩
    | cons s rest ih =>
      intro pre e
      have hl := S.2.1
      have el : fl.length = pre.length + (rest.length + 1) := by rw [e]; simp
      have hs := lt s (by rw [e]; simp)
      have es : hI h 34 pre.length = n32 s := by rw [S.2.2.1 _ (by omega), e, getD_mid]
      have p1 : pop s ≤ 24 := popK_le s 24
      have nx := ih (pre ++ [s]) (by rw [e]; simp)
      have hB : (pre.filter (fun s => decide (pop s ≤ k0))).foldl bsC 0 < 1024 := bsC_lt _ 0 (by decide) (fun t ht => (lt t (by rw [e]; simp [(List.mem_filter.mp ht).1])).2)
      rw [List.length_append, List.length_singleton, List.filter_append, List.foldl_append] at nx
      generalize (pre.filter (fun s => decide (pop s ≤ k0))).foldl bsC 0 = B at nx hB
      rw [m_X7_fewest_4, S.1, n32_le (by omega) (by omega), n32_ix (by omega), es]
      refine ⟨fun z => absurd z (by omega), fun _ => ⟨vpI (by omega) (by decide), q_bitCount (by omega) ?_⟩⟩
      rw [n32_lt (by omega) (by omega)]
      unfold m_X7_fewest_50 m_X7_fewest_43 
      rw [n32_ix (by omega), es]
      unfold m_X7_fewest_50
      refine ⟨fun z x1 e1 => ?_, fun z => ?_⟩
      · rw [e1, show n32 pre.length + 1 = n32 (pre.length + 1) from n32_add _ 1]
        rw [List.filter_cons, if_neg (by simp; omega), List.filter_nil] at nx
        exact nx
      · rw [List.filter_cons, if_pos (by simp; omega), List.filter_nil] at nx
        have take : bsC B s = s → ∀ x2 : Int32, x2 = n32 s → ∀ x1 : Int32, x1 = n32 pre.length + 1 → m_X7_fewest_4 (rest.length + 1) Q (n32 k0) x2 x1 h := by
          intro q x2 e2 x1 e1
          rw [e1, e2, show n32 pre.length + 1 = n32 (pre.length + 1) from n32_add _ 1]
          have n2 := nx
          rw [show List.foldl bsC B [s] = bsC B s from rfl, q] at n2
          unfold bv at n2
          rw [if_neg (by omega)] at n2
          exact n2
        by_cases b0 : B = 0
        · refine ⟨fun _ => ⟨vpI (by omega) (by decide), take (by unfold bsC; rw [if_pos (Or.inl b0)])⟩, fun y => absurd (by unfold bv; rw [if_pos b0]) y⟩
        · have eb : bv B = n32 B := by unfold bv; rw [if_neg b0]
          rw [eb, n32_m1 (by omega)]
          refine ⟨fun y => y.elim, fun _ => ⟨vpI (by omega) (by decide), c_isLess (by omega) (by omega) ?_⟩⟩
          cases hq : lsB s B with
          | true => exact ⟨fun y => absurd y (by decide), fun _ => ⟨vpI (by omega) (by decide), fun x2 e2 => take (by unfold bsC; rw [if_pos (Or.inr hq)]) x2 (e2.trans es)⟩⟩
          | false =>
            refine ⟨fun _ x1 e1 => ?_, fun y => absurd rfl y⟩
            rw [e1, show n32 pre.length + 1 = n32 (pre.length + 1) from n32_add _ 1]
            rw [show List.foldl bsC B [s] = bsC B s from rfl, show bsC B s = B by unfold bsC; rw [if_neg (by rw [hq]; simp [b0])], eb] at nx
            exact nx
  exact ⟨_, main fl [] rfl⟩
