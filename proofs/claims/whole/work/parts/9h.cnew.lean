/-! THE CLASS: new objects; honest -/
theorem hN_nw (h : Hp) (t : Nat × Nat) : hN (nw h t) = hN h + 1 := rfl
theorem hT_nw (h : Hp) (t : Nat × Nat) (b : Nat) : hT (nw h t) b = if b = hN h then t else hT h b := rfl
theorem hI_nw (h : Hp) (t : Nat × Nat) (b j : Nat) : hI (nw h t) b j = if b = hN h then 0 else hI h b j := by
  show va_up (hI h) (hN h) (fun _ => 0) b j = _
  unfold va_up
  split <;> rfl
theorem hJ_nw (h : Hp) (t : Nat × Nat) (b j : Nat) : hJ (nw h t) b j = if b = hN h then 0 else hJ h b j := by
  show va_up (hJ h) (hN h) (fun _ => 0) b j = _
  unfold va_up
  split <;> rfl
theorem hR_nw (h : Hp) (t : Nat × Nat) (b j : Nat) : hR (nw h t) b j = if b = hN h then none else hR h b j := by
  show va_up (hR h) (hN h) (fun _ => none) b j = _
  unfold va_up
  split <;> rfl
theorem hT_wT (h : Hp) (a : Nat) (t : Nat × Nat) (b : Nat) : hT (wT h a t) b = if b = a then t else hT h b := rfl
/-- what was there stays but for some cells -/
def fx (S : Nat → Nat → Prop) (h h' : Hp) : Prop := hN h ≤ hN h' ∧ (∀ b, b < hN h → hT h' b = hT h b) ∧ ∀ a k, a < hN h → ¬ S a k → hI h' a k = hI h a k ∧ hJ h' a k = hJ h a k ∧ hR h' a k = hR h a k
theorem fx.rf (S : Nat → Nat → Prop) (h : Hp) : fx S h h := ⟨Nat.le_refl _, fun _ _ => rfl, fun _ _ _ _ => ⟨rfl, rfl, rfl⟩⟩
theorem fx.of {S : Nat → Nat → Prop} {h h' : Hp} (f : fr S h h') : fx S h h' := ⟨by rw [f.1]; exact Nat.le_refl _, fun b _ => by rw [f.2.1], fun a k _ n => f.2.2 a k n⟩
theorem fx.trans {S : Nat → Nat → Prop} {a b c : Hp} (h1 : fx S a b) (h2 : fx S b c) : fx S a c :=
  ⟨Nat.le_trans h1.1 h2.1, fun q hq => (h2.2.1 q (Nat.lt_of_lt_of_le hq h1.1)).trans (h1.2.1 q hq), fun q k hq n => by
    have z1 := h1.2.2 q k hq n
    have z2 := h2.2.2 q k (Nat.lt_of_lt_of_le hq h1.1) n
    exact ⟨z2.1.trans z1.1, z2.2.1.trans z1.2.1, z2.2.2.trans z1.2.2⟩⟩
theorem fx.mono {S S' : Nat → Nat → Prop} {a b : Hp} (h1 : fx S a b) (hs : ∀ q k, q < hN a → S q k → S' q k) : fx S' a b := ⟨h1.1, h1.2.1, fun q k hq n => h1.2.2 q k hq (fun z => n (hs q k hq z))⟩
theorem fx.nx {S S' : Nat → Nat → Prop} {h h1 h2 : Hp} (f : fx S h h1) (g : fr S' h1 h2) (n : ∀ q k, S' q k → hN h ≤ q ∨ S q k) : fx S h h2 :=
  ⟨by rw [g.1]; exact f.1, fun b hb => by rw [g.2.1]; exact f.2.1 b hb, fun a k ha z => by
    have e := g.2.2 a k (fun y => by rcases n a k y with q | q; (omega); exact z q)
    have e1 := f.2.2 a k ha z
    exact ⟨e.1.trans e1.1, e.2.1.trans e1.2.1, e.2.2.trans e1.2.2⟩⟩
theorem fx_nw {S : Nat → Nat → Prop} {h h' : Hp} (f : fx S h h') (t : Nat × Nat) : fx S h (nw h' t) := by
  have := f.1
  refine ⟨by rw [hN_nw]; omega, fun b hb => by rw [hT_nw, if_neg (by omega)]; exact f.2.1 b hb, fun a k ha n => ?_⟩
  rw [hI_nw, if_neg (by omega), hJ_nw, if_neg (by omega), hR_nw, if_neg (by omega)]
  exact f.2.2 a k ha n
theorem fx_wR {S : Nat → Nat → Prop} {h h' : Hp} (f : fx S h h') {a k : Nat} (v : Option Nat) (hs : hN h ≤ a ∨ S a k) : fx S h (wR h' a k v) := by
  refine ⟨f.1, f.2.1, fun b j hb n => ?_⟩
  rw [hI_wR, hJ_wR, hR_wR, if_neg]
  · exact f.2.2 b j hb n
  · rintro ⟨rfl, rfl⟩
    rcases hs with z | z
    · omega
    · exact n z
theorem fx_wI {S : Nat → Nat → Prop} {h h' : Hp} (f : fx S h h') {a k : Nat} (v : Int32) (hs : hN h ≤ a ∨ S a k) : fx S h (wI h' a k v) := by
  refine ⟨f.1, f.2.1, fun b j hb n => ?_⟩
  rw [hR_wI, hJ_wI, hI_wI, if_neg]
  · exact f.2.2 b j hb n
  · rintro ⟨rfl, rfl⟩
    rcases hs with z | z
    · omega
    · exact n z
theorem fx_wT {S : Nat → Nat → Prop} {h h' : Hp} (f : fx S h h') {a : Nat} (t : Nat × Nat) (hs : hN h ≤ a) : fx S h (wT h' a t) := by
  refine ⟨f.1, fun b hb => by rw [hT_wT, if_neg (by omega)]; exact f.2.1 b hb, fun b j hb n => f.2.2 b j hb n⟩
theorem InvC.mvx {x : Ab} {da : Nat → Nat} {h h' : Hp} {S : Nat → Nat → Prop} (I : InvC x da h) (f : fx S h h') (nb : ∀ a k, S a k → a < 51 ∧ a ≠ 42) :
    108 ≤ hN h' ∧ ((∀ k, ¬ S 1 k) → CFam x h') ∧ (¬ S 0 4 → (∀ k, ¬ S 8 k) → CDeals x da h') ∧ (¬ S 2 1 → (∀ k, ¬ S 3 k) → CTape x h') ∧ (¬ S 0 9 → CFlt x h') ∧ (¬ S 0 6 → ¬ S 0 8 → (∀ k, ¬ S 9 k) → (∀ k, ¬ S 10 k) → CTx x h') ∧ (¬ S 11 1 → (∀ k, ¬ S 12 k) → CBun x da h') ∧ (¬ S 32 3 → (∀ k, ¬ S 33 k) → COff x da h') ∧ (¬ S 0 12 → (∀ k, ¬ S 13 k) → CHn x da h') ∧ CPln x da h' ∧ ((∀ a k, S a k → a < 26 ∨ 29 < a) → CTal x h') ∧ (¬ S 32 5 → ¬ S 32 6 → (∀ k, ¬ S 34 k) → (∀ k, ¬ S 35 k) → CSea x h') ∧ ((∀ k, ¬ S 23 k) → CTdy h' ∧ CSm h') := by
  obtain ⟨i1, i2, i3, i4, i5, i6, i7, i8, i9, i10, i11, i12, i13⟩ := I
  have n' := f.1
  have t' := f.2.1
  have hi : ∀ a k, 51 ≤ a → ¬ S a k := fun a k q z => by have := nb a k z; omega
  have fI : ∀ {a k}, a < hN h → ¬ S a k → hI h' a k = hI h a k := fun {a k} q z => (f.2.2 a k q z).1
  have fJ : ∀ {a k}, a < hN h → ¬ S a k → hJ h' a k = hJ h a k := fun {a k} q z => (f.2.2 a k q z).2.1
  have fR : ∀ {a k}, a < hN h → ¬ S a k → hR h' a k = hR h a k := fun {a k} q z => (f.2.2 a k q z).2.2
  refine ⟨by omega, fun q => i2.mv (fun k => fI (by omega) (q k)), fun q1 q2 => ?_, fun q1 q2 => i4.mv (fI (by omega) q1) (fun k => fI (by omega) (q2 k)), fun q => ⟨by rw [fI (by omega) q]; exact i5.1, i5.2⟩, fun q1 q2 q3 q4 => ?_, fun q1 q2 => i7.mv (fI (by omega) q1) (fun k => fR (by omega) (q2 k)), fun q1 q2 => i8.mv (fI (by omega) q1) (fun k => fR (by omega) (q2 k)), fun q1 q2 => ?_, ?_, fun q => ?_, fun q1 q2 q3 q4 => i12.mv (fI (by omega) q1) (fI (by omega) q2) (fun k => fI (by omega) (q3 k)) (fun k => fI (by omega) (q4 k)), fun q => ⟨fun g hg => by rw [fJ (by omega) (q g)]; exact i13.1 g hg, fun j hj => by rw [fJ (by omega) (fun z => (nb 42 j z).2 rfl)]; exact i13.2 j hj⟩⟩
  · exact i3.mv n' t' (fI (by omega) q1) (fun d => fR (by omega) (q2 d)) (fun a B b k b1 b2 => ⟨fI (by have := B.2.1; omega) (hi b k (by have := B.1; omega)), fJ (by have := B.2.1; omega) (hi b k (by have := B.1; omega))⟩)
  · exact i6.mv n' t' (fI (by omega) q1) (fI (by omega) q2) (fun i => fR (by omega) (q3 i)) (fun i => fR (by omega) (q4 i)) (fun a B b k b1 b2 => fI (by have := B.2.1; omega) (hi b k (by have := B.1; omega)))
  · exact i9.mv n' t' (fI (by omega) q1) (fun i => fR (by omega) (q2 i)) (fun a B => ⟨fun k => fI (by have := B.2.1; omega) (hi a k (by have := B.1; omega)), fun k => fR (by have := B.2.1; omega) (hi (a + 1) k (by have := B.1; omega))⟩)
  · exact i10.mv (fun d hd k => fI (by have := (i3.da hd).2.1.2.1; omega) (hi _ k (by have := (i3.da hd).2.1.1; omega)))
  · have z : ∀ a k, 26 ≤ a → a ≤ 29 → ¬ S a k := fun a k h1 h2 y => by have := q a k y; omega
    exact i11.mv (fun k => fI (by omega) (z 26 k (by omega) (by omega))) (fun k => fI (by omega) (z 27 k (by omega) (by omega))) (fun k => fJ (by omega) (z 28 k (by omega) (by omega))) (fun k => fJ (by omega) (z 29 k (by omega) (by omega)))
theorem sameM.ofx {S : Nat → Nat → Prop} {h h' : Hp} (f : fx S h h') (hn : 108 ≤ hN h) (n : ∀ a k, S a k → a < 51 ∨ 107 < a) : sameM h h' := fun a k h1 h2 => (f.2.2 a k (by omega) (fun z => by have := n a k z; omega)).1
/-- a bundle is copied -/
theorem c_copy {x : Ab} {da : Nat → Nat} {a b : Nat} {l : List Nat} {h : Hp} {Q : Hp → Prop} (B : CBd x da b l h) (hab : a + 1 < b ∨ b + 1 < a) (k : ∀ h', fr (fun q j => q = a ∧ j = 1 ∨ q = a + 1) h h' → CBd x da a l h' → Q h') : m_X0_copyFrom a b h Q := by
  unfold m_X0_copyFrom
  have hl := B.2.1
  have main : ∀ (rest pre : List Nat) (h1 : Hp), l = pre ++ rest → fr (fun q j => q = a ∧ j = 1 ∨ q = a + 1) h h1 → CBd x da a pre h1 → m_X0_copyFrom_7 (rest.length + 1) Q a b (n32 pre.length) h1 := by
    intro rest
    induction rest with
    | nil =>
      intro pre h1 e f C
      rw [List.append_nil] at e
      have B1 := B.mv f (by omega) (by omega)
      rw [m_X0_copyFrom_7, B1.1, e, n32_le (by rw [← e]; omega) (by rw [← e]; omega)]
      exact ⟨fun _ => k h1 f (by rw [e]; exact C), fun z => absurd (Nat.le_refl _) z⟩
    | cons d rest ih =>
      intro pre h1 e f C
      have B1 := B.mv f (by omega) (by omega)
      have B1' := B1
      rw [e] at B1'
      obtain ⟨r, hd, h6⟩ := B1'.mid
      have el : l.length = pre.length + (rest.length + 1) := by rw [e]; simp
      rw [m_X0_copyFrom_7, B1.1, n32_le (by omega) (by omega), n32_ix (by omega)]
      refine ⟨fun z => absurd z (by omega), fun _ => ⟨vpI h6 (by decide), da d, r, ?_⟩⟩
      refine c_push C h6 hd (fun h2 f2 C2 => ?_)
      intro x4 e4
      rw [e4, show n32 pre.length + 1 = n32 (pre.length + 1) from n32_add _ 1]
      have := ih (pre ++ [d]) h2 (by rw [e]; simp) (f.trans (f2.mono (by omega))) C2
      rw [List.length_append] at this
      exact this
  refine ⟨l.length + 1, main l [] _ rfl (fr_wI (fr.rf _ _) _ (Or.inl ⟨rfl, rfl⟩)) ⟨?_, Nat.zero_le _, fun j hj => absurd hj (by simp), fun d hd => absurd hd (by simp)⟩⟩
  rw [hI_wI, if_pos ⟨rfl, rfl⟩]; rfl
theorem C_honest {x : Ab} {da : Nat → Nat} {h : Hp} {Q : Int32 → Hp → Prop} (I : InvC x da h) (k : ∀ h', sameM h h' → InvC (nxHonest x) da h' → Q (ansHonest x) h') : m_X11_honest h Q := by
  unfold m_X11_honest
  unfold nxHonest ansHonest at k
  have hn := I.1
  have BB := I.2.2.2.2.2.2.1
  have B := BB.bd
  obtain ⟨e12, l6, hh⟩ := I.2.2.2.2.2.2.2.2.1
  rw [e12, show (6 : Int32) = n32 6 from rfl, n32_le (by decide) (by omega), B.1, show (0 : Int32) = n32 0 from rfl, n32_eq (by have := B.2.1; omega) (by decide)]
  refine ⟨fun z => ?_, fun z => ⟨fun z2 => ?_, fun z2 => ?_⟩⟩
  · rw [if_pos (Or.inl (by omega)), if_pos (Or.inl (by omega))] at k; exact k h (sameM.rf h) I
  · have nn : ¬ ((aH x).length = 6 ∨ (aB x).length = 0) := by omega
    rw [if_neg nn, if_neg nn] at k
    intro a1 ea h2 e2
    unfold m_X0_init
    intro a2 ea2 h3 e3
    have n2 : hN h2 = hN h + 1 := by rw [e2, hN_nw]
    have fA : fx (fun _ _ => False) h (wR h3 a1 0 (some a2)) := by
      rw [e3, e2]
      exact fx_wR (fx_nw (fx_nw (fx.rf _ _) _) _) _ (Or.inl (by omega))
    have t1 : hT (wR h3 a1 0 (some a2)) (a1 + 1) = (51, 6) := by
      show hT h3 (a1 + 1) = _
      rw [e3, hT_nw, if_pos (by omega)]
    have r1 : hR (wR h3 a1 0 (some a2)) a1 0 = some (a1 + 1) := by
      rw [hR_wR, if_pos ⟨rfl, rfl⟩]; congr 1; omega
    have n3 : hN (wR h3 a1 0 (some a2)) = hN h + 2 := by
      show hN h3 = _
      rw [e3, hN_nw]; omega
    generalize wR h3 a1 0 (some a2) = h4 at fA t1 r1 n3
    refine ⟨by omega, ?_, fun h5 e5 => ?_⟩
    · intro kk b n hc
      unfold fcon fconT at hc
      match kk, hc with
      | 0, hc =>
        have hc' : some (a1 + 1, 6) = some (b, n) := hc
        injection hc' with hc'
        injection hc' with q1 q2
        subst q1; subst q2
        exact ⟨r1, t1, by omega⟩
      | 1, hc => exact absurd hc (by show ¬ none = some (b, n); simp)
      | kk + 2, hc => exact absurd hc (by show ¬ none = some (b, n); simp)
    · have fB : fx (fun _ _ => False) h h5 := by rw [e5]; exact fx_wT fA _ (by omega)
      have n5 : hN h5 = hN h + 2 := by rw [e5]; exact n3
      have tB : hT h5 a1 = (0, 0) ∧ hT h5 (a1 + 1) = (51, 6) := by
        rw [e5, hT_wT, hT_wT, if_pos rfl, if_neg (by omega)]; exact ⟨rfl, t1⟩
      have B5 : CBd x da 11 (aB x) h5 := ⟨by rw [(fB.2.2 11 1 (by omega) (fun z => z)).1]; exact B.1, B.2.1, B.2.2.1.mv (fun j => (fB.2.2 12 j (by omega) (fun z => z)).2.2), B.2.2.2⟩
      refine c_copy (a := a1) B5 (by omega) (fun h7 f7 B7 => ?_)
      have fC : fx (fun _ _ => False) h h7 := fB.nx f7 (fun q j z => Or.inl (by omega))
      have c12 : hI h7 0 12 = n32 (aH x).length := by rw [(fC.2.2 0 12 (by omega) (fun z => z)).1]; exact e12
      rw [c12, n32_ix (by omega), hI_wR, c12, show n32 (aH x).length + 1 = n32 ((aH x).length + 1) from n32_add _ 1, hI_wI, if_pos ⟨rfl, rfl⟩, show n32 ((aH x).length + 1) - 1 = n32 (aH x).length by rw [show (1 : Int32) = n32 1 from rfl, n32_sub (by omega)]; rfl]
      refine ⟨vpI (by omega) (by decide), ?_⟩
      have fD : fx (fun q j => q = 13 ∧ j = (aH x).length ∨ q = 0 ∧ j = 12) h (wI (wR h7 13 (aH x).length (some a1)) 0 12 (n32 ((aH x).length + 1))) := fx_wI (fx_wR (fC.mono (fun _ _ _ z => z.elim)) _ (Or.inr (by omega))) _ (Or.inr (by omega))
      have d12 : hI (wI (wR h7 13 (aH x).length (some a1)) 0 12 (n32 ((aH x).length + 1))) 0 12 = n32 ((aH x).length + 1) := by rw [hI_wI, if_pos ⟨rfl, rfl⟩]
      have d13 : ∀ j, hR (wI (wR h7 13 (aH x).length (some a1)) 0 12 (n32 ((aH x).length + 1))) 13 j = if j = (aH x).length then some a1 else hR h7 13 j := by
        intro j
        rw [hR_wI, hR_wR]
        by_cases q : j = (aH x).length
        · rw [if_pos ⟨rfl, q⟩, if_pos q]
        · rw [if_neg (by omega), if_neg q]
      have f7' := f7.2.1
      have tD : hT (wI (wR h7 13 (aH x).length (some a1)) 0 12 (n32 ((aH x).length + 1))) a1 = (0, 0) ∧ hT (wI (wR h7 13 (aH x).length (some a1)) 0 12 (n32 ((aH x).length + 1))) (a1 + 1) = (51, 6) := by
        show hT h7 a1 = _ ∧ hT h7 (a1 + 1) = _
        rw [f7']; exact tB
      have nD : hN (wI (wR h7 13 (aH x).length (some a1)) 0 12 (n32 ((aH x).length + 1))) = hN h + 2 := by
        show hN h7 = _
        rw [f7.1]; exact n5
      have BD : CBd x da a1 (aB x) (wI (wR h7 13 (aH x).length (some a1)) 0 12 (n32 ((aH x).length + 1))) := by
        refine ⟨?_, B7.2.1, B7.2.2.1.mv (fun j => ?_), B7.2.2.2⟩
        · rw [hI_wI, if_neg (by omega), hI_wR]; exact B7.1
        · rw [hR_wI, hR_wR, if_neg (by omega)]
      generalize wI (wR h7 13 (aH x).length (some a1)) 0 12 (n32 ((aH x).length + 1)) = h8 at fD d12 d13 tD nD BD
      obtain ⟨m1, m2, m3, m4, m5, m6, m7, m8, m9, m10, m11, m12, m13⟩ := I.mvx fD (by omega)
      refine k h8 (sameM.ofx fD hn (by omega)) ⟨m1, m2 (by omega), m3 (by omega) (by omega), m4 (by omega) (by omega), m5 (by omega), m6 (by omega) (by omega) (by omega) (by omega), m7 (by omega) (by omega), m8 (by omega) (by omega), ⟨?_, ?_, fun i hi => ?_⟩, m10, m11 (by omega), m12 (by omega) (by omega) (by omega) (by omega), m13 (by omega)⟩
      · show hI h8 0 12 = n32 (aH x ++ [aB x]).length
        rw [d12, List.length_append]; rfl
      · show (aH x ++ [aB x]).length ≤ 6
        rw [List.length_append, List.length_singleton]; omega
      · have hi' : i < (aH x ++ [aB x]).length := hi
        rw [List.length_append, List.length_singleton] at hi'
        show ∃ a, hR h8 13 i = some a ∧ BBk h8 a ∧ hI h8 a 1 = n32 ((aH x ++ [aB x]).getD i []).length ∧ ((aH x ++ [aB x]).getD i []).length ≤ 6 ∧ CRefs da (a + 1) ((aH x ++ [aB x]).getD i []) h8 ∧ inD x ((aH x ++ [aB x]).getD i []) ∧ ((aH x ++ [aB x]).getD i []).Nodup
        by_cases q : i = (aH x).length
        · rw [q, getD_app_at, d13, if_pos rfl]
          exact ⟨a1, rfl, ⟨by omega, by omega, tD⟩, BD.1, BD.2.1, BD.2.2.1, BD.2.2.2, BB.2.2.2.2⟩
        · rw [getD_app_lt (by omega), d13, if_neg q]
          obtain ⟨a, y1, y2, y3, y4, y5, y6⟩ := hh i (by omega)
          have ya := y2.2.1
          have yb := y2.1
          refine ⟨a, by rw [(fC.2.2 13 i (by omega) (fun z => z)).2.2]; exact y1, y2.mv fD.1 fD.2.1, by rw [(fD.2.2 a 1 (by omega) (by omega)).1]; exact y3, y4, y5.mv (fun j => (fD.2.2 (a + 1) j (by omega) (by omega)).2.2), y6⟩
  · rw [if_pos (Or.inr z2), if_pos (Or.inr z2)] at k; exact k h (sameM.rf h) I
