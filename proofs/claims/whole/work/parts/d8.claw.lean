/-! THE CLASS: law, word -/
theorem InvC.mvg {x : Ab} {da : Nat → Nat} {h h' : Hp} {S : Nat → Nat → Prop} (I : InvC x da h) (f : fx S h h') :
    108 ≤ hN h' ∧ ((∀ k, ¬ S 1 k) → CFam x h') ∧ (¬ S 0 4 → (∀ k, ¬ S 8 k) → (∀ a, DBlk h a → ∀ b k, a ≤ b → b ≤ a + 4 → ¬ S b k) → CDeals x da h' ∧ CPln x da h') ∧ (¬ S 2 1 → (∀ k, ¬ S 3 k) → CTape x h') ∧ (¬ S 0 9 → CFlt x h') ∧ (¬ S 0 6 → ¬ S 0 8 → (∀ k, ¬ S 9 k) → (∀ k, ¬ S 10 k) → (∀ a, LBlk h a → ∀ b k, a ≤ b → b ≤ a + 1 → ¬ S b k) → CTx x h') ∧ (¬ S 11 1 → (∀ k, ¬ S 12 k) → CBun x da h') ∧ (¬ S 32 3 → (∀ k, ¬ S 33 k) → COff x da h') ∧ (¬ S 0 12 → (∀ k, ¬ S 13 k) → (∀ a, BBk h a → ∀ b k, a ≤ b → b ≤ a + 1 → ¬ S b k) → CHn x da h') ∧ ((∀ a k, S a k → a < 26 ∨ 29 < a) → CTal x h') ∧ ((∀ k, ¬ S 35 k) → CWgh x h') ∧ (¬ S 32 5 → ¬ S 32 6 → (∀ k, ¬ S 34 k) → (∀ k, ¬ S 35 k) → CSea x h') ∧ ((∀ k, ¬ S 23 k) → (∀ k, ¬ S 42 k) → CTdy h' ∧ CSm h') := by
  obtain ⟨i1, i2, i3, i4, i5, i6, i7, i8, i9, i10, i11, i12, i13⟩ := I
  have n' := f.1
  have t' := f.2.1
  have fI : ∀ {a k}, a < hN h → ¬ S a k → hI h' a k = hI h a k := fun {a k} q z => (f.2.2 a k q z).1
  have fJ : ∀ {a k}, a < hN h → ¬ S a k → hJ h' a k = hJ h a k := fun {a k} q z => (f.2.2 a k q z).2.1
  have fR : ∀ {a k}, a < hN h → ¬ S a k → hR h' a k = hR h a k := fun {a k} q z => (f.2.2 a k q z).2.2
  refine ⟨by omega, fun q => i2.mv (fun k => fI (by omega) (q k)), fun q1 q2 q3 => ⟨?_, ?_⟩, fun q1 q2 => i4.mv (fI (by omega) q1) (fun k => fI (by omega) (q2 k)), fun q => ⟨by rw [fI (by omega) q]; exact i5.1, i5.2⟩, fun q1 q2 q3 q4 q5 => ?_, fun q1 q2 => i7.mv (fI (by omega) q1) (fun k => fR (by omega) (q2 k)), fun q1 q2 => i8.mv (fI (by omega) q1) (fun k => fR (by omega) (q2 k)), fun q1 q2 q3 => ?_, fun q => ?_, fun q s hs => by rw [fI (by omega) (q s)]; exact i12.1 s hs, fun q1 q2 q3 q4 => i12.mv (fI (by omega) q1) (fI (by omega) q2) (fun k => fI (by omega) (q3 k)) (fun k => fI (by omega) (q4 k)), fun q qq => ⟨fun g hg => by rw [fJ (by omega) (q g)]; exact i13.1 g hg, fun j hj => by rw [fJ (by omega) (qq j)]; exact i13.2 j hj⟩⟩
  · exact i3.mv n' t' (fI (by omega) q1) (fun d => fR (by omega) (q2 d)) (fun a B b k b1 b2 => ⟨fI (by have := B.2.1; omega) (q3 a B b k b1 b2), fJ (by have := B.2.1; omega) (q3 a B b k b1 b2)⟩)
  · exact i10.mv (fun d hd k => fI (by have := (i3.da hd).2.1.2.1; omega) (q3 _ (i3.da hd).2.1 _ k (Nat.le_refl _) (by omega)))
  · exact i6.mv n' t' (fI (by omega) q1) (fI (by omega) q2) (fun i => fR (by omega) (q3 i)) (fun i => fR (by omega) (q4 i)) (fun a B b k b1 b2 => fI (by have := B.2.1; omega) (q5 a B b k b1 b2))
  · exact i9.mv n' t' (fI (by omega) q1) (fun i => fR (by omega) (q2 i)) (fun a B => ⟨fun k => fI (by have := B.2.1; omega) (q3 a B a k (Nat.le_refl _) (by omega)), fun k => fR (by have := B.2.1; omega) (q3 a B (a + 1) k (by omega) (Nat.le_refl _))⟩)
  · have z : ∀ a k, 26 ≤ a → a ≤ 29 → ¬ S a k := fun a k h1 h2 y => by have := q a k y; omega
    exact i11.mv (fun k => fI (by omega) (z 26 k (by omega) (by omega))) (fun k => fI (by omega) (z 27 k (by omega) (by omega))) (fun k => fJ (by omega) (z 28 k (by omega) (by omega))) (fun k => fJ (by omega) (z 29 k (by omega) (by omega)))
theorem DBlk.neL {h : Hp} {a A b : Nat} (D : DBlk h a) (B : LBlk h A) (h1 : a ≤ b) (h2 : b ≤ a + 4) : b ≠ A ∧ b ≠ A + 1 := by
  obtain ⟨-, -, d0, d1, d2, d3, d4⟩ := D
  obtain ⟨-, -, l0, l1⟩ := B
  have hb : b = a ∨ b = a + 1 ∨ b = a + 2 ∨ b = a + 3 ∨ b = a + 4 := by omega
  rcases hb with e | e | e | e | e
  · exact ⟨fun q => by rw [← e, q, l0] at d0; exact absurd d0 (by decide), fun q => by rw [← e, q, l1] at d0; exact absurd d0 (by decide)⟩
  · refine ⟨fun q => by rw [← e, q, l0] at d1; exact absurd d1 (by decide), fun q => ?_⟩
    have : a = A := by omega
    rw [this, l0] at d0; exact absurd d0 (by decide)
  · exact ⟨fun q => by rw [← e, q, l0] at d2; exact absurd d2 (by decide), fun q => by rw [← e, q, l1] at d2; exact absurd d2 (by decide)⟩
  · exact ⟨fun q => by rw [← e, q, l0] at d3; exact absurd d3 (by decide), fun q => by rw [← e, q, l1] at d3; exact absurd d3 (by decide)⟩
  · exact ⟨fun q => by rw [← e, q, l0] at d4; exact absurd d4 (by decide), fun q => by rw [← e, q, l1] at d4; exact absurd d4 (by decide)⟩
theorem BBk.neL {h : Hp} {a A b : Nat} (D : BBk h a) (B : LBlk h A) (h1 : a ≤ b) (h2 : b ≤ a + 1) : b ≠ A ∧ b ≠ A + 1 := by
  obtain ⟨-, -, d0, d1⟩ := D
  obtain ⟨-, -, l0, l1⟩ := B
  have hb : b = a ∨ b = a + 1 := by omega
  rcases hb with e | e
  · exact ⟨fun q => by rw [← e, q, l0] at d0; exact absurd d0 (by decide), fun q => by rw [← e, q, l1] at d0; exact absurd d0 (by decide)⟩
  · exact ⟨fun q => by rw [← e, q, l0] at d1; exact absurd d1 (by decide), fun q => by rw [← e, q, l1] at d1; exact absurd d1 (by decide)⟩
theorem LBlk.neL {h : Hp} {a A b : Nat} (D : LBlk h a) (B : LBlk h A) (n : a ≠ A) (h1 : a ≤ b) (h2 : b ≤ a + 1) : b ≠ A ∧ b ≠ A + 1 := by
  obtain ⟨-, -, d0, d1⟩ := D
  obtain ⟨-, -, l0, l1⟩ := B
  have hb : b = a ∨ b = a + 1 := by omega
  rcases hb with e | e
  · exact ⟨by omega, fun q => by rw [← e, q, l1] at d0; exact absurd d0 (by decide)⟩
  · exact ⟨fun q => by rw [← e, q, l0] at d1; exact absurd d1 (by decide), by omega⟩
theorem CTexts.slot {l : List (List Rec)} {c m A : Nat} {h h1 : Hp} (C : CTexts l c m h) (hc : c < hN h) (hm : l.length < m) (f : fx (fun q k => q = c ∧ k = l.length) h h1) (hc108 : c < 108) (e : hR h1 c l.length = some A) (B : LBlk h1 A) (hA : hN h ≤ A) : CTexts l c m h1 := by
  obtain ⟨c1, c2, c3, c4, c5⟩ := C
  have ec : ∀ i, i ≠ l.length → hR h1 c i = hR h c i := fun i hi => (f.2.2 c i hc (fun z => hi z.2)).2.2
  have eb : ∀ a, LBlk h a → ∀ b k, a ≤ b → b ≤ a + 1 → hI h1 b k = hI h b k := fun a Z b k b1 b2 => (f.2.2 b k (by have := Z.2.1; omega) (fun z => by have := Z.1; omega)).1
  refine ⟨c1, fun i a hi hr => ?_, fun i h1 h2 => by rw [ec i (by omega)]; exact c3 i h1 h2, fun i j a h1 h2 h3 h4 => ?_, fun i hi => ?_⟩
  · by_cases q : i = l.length
    · rw [q, e] at hr; injection hr with hr; rw [← hr]; exact B
    · rw [ec i q] at hr; exact (c2 i a hi hr).mv f.1 f.2.1
  · by_cases q : i = l.length
    · by_cases q2 : j = l.length
      · omega
      · rw [q, e] at h3
        injection h3 with h3
        rw [ec j q2] at h4
        have := (c2 j a h2 h4).2.1
        omega
    · by_cases q2 : j = l.length
      · rw [q2, e] at h4
        injection h4 with h4
        rw [ec i q] at h3
        have := (c2 i a h1 h3).2.1
        omega
      · exact c4 i j a h1 h2 (by rw [← ec i q]; exact h3) (by rw [← ec j q2]; exact h4)
  · obtain ⟨a, q1, q2⟩ := c5 i hi
    exact ⟨a, by rw [ec i (by omega)]; exact q1, q2.mv (eb a (c2 i a (by omega) q1))⟩
/-- what is so once there is a place to read to -/
def SltP (x : Ab) (da : Nat → Nat) (c m told A : Nat) (h h1 : Hp) : Prop := sameM h h1 ∧ InvC x da h1 ∧ hR h1 c told = some A ∧ LBlk h1 A ∧ (∀ i, i < 6 → ¬ (c = 9 ∧ i = told) → hR h1 9 i ≠ some A) ∧ ∀ i, i < 12 → ¬ (c = 10 ∧ i = told) → hR h1 10 i ≠ some A
set_option maxHeartbeats 4000000 in
set_option maxRecDepth 100000 in
theorem c_slot {x : Ab} {da : Nat → Nat} {c m n told fe mx : Nat} {h : Hp} {Q : Int32 → Hp → Prop} (I : InvC x da h) (hc : c = 9 ∧ m = 6 ∧ told = (aL x).length ∨ c = 10 ∧ m = 12 ∧ told = (aW x).length) (ht : told < m) (hn : n ≤ (aT x).length) (k : ∀ h1 A, SltP x da c m told A h h1 → m_X11_tellRules_34 Q (n32 n) m c (n32 told) (n32 fe) (n32 mx) h1) : m_X11_tellRules (n32 n) c m (n32 told) (n32 fe) (n32 mx) h Q := by
  unfold m_X11_tellRules m_X11_refusalOf
  have hN108 := I.1
  obtain ⟨tx1, tx2, tx3, tx4, tx5⟩ := I.2.2.2.2.2.1
  have tl := I.2.2.2.1.2.1
  rw [I.2.2.2.1.1, show (0 : Int32) = n32 0 from rfl, n32_lt (by omega) (by decide), n32_le (by omega) (by omega), show Int32.ofNat m = n32 m from rfl, n32_lt (by omega) (by omega)]
  refine ⟨fun z => absurd z (by omega), fun _ => ⟨fun _ => ⟨fun _ => ?_, fun z => absurd ht z⟩, fun z => absurd hn z⟩⟩
  refine ⟨fun _ => ⟨vpI ht (by omega), ?_⟩, fun z => absurd rfl z⟩
  rw [n32_ix (by omega)]
  refine ⟨fun b hb => ?_, fun hnn => ?_⟩
  · refine k h b ⟨sameM.rf h, I, hb, ?_, fun i hi q e => ?_, fun i hi q e => ?_⟩
    · rcases hc with ⟨rfl, rfl, -⟩ | ⟨rfl, rfl, -⟩
      · exact tx2.2.1 _ _ ht hb
      · exact tx4.2.1 _ _ ht hb
    · rcases hc with ⟨rfl, rfl, -⟩ | ⟨rfl, rfl, -⟩
      · exact q ⟨rfl, tx2.2.2.2.1 _ _ _ hi ht e hb⟩
      · exact tx5 _ _ _ hi ht e hb
    · rcases hc with ⟨rfl, rfl, -⟩ | ⟨rfl, rfl, -⟩
      · exact tx5 _ _ _ ht hi hb e
      · exact q ⟨rfl, tx4.2.2.2.1 _ _ _ hi ht e hb⟩
  · intro a1 ea h2 e2
    unfold m_X6_init
    intro a2 ea2 h3 e3
    have n2 : hN h2 = hN h + 1 := by rw [e2, hN_nw]
    have fA : fx (fun q k => q = c ∧ k = told) h (wR h3 a1 0 (some a2)) := by
      rw [e3, e2]
      exact fx_wR (fx_nw (fx_nw (fx.rf _ _) _) _) _ (Or.inl (by omega))
    have t1 : hT (wR h3 a1 0 (some a2)) (a1 + 1) = (40, 96) := by
      show hT h3 (a1 + 1) = _
      rw [e3, hT_nw, if_pos (by omega)]
    have r1 : hR (wR h3 a1 0 (some a2)) a1 0 = some (a1 + 1) := by
      rw [hR_wR, if_pos ⟨rfl, rfl⟩]; congr 1; omega
    have n3 : hN (wR h3 a1 0 (some a2)) = hN h + 2 := by
      show hN h3 = _
      rw [e3, hN_nw]; omega
    generalize wR h3 a1 0 (some a2) = h4 at fA t1 r1 n3
    refine ⟨by omega, ?_, fun h5 e5 => ⟨vpI ht (by omega), ?_⟩⟩
    · intro kk b n hc
      unfold fcon fconT at hc
      match kk, hc with
      | 0, hc =>
        have hc' : some (a1 + 1, 96) = some (b, n) := hc
        injection hc' with hc'
        injection hc' with q1 q2
        subst q1; subst q2
        exact ⟨r1, t1, by omega⟩
      | 1, hc => exact absurd hc (by show ¬ none = some (b, n); simp)
      | kk + 2, hc => exact absurd hc (by show ¬ none = some (b, n); simp)
    · have fB : fx (fun q k => q = c ∧ k = told) h (wR h5 c told (some a1)) := by rw [e5]; exact fx_wR (fx_wT fA _ (by omega)) _ (Or.inr ⟨rfl, rfl⟩)
      have n5 : hN (wR h5 c told (some a1)) = hN h + 2 := by rw [e5]; exact n3
      have tB : hT (wR h5 c told (some a1)) a1 = (6, 0) ∧ hT (wR h5 c told (some a1)) (a1 + 1) = (40, 96) := by
        show hT h5 a1 = _ ∧ hT h5 (a1 + 1) = _
        rw [e5, hT_wT, hT_wT, if_pos rfl, if_neg (by omega)]; exact ⟨rfl, t1⟩
      have rB : hR (wR h5 c told (some a1)) c told = some a1 := by rw [hR_wR, if_pos ⟨rfl, rfl⟩]
      generalize wR h5 c told (some a1) = h6 at fB n5 tB rB
      have LB : LBlk h6 a1 := ⟨by omega, by omega, tB.1, tB.2⟩
      have hc8 : c = 9 ∨ c = 10 := by omega
      obtain ⟨m1, m2, m3, m4, m5, m6, m7, m8, m9, m10, m11, m12, m13⟩ := I.mvg fB
      have M3 := m3 (by omega) (by omega) (fun a B b k b1 b2 z => by have := B.1; omega)
      have r9 : ∀ i, ¬ (c = 9 ∧ i = told) → hR h6 9 i = hR h 9 i := fun i hi => (fB.2.2 9 i (by omega) (fun z => hi ⟨z.1.symm, z.2⟩)).2.2
      have r10 : ∀ i, ¬ (c = 10 ∧ i = told) → hR h6 10 i = hR h 10 i := fun i hi => (fB.2.2 10 i (by omega) (fun z => hi ⟨z.1.symm, z.2⟩)).2.2
      have w9 : ∀ i, i < 6 → ¬ (c = 9 ∧ i = told) → hR h6 9 i ≠ some a1 := fun i hi q e => by
        rw [r9 i q] at e
        have := (tx2.2.1 i a1 hi e).2.1
        omega
      have w10 : ∀ i, i < 12 → ¬ (c = 10 ∧ i = told) → hR h6 10 i ≠ some a1 := fun i hi q e => by
        rw [r10 i q] at e
        have := (tx4.2.1 i a1 hi e).2.1
        omega
      have eb : ∀ a, LBlk h a → ∀ b k, a ≤ b → b ≤ a + 1 → hI h6 b k = hI h b k := fun a Z b k b1 b2 => (fB.2.2 b k (by have := Z.2.1; omega) (fun z => by have := Z.1; omega)).1
      have e6 : hI h6 0 6 = hI h 0 6 := (fB.2.2 0 6 (by omega) (by omega)).1
      have e8 : hI h6 0 8 = hI h 0 8 := (fB.2.2 0 8 (by omega) (by omega)).1
      have cr : ∀ i j a, i < 6 → j < 12 → hR h6 9 i = some a → hR h6 10 j = some a → False := fun i j a hi hj h1 h2 => by
        by_cases q : c = 9 ∧ i = told
        · have : a = a1 := by
            have rB' := rB
            rw [q.1] at rB'
            rw [q.2, rB'] at h1
            injection h1 with h1; exact h1.symm
          rw [this] at h2
          exact w10 j hj (by omega) h2
        · by_cases q2 : c = 10 ∧ j = told
          · have : a = a1 := by
              have rB' := rB
              rw [q2.1] at rB'
              rw [q2.2, rB'] at h2
              injection h2 with h2; exact h2.symm
            rw [this] at h1
            exact w9 i hi q h1
          · exact tx5 i j a hi hj (by rw [← r9 i q]; exact h1) (by rw [← r10 j q2]; exact h2)
      have CX : CTx x h6 := by
        refine ⟨by rw [e6]; exact tx1, ?_, by rw [e8]; exact tx3, ?_, cr⟩
        · rcases hc with ⟨rfl, rfl, rfl⟩ | ⟨rfl, rfl, rfl⟩
          · exact tx2.slot (by omega) ht fB (by omega) rB LB (by omega)
          · exact tx2.mv fB.1 fB.2.1 (fun i => r9 i (by omega)) eb
        · rcases hc with ⟨rfl, rfl, rfl⟩ | ⟨rfl, rfl, rfl⟩
          · exact tx4.mv fB.1 fB.2.1 (fun i => r10 i (by omega)) eb
          · exact tx4.slot (by omega) ht fB (by omega) rB LB (by omega)
      refine k h6 a1 ⟨sameM.ofx fB hN108 (by omega), ⟨m1, m2 (by omega), M3.1, m4 (by omega) (by omega), m5 (by omega), CX, m7 (by omega) (by omega), m8 (by omega) (by omega), m9 (by omega) (by omega) (fun a B b k b1 b2 z => by have := B.1; omega), M3.2, m10 (by omega), m12 (by omega) (by omega) (by omega) (by omega), m13 (by omega) (by omega)⟩, rB, LB, w9, w10⟩
def STl (A q k : Nat) : Prop := q = 2 ∨ q = 0 ∧ k = 9 ∨ q = A ∧ k = 1 ∨ q = A + 1
def TlR (mx A : Nat) (r : Nat ⊕ List Rec) (h h' : Hp) : Prop := fr (STl A) h h' ∧ hI h' 2 1 = 0 ∧ match r with
  | .inl e => hI h' 0 9 = n32 e ∧ e ≤ 600
  | .inr L => hI h' 0 9 = -1 ∧ CRul L h' A ∧ L.length ≤ mx
def okR : Nat ⊕ List Rec → Bool
  | .inl _ => false
  | .inr _ => true
set_option maxHeartbeats 4000000 in
set_option maxRecDepth 100000 in
theorem c_tell34 {x : Ab} {da : Nat → Nat} {c m n told fe mx fu A : Nat} {r : Nat ⊕ List Rec} {h : Hp} {Q : Int32 → Hp → Prop} (I : InvC x da h) (hA : LBlk h A) (rA : hR h c told = some A) (hc2 : c ≠ 2) (hm : m ≤ 12) (ht : told < m) (hn : n ≤ (aT x).length) (hmx : mx ≤ 16) (h1m : 1 ≤ mx) (hf : fe ≤ 1) (hb : if 0 < fe ∧ (tok (txt x n) 0).1 = 0 then r = .inl (tok (txt x n) 0).2.1 else bars (txt x n) mx fu (.inr (tok (txt x n) 0)) [] = some r) (k : ∀ h', TlR mx A r h h' → Q (if okR r then n32 told else -1) h') : m_X11_tellRules_34 Q (n32 n) m c (n32 told) (n32 fe) (n32 mx) h := by
  unfold m_X11_tellRules_34
  refine c_open hn I.2.2.2.1 (fun h2 f2 P => ?_)
  have tl := txt_len hn
  have tl6 := I.2.2.2.1.2.1
  have a108 := hA.1
  refine ⟨vpI ht (by omega), A, ?_, ?_⟩
  · rw [n32_ix (by omega), f2.R (by omega)]; exact rA
  refine c_readRules hA.1 hmx hf h1m hb P (fun h3 v R => ?_)
  obtain ⟨f3, R⟩ := R
  have f23 : fr (STl A) h h3 := (f2.mono (by unfold STl; omega)).trans (f3.mono (by unfold STl SRr SCm; omega))
  unfold m_X11_closeText m_X11_closeText_24
  cases r with
  | inl e =>
    obtain ⟨rfl, R⟩ := R
    refine ⟨fun _ => ⟨fun _ => ?_, fun z => absurd rfl z⟩, fun z => absurd rfl z⟩
    refine k _ ⟨fr_wI (fr_wI f23 _ (by unfold STl; omega)) _ (by unfold STl; omega), ?_, ?_⟩
    · rw [hI_wI, if_neg (by omega), hI_wI, if_pos ⟨rfl, rfl⟩]
    · refine ⟨?_, by have := R.2.2; omega⟩
      rw [hI_wI, if_pos ⟨rfl, rfl⟩, hI_wI, if_neg (by omega)]
      exact R.2.1
  | inr L =>
    obtain ⟨rfl, R, lm⟩ := R
    refine ⟨fun z => absurd z (by decide), fun _ => ⟨fun z => absurd z (by decide), fun _ => ?_⟩⟩
    refine k _ ⟨fr_wI (fr_wI f23 _ (by unfold STl; omega)) _ (by unfold STl; omega), ?_, ?_, ?_, lm⟩
    · rw [hI_wI, if_neg (by omega), hI_wI, if_pos ⟨rfl, rfl⟩]
    · rw [hI_wI, if_pos ⟨rfl, rfl⟩]
    · exact R.mv (fun b j b1 b2 => by rw [hI_wI, if_neg (by omega), hI_wI, if_neg (by omega)])
