/-! THE CLASS: a place for a deal -/
theorem DBlk.neD {h : Hp} {a A b : Nat} (D : DBlk h a) (B : DBlk h A) (n : a ≠ A) (h1 : a ≤ b) (h2 : b ≤ a + 4) : ¬ (A ≤ b ∧ b ≤ A + 4) := by
  intro z
  obtain ⟨-, -, d0, d1, d2, d3, d4⟩ := D
  obtain ⟨-, -, e0, e1, e2, e3, e4⟩ := B
  have hc : A = a + 1 ∨ A = a + 2 ∨ A = a + 3 ∨ A = a + 4 ∨ a = A + 1 ∨ a = A + 2 ∨ a = A + 3 ∨ a = A + 4 := by omega
  rcases hc with e | e | e | e | e | e | e | e
  · rw [e, d1] at e0; exact absurd e0 (by decide)
  · rw [e, d2] at e0; exact absurd e0 (by decide)
  · rw [e, d3] at e0; exact absurd e0 (by decide)
  · rw [e, d4] at e0; exact absurd e0 (by decide)
  · rw [e, e1] at d0; exact absurd d0 (by decide)
  · rw [e, e2] at d0; exact absurd d0 (by decide)
  · rw [e, e3] at d0; exact absurd d0 (by decide)
  · rw [e, e4] at d0; exact absurd d0 (by decide)
theorem BBk.neD {h : Hp} {a A b : Nat} (D : BBk h a) (B : DBlk h A) (h1 : a ≤ b) (h2 : b ≤ a + 1) : ¬ (A ≤ b ∧ b ≤ A + 4) := by
  intro z
  obtain ⟨-, -, d0, d1⟩ := D
  obtain ⟨-, -, e0, e1, e2, e3, e4⟩ := B
  have hb : hT h b = (0, 0) ∨ hT h b = (51, 6) := by
    have : b = a ∨ b = a + 1 := by omega
    rcases this with e | e
    · rw [e]; exact Or.inl d0
    · rw [e]; exact Or.inr d1
  have hA : b = A ∨ b = A + 1 ∨ b = A + 2 ∨ b = A + 3 ∨ b = A + 4 := by omega
  have hv : hT h b = (1, 0) ∨ hT h b = (40, 96) ∨ hT h b = (40, 216) ∨ hT h b = (43, 36) ∨ hT h b = (40, 36) := by
    rcases hA with e | e | e | e | e
    · rw [e]; exact Or.inl e0
    · rw [e]; exact Or.inr (Or.inl e1)
    · rw [e]; exact Or.inr (Or.inr (Or.inl e2))
    · rw [e]; exact Or.inr (Or.inr (Or.inr (Or.inl e3)))
    · rw [e]; exact Or.inr (Or.inr (Or.inr (Or.inr e4)))
  rcases hb with e | e <;> rw [e] at hv <;> revert hv <;> decide
def SltD (x : Ab) (da : Nat → Nat) (A : Nat) (h h1 : Hp) : Prop := sameM h h1 ∧ InvC x da h1 ∧ hR h1 8 (aD x).length = some A ∧ DBlk h1 A ∧ hI h1 A 0 = n32 (aD x).length
set_option maxHeartbeats 4000000 in
set_option maxRecDepth 100000 in
theorem c_slotD {x : Ab} {da : Nat → Nat} {n g : Nat} {h : Hp} {Q : Int32 → Hp → Prop} (I : InvC x da h) (ht : (aD x).length < 24) (hn : n ≤ (aT x).length) (hg : g < 400) (k : ∀ h1 A, SltD x da A h h1 → m_X11_deal_64 Q (n32 n) (n32 g) h1) : m_X11_deal (n32 n) (n32 g) h Q := by
  unfold m_X11_deal m_X11_refusalOf
  have hN108 := I.1
  have D := I.2.2.1
  have tl := I.2.2.2.1.2.1
  rw [D.1, I.2.2.2.1.1, show (0 : Int32) = n32 0 from rfl, n32_lt (by omega) (by omega), n32_lt (by omega) (by omega), show (399 : Int32) = n32 399 from rfl, n32_le (by omega) (by omega), n32_le (by omega) (by omega), show (24 : Int32) = n32 24 from rfl, n32_lt (by omega) (by omega)]
  refine ⟨fun z => absurd z (by omega), fun _ => ⟨fun _ => ⟨fun z => absurd z (by omega), fun _ => ⟨fun _ => ⟨fun _ => ?_, fun z => absurd ht z⟩, fun z => absurd hn z⟩⟩, fun z => absurd (by omega) z⟩⟩
  dsimp only
  rw [D.1, n32_ix (by omega)]
  refine ⟨fun _ => ⟨vpI ht (by omega), ?_⟩, fun z => absurd rfl z⟩
  refine ⟨fun b hb => ?_, fun hnn => ?_⟩
  · obtain ⟨q1, q2⟩ := D.2.2.1 _ _ ht hb
    exact k h b ⟨sameM.rf h, I, hb, q1, q2⟩
  · intro a0 ea h1 e1
    unfold m_X1_init
    intro a1 ea1 h2 e2 a3 ea3 h4 e4 a5 ea5 h6 e6 a7 ea7 h8 e8
    have n1 : hN h1 = hN h + 1 := by rw [e1, hN_nw]
    have n2 : hN h2 = hN h + 2 := by rw [e2, hN_nw, n1]
    have ea3' : a3 = hN h + 2 := by rw [ea3]; exact n2
    have n4 : hN h4 = hN h + 3 := by rw [e4, hN_nw]; show hN h2 + 1 = _; omega
    have ea5' : a5 = hN h + 3 := by rw [ea5]; exact n4
    have n6 : hN h6 = hN h + 4 := by rw [e6, hN_nw]; show hN h4 + 1 = _; omega
    have ea7' : a7 = hN h + 4 := by rw [ea7]; exact n6
    have n8 : hN h8 = hN h + 5 := by rw [e8, hN_nw]; show hN h6 + 1 = _; omega
    have v0 : hI h1 0 4 = n32 (aD x).length := by rw [e1, hI_nw, if_neg (by omega)]; exact D.1
    rw [v0]
    have f1 : fx (fun q k => q = 8 ∧ k = (aD x).length) h h1 := by rw [e1]; exact fx_nw (fx.rf _ _) _
    have f2 : fx (fun q k => q = 8 ∧ k = (aD x).length) h (wR h2 a0 9 (some a1)) := by rw [e2]; exact fx_wR (fx_nw f1 _) _ (Or.inl (by omega))
    have f4 : fx (fun q k => q = 8 ∧ k = (aD x).length) h (wR h4 a0 10 (some a3)) := by rw [e4]; exact fx_wR (fx_nw f2 _) _ (Or.inl (by omega))
    have f6 : fx (fun q k => q = 8 ∧ k = (aD x).length) h (wR h6 a0 11 (some a5)) := by rw [e6]; exact fx_wR (fx_nw f4 _) _ (Or.inl (by omega))
    have f8 : fx (fun q k => q = 8 ∧ k = (aD x).length) h (wI (wR h8 a0 12 (some a7)) a0 0 (n32 (aD x).length)) := by rw [e8]; exact fx_wI (fx_wR (fx_nw f6 _) _ (Or.inl (by omega))) _ (Or.inl (by omega))
    have y0 : hI (wI (wR h8 a0 12 (some a7)) a0 0 (n32 (aD x).length)) a0 0 = n32 (aD x).length := by rw [hI_wI, if_pos ⟨rfl, rfl⟩]
    have nF : hN (wI (wR h8 a0 12 (some a7)) a0 0 (n32 (aD x).length)) = hN h + 5 := n8
    have t2 : hT h2 (a0 + 1) = (40, 96) := by rw [e2, hT_nw, if_pos (by omega)]
    have t4 : hT h4 (a0 + 2) = (40, 216) := by rw [e4, hT_nw, if_pos (by show a0 + 2 = hN h2; omega)]
    have t6 : hT h6 (a0 + 3) = (43, 36) := by rw [e6, hT_nw, if_pos (by show a0 + 3 = hN h4; omega)]
    have t8 : hT h8 (a0 + 4) = (40, 36) := by rw [e8, hT_nw, if_pos (by show a0 + 4 = hN h6; omega)]
    have s4 : hT h4 (a0 + 1) = (40, 96) := by rw [e4, hT_nw, if_neg (by show ¬ a0 + 1 = hN h2; omega)]; exact t2
    have s6 : hT h6 (a0 + 1) = (40, 96) ∧ hT h6 (a0 + 2) = (40, 216) := by rw [e6, hT_nw, hT_nw, if_neg (by show ¬ a0 + 1 = hN h4; omega), if_neg (by show ¬ a0 + 2 = hN h4; omega)]; exact ⟨s4, t4⟩
    have s8 : hT h8 (a0 + 1) = (40, 96) ∧ hT h8 (a0 + 2) = (40, 216) ∧ hT h8 (a0 + 3) = (43, 36) := by rw [e8, hT_nw, hT_nw, hT_nw, if_neg (by show ¬ a0 + 1 = hN h6; omega), if_neg (by show ¬ a0 + 2 = hN h6; omega), if_neg (by show ¬ a0 + 3 = hN h6; omega)]; exact ⟨s6.1, s6.2, t6⟩
    have tF : hT (wI (wR h8 a0 12 (some a7)) a0 0 (n32 (aD x).length)) = hT h8 := rfl
    have r9 : hR (wI (wR h8 a0 12 (some a7)) a0 0 (n32 (aD x).length)) a0 9 = some (a0 + 1) := by
      rw [hR_wI, hR_wR, if_neg (by omega), e8, hR_nw, if_neg (by show ¬ a0 = hN h6; omega), hR_wR, if_neg (by omega), e6, hR_nw, if_neg (by show ¬ a0 = hN h4; omega), hR_wR, if_neg (by omega), e4, hR_nw, if_neg (by show ¬ a0 = hN h2; omega), hR_wR, if_pos ⟨rfl, rfl⟩]
      congr 1; omega
    have r10 : hR (wI (wR h8 a0 12 (some a7)) a0 0 (n32 (aD x).length)) a0 10 = some (a0 + 2) := by
      rw [hR_wI, hR_wR, if_neg (by omega), e8, hR_nw, if_neg (by show ¬ a0 = hN h6; omega), hR_wR, if_neg (by omega), e6, hR_nw, if_neg (by show ¬ a0 = hN h4; omega), hR_wR, if_pos ⟨rfl, rfl⟩]
      congr 1; omega
    have r11 : hR (wI (wR h8 a0 12 (some a7)) a0 0 (n32 (aD x).length)) a0 11 = some (a0 + 3) := by
      rw [hR_wI, hR_wR, if_neg (by omega), e8, hR_nw, if_neg (by show ¬ a0 = hN h6; omega), hR_wR, if_pos ⟨rfl, rfl⟩]
      congr 1; omega
    have r12 : hR (wI (wR h8 a0 12 (some a7)) a0 0 (n32 (aD x).length)) a0 12 = some (a0 + 4) := by
      rw [hR_wI, hR_wR, if_pos ⟨rfl, rfl⟩]
      congr 1; omega
    rw [← tF] at t8 s8
    generalize wI (wR h8 a0 12 (some a7)) a0 0 (n32 (aD x).length) = h9 at f8 y0 nF tF t8 s8 r9 r10 r11 r12
    refine ⟨by omega, ?_, fun h10 e10 => ⟨vpI ht (by omega), ?_⟩⟩
    · intro kk b n hc
      unfold fcon fconT at hc
      match kk, hc with
      | 9, hc =>
        have hc' : some (a0 + 1, 96) = some (b, n) := hc
        injection hc' with hc'; injection hc' with q1 q2; subst q1; subst q2
        exact ⟨r9, s8.1, by omega⟩
      | 10, hc =>
        have hc' : some (a0 + 2, 216) = some (b, n) := hc
        injection hc' with hc'; injection hc' with q1 q2; subst q1; subst q2
        exact ⟨r10, s8.2.1, by omega⟩
      | 11, hc =>
        have hc' : some (a0 + 3, 36) = some (b, n) := hc
        injection hc' with hc'; injection hc' with q1 q2; subst q1; subst q2
        exact ⟨r11, s8.2.2, by omega⟩
      | 12, hc =>
        have hc' : some (a0 + 4, 36) = some (b, n) := hc
        injection hc' with hc'; injection hc' with q1 q2; subst q1; subst q2
        exact ⟨r12, t8, by omega⟩
      | 0, hc => exact absurd hc (by show ¬ none = some (b, n); simp)
      | 1, hc => exact absurd hc (by show ¬ none = some (b, n); simp)
      | 2, hc => exact absurd hc (by show ¬ none = some (b, n); simp)
      | 3, hc => exact absurd hc (by show ¬ none = some (b, n); simp)
      | 4, hc => exact absurd hc (by show ¬ none = some (b, n); simp)
      | 5, hc => exact absurd hc (by show ¬ none = some (b, n); simp)
      | 6, hc => exact absurd hc (by show ¬ none = some (b, n); simp)
      | 7, hc => exact absurd hc (by show ¬ none = some (b, n); simp)
      | 8, hc => exact absurd hc (by show ¬ none = some (b, n); simp)
      | kk + 13, hc => exact absurd hc (by show ¬ none = some (b, n); simp)
    · have fB : fx (fun q k => q = 8 ∧ k = (aD x).length) h (wR h10 8 (aD x).length (some a0)) := by rw [e10]; exact fx_wR (fx_wT f8 _ (by omega)) _ (Or.inr ⟨rfl, rfl⟩)
      have nB : hN (wR h10 8 (aD x).length (some a0)) = hN h + 5 := by rw [e10]; exact nF
      have rB : hR (wR h10 8 (aD x).length (some a0)) 8 (aD x).length = some a0 := by rw [hR_wR, if_pos ⟨rfl, rfl⟩]
      have yB : hI (wR h10 8 (aD x).length (some a0)) a0 0 = n32 (aD x).length := by rw [e10]; exact y0
      have tB : ∀ c, hT (wR h10 8 (aD x).length (some a0)) c = if c = a0 then (1, 0) else hT h9 c := fun c => by rw [e10]; rfl
      generalize wR h10 8 (aD x).length (some a0) = h11 at fB nB rB yB tB
      have DB : DBlk h11 a0 := by
        refine ⟨by omega, by omega, ?_, ?_, ?_, ?_, ?_⟩
        · rw [tB, if_pos rfl]
        · rw [tB, if_neg (by omega)]; exact s8.1
        · rw [tB, if_neg (by omega)]; exact s8.2.1
        · rw [tB, if_neg (by omega)]; exact s8.2.2
        · rw [tB, if_neg (by omega)]; exact t8
      obtain ⟨m1, m2, m3, m4, m5, m6, m7, m8, m9, m10, m11, m12, m13⟩ := I.mvg fB
      have r8 : ∀ d, d ≠ (aD x).length → hR h11 8 d = hR h 8 d := fun d hd => (fB.2.2 8 d (by omega) (fun z => hd z.2)).2.2
      have eb : ∀ a, DBlk h a → ∀ b k, a ≤ b → b ≤ a + 4 → hI h11 b k = hI h b k ∧ hJ h11 b k = hJ h b k := fun a Z b k b1 b2 => by
        have := fB.2.2 b k (by have := Z.2.1; omega) (fun z => by have := Z.1; omega)
        exact ⟨this.1, this.2.1⟩
      have CD : CDeals x da h11 := by
        refine ⟨by rw [(fB.2.2 0 4 (by omega) (by omega)).1]; exact D.1, D.2.1, fun d a hd hr => ?_, fun d h1 h2 => by rw [r8 d (by omega)]; exact D.2.2.2.1 d h1 h2, fun d hd => ?_⟩
        · by_cases q : d = (aD x).length
          · rw [q, rB] at hr
            injection hr with hr
            rw [← hr, q]; exact ⟨DB, yB⟩
          · rw [r8 d q] at hr
            obtain ⟨b1, b2⟩ := D.2.2.1 d a hd hr
            exact ⟨b1.mv fB.1 fB.2.1, by rw [(eb a b1 a 0 (Nat.le_refl _) (by omega)).1]; exact b2⟩
        · obtain ⟨q1, q2, q3, q4⟩ := D.da hd
          exact ⟨by rw [r8 d (by omega)]; exact q1, q4.mv (eb _ q2)⟩
      have CP : CPln x da h11 := I.2.2.2.2.2.2.2.2.2.1.mv (fun d hd k => (eb _ (D.da hd).2.1 _ k (Nat.le_refl _) (by omega)).1)
      refine k h11 a0 ⟨sameM.ofx fB hN108 (by omega), ⟨m1, m2 (by omega), CD, m4 (by omega) (by omega), m5 (by omega), m6 (by omega) (by omega) (by omega) (by omega) (fun a B b k b1 b2 z => by have := B.1; omega), m7 (by omega) (by omega), m8 (by omega) (by omega), m9 (by omega) (by omega) (fun a B b k b1 b2 z => by have := B.1; omega), CP, m10 (by omega), m12 (by omega) (by omega) (by omega) (by omega), m13 (by omega) (by omega)⟩, rB, DB, yB⟩
