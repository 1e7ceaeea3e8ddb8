/-! THE CLASS: law, word, whole -/
theorem CTexts.mvA {l : List (List Rec)} {c m A : Nat} {h h' : Hp} {S : Nat → Nat → Prop} (C : CTexts l c m h) (f : fr S h h') (B : LBlk h A) (hS : ∀ b k, S b k → 108 ≤ b → b = A ∨ b = A + 1) (hc : ∀ k, ¬ S c k) (hm : ∀ i, i < l.length → hR h c i ≠ some A) : CTexts l c m h' := by
  obtain ⟨c1, c2, c3, c4, c5⟩ := C
  have ec : ∀ i, hR h' c i = hR h c i := fun i => f.R (hc i)
  have n' : hN h ≤ hN h' := by rw [f.1]; exact Nat.le_refl _
  have t' : ∀ b, b < hN h → hT h' b = hT h b := fun b _ => by rw [f.2.1]
  refine ⟨c1, fun i a hi hr => ?_, fun i h1 h2 => by rw [ec]; exact c3 i h1 h2, fun i j a h1 h2 h3 h4 => c4 i j a h1 h2 (by rw [← ec]; exact h3) (by rw [← ec]; exact h4), fun i hi => ?_⟩
  · rw [ec] at hr; exact (c2 i a hi hr).mv n' t'
  · obtain ⟨a, q1, q2⟩ := c5 i hi
    refine ⟨a, by rw [ec]; exact q1, q2.mv (fun b k b1 b2 => f.I (fun z => ?_))⟩
    have Z := c2 i a (by omega) q1
    have := Z.neL B (fun e => hm i hi (by rw [← e]; exact q1)) b1 b2
    have := hS b k z (by have := Z.1; omega)
    omega
theorem CTexts.add {l : List (List Rec)} {L : List Rec} {c m A : Nat} {h h' : Hp} {S : Nat → Nat → Prop} (C : CTexts l c m h) (f : fr S h h') (B : LBlk h A) (hS : ∀ b k, S b k → 108 ≤ b → b = A ∨ b = A + 1) (hc : ∀ k, ¬ S c k) (hm : ∀ i, i < l.length → hR h c i ≠ some A) (lm : l.length < m) (r : hR h c l.length = some A) (R : CRul L h' A) : CTexts (l ++ [L]) c m h' := by
  obtain ⟨c1, c2, c3, c4, c5⟩ := C.mvA f B hS hc hm
  refine ⟨by rw [List.length_append, List.length_singleton]; omega, c2, fun i h1 h2 => c3 i h1 (by rw [List.length_append, List.length_singleton] at h2; omega), c4, fun i hi => ?_⟩
  rw [List.length_append, List.length_singleton] at hi
  by_cases q : i = l.length
  · subst q
    rw [getD_ll_at]
    exact ⟨A, by rw [f.R (hc _)]; exact r, R⟩
  · rw [getD_ll_lt (by omega)]; exact c5 i (by omega)
def SLw (A q k : Nat) : Prop := q = 2 ∨ q = 0 ∧ (k = 9 ∨ k = 6 ∨ k = 8) ∨ q = A ∧ k = 1 ∨ q = A + 1 ∨ q = 32 ∧ k = 6
/-- what a text of statements leaves alone -/
theorem InvC.txs {x : Ab} {da : Nat → Nat} {h h' : Hp} {A : Nat} (I : InvC x da h) (B : LBlk h A) (f : fr (SLw A) h h') : 108 ≤ hN h' ∧ CFam x h' ∧ CDeals x da h' ∧ CBun x da h' ∧ COff x da h' ∧ CHn x da h' ∧ CPln x da h' ∧ CTal x h' ∧ CWgh x h' ∧ (hI h' 32 6 = hI h 32 6 → CSea x h') ∧ CTdy h' ∧ CSm h' := by
  have a8 := B.1
  obtain ⟨m1, m2, m3, m4, m5, m6, m7, m8, m9, m10, m11, m12, m13⟩ := I.mvg (fx.of f)
  have M3 := m3 (by unfold SLw; omega) (by unfold SLw; omega) (fun a D b k b1 b2 z => by have := D.neL B b1 b2; have := D.1; unfold SLw at z; omega)
  refine ⟨m1, m2 (by unfold SLw; omega), M3.1, m7 (by unfold SLw; omega) (by unfold SLw; omega), m8 (by unfold SLw; omega) (by unfold SLw; omega), m9 (by unfold SLw; omega) (by unfold SLw; omega) (fun a D b k b1 b2 z => by have := D.neL B b1 b2; have := D.1; unfold SLw at z; omega), M3.2, m10 (by unfold SLw; omega), m11 (by unfold SLw; omega), fun e6 => ?_, m13 (by unfold SLw; omega) (by unfold SLw; omega)⟩
  exact I.2.2.2.2.2.2.2.2.2.2.2.1.mv (f.I (by unfold SLw; omega)) e6 (fun k => f.I (by unfold SLw; omega)) (fun k => f.I (by unfold SLw; omega))
theorem c_tellNo {x : Ab} {da : Nat → Nat} {v1 : Int32} {c m told : Nat} {fe mx : Int32} {h : Hp} {Q : Int32 → Hp → Prop} (I : InvC x da h) (hm : m ≤ 12) (ht : told ≤ m) (hc : argN v1 ((aT x).length + 1) = none ∧ Q (-2) h ∨ (∃ n, argN v1 ((aT x).length + 1) = some n) ∧ told = m ∧ Q (-3) h) : m_X11_tellRules v1 c m (n32 told) fe mx h Q := by
  unfold m_X11_tellRules m_X11_refusalOf
  have tl := I.2.2.2.1.2.1
  rw [I.2.2.2.1.1, show Int32.ofNat m = n32 m from rfl, n32_lt (by omega) (by omega)]
  rcases arg_cases v1 ((aT x).length + 1) with ⟨e, cc⟩ | ⟨n, hn, n2, rfl, e⟩
  · rcases hc with ⟨-, q⟩ | ⟨⟨n, e'⟩, -⟩
    · have two : (((-2 : Int32) = 0 → vp_in (n32 told) m ∧ ((∀ b10 : Nat, (hR h c (ix (n32 told))) = some b10 → m_X11_tellRules_34 Q v1 m c (n32 told) fe mx h) ∧ ((hR h c (ix (n32 told))) = none → ∀ a11 : Nat, a11 = hN h → ∀ h12 : Hp, h12 = nw h (26, 0) → m_X6_init a11 h12 (fun h14 => hN h ≤ a11 ∧ sealOK h14 a11 6 ∧ ∀ h15 : Hp, h15 = wT h14 a11 (6, 0) → vp_in (n32 told) m ∧ (m_X11_tellRules_34 Q v1 m c (n32 told) fe mx (wR h15 c (ix (n32 told)) (some a11))))))) ∧ (¬ (-2 : Int32) = 0 → Q (-2) h)) := ⟨fun z => absurd z (by decide), fun _ => q⟩
      rcases cc with cc | ⟨a, g1, g2, rfl⟩
      · exact ⟨fun _ => two, fun z => absurd cc z⟩
      · refine ⟨fun _ => two, fun _ => ⟨fun z => ?_, fun _ => two⟩⟩
        rw [n32_le g2 (by omega)] at z; omega
    · rw [e] at e'; exact absurd e' (by simp)
  · rcases hc with ⟨e', -⟩ | ⟨-, rfl, q⟩
    · rw [e] at e'; exact absurd e' (by simp)
    · refine ⟨fun z => ?_, fun _ => ⟨fun _ => ⟨fun z => absurd z (by omega), fun _ => ⟨fun z => absurd z (by decide), fun _ => q⟩⟩, fun z => ?_⟩⟩
      · rw [show (0 : Int32) = n32 0 from rfl, n32_lt n2 (by decide)] at z; omega
      · rw [n32_le n2 (by omega)] at z; omega
set_option maxHeartbeats 4000000 in
set_option maxRecDepth 100000 in
theorem C_law {x : Ab} {da : Nat → Nat} {v1 : Int32} {h : Hp} {Q : Int32 → Hp → Prop} (I : InvC x da h) (k : ∀ h', sameM h h' → InvC (nxLaw x v1) da h' → Q (ansLaw x v1) h') : m_X11_law v1 h Q := by
  unfold m_X11_law
  unfold ansLaw nxLaw at k
  have tx := I.2.2.2.2.2.1
  have l6 : (aL x).length ≤ 6 := tx.2.1.1
  have tl := I.2.2.2.1.2.1
  rw [tx.1, show (16 : Int32) = n32 16 from rfl, show m_X11_tellRules v1 9 6 (n32 (aL x).length) 0 (n32 16) h = m_X11_tellRules v1 9 6 (n32 (aL x).length) (n32 0) (n32 16) h from rfl]
  cases hv : argN v1 ((aT x).length + 1) with
  | none =>
    rw [hv] at k
    exact c_tellNo I (by decide) l6 (Or.inl ⟨hv, fun _ => k h (sameM.rf h) I, fun z => absurd (by decide) z⟩)
  | some n =>
    rw [hv] at k
    dsimp only at k
    by_cases z6 : (aL x).length = 6
    · rw [if_pos z6, if_pos z6] at k
      exact c_tellNo I (by decide) l6 (Or.inr ⟨⟨n, hv⟩, z6, fun _ => k h (sameM.rf h) I, fun z => absurd (by decide) z⟩)
    · rw [if_neg z6, if_neg z6] at k
      rcases arg_cases v1 ((aT x).length + 1) with ⟨e, -⟩ | ⟨n', hn, n2, rfl, e⟩
      · rw [e] at hv; exact absurd hv (by simp)
      rw [e] at hv
      injection hv with hv
      subst hv
      have tln := txt_len (x := x) (n := n') (by omega)
      have O0 : OkT (txt x n') (tok (txt x n') 0) := ⟨0, Nat.zero_le _, rfl⟩
      obtain ⟨r, hr⟩ := bars_ends (T := txt x n') (mx := 16) (n' + 2) (.inr (tok (txt x n') 0)) [] (by omega) (fun t et => by injection et with et; subst et; exact ⟨O0, by omega⟩)
      have hr' : lwR x n' = some r := hr
      rw [hr'] at k
      refine c_slot I (Or.inl ⟨rfl, rfl, rfl⟩) (by omega) (by omega) (fun h1 A SP => ?_)
      obtain ⟨sm, I1, rA, LB, w9, w10⟩ := SP
      have a8 := LB.1
      refine c_tell34 I1 LB rA (by decide) (by decide) (by omega) (by omega) (by decide) (by decide) (by decide) (by rw [if_neg (by omega)]; exact hr) (fun h2 R => ?_)
      obtain ⟨f2, e21, R⟩ := R
      have tx1 := I1.2.2.2.2.2.1
      cases r with
      | inl e0 =>
        dsimp only at R k
        refine ⟨fun _ => ?_, fun z => absurd (by show (-1 : Int32) < 0; decide) z⟩
        have f : fr (SLw A) h1 h2 := f2.mono (by unfold STl SLw; omega)
        obtain ⟨p1, p2, p3, p4, p5, p6, p7, p8, p9, p10, p11⟩ := I1.txs LB f
        refine k h2 (sm.trans (sameM.of f2 (by unfold STl; omega))) ⟨p1, p2, p3, ⟨e21, Nat.zero_le _, fun j hj => absurd hj (by show ¬ j < 0; omega)⟩, ⟨R.1, by have := R.2; show e0 + 1 ≤ 601; omega⟩, ⟨?_, ?_, ?_, ?_, ?_⟩, p4, p5, p6, p7, p8, p10 (f2.I (by unfold STl; omega)), p11⟩
        · rw [f2.I (by unfold STl; omega)]; exact tx1.1
        · exact tx1.2.1.mvA f2 LB (by unfold STl; omega) (by unfold STl; omega) (fun i hi => w9 i (by omega) (by have : i < (aL x).length := hi; omega))
        · rw [f2.I (by unfold STl; omega)]; exact tx1.2.2.1
        · exact tx1.2.2.2.1.mvA f2 LB (by unfold STl; omega) (by unfold STl; omega) (fun i hi => w10 i (by have := tx1.2.2.2.1.1; have : i < (aW x).length := hi; omega) (by omega))
        · exact fun i j a hi hj e1 e2 => tx1.2.2.2.2 i j a hi hj (by rw [← f2.R (by unfold STl; omega)]; exact e1) (by rw [← f2.R (by unfold STl; omega)]; exact e2)
      | inr L =>
        dsimp only at R k
        obtain ⟨e9, R, lm⟩ := R
        refine ⟨fun z => ?_, fun _ => ?_⟩
        · have z' : n32 (aL x).length < n32 0 := z
          rw [n32_lt (by omega) (by decide)] at z'; omega
        unfold m_X7_forget
        have x6 : hI h2 0 6 = n32 (aL x).length := by rw [f2.I (by unfold STl; omega)]; exact tx1.1
        rw [x6, show n32 (aL x).length + 1 = n32 ((aL x).length + 1) from n32_add _ 1]
        have f : fr (SLw A) h1 (wI (wI h2 0 6 (n32 ((aL x).length + 1))) 32 6 0) := fr_wI (fr_wI (f2.mono (by unfold STl SLw; omega)) _ (by unfold SLw; omega)) _ (by unfold SLw; omega)
        have g : fr (fun q k => q = 0 ∧ k = 6 ∨ q = 32) h2 (wI (wI h2 0 6 (n32 ((aL x).length + 1))) 32 6 0) := fr_wI (fr_wI (fr.rf _ _) _ (by omega)) _ (by omega)
        have y6 : hI (wI (wI h2 0 6 (n32 ((aL x).length + 1))) 32 6 0) 0 6 = n32 ((aL x).length + 1) := by rw [hI_wI, if_neg (by omega), hI_wI, if_pos ⟨rfl, rfl⟩]
        have y32 : hI (wI (wI h2 0 6 (n32 ((aL x).length + 1))) 32 6 0) 32 6 = n32 0 := by rw [hI_wI, if_pos ⟨rfl, rfl⟩]; rfl
        generalize wI (wI h2 0 6 (n32 ((aL x).length + 1))) 32 6 0 = h3 at f g y6 y32
        obtain ⟨p1, p2, p3, p4, p5, p6, p7, p8, p9, p10, p11⟩ := I1.txs LB f
        have R3 : CRul L h3 A := R.mv (fun b j b1 b2 => g.I (by omega))
        refine k h3 (sm.trans (sameM.of f (by unfold SLw; omega))) ⟨p1, p2, p3, ⟨by rw [g.I (by omega)]; exact e21, Nat.zero_le _, fun j hj => absurd hj (by show ¬ j < 0; omega)⟩, ⟨by rw [g.I (by omega)]; exact e9, by show 0 ≤ 601; omega⟩, ⟨?_, ?_, ?_, ?_, ?_⟩, p4, p5, p6, p7, p8, ⟨p9, 0, by omega, y32, Or.inl rfl⟩, p11⟩
        · show hI h3 0 6 = n32 (aL x ++ [L]).length
          rw [y6, List.length_append]; rfl
        · exact tx1.2.1.add f LB (by unfold SLw; omega) (by unfold SLw; omega) (fun i hi => w9 i (by omega) (by omega)) (by omega) rA R3
        · have : hI h3 0 8 = hI h1 0 8 := by rw [g.I (by omega), f2.I (by unfold STl; omega)]
          rw [this]; exact tx1.2.2.1
        · exact tx1.2.2.2.1.mvA f LB (by unfold SLw; omega) (by unfold SLw; omega) (fun i hi => w10 i (by have := tx1.2.2.2.1.1; have : i < (aW x).length := hi; omega) (by omega))
        · exact fun i j a hi hj e1 e2 => tx1.2.2.2.2 i j a hi hj (by rw [← f.R (by unfold SLw; omega)]; exact e1) (by rw [← f.R (by unfold SLw; omega)]; exact e2)
set_option maxHeartbeats 4000000 in
set_option maxRecDepth 100000 in
theorem C_word {x : Ab} {da : Nat → Nat} {v1 : Int32} {h : Hp} {Q : Int32 → Hp → Prop} (I : InvC x da h) (k : ∀ h', sameM h h' → InvC (nxWord x v1) da h' → Q (ansWord x v1) h') : m_X11_word v1 h Q := by
  unfold m_X11_word
  unfold ansWord nxWord at k
  have tx := I.2.2.2.2.2.1
  have l6 : (aW x).length ≤ 12 := tx.2.2.2.1.1
  have tl := I.2.2.2.1.2.1
  rw [tx.2.2.1, show m_X11_tellRules v1 10 12 (n32 (aW x).length) 1 12 h = m_X11_tellRules v1 10 12 (n32 (aW x).length) (n32 1) (n32 12) h from rfl]
  cases hv : argN v1 ((aT x).length + 1) with
  | none =>
    rw [hv] at k
    exact c_tellNo I (by decide) l6 (Or.inl ⟨hv, fun _ => k h (sameM.rf h) I, fun z => absurd (by decide) z⟩)
  | some n =>
    rw [hv] at k
    dsimp only at k
    by_cases z6 : (aW x).length = 12
    · rw [if_pos z6, if_pos z6] at k
      exact c_tellNo I (by decide) l6 (Or.inr ⟨⟨n, hv⟩, z6, fun _ => k h (sameM.rf h) I, fun z => absurd (by decide) z⟩)
    · rw [if_neg z6, if_neg z6] at k
      rcases arg_cases v1 ((aT x).length + 1) with ⟨e, -⟩ | ⟨n', hn, n2, rfl, e⟩
      · rw [e] at hv; exact absurd hv (by simp)
      rw [e] at hv
      injection hv with hv
      subst hv
      have tln := txt_len (x := x) (n := n') (by omega)
      have O0 : OkT (txt x n') (tok (txt x n') 0) := ⟨0, Nat.zero_le _, rfl⟩
      obtain ⟨r, hr⟩ := bars_ends (T := txt x n') (mx := 12) (n' + 2) (wS0 (txt x n')) [] (by omega) (fun t et => by
        unfold wS0 at et
        split at et
        · exact absurd et (by simp)
        · injection et with et; subst et; exact ⟨O0, by omega⟩)
      have hr' : wdR x n' = some r := hr
      rw [hr'] at k
      have hb : if 0 < 1 ∧ (tok (txt x n') 0).1 = 0 then r = .inl (tok (txt x n') 0).2.1 else bars (txt x n') 12 (n' + 2) (.inr (tok (txt x n') 0)) [] = some r := by
        unfold wS0 at hr
        by_cases q : (tok (txt x n') 0).1 = 0
        · rw [if_pos q, bars] at hr
          rw [if_pos ⟨by decide, q⟩]
          injection hr with hr; exact hr.symm
        · rw [if_neg q] at hr
          rw [if_neg (fun z => q z.2)]; exact hr
      refine c_slot I (Or.inr ⟨rfl, rfl, rfl⟩) (by omega) (by omega) (fun h1 A SP => ?_)
      obtain ⟨sm, I1, rA, LB, w9, w10⟩ := SP
      have a8 := LB.1
      refine c_tell34 I1 LB rA (by decide) (by decide) (by omega) (by omega) (by decide) (by decide) (by decide) hb (fun h2 R => ?_)
      obtain ⟨f2, e21, R⟩ := R
      have tx1 := I1.2.2.2.2.2.1
      cases r with
      | inl e0 =>
        dsimp only at R k
        refine ⟨fun _ => ?_, fun z => absurd (by show (-1 : Int32) < 0; decide) z⟩
        have f : fr (SLw A) h1 h2 := f2.mono (by unfold STl SLw; omega)
        obtain ⟨p1, p2, p3, p4, p5, p6, p7, p8, p9, p10, p11⟩ := I1.txs LB f
        refine k h2 (sm.trans (sameM.of f2 (by unfold STl; omega))) ⟨p1, p2, p3, ⟨e21, Nat.zero_le _, fun j hj => absurd hj (by show ¬ j < 0; omega)⟩, ⟨R.1, by have := R.2; show e0 + 1 ≤ 601; omega⟩, ⟨?_, ?_, ?_, ?_, ?_⟩, p4, p5, p6, p7, p8, p10 (f2.I (by unfold STl; omega)), p11⟩
        · rw [f2.I (by unfold STl; omega)]; exact tx1.1
        · exact tx1.2.1.mvA f2 LB (by unfold STl; omega) (by unfold STl; omega) (fun i hi => w9 i (by have := tx1.2.1.1; have : i < (aL x).length := hi; omega) (by omega))
        · rw [f2.I (by unfold STl; omega)]; exact tx1.2.2.1
        · exact tx1.2.2.2.1.mvA f2 LB (by unfold STl; omega) (by unfold STl; omega) (fun i hi => w10 i (by have : i < (aW x).length := hi; omega) (by have : i < (aW x).length := hi; omega))
        · exact fun i j a hi hj e1 e2 => tx1.2.2.2.2 i j a hi hj (by rw [← f2.R (by unfold STl; omega)]; exact e1) (by rw [← f2.R (by unfold STl; omega)]; exact e2)
      | inr L =>
        dsimp only at R k
        obtain ⟨e9, R, lm⟩ := R
        refine ⟨fun z => ?_, fun _ => ?_⟩
        · have z' : n32 (aW x).length < n32 0 := z
          rw [n32_lt (by omega) (by decide)] at z'; omega
        have x6 : hI h2 0 8 = n32 (aW x).length := by rw [f2.I (by unfold STl; omega)]; exact tx1.2.2.1
        rw [x6, show n32 (aW x).length + 1 = n32 ((aW x).length + 1) from n32_add _ 1]
        have f : fr (SLw A) h1 (wI h2 0 8 (n32 ((aW x).length + 1))) := fr_wI (f2.mono (by unfold STl SLw; omega)) _ (by unfold SLw; omega)
        have g : fr (fun q k => q = 0 ∧ k = 8) h2 (wI h2 0 8 (n32 ((aW x).length + 1))) := fr_wI (fr.rf _ _) _ (by omega)
        have y6 : hI (wI h2 0 8 (n32 ((aW x).length + 1))) 0 8 = n32 ((aW x).length + 1) := by rw [hI_wI, if_pos ⟨rfl, rfl⟩]
        generalize wI h2 0 8 (n32 ((aW x).length + 1)) = h3 at f g y6
        obtain ⟨p1, p2, p3, p4, p5, p6, p7, p8, p9, p10, p11⟩ := I1.txs LB f
        have R3 : CRul L h3 A := R.mv (fun b j b1 b2 => g.I (by omega))
        refine k h3 (sm.trans (sameM.of f (by unfold SLw; omega))) ⟨p1, p2, p3, ⟨by rw [g.I (by omega)]; exact e21, Nat.zero_le _, fun j hj => absurd hj (by show ¬ j < 0; omega)⟩, ⟨by rw [g.I (by omega)]; exact e9, by show 0 ≤ 601; omega⟩, ⟨?_, ?_, ?_, ?_, ?_⟩, p4, p5, p6, p7, p8, p10 (by rw [g.I (by omega), f2.I (by unfold STl; omega)]), p11⟩
        · have : hI h3 0 6 = hI h1 0 6 := by rw [g.I (by omega), f2.I (by unfold STl; omega)]
          rw [this]; exact tx1.1
        · exact tx1.2.1.mvA f LB (by unfold SLw; omega) (by unfold SLw; omega) (fun i hi => w9 i (by have := tx1.2.1.1; have : i < (aL x).length := hi; omega) (by omega))
        · show hI h3 0 8 = n32 (aW x ++ [L]).length
          rw [y6, List.length_append]; rfl
        · exact tx1.2.2.2.1.add f LB (by unfold SLw; omega) (by unfold SLw; omega) (fun i hi => w10 i (by omega) (by omega)) (by omega) rA R3
        · exact fun i j a hi hj e1 e2 => tx1.2.2.2.2 i j a hi hj (by rw [← f.R (by unfold SLw; omega)]; exact e1) (by rw [← f.R (by unfold SLw; omega)]; exact e2)
