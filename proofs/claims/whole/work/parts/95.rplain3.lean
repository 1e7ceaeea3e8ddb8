/-! THE MODEL: plain; a part's signs -/
theorem rem_mono {i j : Nat} (h : i ≤ j) : ∀ L : List Rec, (rem L j).length ≤ (rem L i).length
  | [] => Nat.le_refl _
  | r :: L => by
    have ih := rem_mono h L
    unfold rem at ih ⊢
    rw [List.filter_cons, List.filter_cons]
    by_cases q : j ≤ r 11
    · rw [if_pos (by simpa using q), if_pos (by simp; omega)]
      simp only [List.length_cons]; omega
    · rw [if_neg (by simpa using q)]
      split
      · simp only [List.length_cons]; omega
      · exact ih
theorem OkS.rem {b : Nat} {s : St} (O : OkS b s) {i : Nat} (h1 : b ≤ i) (h2 : i < sN s) : (rem (sL s) i).length = (rem (sL s) (i + 1)).length + (if sD s 58 i < 4 then 1 else 0) := by
  rcases O.2.2.2.2.2.2.2.2.2.2 i h1 h2 with ⟨k, e⟩ | ⟨k, r, e, -, -⟩
  · rw [if_neg (by omega), e]; rfl
  · rw [if_pos k, e]; rfl
theorem SG_len {b : Nat} {s : St} {X : Fg} (O : OkS b s) : ∀ a e u q, Fo (sD s) a e u q → b ≤ a → e ≤ sN s → ∀ p, (SG (sD s) X p a e).length + 6 * (rem (sL s) e).length ≤ 4 * (e - a) + 6 * (rem (sL s) a).length := by
  refine Fo_ind (fun a u q => ?_) (fun a e u q g f1 f2 f3 f4 f5 f6 f7 f8 i1 i2 i3 => ?_)
  · intro _ _ p
    rw [SG_nil]; simp
  · intro ha he p
    obtain ⟨g1, g2, g3, g4⟩ := id g
    rw [SG_cons g, List.length_append]
    have j3 := i3 (by omega) he p
    have rm := rem_mono (show a ≤ sD s 62 a by omega) (sL s)
    have ra := O.rem ha (by omega)
    by_cases n1 : X.1 a = true
    · rw [if_pos n1, List.length_nil]; omega
    · rw [if_neg n1]
      by_cases n2 : X.2.1 a = true
      · rw [if_pos n2, List.length_append]
        have j1 := i1 (by omega) (by omega) p
        have j2 := i2 (by omega) (by omega) p
        split at ra <;> omega
      · rw [if_neg n2]
        unfold vsG
        by_cases k4 : sD s 58 a < 4
        · rw [if_pos k4] at ra ⊢
          have := (f4 k4).1
          have e2 : (rem (sL s) (sD s 62 a)).length = (rem (sL s) (a + 1)).length := by rw [this]
          simp only [List.length_cons, List.length_nil]
          omega
        · rw [if_neg k4] at ra ⊢
          have j1 := i1 (by omega) (by omega) 0
          have j2 := i2 (by omega) (by omega) (if sD s 58 a = 6 then 1 else 0)
          simp only [List.length_cons, List.length_append, List.length_nil]
          omega
def inB (b : Nat) (s : St) (cl : List Nat) : Prop := ∀ x ∈ cl, b ≤ x ∧ x < sN s
theorem SA7 {nd : Nat → Nat → Nat} {hd : Nat → Nat} {X : Fg} {a e : Nat} (g : Gd nd a e) (h3 : nd 58 a < 6 → nd 63 a = 0) : (7 ∈ SA nd hd X a e) ↔ (X.1 a = false ∧ (X.2.1 a = true ∧ (7 ∈ SA nd hd X (a + 1) (md nd a) ∨ 7 ∈ SA nd hd X (md nd a) (nd 62 a)) ∨ X.2.1 a = false ∧ 4 ≤ nd 58 a ∧ (nd 58 a = 7 ∨ 7 ∈ SA nd hd X (a + 1) (md nd a) ∨ 7 ∈ SA nd hd X (md nd a) (nd 62 a)))) ∨ 7 ∈ SA nd hd X (nd 62 a) e := by
  rw [SA_cons g, List.mem_append]
  refine or_congr ?_ Iff.rfl
  by_cases n1 : X.1 a = true
  · rw [if_pos n1]; simp [n1]
  · have n1' : X.1 a = false := by simpa using n1
    rw [if_neg n1]
    by_cases n2 : X.2.1 a = true
    · rw [if_pos n2, List.mem_append]; simp [n1', n2]
    · have n2' : X.2.1 a = false := by simpa using n2
      rw [if_neg n2]
      unfold vsC
      by_cases k4 : nd 58 a < 4
      · rw [if_pos k4]
        have := lf7 nd a
        simp [n1', n2', this]
        omega
      · rw [if_neg k4]
        unfold grC
        by_cases k6 : nd 58 a < 6
        · have em : md nd a = nd 62 a := by unfold md; rw [if_pos (h3 k6)]
          rw [if_pos k6, em, SA_nil]
          simp only [List.mem_cons, n1', n2', true_and, false_and, false_or, Bool.false_eq_true, List.not_mem_nil, or_false]
          constructor
          · rintro (z | z | z | z)
            · omega
            · omega
            · omega
            · exact ⟨by omega, Or.inr z⟩
          · rintro ⟨_, z | z⟩
            · omega
            · exact Or.inr (Or.inr (Or.inr z))
        · rw [if_neg k6]
          simp only [List.mem_cons, List.mem_append, n1', n2', true_and, false_and, false_or, Bool.false_eq_true]
          constructor
          · rintro (z | z | z | z | z | z)
            · exact ⟨by omega, Or.inl z.symm⟩
            · omega
            · omega
            · exact ⟨by omega, Or.inr (Or.inl z)⟩
            · omega
            · exact ⟨by omega, Or.inr (Or.inr z)⟩
          · rintro ⟨_, z | z | z⟩
            · exact Or.inl z.symm
            · exact Or.inr (Or.inr (Or.inr (Or.inl z)))
            · exact Or.inr (Or.inr (Or.inr (Or.inr (Or.inr z))))
/-- signs of one leaf -/
theorem q_leafSigns {d P a : Nat} {s : St} {S cl : List Nat} {h : Hp} {Q : Hp → Prop} (R : RD (96 * d) s h) (ha : 96 * d ≤ a) (hN : a < sN s) (k4 : sD s 58 a < 4) (G : SgM P S cl h) (hP : P ≤ 800) (hS : S.length + 7 ≤ 800)
    (k : ∀ h', fr SSg h h' → lowS P h h' → SgM P (S ++ [sD s 64 a + 1, sD s 65 a + 1, sD s 66 a + 1, sD s 67 a + 1, sD s 68 a + 1, sD s 69 a + 1, sD s 70 a + 1]) cl h' → Q h') :
    vp_in (n32 a) 2304 ∧ (m_X12_sign (n32 P) (hI h 64 (ix (n32 a))) h (fun (h8 : Hp) => vp_in (n32 a) 2304 ∧ (m_X12_sign (n32 P) (hI h8 65 (ix (n32 a))) h8 (fun (h10 : Hp) => vp_in (n32 a) 2304 ∧ (m_X12_sign (n32 P) (hI h10 66 (ix (n32 a))) h10 (fun (h12 : Hp) => vp_in (n32 a) 2304 ∧ (m_X12_sign (n32 P) (hI h12 67 (ix (n32 a))) h12 (fun (h14 : Hp) => vp_in (n32 a) 2304 ∧ (m_X12_sign (n32 P) (hI h14 68 (ix (n32 a))) h14 (fun (h16 : Hp) => vp_in (n32 a) 2304 ∧ (m_X12_sign (n32 P) (hI h16 69 (ix (n32 a))) h16 (fun (h18 : Hp) => vp_in (n32 a) 2304 ∧ (m_X12_sign (n32 P) (hI h18 70 (ix (n32 a))) h18 Q))))))))))))) := by
  have hl := R.lt
  have v : vp_in (n32 a) 2304 := vpI (by omega) (by decide)
  have lf : ∀ {h'}, fr SSg h h' → ∀ j, 64 ≤ j → j ≤ 70 → hI h' j a = sgv (sD s j a + 1) := by
    intro h' f j j1 j2
    obtain ⟨-, -, -, -, -, -, z⟩ := R.2.2 a ha hN
    obtain ⟨z0, z1, z2, z3, z4, z5, z6⟩ := z k4
    rw [f.I (by unfold SSg; omega)]
    rcases (show j = 64 ∨ j = 65 ∨ j = 66 ∨ j = 67 ∨ j = 68 ∨ j = 69 ∨ j = 70 by omega) with rfl | rfl | rfl | rfl | rfl | rfl | rfl
    · exact z0
    · exact z1
    · exact z2
    · exact z3
    · exact z4
    · exact z5
    · exact z6
  rw [n32_ix (by omega)]
  refine ⟨v, ?_⟩
  rw [lf (fr.rf _ _) 64 (by decide) (by decide)]
  refine q_sign G hP (by omega) (fun h1 f1 w1 G1 => ⟨v, ?_⟩)
  rw [lf f1 65 (by decide) (by decide)]
  refine q_sign G1 hP (by rw [List.length_append, List.length_singleton]; omega) (fun h2 f2 w2 G2 => ⟨v, ?_⟩)
  have g2 := f1.trans f2
  rw [lf g2 66 (by decide) (by decide)]
  refine q_sign G2 hP (by simp only [List.length_append, List.length_singleton]; omega) (fun h3 f3 w3 G3 => ⟨v, ?_⟩)
  have g3 := g2.trans f3
  rw [lf g3 67 (by decide) (by decide)]
  refine q_sign G3 hP (by simp only [List.length_append, List.length_singleton]; omega) (fun h4 f4 w4 G4 => ⟨v, ?_⟩)
  have g4 := g3.trans f4
  rw [lf g4 68 (by decide) (by decide)]
  refine q_sign G4 hP (by simp only [List.length_append, List.length_singleton]; omega) (fun h5 f5 w5 G5 => ⟨v, ?_⟩)
  have g5 := g4.trans f5
  rw [lf g5 69 (by decide) (by decide)]
  refine q_sign G5 hP (by simp only [List.length_append, List.length_singleton]; omega) (fun h6 f6 w6 G6 => ⟨v, ?_⟩)
  have g6 := g5.trans f6
  rw [lf g6 70 (by decide) (by decide)]
  refine q_sign G6 hP (by simp only [List.length_append, List.length_singleton]; omega) (fun h7 f7 w7 G7 => ?_)
  refine k h7 (g6.trans f7) ((((((lowS.trans w1 w2).trans w3).trans w4).trans w5).trans w6).trans w7) ?_
  simpa using G7
