/-! THE MODEL: a group's part ends -/
def SCl (f3 a k : Nat) : Prop := (a = 62 ∨ a = 63) ∧ k = f3 ∨ a = 51 ∧ k = 32 ∨ a = 72 ∨ a = 73 ∨ SPr a k
theorem SCl_SDl {b i f3 : Nat} (h : b ≤ f3) : ∀ a k, SCl f3 a k → SDl b i a k := by unfold SCl SPr SDl; omega
/-- cells of a state that a closing leaves -/
theorem DM.end {b : Nat} {s : St} {h h' : Hp} {f : Rec} {l : List Rec} {r : Rec} (D : DM b s h) (hK : sK s = f :: l) (S : fr (SCl (f 3)) h h') (e62 : hI h' 62 (f 3) = n32 (sN s)) (e63 : hI h' 63 (f 3) = hI h 63 (f 3)) (e32 : hI h' 51 32 = n32 l.length) (hS : StkM l h') : DM b (stp s (9, r)) h' := by
  obtain ⟨d1, d2, d3, d4, d5, d6, d7, d8⟩ := D
  rw [stp_end hK]
  refine ⟨?_, ?_, ?_, ?_, ?_, e32, hS, fun j j1 j2 => ?_⟩
  · rw [S.I (by unfold SCl SPr; omega)]; exact d1
  · rw [S.I (by unfold SCl SPr; omega)]; exact d2
  · rw [S.I (by unfold SCl SPr; omega)]; exact d3
  · rw [S.I (by unfold SCl SPr; omega)]; exact d4
  · rw [S.I (by unfold SCl SPr; omega)]; exact d5
  · have R := d8 j j1 j2
    by_cases q : j = f 3
    · subst q
      unfold RNode at R ⊢
      show hI h' 58 (f 3) = n32 (up2 (sD s) 62 (f 3) (sN s) 58 (f 3)) ∧ hI h' 59 (f 3) = n32 (up2 (sD s) 62 (f 3) (sN s) 59 (f 3)) ∧ hI h' 60 (f 3) = pm (up2 (sD s) 62 (f 3) (sN s) 60 (f 3)) ∧ hI h' 61 (f 3) = n32 (up2 (sD s) 62 (f 3) (sN s) 61 (f 3)) ∧ hI h' 62 (f 3) = n32 (up2 (sD s) 62 (f 3) (sN s) 62 (f 3)) ∧ hI h' 63 (f 3) = pm (up2 (sD s) 62 (f 3) (sN s) 63 (f 3)) ∧ (up2 (sD s) 62 (f 3) (sN s) 58 (f 3) < 4 → hI h' 64 (f 3) = n32 (up2 (sD s) 62 (f 3) (sN s) 64 (f 3)) ∧ hI h' 65 (f 3) = n32 (up2 (sD s) 62 (f 3) (sN s) 65 (f 3)) ∧ hI h' 66 (f 3) = n32 (up2 (sD s) 62 (f 3) (sN s) 66 (f 3)) ∧ hI h' 67 (f 3) = n32 (up2 (sD s) 62 (f 3) (sN s) 67 (f 3)) ∧ hI h' 68 (f 3) = n32 (up2 (sD s) 62 (f 3) (sN s) 68 (f 3)) ∧ hI h' 69 (f 3) = n32 (up2 (sD s) 62 (f 3) (sN s) 69 (f 3)) ∧ hI h' 70 (f 3) = n32 (up2 (sD s) 62 (f 3) (sN s) 70 (f 3)))
      have u : ∀ c, c ≠ 62 → up2 (sD s) 62 (f 3) (sN s) c (f 3) = sD s c (f 3) := fun c hc => by rw [up2_if, if_neg (by omega)]
      have w : ∀ c, 58 ≤ c → c ≤ 70 → c ≠ 62 → c ≠ 63 → hI h' c (f 3) = hI h c (f 3) := fun c c1 c2 c3 c4 => S.I (by unfold SCl SPr; omega)
      rw [u 58 (by decide), u 59 (by decide), u 60 (by decide), u 61 (by decide), u 63 (by decide), u 64 (by decide), u 65 (by decide), u 66 (by decide), u 67 (by decide), u 68 (by decide), u 69 (by decide), u 70 (by decide), up2_if, if_pos ⟨rfl, rfl⟩, w 58 (by decide) (by decide) (by decide) (by decide), w 59 (by decide) (by decide) (by decide) (by decide), w 60 (by decide) (by decide) (by decide) (by decide), w 61 (by decide) (by decide) (by decide) (by decide), w 64 (by decide) (by decide) (by decide) (by decide), w 65 (by decide) (by decide) (by decide) (by decide), w 66 (by decide) (by decide) (by decide) (by decide), w 67 (by decide) (by decide) (by decide) (by decide), w 68 (by decide) (by decide) (by decide) (by decide), w 69 (by decide) (by decide) (by decide) (by decide), w 70 (by decide) (by decide) (by decide) (by decide), e63]
      exact ⟨R.1, R.2.1, R.2.2.1, R.2.2.2.1, e62, R.2.2.2.2.2.1, R.2.2.2.2.2.2⟩
    · refine R.mvd (fun c => ?_) (fun c c1 c2 => S.I (by unfold SCl SPr; omega))
      show up2 (sD s) 62 (f 3) (sN s) c j = sD s c j
      rw [up2_if, if_neg (by omega)]
theorem DM.two {b : Nat} {s : St} {h h' : Hp} {f : Rec} {l : List Rec} {r : Rec} (D : DM b s h) (hK : sK s = f :: l) (S : fr (SCl (f 3)) h h') (e62 : hI h' 62 (f 3) = n32 (sN s)) (e63 : hI h' 63 (f 3) = n32 (sN s)) (e32 : hI h' 51 32 = n32 (l.length + 1)) (e72 : hI h' 72 l.length = n32 (f 3)) (e73 : hI h' 73 l.length = n32 1) (hS : StkM l h') : DM b (stp s (8, r)) h' := by
  obtain ⟨d1, d2, d3, d4, d5, d6, d7, d8⟩ := D
  rw [stp_two hK]
  refine ⟨?_, ?_, ?_, ?_, ?_, e32, ⟨by rw [turned_3]; exact e72, by rw [turned_2]; exact e73, hS⟩, fun j j1 j2 => ?_⟩
  · rw [S.I (by unfold SCl SPr; omega)]; exact d1
  · rw [S.I (by unfold SCl SPr; omega)]; exact d2
  · rw [S.I (by unfold SCl SPr; omega)]; exact d3
  · rw [S.I (by unfold SCl SPr; omega)]; exact d4
  · rw [S.I (by unfold SCl SPr; omega)]; exact d5
  · have R := d8 j j1 j2
    by_cases q : j = f 3
    · subst q
      unfold RNode at R ⊢
      show hI h' 58 (f 3) = n32 (up2 (up2 (sD s) 62 (f 3) (sN s)) 63 (f 3) (sN s + 1) 58 (f 3)) ∧ hI h' 59 (f 3) = n32 (up2 (up2 (sD s) 62 (f 3) (sN s)) 63 (f 3) (sN s + 1) 59 (f 3)) ∧ hI h' 60 (f 3) = pm (up2 (up2 (sD s) 62 (f 3) (sN s)) 63 (f 3) (sN s + 1) 60 (f 3)) ∧ hI h' 61 (f 3) = n32 (up2 (up2 (sD s) 62 (f 3) (sN s)) 63 (f 3) (sN s + 1) 61 (f 3)) ∧ hI h' 62 (f 3) = n32 (up2 (up2 (sD s) 62 (f 3) (sN s)) 63 (f 3) (sN s + 1) 62 (f 3)) ∧ hI h' 63 (f 3) = pm (up2 (up2 (sD s) 62 (f 3) (sN s)) 63 (f 3) (sN s + 1) 63 (f 3)) ∧ (up2 (up2 (sD s) 62 (f 3) (sN s)) 63 (f 3) (sN s + 1) 58 (f 3) < 4 → hI h' 64 (f 3) = n32 (up2 (up2 (sD s) 62 (f 3) (sN s)) 63 (f 3) (sN s + 1) 64 (f 3)) ∧ hI h' 65 (f 3) = n32 (up2 (up2 (sD s) 62 (f 3) (sN s)) 63 (f 3) (sN s + 1) 65 (f 3)) ∧ hI h' 66 (f 3) = n32 (up2 (up2 (sD s) 62 (f 3) (sN s)) 63 (f 3) (sN s + 1) 66 (f 3)) ∧ hI h' 67 (f 3) = n32 (up2 (up2 (sD s) 62 (f 3) (sN s)) 63 (f 3) (sN s + 1) 67 (f 3)) ∧ hI h' 68 (f 3) = n32 (up2 (up2 (sD s) 62 (f 3) (sN s)) 63 (f 3) (sN s + 1) 68 (f 3)) ∧ hI h' 69 (f 3) = n32 (up2 (up2 (sD s) 62 (f 3) (sN s)) 63 (f 3) (sN s + 1) 69 (f 3)) ∧ hI h' 70 (f 3) = n32 (up2 (up2 (sD s) 62 (f 3) (sN s)) 63 (f 3) (sN s + 1) 70 (f 3)))
      have u : ∀ c, c ≠ 62 → c ≠ 63 → up2 (up2 (sD s) 62 (f 3) (sN s)) 63 (f 3) (sN s + 1) c (f 3) = sD s c (f 3) := fun c hc hc2 => by rw [up2_if, if_neg (by omega), up2_if, if_neg (by omega)]
      have u62 : up2 (up2 (sD s) 62 (f 3) (sN s)) 63 (f 3) (sN s + 1) 62 (f 3) = sN s := by rw [up2_if, if_neg (by omega), up2_if, if_pos ⟨rfl, rfl⟩]
      have u63 : up2 (up2 (sD s) 62 (f 3) (sN s)) 63 (f 3) (sN s + 1) 63 (f 3) = sN s + 1 := by rw [up2_if, if_pos ⟨rfl, rfl⟩]
      have w : ∀ c, 58 ≤ c → c ≤ 70 → c ≠ 62 → c ≠ 63 → hI h' c (f 3) = hI h c (f 3) := fun c c1 c2 c3 c4 => S.I (by unfold SCl SPr; omega)
      rw [u 58 (by decide) (by decide), u 59 (by decide) (by decide), u 60 (by decide) (by decide), u 61 (by decide) (by decide), u62, u63, u 64 (by decide) (by decide), u 65 (by decide) (by decide), u 66 (by decide) (by decide), u 67 (by decide) (by decide), u 68 (by decide) (by decide), u 69 (by decide) (by decide), u 70 (by decide) (by decide), w 58 (by decide) (by decide) (by decide) (by decide), w 59 (by decide) (by decide) (by decide) (by decide), w 60 (by decide) (by decide) (by decide) (by decide), w 61 (by decide) (by decide) (by decide) (by decide), w 64 (by decide) (by decide) (by decide) (by decide), w 65 (by decide) (by decide) (by decide) (by decide), w 66 (by decide) (by decide) (by decide) (by decide), w 67 (by decide) (by decide) (by decide) (by decide), w 68 (by decide) (by decide) (by decide) (by decide), w 69 (by decide) (by decide) (by decide) (by decide), w 70 (by decide) (by decide) (by decide) (by decide)]
      exact ⟨R.1, R.2.1, R.2.2.1, R.2.2.2.1, e62, e63, R.2.2.2.2.2.2⟩
    · refine R.mvd (fun c => ?_) (fun c c1 c2 => S.I (by unfold SCl SPr; omega))
      show up2 (up2 (sD s) 62 (f 3) (sN s)) 63 (f 3) (sN s + 1) c j = sD s c j
      rw [up2_if, if_neg (by omega), up2_if, if_neg (by omega)]
