/-! WHAT BARS, BY PLACES -/
theorem fsome_is {α : Type} {f : Nat → Option α} {n : Nat} : (fsome f 0 n).isSome = true ↔ ∃ i, i < n ∧ (f i).isSome = true := by
  unfold fsome
  rw [List.findSome?_isSome_iff]
  constructor
  · rintro ⟨i, hi, h⟩
    rw [List.mem_range'_1] at hi
    exact ⟨i, by omega, h⟩
  · rintro ⟨i, hi, h⟩
    exact ⟨i, by rw [List.mem_range'_1]; omega, h⟩
theorem bars1_iff {F : Nat → Nat} {S L : List Rec} : bars1 F S L = true ↔ ∃ k, k < S.length ∧ ∃ a, a < L.length ∧ sOf (S.getD k rec0 0) (S.getD k rec0 1) (L.getD a rec0) = true ∧ (S.getD k rec0 2 = 0 ∨ ∃ b, b < L.length ∧ sPair F (S.getD k rec0) a (L.getD a rec0) b (L.getD b rec0) = true) := by
  unfold bars1 brc
  rw [fsome_is]
  refine exists_congr (fun k => and_congr_right (fun _ => ?_))
  rw [Option.isSome_map]
  unfold barS
  rw [fsome_is]
  refine exists_congr (fun a => and_congr_right (fun _ => ?_))
  unfold barP
  by_cases y : sOf (S.getD k rec0 0) (S.getD k rec0 1) (L.getD a rec0) = true
  · rw [if_pos y]
    by_cases z : S.getD k rec0 2 = 0
    · rw [if_pos z]; exact ⟨fun _ => ⟨y, Or.inl z⟩, fun _ => rfl⟩
    · rw [if_neg z, Option.isSome_map, fsome_is]
      constructor
      · rintro ⟨b, hb, h⟩
        refine ⟨y, Or.inr ⟨b, hb, ?_⟩⟩
        by_cases w : sPair F (S.getD k rec0) a (L.getD a rec0) b (L.getD b rec0) = true
        · exact w
        · rw [if_neg w] at h; cases h
      · rintro ⟨-, h⟩
        rcases h with h | ⟨b, hb, h⟩
        · exact absurd h z
        · exact ⟨b, hb, by rw [if_pos h]; rfl⟩
  · rw [if_neg y]
    constructor
    · intro h; cases h
    · rintro ⟨h, -⟩; exact absurd h y
