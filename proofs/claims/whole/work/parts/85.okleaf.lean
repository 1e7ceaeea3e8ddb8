/-! WHAT HOLDS OF A DEAL WHILE IT IS READ -/
def RemAt (s : St) (i : Nat) : Prop := (4 ≤ sD s 58 i ∧ rem (sL s) i = rem (sL s) (i + 1)) ∨ (sD s 58 i < 4 ∧ ∃ r, rem (sL s) i = r :: rem (sL s) (i + 1) ∧ LfAt s r i ∧ LfOk r)
def WI (b : Nat) (s : St) : Prop := (∀ j, j < sN s → sD s 60 j ≤ j) ∧ (∀ f ∈ sK s, f 3 < sN s ∧ b ≤ f 3 ∧ 4 ≤ sD s 58 (f 3) ∧ f 2 < 2) ∧ StkC (sD s) (sK s) ∧ StkB (sK s) ∧ (∀ r ∈ sL s, LfOk r ∧ b ≤ r 11 ∧ r 11 < sN s) ∧ (∀ i, b ≤ i → i < sN s → NdOk b s i) ∧ ∀ i, b ≤ i → i < sN s → RemAt s i
theorem LfAt.mv {s s' : St} {r : Rec} {i : Nat} (L : LfAt s r i) (hm : ∀ j, j < i + 1 → sD s 60 j ≤ j) (e : ∀ c j, 58 ≤ c → c ≤ 61 → j < i + 1 → sD s' c j = sD s c j) (e2 : ∀ c, 64 ≤ c → c ≤ 70 → sD s' c i = sD s c i) : LfAt s' r i := by
  have h60 := e 60 i (by decide) (by decide) (by omega)
  have h61 := e 61 i (by decide) (by decide) (by omega)
  have hc : cxA s' i = cxA s i := by
    unfold cxA
    rw [h60, h61]
    exact cx_same hm e _ _ _ (by have := hm i (by omega); omega)
  unfold LfAt at L ⊢
  rw [hc, e 58 i (by decide) (by decide) (by omega), e2 64 (by decide) (by decide), e2 65 (by decide) (by decide), e2 66 (by decide) (by decide), e2 67 (by decide) (by decide), e2 68 (by decide) (by decide), e2 69 (by decide) (by decide), e2 70 (by decide) (by decide)]
  exact L
/-- a node keeps what holds of it when the table grows -/
theorem NdOk.mv {b : Nat} {s s' : St} {i : Nat} (N : NdOk b s i) (hm : ∀ j, j < i + 1 → sD s 60 j ≤ j) (e : ∀ c j, 58 ≤ c → c ≤ 61 → j < i + 1 → sD s' c j = sD s c j) (e62 : i < sD s' 62 i ∧ sD s' 62 i ≤ sN s') (e63 : sD s' 63 i ≤ sN s' + 1) : NdOk b s' i := by
  have h60 := e 60 i (by decide) (by decide) (by omega)
  have h61 := e 61 i (by decide) (by decide) (by omega)
  have h58 := e 58 i (by decide) (by decide) (by omega)
  have h59 := e 59 i (by decide) (by decide) (by omega)
  have l60 := hm i (by omega)
  have hd : dep (sD s') (i + 1) (sD s 60 i) = dep (sD s) (i + 1) (sD s 60 i) := dep_same hm (fun j hj => e 60 j (by decide) (by decide) hj) _ _ (by omega)
  obtain ⟨n1, n2, n3, n4, n5, n6, n7, n8, n9, n10, n11, n12⟩ := N
  unfold NdOk
  rw [h58, h59, h60, h61, hd]
  refine ⟨n1, ?_, n3, n4, n5, n6, n7, n8, e62.1, e62.2, e63, n12⟩
  rcases n2 with q | ⟨q1, q2, q3⟩
  · exact Or.inl q
  · refine Or.inr ⟨q1, q2, ?_⟩
    rw [e 58 (sD s 60 i - 1) (by decide) (by decide) (by omega)]
    exact q3
