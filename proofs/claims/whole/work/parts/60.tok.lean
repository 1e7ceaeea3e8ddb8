/-! TOKENS OF A TEXT -/
/-- from p on, past all that f holds of -/
def skp (f : Nat → Bool) (T : List Nat) (p : Nat) : Nat := p + ((T.drop p).takeWhile f).length
theorem drop_at {T : List Nat} {p : Nat} (h : p < T.length) : T.drop p = T.getD p 0 :: T.drop (p + 1) := by
  rw [List.drop_eq_getElem_cons h, List.getD_eq_getElem?_getD, List.getElem?_eq_getElem h]; rfl
theorem skp_end {f : Nat → Bool} {T : List Nat} {p : Nat} (h : T.length ≤ p) : skp f T p = p := by
  unfold skp; rw [List.drop_of_length_le h]; rfl
theorem skp_no {f : Nat → Bool} {T : List Nat} {p : Nat} (h : p < T.length) (q : f (T.getD p 0) = false) : skp f T p = p := by
  unfold skp; rw [drop_at h, List.takeWhile_cons, q]; rfl
theorem skp_yes {f : Nat → Bool} {T : List Nat} {p : Nat} (h : p < T.length) (q : f (T.getD p 0) = true) : skp f T p = skp f T (p + 1) := by
  unfold skp; rw [drop_at h, List.takeWhile_cons, q]; simp; omega
theorem skp_ge (f : Nat → Bool) (T : List Nat) (p : Nat) : p ≤ skp f T p := Nat.le_add_right _ _
theorem skp_le {f : Nat → Bool} {T : List Nat} {p : Nat} (h : p ≤ T.length) : skp f T p ≤ T.length := by
  unfold skp
  have h1 : ((T.drop p).takeWhile f).length ≤ (T.drop p).length := (List.takeWhile_prefix f).length_le
  rw [List.length_drop] at h1
  omega
/-- what stops -/
theorem skp_stop {f : Nat → Bool} {T : List Nat} : ∀ (r p : Nat), r + p = T.length → skp f T p < T.length → f (T.getD (skp f T p) 0) = false
  | 0, p, hr, h => by rw [skp_end (by omega)] at h; omega
  | r + 1, p, hr, h => by
    cases q : f (T.getD p 0) with
    | false => rw [skp_no (by omega) q]; exact q
    | true => rw [skp_yes (by omega) q] at h ⊢; exact skp_stop r (p + 1) (by omega) h
def isB (c : Nat) : Bool := c == 32 || c == 10
def isL (c : Nat) : Bool := decide (97 ≤ c) && decide (c ≤ 122)
def isD (c : Nat) : Bool := decide (48 ≤ c) && decide (c ≤ 57)
def isS (c : Nat) : Bool := c == 44 || c == 59 || c == 123 || c == 125
/-- kind (0 end, 1 letters, 2 a numeral, 3 other, or the sign itself), from, past -/
abbrev Tk : Type := Nat × Nat × Nat
def tokA (T : List Nat) (a : Nat) : Tk :=
  if a < T.length then
    (if isL (T.getD a 0) then (1, a, skp isL T a)
     else if isD (T.getD a 0) then (if 4 < skp isD T a - a then 3 else 2, a, skp isD T a)
     else if isS (T.getD a 0) then (T.getD a 0, a, a + 1)
     else (3, a, a + 1))
  else (0, a, a)
def tok (T : List Nat) (p : Nat) : Tk := tokA T (skp isB T p)
def nxt (T : List Nat) (t : Tk) : Tk := tok T t.2.2
def slc (T : List Nat) (a b : Nat) : List Nat := (T.drop a).take (b - a)
def tkW (T : List Nat) (t : Tk) : List Nat := slc T t.2.1 t.2.2
theorem slc_self (T : List Nat) (a : Nat) : slc T a a = [] := by simp [slc]
theorem slc_succ {T : List Nat} {a p : Nat} (h1 : a ≤ p) (h2 : p < T.length) : slc T a (p + 1) = slc T a p ++ [T.getD p 0] := by
  unfold slc
  rw [show p + 1 - a = (p - a) + 1 by omega, List.take_succ, List.getElem?_drop, show a + (p - a) = p by omega, List.getElem?_eq_getElem h2, List.getD_eq_getElem?_getD, List.getElem?_eq_getElem h2]
  rfl
theorem slc_len {T : List Nat} {a p : Nat} (h1 : a ≤ p) (h2 : p ≤ T.length) : (slc T a p).length = p - a := by
  unfold slc; rw [List.length_take, List.length_drop]; omega
/-- letters as a number; digits as a number -/
def w27 (w : List Nat) : Nat := w.foldl (fun v c => v * 27 + (c - 96)) 0
def w10 (w : List Nat) : Nat := w.foldl (fun v c => 10 * v + (c - 48)) 0
theorem w27_snoc (w : List Nat) (c : Nat) : w27 (w ++ [c]) = w27 w * 27 + (c - 96) := by simp [w27, List.foldl_append]
theorem w10_snoc (w : List Nat) (c : Nat) : w10 (w ++ [c]) = 10 * w10 w + (c - 48) := by simp [w10, List.foldl_append]
theorem snoc_cases (w : List Nat) : w = [] ∨ ∃ u c, w = u ++ [c] := by
  rcases List.eq_nil_or_concat w with h | ⟨u, c, h⟩
  · exact Or.inl h
  · exact Or.inr ⟨u, c, by rw [h, List.concat_eq_append]⟩
theorem w27_lt : ∀ (n : Nat) (w : List Nat), w.length = n → (∀ c ∈ w, c ≤ 122) → w27 w < 27 ^ n
  | 0, w, h, _ => by rw [List.length_eq_zero_iff.mp h]; decide
  | n + 1, w, h, q => by
    rcases snoc_cases w with rfl | ⟨u, c, rfl⟩
    · simp at h
    · rw [List.length_append, List.length_singleton] at h
      have := w27_lt n u (by omega) (fun c hc => q c (by simp [hc]))
      have hc := q c (by simp)
      rw [w27_snoc, Nat.pow_succ]
      omega
theorem w27_inj : ∀ (n : Nat) (w w' : List Nat), w.length = n → (∀ c ∈ w, 97 ≤ c ∧ c ≤ 122) → (∀ c ∈ w', 97 ≤ c ∧ c ≤ 122) → w27 w = w27 w' → w = w'
  | 0, w, w', h, _, q', e => by
    rw [List.length_eq_zero_iff.mp h] at e ⊢
    rcases snoc_cases w' with rfl | ⟨u, c, rfl⟩
    · rfl
    · have := q' c (by simp)
      rw [w27_snoc] at e
      have e0 : w27 [] = 0 := rfl
      omega
  | n + 1, w, w', h, q, q', e => by
    rcases snoc_cases w with rfl | ⟨u, c, rfl⟩
    · simp at h
    · have hc := q c (by simp)
      rcases snoc_cases w' with rfl | ⟨u', c', rfl⟩
      · rw [w27_snoc] at e
        have e0 : w27 [] = 0 := rfl
        omega
      · have hc' := q' c' (by simp)
        rw [w27_snoc, w27_snoc] at e
        rw [List.length_append, List.length_singleton] at h
        rw [show c = c' by omega, w27_inj n u u' (by omega) (fun c hc => q c (by simp [hc])) (fun c hc => q' c (by simp [hc])) (by omega)]
theorem w10_lt : ∀ (n : Nat) (w : List Nat), w.length = n → (∀ c ∈ w, c ≤ 57) → w10 w < 10 ^ n
  | 0, w, h, _ => by rw [List.length_eq_zero_iff.mp h]; decide
  | n + 1, w, h, q => by
    rcases snoc_cases w with rfl | ⟨u, c, rfl⟩
    · simp at h
    · rw [List.length_append, List.length_singleton] at h
      have := w10_lt n u (by omega) (fun c hc => q c (by simp [hc]))
      have hc := q c (by simp)
      rw [w10_snoc, Nat.pow_succ]
      omega
/-- what a stretch is made of -/
theorem slc_all {f : Nat → Bool} {T : List Nat} {a : Nat} : ∀ c ∈ slc T a (skp f T a), f c = true := by
  intro c hc
  unfold slc skp at hc
  rw [show a + ((T.drop a).takeWhile f).length - a = ((T.drop a).takeWhile f).length by omega] at hc
  have e : (T.drop a).take ((T.drop a).takeWhile f).length = (T.drop a).takeWhile f := by
    obtain ⟨t, ht⟩ := List.takeWhile_prefix (l := T.drop a) f
    conv => lhs; arg 2; rw [← ht]
    rw [List.take_left']
    rfl
  rw [e] at hc
  have := List.all_takeWhile (l := T.drop a) (p := f)
  rw [List.all_eq_true] at this
  exact this c hc
theorem tok_from {T : List Nat} {p : Nat} (h : p ≤ T.length) : p ≤ (tok T p).2.1 ∧ (tok T p).2.1 ≤ (tok T p).2.2 ∧ (tok T p).2.2 ≤ T.length ∧ ((tok T p).1 ≠ 0 → (tok T p).2.1 < (tok T p).2.2) ∧ ((tok T p).1 = 0 ↔ (tok T p).2.1 = T.length) := by
  have h1 := skp_ge isB T p
  have h2 := skp_le (f := isB) h
  unfold tok
  generalize skp isB T p = a at h1 h2
  unfold tokA
  split
  · rename_i ha
    have hL := skp_ge isL T a
    have hL2 := skp_le (f := isL) h2
    have hD := skp_ge isD T a
    have hD2 := skp_le (f := isD) h2
    have gL := skp_ge isL T (a + 1)
    have gD := skp_ge isD T (a + 1)
    split
    · rename_i q
      rw [skp_yes ha q] at hL hL2 ⊢
      refine ⟨h1, hL, hL2, fun _ => ?_, ?_⟩
      · show a < skp isL T (a + 1); omega
      · show 1 = 0 ↔ a = T.length; omega
    · split
      · rename_i q
        rw [skp_yes ha q] at hD hD2 ⊢
        refine ⟨h1, hD, hD2, fun _ => ?_, ?_⟩
        · show a < skp isD T (a + 1); omega
        · show (if _ then 3 else 2) = 0 ↔ a = T.length
          split <;> omega
      · split
        · rename_i q
          refine ⟨h1, by show a ≤ a + 1; omega, by show a + 1 ≤ _; omega, fun _ => by show a < a + 1; omega, ?_⟩
          show T.getD a 0 = 0 ↔ a = T.length
          have q' : T.getD a 0 ≠ 0 := fun z => by rw [z] at q; exact absurd q (by decide)
          exact ⟨fun z => absurd z q', fun z => by omega⟩
        · refine ⟨h1, by show a ≤ a + 1; omega, by show a + 1 ≤ _; omega, fun _ => by show a < a + 1; omega, ?_⟩
          show 3 = 0 ↔ a = T.length
          omega
  · rename_i ha
    exact ⟨h1, Nat.le_refl _, h2, fun z => absurd rfl z, by show 0 = 0 ↔ a = T.length; omega⟩
theorem tok_letters {T : List Nat} {p : Nat} (h : (tok T p).1 = 1) : ∀ c ∈ tkW T (tok T p), 97 ≤ c ∧ c ≤ 122 := by
  unfold tkW
  unfold tok at h ⊢
  generalize skp isB T p = a at h
  unfold tokA at h ⊢
  by_cases ha : a < T.length
  · rw [if_pos ha] at h ⊢
    by_cases q : isL (T.getD a 0)
    · rw [if_pos q]
      intro c hc
      have := slc_all (f := isL) c hc
      unfold isL at this
      simpa using this
    · rw [if_neg q] at h
      by_cases q2 : isD (T.getD a 0)
      · rw [if_pos q2] at h
        revert h
        show (if _ then 3 else 2) = 1 → _
        split <;> intro h <;> omega
      · rw [if_neg q2] at h
        by_cases q3 : isS (T.getD a 0)
        · rw [if_pos q3] at h
          have h' : T.getD a 0 = 1 := h
          rw [h'] at q3
          exact absurd q3 (by decide)
        · rw [if_neg q3] at h
          exact absurd h (by show ¬ 3 = 1; decide)
  · rw [if_neg ha] at h
    exact absurd h (by show ¬ 0 = 1; decide)
