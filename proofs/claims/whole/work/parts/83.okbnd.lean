/-! BOUNDS OF WHAT STANDS AROUND A PART; leaves from a node on -/
def CB (d : Nat) (c : Rec) : Prop := c 4 ≤ 399 * d ∧ c 5 ≤ 9 ^ d ∧ c 6 < 256 ∧ c 7 < 256
def StkB : List Rec → Prop
  | [] => True
  | f :: l => CB (l.length + 1) f ∧ StkB l
theorem StkB.ctx : ∀ {K : List Rec}, StkB K → CB K.length (ctx K)
  | [], _ => ⟨Nat.le_refl _, Nat.le_refl _, by show 0 < 256; decide, by show 0 < 256; decide⟩
  | _ :: _, h => h.1
theorem brV_lt {c : Rec} {b w : Nat} (h : c 7 < 256) (hb : b < 8) : brV c b w < 256 := by
  unfold brV
  have p : 2 ^ b ≤ 2 ^ 7 := pw_le (by omega)
  refine Nat.or_lt_two_pow (n := 8) (Nat.lt_of_le_of_lt Nat.and_le_left h) ?_
  split
  · omega
  · decide
theorem brM_lt {c : Rec} {b : Nat} (h : c 6 < 256) (hb : b < 8) : brM c b < 256 := by
  unfold brM
  have p : 2 ^ b ≤ 2 ^ 7 := pw_le (by omega)
  exact Nat.or_lt_two_pow (n := 8) h (by omega)
theorem brT_le (c : Rec) (b w : Nat) : brT c b w ≤ c 5 := by
  unfold brT
  split
  · exact Nat.zero_le _
  · exact Nat.le_refl _
theorem inside_CB {k n p d : Nat} {c : Rec} (C : CB d c) (h4 : k = 4 → n ≤ 399) (h5 : k = 5 → n ≤ 9) (h6 : k = 6 → n < 5) (h7 : k = 7 → n < 3) (hk : 4 ≤ k) (hk7 : k ≤ 7) : CB (d + 1) (inside k n p c) := by
  obtain ⟨c4, c5, c6, c7⟩ := C
  have e9 : 9 ^ (d + 1) = 9 ^ d * 9 := Nat.pow_succ 9 d
  unfold inside
  by_cases q4 : k = 4
  · rw [if_pos q4]
    refine ⟨?_, ?_, c6, c7⟩
    · show c 4 + n ≤ 399 * (d + 1); have := h4 q4; omega
    · show c 5 ≤ 9 ^ (d + 1); omega
  · rw [if_neg q4]
    by_cases q5 : k = 5
    · rw [if_pos q5]
      refine ⟨?_, ?_, c6, c7⟩
      · show c 4 ≤ 399 * (d + 1); omega
      · show c 5 * n ≤ 9 ^ (d + 1)
        rw [e9]
        exact Nat.mul_le_mul c5 (h5 q5)
    · rw [if_neg q5]
      by_cases q6 : k = 6
      · rw [if_pos q6]
        have := brT_le c n (1 - p)
        refine ⟨?_, ?_, brM_lt c6 (by have := h6 q6; omega), brV_lt c7 (by have := h6 q6; omega)⟩
        · show c 4 ≤ 399 * (d + 1); omega
        · show brT c n (1 - p) ≤ 9 ^ (d + 1); omega
      · rw [if_neg q6]
        have := brT_le c (5 + n) p
        have h7' := h7 (by omega)
        refine ⟨?_, ?_, brM_lt c6 (by omega), brV_lt c7 (by omega)⟩
        · show c 4 ≤ 399 * (d + 1); omega
        · show brT c (5 + n) p ≤ 9 ^ (d + 1); omega
theorem CB.eq {d : Nat} {c c' : Rec} (C : CB d c') (h : eq47 c c') : CB d c := by
  obtain ⟨h4, h5, h6, h7⟩ := h
  unfold CB
  rw [h4, h5, h6, h7]
  exact C
theorem CB.six {c : Rec} {d : Nat} (C : CB d c) (h : d ≤ 6) : c 4 ≤ 2394 ∧ c 5 ≤ 1000000 ∧ c 6 < 256 ∧ c 7 < 256 := by
  obtain ⟨c4, c5, c6, c7⟩ := C
  have p : 9 ^ d ≤ 9 ^ 6 := Nat.pow_le_pow_right (by decide) h
  exact ⟨by omega, by omega, c6, c7⟩
theorem rem_app (L : List Rec) (r : Rec) (j : Nat) : rem (L ++ [r]) j = rem L j ++ (if j ≤ r 11 then [r] else []) := by
  unfold rem
  rw [List.filter_append]
  congr 1
  by_cases q : j ≤ r 11
  · rw [if_pos q]; simp [q]
  · rw [if_neg q]; simp [q]
theorem rem_none {L : List Rec} {n : Nat} (h : ∀ r ∈ L, r 11 < n) : rem L n = [] := by
  unfold rem
  rw [List.filter_eq_nil_iff]
  intro r hr
  have := h r hr
  simp; omega
theorem rem_whole {L : List Rec} {n : Nat} (h : ∀ r ∈ L, n ≤ r 11) : rem L n = L := by
  unfold rem
  rw [List.filter_eq_self]
  intro r hr
  have := h r hr
  simp; omega
