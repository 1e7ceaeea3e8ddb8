/-! A LEAF'S TIMES BY A CODE: by the walk up, and by mask and value -/
theorem tb_eq {a b : Nat} : a = b ↔ ∀ j, a.testBit j = b.testBit j := ⟨fun h j => by rw [h], Nat.eq_of_testBit_eq⟩
theorem bit_mod (c n : Nat) : (c >>> n) % 2 = if c.testBit n then 1 else 0 := by
  rw [Nat.testBit_eq_decide_div_mod_eq, Nat.shiftRight_eq_div_pow]
  by_cases h : c / 2 ^ n % 2 = 1
  · simp [h]
  · simp [h]; omega
theorem own_lo {c bf n : Nat} (h : n < 5) : (own c bf).testBit n = c.testBit n := by
  unfold own
  have e : c % 32 + c / 2 ^ bf / 32 * 32 = 2 ^ 5 * (c / 2 ^ bf / 32) + c % 32 := by omega
  rw [e, Nat.testBit_two_pow_mul_add _ (by omega : c % 32 < 2 ^ 5), if_pos h, show (32 : Nat) = 2 ^ 5 from rfl, Nat.testBit_mod_two_pow]
  simp [h]
theorem own_hi {c bf n : Nat} : (own c bf).testBit (5 + n) = c.testBit (5 + bf + n) := by
  unfold own
  have e : c % 32 + c / 2 ^ bf / 32 * 32 = 2 ^ 5 * (c / 2 ^ bf / 32) + c % 32 := by omega
  rw [e, Nat.testBit_two_pow_mul_add _ (by omega : c % 32 < 2 ^ 5), if_neg (by omega), show (32 : Nat) = 2 ^ 5 from rfl, Nat.div_div_eq_div_mul, ← Nat.pow_add, Nat.testBit_div_two_pow]
  congr 1
  omega
/-- the masks fit: nothing of the value outside the mask, both below 256 -/
def mOk (c : Rec) : Prop := c 6 < 256 ∧ c 7 < 256 ∧ ∀ j, (c 7).testBit j = true → (c 6).testBit j = true
theorem mk5 (a b c d e f g i : Nat) : mkF a b c d e f g i 4 = e ∧ mkF a b c d e f g i 5 = f ∧ mkF a b c d e f g i 6 = g ∧ mkF a b c d e f g i 7 = i := by simp [mkF]
theorem br_ok {c : Rec} {b w : Nat} (hb : b < 8) (h : mOk c) (r : Rec) (h6 : r 6 = brM c b) (h7 : r 7 = brV c b w) : mOk r := by
  obtain ⟨h1, h2, h3⟩ := h
  have hp : 2 ^ b < 2 ^ 8 := Nat.pow_lt_pow_right (by decide) hb
  refine ⟨?_, ?_, ?_⟩
  · rw [h6]; exact Nat.or_lt_two_pow (n := 8) h1 hp
  · rw [h7]
    refine Nat.or_lt_two_pow (n := 8) (Nat.lt_of_le_of_lt Nat.and_le_left h2) ?_
    split <;> omega
  · intro j
    rw [h6, h7]
    unfold brM brV
    rw [Nat.testBit_or, Nat.testBit_or, Nat.testBit_and, Nat.testBit_xor, Nat.testBit_two_pow]
    intro q
    by_cases hj : b = j
    · subst hj; simp
    · have : (if w = 1 then 2 ^ b else 0 : Nat).testBit j = false := by
        split
        · rw [Nat.testBit_two_pow]; simp [hj]
        · simp
      rw [this] at q
      simp only [Bool.or_false, Bool.and_eq_true] at q
      simp [h3 j q.1]
theorem br_tm {c : Rec} {b w m : Nat} (hb : b < 8) (hw : w < 2) (h : mOk c) :
    (if m &&& c 6 = c 7 then c 5 else 0) * (if (if m.testBit b then 1 else 0) = w then 1 else 0) = if m &&& brM c b = brV c b w then brT c b w else 0 := by
  obtain ⟨h1, h2, h3⟩ := h
  have h255 : ∀ j, (255 : Nat).testBit j = decide (j < 8) := fun j => by rw [show (255 : Nat) = 2 ^ 8 - 1 from rfl, Nat.testBit_two_pow_sub_one]
  have hv8 : ∀ j, (c 7).testBit j = true → j < 8 := fun j q => by
    rcases Nat.lt_or_ge j 8 with z | z
    · exact z
    · rw [Nat.testBit_lt_two_pow (Nat.lt_of_lt_of_le h2 (Nat.pow_le_pow_right (n := 2) (by decide) z))] at q; cases q
  have eV : ∀ j, (brV c b w).testBit j = if j = b then decide (w = 1) else (c 7).testBit j := by
    intro j
    unfold brV
    rw [Nat.testBit_or, Nat.testBit_and, Nat.testBit_xor, Nat.testBit_two_pow, h255]
    by_cases hj : j = b
    · subst hj
      rw [if_pos rfl]
      by_cases hw1 : w = 1
      · simp [hw1]
      · simp [hw1, hb]
    · rw [if_neg hj]
      have : (if w = 1 then 2 ^ b else 0 : Nat).testBit j = false := by
        split
        · rw [Nat.testBit_two_pow]; simp; omega
        · simp
      rw [this]
      cases hq : (c 7).testBit j with
      | false => simp
      | true => simp [hv8 j hq]; omega
  have eM : ∀ j, (brM c b).testBit j = if j = b then true else (c 6).testBit j := by
    intro j
    unfold brM
    rw [Nat.testBit_or, Nat.testBit_two_pow]
    by_cases hj : j = b
    · subst hj; simp
    · rw [if_neg hj]
      have : (decide (b = j)) = false := by simp; omega
      rw [this]; simp
  have key : (m &&& brM c b = brV c b w) ↔ ((∀ j, j ≠ b → (m.testBit j && (c 6).testBit j) = (c 7).testBit j) ∧ m.testBit b = decide (w = 1)) := by
    rw [tb_eq]
    constructor
    · intro q
      refine ⟨fun j hj => ?_, ?_⟩
      · have := q j
        rw [Nat.testBit_and, eM, eV, if_neg hj, if_neg hj] at this
        exact this
      · have := q b
        rw [Nat.testBit_and, eM, eV, if_pos rfl, if_pos rfl] at this
        simpa using this
    · rintro ⟨q1, q2⟩ j
      rw [Nat.testBit_and, eM, eV]
      by_cases hj : j = b
      · subst hj; simp [q2]
      · rw [if_neg hj, if_neg hj]; exact q1 j hj
  have key0 : (m &&& c 6 = c 7) ↔ ((∀ j, j ≠ b → (m.testBit j && (c 6).testBit j) = (c 7).testBit j) ∧ (m.testBit b && (c 6).testBit b) = (c 7).testBit b) := by
    rw [tb_eq]
    constructor
    · intro q
      exact ⟨fun j _ => by rw [← Nat.testBit_and]; exact q j, by rw [← Nat.testBit_and]; exact q b⟩
    · rintro ⟨q1, q2⟩ j
      rw [Nat.testBit_and]
      by_cases hj : j = b
      · subst hj; exact q2
      · exact q1 j hj
  have hwb : ((if m.testBit b then 1 else 0) = w) ↔ m.testBit b = decide (w = 1) := by
    cases m.testBit b <;> simp <;> omega
  by_cases hA : ∀ j, j ≠ b → (m.testBit j && (c 6).testBit j) = (c 7).testBit j
  · by_cases hB : m.testBit b = decide (w = 1)
    · rw [if_pos (hwb.mpr hB), if_pos (key.mpr ⟨hA, hB⟩)]
      unfold brT
      cases h6 : (c 6).testBit b with
      | false =>
        have h7 : (c 7).testBit b = false := by
          cases hq : (c 7).testBit b with
          | false => rfl
          | true => rw [h3 b hq] at h6; cases h6
        rw [if_pos (key0.mpr ⟨hA, by rw [h6, h7]; simp⟩)]
        simp
      | true =>
        by_cases h7 : (c 7).testBit b = decide (w = 1)
        · rw [if_pos (key0.mpr ⟨hA, by rw [h6, h7, hB]; simp⟩)]
          simp [h7]
        · rw [if_neg (fun q => h7 (by have := (key0.mp q).2; rw [h6, hB] at this; simpa using this.symm))]
          simp [h7]
    · rw [if_neg (fun q => hB (hwb.mp q)), if_neg (fun q => hB (key.mp q).2)]
      simp
  · rw [if_neg (fun q => hA (key0.mp q).1), if_neg (fun q => hA (key.mp q).1)]
    simp
/-- the numbers of the groups above are as they should be -/
def chOk (nd : Nat → Nat → Nat) : Nat → Nat → Prop
  | 0, _ => True
  | n + 1, u => u = 0 ∨ ((nd 58 (u - 1) = 6 → nd 59 (u - 1) < 5) ∧ (nd 58 (u - 1) = 7 → nd 59 (u - 1) < 3) ∧ 4 ≤ nd 58 (u - 1) ∧ nd 58 (u - 1) < 8 ∧ nd 61 (u - 1) < 2 ∧ chOk nd n (nd 60 (u - 1)))
theorem tm_cx (nd : Nat → Nat → Nat) (c bf : Nat) : ∀ n u p, p < 2 → chOk nd n u → mOk (cx nd n u p) ∧ tm nd c (5 + bf) n u p = if own c bf &&& cx nd n u p 6 = cx nd n u p 7 then cx nd n u p 5 else 0
  | 0, u, p, _, _ => by
    refine ⟨⟨by simp [cx, rc0], by simp [cx, rc0], fun j => by simp [cx, rc0]⟩, ?_⟩
    simp [tm, cx, rc0]
  | n + 1, u, p, hp, hc => by
    rw [cx, tm]
    by_cases hu : u = 0
    · rw [if_pos hu, if_pos hu]
      exact ⟨⟨by decide, by decide, fun j => by simp [rc0]⟩, by simp [rc0]⟩
    · rw [if_neg hu, if_neg hu]
      rw [chOk] at hc
      obtain ⟨c1, c2, c3, c4, c5, c6⟩ := hc.resolve_left hu
      obtain ⟨m1, e1⟩ := tm_cx nd c bf n (nd 60 (u - 1)) (nd 61 (u - 1)) c5 c6
      rw [e1]
      generalize hC : cx nd n (nd 60 (u - 1)) (nd 61 (u - 1)) = C at m1 ⊢
      unfold inside fac
      rcases (show nd 58 (u - 1) = 4 ∨ nd 58 (u - 1) = 5 ∨ nd 58 (u - 1) = 6 ∨ nd 58 (u - 1) = 7 by omega) with k | k | k | k
      · rw [if_pos k, if_neg (by omega), if_neg (by omega), if_neg (by omega), (mk5 ..).2.1, (mk5 ..).2.2.1, (mk5 ..).2.2.2]
        refine ⟨⟨?_, ?_, ?_⟩, by simp⟩
        · rw [(mk5 ..).2.2.1]; exact m1.1
        · rw [(mk5 ..).2.2.2]; exact m1.2.1
        · rw [(mk5 ..).2.2.1, (mk5 ..).2.2.2]; exact m1.2.2
      · rw [if_neg (by omega), if_pos k, if_pos k, (mk5 ..).2.1, (mk5 ..).2.2.1, (mk5 ..).2.2.2]
        refine ⟨⟨?_, ?_, ?_⟩, ?_⟩
        · rw [(mk5 ..).2.2.1]; exact m1.1
        · rw [(mk5 ..).2.2.2]; exact m1.2.1
        · rw [(mk5 ..).2.2.1, (mk5 ..).2.2.2]; exact m1.2.2
        · split
          · rw [Nat.mul_comm]
          · simp
      · rw [if_neg (by omega), if_neg (by omega), if_pos k, if_neg (by omega), if_pos k, (mk5 ..).2.1, (mk5 ..).2.2.1, (mk5 ..).2.2.2]
        refine ⟨br_ok (b := nd 59 (u - 1)) (w := 1 - p) (by have := c1 k; omega) m1 _ (mk5 ..).2.2.1 (mk5 ..).2.2.2, ?_⟩
        rw [← br_tm (by have := c1 k; omega) (by omega) m1, Nat.mul_comm, bit_mod, own_lo (c1 k)]
      · rw [if_neg (by omega), if_neg (by omega), if_neg (by omega), if_neg (by omega), if_neg (by omega), if_pos k, (mk5 ..).2.1, (mk5 ..).2.2.1, (mk5 ..).2.2.2]
        refine ⟨br_ok (b := 5 + nd 59 (u - 1)) (w := p) (by have := c2 k; omega) m1 _ (mk5 ..).2.2.1 (mk5 ..).2.2.2, ?_⟩
        rw [← br_tm (by have := c2 k; omega) hp m1, Nat.mul_comm, bit_mod, own_hi]
