/-! THE CLASS: same -/
theorem nm2_tab : ∀ e : Fin 32, ∀ m : Fin 4, n32 e.val ||| (((1 <<< (n32 m.val &&& 31)) - 1) <<< (5 &&& 31)) = n32 (e.val + 32 * (2 ^ m.val - 1)) := by decide +kernel
theorem fs_skip {P : Nat → Bool} {n : Nat} : ∀ {i : Nat}, i ≤ n → (∀ c, c < i → P c = false) → fsome (fun c => if P c then some c else none) 0 n = fsome (fun c => if P c then some c else none) i n
  | 0, _, _ => rfl
  | i + 1, hi, h => by
    rw [fs_skip (i := i) (by omega) (fun c hc => h c (by omega)), fsome_no (by omega) (by rw [h i (by omega)]; rfl)]
theorem mask2 {x : Ab} (K : OkA x) (M : OkM x) {a b : Nat} (ha : a < (aD x).length) (hb : b < (aD x).length) : (∀ q ∈ cRows (dL (aD x) a), q 4 &&& nm2 (aD x) a b = q 4) ∧ (∀ q ∈ cRows (dL (aD x) b), q 4 &&& nm2 (aD x) a b = q 4) := by
  have ea : dE (aD x) a < 2 ^ 5 := (K.1 a ha).1.2.2.2.2.1
  have eb : dE (aD x) b < 2 ^ 5 := (K.1 b hb).1.2.2.2.2.1
  have eo : dE (aD x) a ||| dE (aD x) b < 2 ^ 5 := Nat.or_lt_two_pow ea eb
  have ma : dC (aD x) a ≤ mostC (aD x) a b := by unfold mostC; split <;> omega
  have mb : dC (aD x) b ≤ mostC (aD x) a b := by unfold mostC; split <;> omega
  have bit : ∀ j, (nm2 (aD x) a b).testBit j = if j < 5 then (dE (aD x) a ||| dE (aD x) b).testBit j else decide (j - 5 < mostC (aD x) a b) := fun j => by
    unfold nm2
    rw [show (dE (aD x) a ||| dE (aD x) b) + 32 * (2 ^ mostC (aD x) a b - 1) = 2 ^ 5 * (2 ^ mostC (aD x) a b - 1) + (dE (aD x) a ||| dE (aD x) b) by omega, Nat.testBit_two_pow_mul_add _ eo, Nat.testBit_two_pow_sub_one]
  have row : ∀ d, d < (aD x).length → ∀ q, q ∈ cRows (dL (aD x) d) → Mk1 (q 4) (dE (aD x) d) (dC (aD x) d) := by
    intro d hd q hq
    unfold cRows at hq
    obtain ⟨r, hr, hr2⟩ := List.mem_flatMap.mp hq
    have q4 : q 4 = r 9 := by
      split at hr2
      · exact absurd hr2 (by simp)
      · obtain ⟨q0, -, rfl⟩ := List.mem_map.mp hr2; rfl
    rw [q4]
    exact M d hd r hr
  have go : ∀ d, d < (aD x).length → dE (aD x) d < 2 ^ 5 → dC (aD x) d ≤ mostC (aD x) a b → (∀ j, (dE (aD x) d).testBit j = true → (dE (aD x) a ||| dE (aD x) b).testBit j = true) → ∀ q ∈ cRows (dL (aD x) d), q 4 &&& nm2 (aD x) a b = q 4 := by
    intro d hd e32 hm hE q hq
    refine sub_and (fun j hj => ?_)
    rw [bit]
    rcases row d hd q hq j hj with y | y
    · by_cases j5 : j < 5
      · rw [if_pos j5]; exact hE j y
      · have : (dE (aD x) d).testBit j = false := Nat.testBit_lt_two_pow (Nat.lt_of_lt_of_le e32 (pw_le (by omega)))
        rw [this] at y; cases y
    · rw [if_neg (by omega), decide_eq_true_iff]; omega
  exact ⟨go a ha ea ma (fun j hj => by rw [Nat.testBit_or, hj]; rfl), go b hb eb mb (fun j hj => by rw [Nat.testBit_or, hj, Bool.or_true])⟩
theorem apB_cut {x : Ab} (K : OkA x) (M : OkM x) {a b : Nat} (ha : a < (aD x).length) (hb : b < (aD x).length) (c : Nat) : apB (aD x) a b (c &&& nm2 (aD x) a b) = apB (aD x) a b c := by
  obtain ⟨m1, m2⟩ := mask2 K M ha hb
  rw [Bool.eq_iff_iff, apB_iff K ha hb, apB_iff K ha hb]
  constructor
  · rintro ⟨ky, h⟩; exact ⟨ky, by rw [amK_cut m1, amK_cut m2] at h; exact h⟩
  · rintro ⟨ky, h⟩; exact ⟨ky, by rw [amK_cut m1, amK_cut m2]; exact h⟩
theorem SM_pw (m k : Nat) : (SM m k).Pairwise (· < ·) := List.Pairwise.filter _ List.pairwise_lt_range
/-- all lesser codes were looked at -/
theorem apB_less {x : Ab} (K : OkA x) (M : OkM x) {a b : Nat} (ha : a < (aD x).length) (hb : b < (aD x).length) {k : Nat} (hk : nm2 (aD x) a b < 2 ^ k) {pre rest : List Nat} (e : SM (nm2 (aD x) a b) k = pre ++ rest) (no : ∀ c ∈ pre, apB (aD x) a b c = false) {c : Nat} (hr : ∀ r t, rest = r :: t → c < r) : apB (aD x) a b c = false := by
  rw [← apB_cut K M ha hb]
  have hm : c &&& nm2 (aD x) a b ∈ SM (nm2 (aD x) a b) k := SM_mem.mpr ⟨Nat.lt_of_le_of_lt Nat.and_le_right hk, by rw [Nat.and_assoc, Nat.and_self]⟩
  rw [e, List.mem_append] at hm
  rcases hm with y | y
  · exact no _ y
  · cases hrest : rest with
    | nil => rw [hrest] at y; exact absurd y (by simp)
    | cons r t =>
      have lt := hr r t hrest
      have le : c &&& nm2 (aD x) a b ≤ c := Nat.and_le_left
      have pw := SM_pw (nm2 (aD x) a b) k
      rw [e, hrest, List.pairwise_append] at pw
      have pc := List.pairwise_cons.mp pw.2.1
      rw [hrest] at y
      rcases List.mem_cons.mp y with z | z
      · omega
      · have := pc.1 _ z; omega
