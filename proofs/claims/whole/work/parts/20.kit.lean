/-! TOOLS: what a stretch of the program leaves as it was; numbers with none among them; rows of numbers -/
def fr (S : Nat → Nat → Prop) (h h' : Hp) : Prop := hN h' = hN h ∧ hT h' = hT h ∧ ∀ a k, ¬ S a k → hI h' a k = hI h a k ∧ hJ h' a k = hJ h a k ∧ hR h' a k = hR h a k
theorem fr.rf (S : Nat → Nat → Prop) (h : Hp) : fr S h h := ⟨rfl, rfl, fun _ _ _ => ⟨rfl, rfl, rfl⟩⟩
theorem fr.trans {S : Nat → Nat → Prop} {a b c : Hp} (h1 : fr S a b) (h2 : fr S b c) : fr S a c :=
  ⟨h2.1.trans h1.1, h2.2.1.trans h1.2.1, fun q k n => ⟨(h2.2.2 q k n).1.trans (h1.2.2 q k n).1, (h2.2.2 q k n).2.1.trans (h1.2.2 q k n).2.1, (h2.2.2 q k n).2.2.trans (h1.2.2 q k n).2.2⟩⟩
theorem fr.mono {S S' : Nat → Nat → Prop} {a b : Hp} (h1 : fr S a b) (hs : ∀ q k, S q k → S' q k) : fr S' a b := ⟨h1.1, h1.2.1, fun q k n => h1.2.2 q k (fun z => n (hs q k z))⟩
theorem fr.I {S : Nat → Nat → Prop} {h h' : Hp} (f : fr S h h') {a k : Nat} (n : ¬ S a k) : hI h' a k = hI h a k := (f.2.2 a k n).1
theorem fr.J {S : Nat → Nat → Prop} {h h' : Hp} (f : fr S h h') {a k : Nat} (n : ¬ S a k) : hJ h' a k = hJ h a k := (f.2.2 a k n).2.1
theorem fr.R {S : Nat → Nat → Prop} {h h' : Hp} (f : fr S h h') {a k : Nat} (n : ¬ S a k) : hR h' a k = hR h a k := (f.2.2 a k n).2.2
theorem fr_wI {S : Nat → Nat → Prop} {h h' : Hp} (f : fr S h h') {a k : Nat} (x : Int32) (hs : S a k) : fr S h (wI h' a k x) := by
  refine f.trans ⟨rfl, rfl, fun b j n => ⟨?_, rfl, rfl⟩⟩
  rw [hI_wI, if_neg]
  rintro ⟨rfl, rfl⟩
  exact n hs
theorem fr_wJ {S : Nat → Nat → Prop} {h h' : Hp} (f : fr S h h') {a k : Nat} (x : Int64) (hs : S a k) : fr S h (wJ h' a k x) := by
  refine f.trans ⟨rfl, rfl, fun b j n => ⟨rfl, ?_, rfl⟩⟩
  rw [hJ_wJ, if_neg]
  rintro ⟨rfl, rfl⟩
  exact n hs
theorem fr_wR {S : Nat → Nat → Prop} {h h' : Hp} (f : fr S h h') {a k : Nat} (x : Option Nat) (hs : S a k) : fr S h (wR h' a k x) := by
  refine f.trans ⟨rfl, rfl, fun b j n => ⟨rfl, rfl, ?_⟩⟩
  rw [hR_wR, if_neg]
  rintro ⟨rfl, rfl⟩
  exact n hs
/-- none, or a natural -/
def pm : Nat → Int32
  | 0 => -1
  | k + 1 => n32 k
theorem pm0 : pm 0 = -1 := rfl
theorem pmS (k : Nat) : pm (k + 1) = n32 k := rfl
theorem pm_lt0 {k : Nat} (h : k ≤ 2147483648) : pm k < 0 ↔ k = 0 := by
  cases k with
  | zero => simp [pm]
  | succ k => rw [pmS, show (0 : Int32) = n32 0 from rfl, n32_lt (by omega) (by omega)]; omega
theorem pm_ge0 {k : Nat} (h : k ≤ 2147483648) : (0 : Int32) ≤ pm k ↔ 0 < k := by
  cases k with
  | zero => simp [pm]
  | succ k => rw [pmS, show (0 : Int32) = n32 0 from rfl, n32_le (by omega) (by omega)]; omega
theorem pm_n32 {k : Nat} (h : 0 < k) : pm k = n32 (k - 1) := by
  cases k with
  | zero => omega
  | succ k => rfl
theorem pm_inj {a b : Nat} (ha : a ≤ 2147483648) (hb : b ≤ 2147483648) : pm a = pm b ↔ a = b := by
  cases a with
  | zero => cases b with
    | zero => simp
    | succ b => rw [pm0, pmS, n32_m1' (by omega)]; simp
  | succ a => cases b with
    | zero => rw [pm0, pmS, n32_m1 (by omega)]; simp
    | succ b => rw [pmS, pmS, n32_eq (by omega) (by omega)]; omega
theorem vpI {a n : Nat} (ha : a < n) (hn : n ≤ 2147483648) : vp_in (n32 a) n := (n32_in (by omega)).mpr ha
/-- a condition that is known -/
theorem yes {c : Prop} {A B : Prop} (hc : c) (h : A) : (c → A) ∧ (¬ c → B) := ⟨fun _ => h, fun n => absurd hc n⟩
theorem no {c : Prop} {A B : Prop} (hc : ¬ c) (h : B) : (c → A) ∧ (¬ c → B) := ⟨fun n => absurd n hc, fun _ => h⟩
theorem yes' {c : Prop} {A B : Prop} (hc : c) (h : B) : (¬ c → A) ∧ (c → B) := ⟨fun n => absurd hc n, fun _ => h⟩
theorem no' {c : Prop} {A B : Prop} (hc : ¬ c) (h : A) : (¬ c → A) ∧ (c → B) := ⟨fun _ => h, fun n => absurd n hc⟩
theorem z64_add (a b : Int) : z64 a + z64 b = z64 (a + b) := (Int64.ofInt_add a b).symm
theorem z64_sub (a b : Int) : z64 a - z64 b = z64 (a - b) := (Int64.ofInt_sub a b).symm
theorem z64_mul (a b : Int) : z64 a * z64 b = z64 (a * b) := (Int64.ofInt_mul a b).symm
theorem z64_toInt {a : Int} (h1 : -9223372036854775808 ≤ a) (h2 : a < 9223372036854775808) : (z64 a).toInt = a := Int64.toInt_ofInt_of_le h1 h2
theorem z64_lt {a b : Int} (h1 : -9223372036854775808 ≤ a) (h2 : a < 9223372036854775808) (h3 : -9223372036854775808 ≤ b) (h4 : b < 9223372036854775808) : z64 a < z64 b ↔ a < b := by
  rw [Int64.lt_iff_toInt_lt, z64_toInt h1 h2, z64_toInt h3 h4]
theorem z64_eq {a b : Int} (h1 : -9223372036854775808 ≤ a) (h2 : a < 9223372036854775808) (h3 : -9223372036854775808 ≤ b) (h4 : b < 9223372036854775808) : z64 a = z64 b ↔ a = b := by
  rw [← Int64.toInt_inj, z64_toInt h1 h2, z64_toInt h3 h4]
theorem litJ (n : Nat) : (no_index (OfNat.ofNat n) : Int64) = z64 (OfNat.ofNat n : Nat) := by
  apply Int64.toInt_inj.mp
  rw [Int64.toInt_ofNat]
  exact (Int64.toInt_ofInt).symm
theorem n32_long {a : Nat} (ha : a < 2147483648) : (n32 a).toInt64 = z64 a := by
  apply Int64.toInt_inj.mp
  rw [Int32.toInt_toInt64, n32_toInt ha, z64_toInt (by omega) (by omega)]
theorem n32_shl {a s : Nat} (hs : s < 31) (h : a * 2 ^ s < 2147483648) : n32 a <<< (n32 s &&& n32 31) = n32 (a * 2 ^ s) := by
  have e : n32 s &&& n32 31 = n32 s := by
    rw [n32_and (by omega) (by omega), show (31 : Nat) = 2 ^ 5 - 1 from rfl, Nat.and_two_pow_sub_one_eq_mod, Nat.mod_eq_of_lt (by omega)]
  rw [e]
  apply Int32.toBitVec_inj.mp
  rw [Int32.toBitVec_shiftLeft, n32_bv, n32_bv, n32_bv]
  apply BitVec.eq_of_toNat_eq
  have hsm : ((BitVec.ofNat 32 s).smod 32).toNat = s := by
    have : (BitVec.ofNat 32 s).smod 32 = BitVec.ofNat 32 s := by
      have hh : s < 31 := hs
      have key : ∀ t : Fin 31, (BitVec.ofNat 32 t.val).smod 32 = BitVec.ofNat 32 t.val := by decide
      exact key ⟨s, hh⟩
    rw [this, BitVec.toNat_ofNat, Nat.mod_eq_of_lt (by omega)]
  have ha : a < 2147483648 := by
    have : a ≤ a * 2 ^ s := Nat.le_mul_of_pos_right a (Nat.two_pow_pos s)
    omega
  simp only [BitVec.shiftLeft_eq', BitVec.toNat_shiftLeft, hsm, BitVec.toNat_ofNat, Nat.shiftLeft_eq]
  rw [Nat.mod_eq_of_lt (show a < 2 ^ 32 by omega), Nat.mod_eq_of_lt (show a * 2 ^ s < 2 ^ 32 by omega)]
theorem n32_shr {a s : Nat} (hs : s < 32) (ha : a < 2147483648) : n32 a >>> (n32 s &&& n32 31) = n32 (a >>> s) := by
  have e : n32 s &&& n32 31 = n32 s := by
    rw [n32_and (by omega) (by omega), show (31 : Nat) = 2 ^ 5 - 1 from rfl, Nat.and_two_pow_sub_one_eq_mod, Nat.mod_eq_of_lt (by omega)]
  rw [e]
  apply Int32.toBitVec_inj.mp
  rw [Int32.toBitVec_shiftRight, n32_bv, n32_bv, n32_bv]
  have hsm : ((BitVec.ofNat 32 s).smod 32) = BitVec.ofNat 32 s := by
    have key : ∀ t : Fin 32, (BitVec.ofNat 32 t.val).smod 32 = BitVec.ofNat 32 t.val := by decide
    exact key ⟨s, hs⟩
  rw [hsm]
  apply BitVec.eq_of_toNat_eq
  have hmsb : (BitVec.ofNat 32 a).msb = false := by
    rw [BitVec.msb_eq_false_iff_two_mul_lt, BitVec.toNat_ofNat, Nat.mod_eq_of_lt (by omega)]; omega
  have hle : a >>> s ≤ a := by rw [Nat.shiftRight_eq_div_pow]; exact Nat.div_le_self _ _
  rw [BitVec.sshiftRight_eq', BitVec.sshiftRight_eq_of_msb_false hmsb, BitVec.toNat_ushiftRight, BitVec.toNat_ofNat, BitVec.toNat_ofNat, BitVec.toNat_ofNat, Nat.mod_eq_of_lt (show a < 2 ^ 32 by omega), Nat.mod_eq_of_lt (show s < 2 ^ 32 by omega), Nat.mod_eq_of_lt (by omega)]
theorem m1_pm : (-1 : Int32) = pm 0 := rfl
theorem pm_ix {b : Nat} (h : b ≤ 2147483648) : ix (pm b) = b - 1 := by
  cases b with
  | zero => decide
  | succ b => rw [pmS, n32_ix (by omega)]; rfl
theorem pm_in {b n : Nat} (h : b ≤ 2147483648) : vp_in (pm b) n ↔ 0 < b ∧ b ≤ n := by
  cases b with
  | zero => rw [pm0]; unfold vp_in; simp
  | succ b => rw [pmS, n32_in (by omega)]; omega
theorem pm_eqn {a b : Nat} (ha : a ≤ 2147483648) (hb : b < 2147483648) : pm a = n32 b ↔ a = b + 1 := by
  rw [show n32 b = pm (b + 1) from rfl]
  cases a with
  | zero => rw [pm0, pmS, n32_m1' hb]; simp
  | succ a => rw [pmS, pmS, n32_eq (by omega) hb]; omega
theorem n_eqpm {a b : Nat} (ha : a < 2147483648) (hb : b ≤ 2147483648) : n32 a = pm b ↔ a + 1 = b := by rw [eq_comm, pm_eqn hb ha]; omega
theorem pm_ltn {a b : Nat} (ha : a ≤ 2147483648) (hb : b < 2147483648) : pm a < n32 b ↔ a < b + 1 := by
  cases a with
  | zero => rw [pm0, n32_m1lt hb]; simp
  | succ a => rw [pmS, n32_lt (by omega) hb]; omega
theorem n_ltpm {a b : Nat} (ha : a < 2147483648) (hb : b ≤ 2147483648) : n32 a < pm b ↔ a + 1 < b := by
  cases b with
  | zero => rw [pm0, n32_ltm1 ha]; simp
  | succ b => rw [pmS, n32_lt ha (by omega)]; omega
theorem pm_len {a b : Nat} (ha : a ≤ 2147483648) (hb : b < 2147483648) : pm a ≤ n32 b ↔ a ≤ b + 1 := by
  cases a with
  | zero => rw [pm0, n32_m1le hb]; simp
  | succ a => rw [pmS, n32_le (by omega) hb]; omega
theorem n_lepm {a b : Nat} (ha : a < 2147483648) (hb : b ≤ 2147483648) : n32 a ≤ pm b ↔ a + 1 ≤ b := by
  cases b with
  | zero => rw [pm0, n32_lem1 ha]; simp
  | succ b => rw [pmS, n32_le ha (by omega)]; omega
/-- any int is below 0 or a natural's -/
theorem i_cases (x : Int32) : x < 0 ∨ ∃ a : Nat, a < 2147483648 ∧ x = n32 a := by
  rcases Int32.lt_or_le x 0 with h | h
  · exact Or.inl h
  · exact Or.inr (n32_of h)
theorem ng_lt {x : Int32} {a : Nat} (hx : x < 0) (ha : a < 2147483648) : x < n32 a := by
  have h0 := Int32.lt_iff_toInt_lt.mp hx
  rw [Int32.lt_iff_toInt_lt, n32_toInt ha]
  have : (0 : Int32).toInt = 0 := rfl
  omega
theorem ng_nle {x : Int32} {a : Nat} (hx : x < 0) (ha : a < 2147483648) : ¬ n32 a ≤ x := by
  have h0 := Int32.lt_iff_toInt_lt.mp hx
  rw [Int32.le_iff_toInt_le, n32_toInt ha]
  have : (0 : Int32).toInt = 0 := rfl
  omega
theorem ng_neq {x : Int32} {a : Nat} (hx : x < 0) (ha : a < 2147483648) : ¬ x = n32 a := by
  rintro rfl
  exact absurd hx (by rw [show (0 : Int32) = n32 0 from rfl, n32_lt ha (by decide)]; omega)
theorem n32_bit {a s : Nat} (hs : s < 32) (ha : a < 2147483648) : (n32 a >>> (n32 s &&& n32 31)) &&& n32 1 = n32 ((a >>> s) % 2) := by
  have hle : a >>> s ≤ a := by rw [Nat.shiftRight_eq_div_pow]; exact Nat.div_le_self _ _
  rw [n32_shr hs ha, n32_and (by omega) (by omega), Nat.and_one_is_mod]
theorem lgc (a b : Int) (h1 : -9223372036854775808 ≤ a) (h2 : a < 9223372036854775808) (h3 : -9223372036854775808 ≤ b) (h4 : b < 9223372036854775808) : lg_cmp (z64 a) (z64 b) = if b < a then 1 else if a = b then 0 else -1 := by
  unfold lg_cmp
  have e1 : (z64 a > z64 b) ↔ b < a := z64_lt h3 h4 h1 h2
  have e2 := z64_eq h1 h2 h3 h4
  simp only [e1, e2]
theorem lgc_eq {a b : Int} (h1 : -9223372036854775808 ≤ a) (h2 : a < 9223372036854775808) (h3 : -9223372036854775808 ≤ b) (h4 : b < 9223372036854775808) : lg_cmp (z64 a) (z64 b) = n32 0 ↔ a = b := by
  rw [lgc a b h1 h2 h3 h4]
  split
  · constructor
    · intro q; exact absurd q (by decide)
    · intro q; omega
  · split
    · simp_all [n32]
    · constructor
      · intro q; exact absurd q (by decide)
      · intro q; omega
theorem lgc_le {a b : Int} (h1 : -9223372036854775808 ≤ a) (h2 : a < 9223372036854775808) (h3 : -9223372036854775808 ≤ b) (h4 : b < 9223372036854775808) : lg_cmp (z64 a) (z64 b) ≤ n32 0 ↔ a ≤ b := by
  rw [lgc a b h1 h2 h3 h4]
  split
  · constructor
    · intro q; exact absurd q (by decide)
    · intro q; omega
  · split
    · constructor
      · intro q; omega
      · intro q; decide
    · constructor
      · intro q; omega
      · intro q; decide
theorem lgc_lt {a b : Int} (h1 : -9223372036854775808 ≤ a) (h2 : a < 9223372036854775808) (h3 : -9223372036854775808 ≤ b) (h4 : b < 9223372036854775808) : lg_cmp (z64 a) (z64 b) < n32 0 ↔ a < b := by
  rw [lgc a b h1 h2 h3 h4]
  split
  · constructor
    · intro q; exact absurd q (by decide)
    · intro q; omega
  · split
    · constructor
      · intro q; exact absurd q (by decide)
      · intro q; omega
    · constructor
      · intro q; omega
      · intro q; decide
theorem lgc_ge {a b : Int} (h1 : -9223372036854775808 ≤ a) (h2 : a < 9223372036854775808) (h3 : -9223372036854775808 ≤ b) (h4 : b < 9223372036854775808) : n32 0 ≤ lg_cmp (z64 a) (z64 b) ↔ b ≤ a := by
  have := lgc_lt h1 h2 h3 h4
  rw [← Int32.not_lt, this]; omega
theorem lgc_gt {a b : Int} (h1 : -9223372036854775808 ≤ a) (h2 : a < 9223372036854775808) (h3 : -9223372036854775808 ≤ b) (h4 : b < 9223372036854775808) : n32 0 < lg_cmp (z64 a) (z64 b) ↔ b < a := by
  have := lgc_le h1 h2 h3 h4
  rw [← Int32.not_le, this]; omega
/-- an argument as a natural below n -/
def argN (v : Int32) (n : Nat) : Option Nat := if 0 ≤ v ∧ ix v < n then some (ix v) else none
theorem argN_n {a n : Nat} (h : a < n) (hn : a < 2147483648) : argN (n32 a) n = some a := by
  unfold argN
  rw [n32_ix hn, if_pos ⟨by rw [show (0 : Int32) = n32 0 from rfl, n32_le (by decide) hn]; omega, h⟩]
theorem argN_no {a n : Nat} (h : n ≤ a) (hn : a < 2147483648) : argN (n32 a) n = none := by
  unfold argN
  rw [n32_ix hn, if_neg (fun q => by omega)]
theorem argN_neg {v : Int32} {n : Nat} (h : v < 0) : argN v n = none := by
  unfold argN
  rw [if_neg (fun q => absurd h (Int32.not_lt.mpr q.1))]
theorem argN_some {v : Int32} {n a : Nat} (h : argN v n = some a) : a < n ∧ v = n32 a ∧ a < 2147483648 := by
  unfold argN at h
  split at h
  · rename_i q
    cases h
    exact ⟨q.2, (Int32.ofNat_toNatClampNeg v q.1).symm, Int32.toNatClampNeg_lt v⟩
  · cases h
/-- the three ways of an argument -/
theorem arg_cases (v : Int32) (n : Nat) : (argN v n = none ∧ (v < 0 ∨ ∃ a, n ≤ a ∧ a < 2147483648 ∧ v = n32 a)) ∨ ∃ a, a < n ∧ a < 2147483648 ∧ v = n32 a ∧ argN v n = some a := by
  rcases i_cases v with h | ⟨a, ha, rfl⟩
  · exact Or.inl ⟨argN_neg h, Or.inl h⟩
  · rcases Nat.lt_or_ge a n with q | q
    · exact Or.inr ⟨a, q, ha, rfl, argN_n q ha⟩
    · exact Or.inl ⟨argN_no q ha, Or.inr ⟨a, q, ha, rfl⟩⟩
theorem n32_dec {a : Nat} (h : 0 < a) : n32 a + pm 0 = n32 (a - 1) := by
  rw [show pm 0 = -1 from rfl, show n32 a + -1 = n32 a - 1 from (Int32.sub_eq_add_neg _ _).symm, show (1 : Int32) = n32 1 from rfl, n32_sub h]
/-- an argument that may be none: 0, or a natural below n and one more -/
def argP (v : Int32) (n : Nat) : Option Nat := if v = -1 then some 0 else (argN v n).map (· + 1)
theorem argP_cases (v : Int32) (n : Nat) (hn : n < 2147483648) : (argP v n = none ∧ (v < pm 0 ∨ ∃ a, n ≤ a ∧ a < 2147483648 ∧ v = n32 a)) ∨ ∃ a, a ≤ n ∧ v = pm a ∧ argP v n = some a := by
  unfold argP
  by_cases h : v = -1
  · exact Or.inr ⟨0, Nat.zero_le _, h, by rw [if_pos h]⟩
  · rw [if_neg h]
    rcases arg_cases v n with ⟨e, c⟩ | ⟨a, h1, h2, h3, e⟩
    · refine Or.inl ⟨by rw [e]; rfl, ?_⟩
      rcases c with c | c
      · left
        have h0 := Int32.lt_iff_toInt_lt.mp c
        rw [Int32.lt_iff_toInt_lt]
        rw [← Int32.toInt_inj] at h
        have e1 : (0 : Int32).toInt = 0 := rfl
        have e2 : (-1 : Int32).toInt = -1 := rfl
        have e3 : (pm 0).toInt = -1 := rfl
        omega
      · exact Or.inr c
    · exact Or.inr ⟨a + 1, by omega, h3, by rw [e]; rfl⟩
theorem pw_le {a b : Nat} (h : a ≤ b) : 2 ^ a ≤ 2 ^ b := Nat.pow_le_pow_right (by decide) h
theorem shl1 {s : Nat} (h : s < 31) : n32 1 <<< (n32 s &&& n32 31) = n32 (2 ^ s) := by
  have : 2 ^ s ≤ 2 ^ 30 := pw_le (by omega)
  rw [n32_shl h (by omega), Nat.one_mul]
