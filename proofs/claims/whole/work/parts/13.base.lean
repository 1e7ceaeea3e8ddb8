/-! NUMBERS: the machine's ints out of naturals (n32), its longs out of integers (z64); reading and writing the picture -/
def n32 (k : Nat) : Int32 := Int32.ofNat k
def z64 (z : Int) : Int64 := Int64.ofInt z
theorem lit32 (n : Nat) : (no_index (OfNat.ofNat n) : Int32) = n32 (OfNat.ofNat n) := rfl
theorem n32_add (a b : Nat) : n32 a + n32 b = n32 (a + b) := (Int32.ofNat_add a b).symm
theorem n32_mul (a b : Nat) : n32 a * n32 b = n32 (a * b) := (Int32.ofNat_mul a b).symm
theorem n32_sub {a b : Nat} (h : b ≤ a) : n32 a - n32 b = n32 (a - b) := (Int32.ofNat_sub a b h).symm
theorem n32_toInt {a : Nat} (h : a < 2147483648) : (n32 a).toInt = (a : Int) := nI_toInt h
theorem n32_ix {a : Nat} (h : a < 2147483648) : ix (n32 a) = a := Int32.toNatClampNeg_ofNat_of_lt h
theorem n32_lt {a b : Nat} (ha : a < 2147483648) (hb : b < 2147483648) : n32 a < n32 b ↔ a < b := by
  rw [Int32.lt_iff_toInt_lt, n32_toInt ha, n32_toInt hb]; omega
theorem n32_le {a b : Nat} (ha : a < 2147483648) (hb : b < 2147483648) : n32 a ≤ n32 b ↔ a ≤ b := by
  rw [Int32.le_iff_toInt_le, n32_toInt ha, n32_toInt hb]; omega
theorem n32_eq {a b : Nat} (ha : a < 2147483648) (hb : b < 2147483648) : n32 a = n32 b ↔ a = b := by
  rw [← Int32.toInt_inj, n32_toInt ha, n32_toInt hb]; omega
theorem n32_in {a n : Nat} (ha : a < 2147483648) : vp_in (n32 a) n ↔ a < n := by
  unfold vp_in
  rw [show (n32 a).toNatClampNeg = a from n32_ix ha, Int32.lt_iff_toInt_lt, n32_toInt ha, show (0 : Int32).toInt = 0 from rfl]; omega
theorem n32_m1 {a : Nat} (ha : a < 2147483648) : n32 a = -1 ↔ False := by
  rw [← Int32.toInt_inj, n32_toInt ha, show (-1 : Int32).toInt = -1 from rfl]
  constructor
  · intro h; omega
  · intro h; exact h.elim
theorem n32_m1' {a : Nat} (ha : a < 2147483648) : (-1 : Int32) = n32 a ↔ False := by rw [eq_comm]; exact n32_m1 ha
theorem n32_m1lt {a : Nat} (ha : a < 2147483648) : (-1 : Int32) < n32 a ↔ True := by
  rw [Int32.lt_iff_toInt_lt, n32_toInt ha, show (-1 : Int32).toInt = -1 from rfl]; simp only [iff_true]; omega
theorem n32_ltm1 {a : Nat} (ha : a < 2147483648) : n32 a < (-1 : Int32) ↔ False := by
  rw [Int32.lt_iff_toInt_lt, n32_toInt ha, show (-1 : Int32).toInt = -1 from rfl]; first | (simp only [iff_true]; omega) | (simp only [iff_false]; omega)
theorem n32_lem1 {a : Nat} (ha : a < 2147483648) : n32 a ≤ (-1 : Int32) ↔ False := by
  rw [Int32.le_iff_toInt_le, n32_toInt ha, show (-1 : Int32).toInt = -1 from rfl]; first | (simp only [iff_true]; omega) | (simp only [iff_false]; omega)
theorem n32_m1le {a : Nat} (ha : a < 2147483648) : (-1 : Int32) ≤ n32 a ↔ True := by
  rw [Int32.le_iff_toInt_le, n32_toInt ha, show (-1 : Int32).toInt = -1 from rfl]; first | (simp only [iff_true]; omega) | (simp only [iff_false]; omega)
/-- an int that isn't below 0 is a natural's -/
theorem n32_of {x : Int32} (h : 0 ≤ x) : ∃ a : Nat, a < 2147483648 ∧ x = n32 a := ⟨x.toNatClampNeg, Int32.toNatClampNeg_lt x, (Int32.ofNat_toNatClampNeg x h).symm⟩
theorem n32_bv (a : Nat) : (n32 a).toBitVec = BitVec.ofNat 32 a := rfl
theorem n32_and {a b : Nat} (ha : a < 2147483648) (hb : b < 2147483648) : n32 a &&& n32 b = n32 (a &&& b) := by
  apply Int32.toBitVec_inj.mp
  rw [Int32.toBitVec_and, n32_bv, n32_bv, n32_bv]
  apply BitVec.eq_of_toNat_eq
  have h1 : a &&& b ≤ a := Nat.and_le_left
  rw [BitVec.toNat_and, BitVec.toNat_ofNat, BitVec.toNat_ofNat, BitVec.toNat_ofNat, Nat.mod_eq_of_lt, Nat.mod_eq_of_lt, Nat.mod_eq_of_lt] <;> omega
theorem n32_or {a b : Nat} (ha : a < 2147483648) (hb : b < 2147483648) : n32 a ||| n32 b = n32 (a ||| b) := by
  apply Int32.toBitVec_inj.mp
  rw [Int32.toBitVec_or, n32_bv, n32_bv, n32_bv]
  apply BitVec.eq_of_toNat_eq
  have h1 : a ||| b < 2 ^ 31 := Nat.or_lt_two_pow ha hb
  rw [BitVec.toNat_or, BitVec.toNat_ofNat, BitVec.toNat_ofNat, BitVec.toNat_ofNat, Nat.mod_eq_of_lt, Nat.mod_eq_of_lt, Nat.mod_eq_of_lt] <;> omega
theorem hI_wI (h : Hp) (a k : Nat) (x : Int32) (b j : Nat) : hI (wI h a k x) b j = if b = a ∧ j = k then x else hI h b j := rfl
theorem hI_wJ (h : Hp) (a k : Nat) (x : Int64) : hI (wJ h a k x) = hI h := rfl
theorem hI_wR (h : Hp) (a k : Nat) (x : Option Nat) : hI (wR h a k x) = hI h := rfl
theorem hJ_wJ (h : Hp) (a k : Nat) (x : Int64) (b j : Nat) : hJ (wJ h a k x) b j = if b = a ∧ j = k then x else hJ h b j := rfl
theorem hJ_wI (h : Hp) (a k : Nat) (x : Int32) : hJ (wI h a k x) = hJ h := rfl
theorem hJ_wR (h : Hp) (a k : Nat) (x : Option Nat) : hJ (wR h a k x) = hJ h := rfl
theorem hR_wR (h : Hp) (a k : Nat) (x : Option Nat) (b j : Nat) : hR (wR h a k x) b j = if b = a ∧ j = k then x else hR h b j := rfl
theorem hR_wI (h : Hp) (a k : Nat) (x : Int32) : hR (wI h a k x) = hR h := rfl
theorem hR_wJ (h : Hp) (a k : Nat) (x : Int64) : hR (wJ h a k x) = hR h := rfl
