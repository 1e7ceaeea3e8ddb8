/-! THE CLASS: bits counted, rows filled, small questions -/
theorem n32_ushr {a s : Nat} (hs : s < 32) (ha : a < 2147483648) : ((n32 a).toUInt32 >>> ((n32 s).toUInt32 &&& Int32.toUInt32 31)).toInt32 = n32 (a >>> s) := by
  apply Int32.toBitVec_inj.mp
  apply BitVec.eq_of_toNat_eq
  have e1 : ((n32 s).toUInt32 &&& Int32.toUInt32 31) = UInt32.ofNat s := by
    have key : ∀ t : Fin 32, ((n32 t.val).toUInt32 &&& Int32.toUInt32 31) = UInt32.ofNat t.val := by decide
    exact key ⟨s, hs⟩
  rw [e1]
  have e2 : ((n32 a).toUInt32 >>> UInt32.ofNat s).toNat = a >>> s := by
    rw [UInt32.toNat_shiftRight]
    have : (n32 a).toUInt32.toNat = a := by
      show (n32 a).toBitVec.toNat = a
      rw [n32_bv, BitVec.toNat_ofNat, Nat.mod_eq_of_lt (by omega)]
    have key2 : ∀ t : Fin 32, (UInt32.ofNat t.val).toNat % 32 = t.val := by decide
    rw [this, key2 ⟨s, hs⟩]
  have hle : a >>> s ≤ a := by rw [Nat.shiftRight_eq_div_pow]; exact Nat.div_le_self _ _
  rw [n32_bv, BitVec.toNat_ofNat, Nat.mod_eq_of_lt (show a >>> s < 2 ^ 32 by omega)]
  exact e2
theorem and8 {a m : Nat} (b n : Nat) (ha : a < 256) (hm : m < 256) : (a + 256 * b) &&& (m + 256 * n) = (a &&& m) + 256 * (b &&& n) := by
  have hl : a &&& m < 2 ^ 8 := Nat.lt_of_le_of_lt Nat.and_le_left ha
  apply Nat.eq_of_testBit_eq
  intro j
  rw [Nat.testBit_and, show a + 256 * b = 2 ^ 8 * b + a by omega, show m + 256 * n = 2 ^ 8 * n + m by omega, show (a &&& m) + 256 * (b &&& n) = 2 ^ 8 * (b &&& n) + (a &&& m) by omega, Nat.testBit_two_pow_mul_add _ ha, Nat.testBit_two_pow_mul_add _ hm, Nat.testBit_two_pow_mul_add _ hl]
  split
  · rw [Nat.testBit_and]
  · rw [Nat.testBit_and]
def bc1 (b : Nat) : Nat := b - ((b / 2) &&& 85)
def bc2 (c : Nat) : Nat := (c &&& 51) + ((c / 4) &&& 51)
def pop8 (b : Nat) : Nat := b % 2 + b / 2 % 2 + b / 4 % 2 + b / 8 % 2 + b / 16 % 2 + b / 32 % 2 + b / 64 % 2 + b / 128 % 2
theorem bcA : ∀ b : Fin 256, (b.val / 2 + 128) &&& 85 = (b.val / 2) &&& 85 ∧ (b.val / 2) &&& 85 ≤ b.val ∧ bc1 b.val < 256 := by decide +kernel
theorem bcB : ∀ b : Fin 256, ∀ t : Fin 4, (b.val / 4 + 64 * t.val) &&& 51 = (b.val / 4) &&& 51 := by decide +kernel
theorem bcC : ∀ b : Fin 256, bc2 (bc1 b.val) < 69 ∧ bc2 (bc1 b.val) % 16 ≤ 4 ∧ (bc2 (bc1 b.val) + bc2 (bc1 b.val) / 16) % 16 = pop8 b.val ∧ pop8 b.val ≤ 8 := by decide +kernel
theorem p8a {w b : Nat} (hb : b < 256) {k : Nat} (hk : k < 8) : ((b + 256 * w) >>> k) % 2 = (b >>> k) % 2 := by
  rw [bit_mod, bit_mod, show b + 256 * w = 2 ^ 8 * w + b by omega, Nat.testBit_two_pow_mul_add _ hb, if_pos hk]
theorem p8b {w b : Nat} (hb : b < 256) {k : Nat} : ((b + 256 * w) >>> (8 + k)) % 2 = (w >>> k) % 2 := by
  rw [bit_mod, bit_mod, show b + 256 * w = 2 ^ 8 * w + b by omega, Nat.testBit_two_pow_mul_add _ hb, show (if 8 + k < 8 then b.testBit (8 + k) else w.testBit (8 + k - 8)) = w.testBit k by rw [if_neg (show ¬ 8 + k < 8 by omega), show 8 + k - 8 = k by omega]]
def popN (v k n : Nat) : Nat := ((List.range n).map (fun j => (v >>> (k + j)) % 2)).sum
theorem popN_cut (v k m n : Nat) : popN v k (m + n) = popN v k m + popN v (k + m) n := by
  unfold popN
  rw [List.range_add, List.map_append, List.sum_append, List.map_map]
  congr 2
  apply List.map_congr_left
  intro j _
  show (v >>> (k + (m + j))) % 2 = _
  rw [Nat.add_assoc]
theorem pop8_eq (b : Nat) : popN b 0 8 = pop8 b := by
  unfold popN pop8
  simp only [List.range_succ, List.range_zero, List.nil_append, List.map_append, List.map_cons, List.map_nil, List.sum_append, List.sum_cons, List.sum_nil, Nat.zero_add, Nat.shiftRight_eq_div_pow, Nat.add_zero, Nat.reducePow, Nat.div_one]
theorem popN_congr {v w k l n : Nat} (h : ∀ j, j < n → (v >>> (k + j)) % 2 = (w >>> (l + j)) % 2) : popN v k n = popN w l n := by
  unfold popN
  rw [List.map_congr_left (fun j hj => h j (List.mem_range.mp hj))]
theorem pop_24 {v : Nat} (v0 v1 v2 : Nat) (h0 : v0 < 256) (h1 : v1 < 256) (e : v = v0 + 256 * (v1 + 256 * v2)) (h2 : v2 < 256) : pop v = pop8 v0 + pop8 v1 + pop8 v2 := by
  have e0 : pop v = popN v 0 24 := by unfold pop popN; simp only [Nat.zero_add]
  have q0 : popN v 0 8 = popN v0 0 8 := popN_congr (fun j hj => by rw [e, p8a h0 (by omega)])
  have q1 : popN v 8 8 = popN v1 0 8 := popN_congr (fun j hj => by rw [e, p8b h0, Nat.zero_add, p8a h1 hj])
  have q2 : popN v 16 8 = popN v2 0 8 := popN_congr (fun j hj => by rw [e, show 16 + j = 8 + (8 + j) by omega, p8b h0, p8b h1, Nat.zero_add])
  have c1 := popN_cut v 0 16 8
  have c2 := popN_cut v 0 8 8
  rw [Nat.zero_add] at c1 c2
  rw [e0, ← pop8_eq, ← pop8_eq, ← pop8_eq, ← q0, ← q1, ← q2]
  exact c1.trans (by rw [c2])
/-- a row of ints is filled -/
theorem q_fillI {a n : Nat} {v : Int32} {h0 : Hp} {Q : Hp → Prop} (hn : n < 2147483648) (k : ∀ h', fr (fun b j => b = a ∧ j < n) h0 h' → (∀ j, j < n → hI h' a j = v) → Q h') : m_J7_fill_53178 a n v h0 Q := by
  unfold m_J7_fill_53178
  intro x2 e2
  have main : ∀ (r j : Nat) (h : Hp), r + j = n → fr (fun b j => b = a ∧ j < n) h0 h → (∀ i, i < j → hI h a i = v) → m_J7_fill_53178_5 (r + 1) Q n a v (n32 j) (n32 n) h := by
    intro r
    induction r with
    | zero =>
      intro j h hr f e
      rw [m_J7_fill_53178_5, n32_le (by omega) (by omega)]
      exact ⟨fun _ => k h f (fun i hi => e i (by omega)), fun z => absurd (by omega) z⟩
    | succ r ih =>
      intro j h hr f e
      rw [m_J7_fill_53178_5, n32_le (by omega) (by omega), n32_ix (by omega)]
      refine ⟨fun z => absurd z (by omega), fun _ => ⟨vpI (by omega) (by omega), fun x1 e1 => ?_⟩⟩
      rw [e1, show n32 j + 1 = n32 (j + 1) from n32_add _ 1]
      refine ih (j + 1) _ (by omega) (fr_wI f _ ⟨rfl, by omega⟩) (fun i hi => ?_)
      rw [hI_wI]
      by_cases q : i = j
      · rw [if_pos ⟨rfl, q⟩]
      · rw [if_neg (by omega)]; exact e i (by omega)
  rw [e2]
  exact ⟨n + 1, main n 0 h0 (by omega) (fr.rf _ _) (fun i hi => by omega)⟩
theorem q_fillJ {a n : Nat} {v : Int64} {h0 : Hp} {Q : Hp → Prop} (hn : n < 2147483648) (k : ∀ h', fr (fun b j => b = a ∧ j < n) h0 h' → (∀ j, j < n → hJ h' a j = v) → Q h') : m_J7_fill_d0a16 a n v h0 Q := by
  unfold m_J7_fill_d0a16
  intro x2 e2
  have main : ∀ (r j : Nat) (h : Hp), r + j = n → fr (fun b j => b = a ∧ j < n) h0 h → (∀ i, i < j → hJ h a i = v) → m_J7_fill_d0a16_6 (r + 1) Q n a v (n32 j) (n32 n) h := by
    intro r
    induction r with
    | zero =>
      intro j h hr f e
      rw [m_J7_fill_d0a16_6, n32_le (by omega) (by omega)]
      exact ⟨fun _ => k h f (fun i hi => e i (by omega)), fun z => absurd (by omega) z⟩
    | succ r ih =>
      intro j h hr f e
      rw [m_J7_fill_d0a16_6, n32_le (by omega) (by omega), n32_ix (by omega)]
      refine ⟨fun z => absurd z (by omega), fun _ => ⟨vpI (by omega) (by omega), fun x1 e1 => ?_⟩⟩
      rw [e1, show n32 j + 1 = n32 (j + 1) from n32_add _ 1]
      refine ih (j + 1) _ (by omega) (fr_wJ f _ ⟨rfl, by omega⟩) (fun i hi => ?_)
      rw [hJ_wJ]
      by_cases q : i = j
      · rw [if_pos ⟨rfl, q⟩]
      · rw [if_neg (by omega)]; exact e i (by omega)
  rw [e2]
  exact ⟨n + 1, main n 0 h0 (by omega) (fr.rf _ _) (fun i hi => by omega)⟩
/-- within a bound -/
theorem c_within {v : Int32} {n : Nat} {h : Hp} {Q : Int32 → Hp → Prop} (hn : n < 2147483648) (k1 : argN v n = none → Q 0 h) (k2 : ∀ a, a < n → a < 2147483648 → v = n32 a → argN v n = some a → Q 1 h) : m_X11_isWithin v (n32 n) h Q := by
  unfold m_X11_isWithin
  rcases arg_cases v n with ⟨e, c⟩ | ⟨a, h1, h2, rfl, e⟩
  · refine ⟨fun _ => k1 e, fun z => ⟨fun _ => k1 e, fun z2 => ?_⟩⟩
    rcases c with c | ⟨a, g1, g2, rfl⟩
    · exact absurd c z
    · exact absurd ((n32_le hn g2).mpr g1) z2
  · refine ⟨fun z => ?_, fun _ => ⟨fun z => ?_, fun _ => k2 a h1 h2 rfl e⟩⟩
    · rw [show (0 : Int32) = n32 0 from rfl, n32_lt h2 (by decide)] at z; omega
    · rw [n32_le hn h2] at z; omega
