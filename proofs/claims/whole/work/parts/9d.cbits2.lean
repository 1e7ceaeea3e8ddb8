/-! THE CLASS: bits counted, whole -/
theorem sub8 {a m m' : Nat} (ha : a < 256) (hm : m < 256) : a &&& (m + 256 * m') = a &&& m := by
  have z := and8 (a := a) (m := m) 0 m' ha hm
  rw [Nat.mul_zero, Nat.add_zero, Nat.zero_and, Nat.mul_zero, Nat.add_zero] at z
  exact z
theorem bcS1 {v0 v1 v2 : Nat} (h0 : v0 < 256) (h1 : v1 < 256) (h2 : v2 < 256) : ((v0 + 256 * (v1 + 256 * v2)) >>> 1) &&& (85 + 256 * (85 + 256 * (85 + 256 * 85))) = (v0 / 2 &&& 85) + 256 * ((v1 / 2 &&& 85) + 256 * (v2 / 2 &&& 85)) := by
  have a2 : ∀ b t : Nat, b < 256 → t < 2 → (b / 2 + 128 * t) &&& 85 = (b / 2) &&& 85 := by
    intro b t hb ht
    rcases (show t = 0 ∨ t = 1 by omega) with rfl | rfl
    · rw [Nat.mul_zero, Nat.add_zero]
    · exact (bcA ⟨b, hb⟩).1
  rw [Nat.shiftRight_eq_div_pow, show (v0 + 256 * (v1 + 256 * v2)) / 2 ^ 1 = (v0 / 2 + 128 * (v1 % 2)) + 256 * ((v1 / 2 + 128 * (v2 % 2)) + 256 * (v2 / 2)) by omega, and8 _ _ (by omega) (by omega), and8 _ _ (by omega) (by omega), sub8 (by omega) (by omega), a2 _ _ h0 (by omega), a2 _ _ h1 (by omega)]
theorem bcS2 {c0 c1 c2 : Nat} (h0 : c0 < 256) (h1 : c1 < 256) (h2 : c2 < 256) : ((c0 + 256 * (c1 + 256 * c2)) &&& (51 + 256 * (51 + 256 * (51 + 256 * 51)))) + (((c0 + 256 * (c1 + 256 * c2)) >>> 2) &&& (51 + 256 * (51 + 256 * (51 + 256 * 51)))) = bc2 c0 + 256 * (bc2 c1 + 256 * bc2 c2) := by
  have B : ∀ b t : Nat, b < 256 → t < 4 → (b / 4 + 64 * t) &&& 51 = (b / 4) &&& 51 := fun b t hb ht => bcB ⟨b, hb⟩ ⟨t, ht⟩
  rw [Nat.shiftRight_eq_div_pow, show (c0 + 256 * (c1 + 256 * c2)) / 2 ^ 2 = (c0 / 4 + 64 * (c1 % 4)) + 256 * ((c1 / 4 + 64 * (c2 % 4)) + 256 * (c2 / 4)) by omega, and8 _ _ (by omega) (by omega), and8 _ _ (by omega) (by omega), sub8 (by omega) (by omega), and8 _ _ (by omega) (by omega), and8 _ _ (by omega) (by omega), sub8 (by omega) (by omega), B _ _ h0 (by omega), B _ _ h1 (by omega)]
  unfold bc2
  omega
theorem bcS3 {d0 d1 d2 : Nat} (h0 : d0 < 69) (h1 : d1 < 69) (h2 : d2 < 69) (q1 : d1 % 16 ≤ 4) (q2 : d2 % 16 ≤ 4) : ((d0 + 256 * (d1 + 256 * d2)) + ((d0 + 256 * (d1 + 256 * d2)) >>> 4)) &&& (15 + 256 * (15 + 256 * (15 + 256 * 15))) = (d0 + d0 / 16) % 16 + 256 * ((d1 + d1 / 16) % 16 + 256 * ((d2 + d2 / 16) % 16)) := by
  have m16 : ∀ z, z &&& 15 = z % 16 := fun z => by rw [show (15 : Nat) = 2 ^ 4 - 1 from rfl, Nat.and_two_pow_sub_one_eq_mod]
  rw [Nat.shiftRight_eq_div_pow, show (d0 + 256 * (d1 + 256 * d2)) + (d0 + 256 * (d1 + 256 * d2)) / 2 ^ 4 = (d0 + d0 / 16 + 16 * (d1 % 16)) + 256 * ((d1 + d1 / 16 + 16 * (d2 % 16)) + 256 * (d2 + d2 / 16)) by omega, and8 _ _ (by omega) (by omega), and8 _ _ (by omega) (by omega), sub8 (by omega) (by omega), m16, m16, m16]
  omega
theorem n32c (v a : Nat) (e : v = a) : n32 v = n32 a := by rw [e]
theorem q_bitCount {v : Nat} {h : Hp} {Q : Int32 → Hp → Prop} (hv : v < 16777216) (k : Q (n32 (pop v)) h) : m_J6_bitCount_0f7a4 (n32 v) h Q := by
  obtain ⟨v0, v1, v2, h0, h1, h2, e⟩ : ∃ v0 v1 v2, v0 < 256 ∧ v1 < 256 ∧ v2 < 256 ∧ v = v0 + 256 * (v1 + 256 * v2) := ⟨v % 256, v / 256 % 256, v / 65536, by omega, by omega, by omega, by omega⟩
  have p := pop_24 v0 v1 v2 h0 h1 e h2
  rw [p] at k
  subst e
  obtain ⟨-, A0, B0⟩ := bcA ⟨v0, h0⟩
  obtain ⟨-, A1, B1⟩ := bcA ⟨v1, h1⟩
  obtain ⟨-, A2, B2⟩ := bcA ⟨v2, h2⟩
  obtain ⟨C0, D0, E0, G0⟩ := bcC ⟨v0, h0⟩
  obtain ⟨C1, D1, E1, G1⟩ := bcC ⟨v1, h1⟩
  obtain ⟨C2, D2, E2, G2⟩ := bcC ⟨v2, h2⟩
  dsimp only at A0 A1 A2 B0 B1 B2 C0 C1 C2 D0 D1 D2 E0 E1 E2 G0 G1 G2
  have M1 : (1431655765 : Int32) = n32 (85 + 256 * (85 + 256 * (85 + 256 * 85))) := rfl
  have M2 : (858993459 : Int32) = n32 (51 + 256 * (51 + 256 * (51 + 256 * 51))) := rfl
  have M3 : (252645135 : Int32) = n32 (15 + 256 * (15 + 256 * (15 + 256 * 15))) := rfl
  have sh : ∀ a s : Nat, a >>> s ≤ a := fun a s => by rw [Nat.shiftRight_eq_div_pow]; exact Nat.div_le_self _ _
  unfold m_J6_bitCount_0f7a4
  intro y1 e1
  have S1 := bcS1 h0 h1 h2
  have X1 : (v0 + 256 * (v1 + 256 * v2)) - (((v0 + 256 * (v1 + 256 * v2)) >>> 1) &&& (85 + 256 * (85 + 256 * (85 + 256 * 85)))) = bc1 v0 + 256 * (bc1 v1 + 256 * bc1 v2) := by rw [S1]; unfold bc1; omega
  have z1 := sh (v0 + 256 * (v1 + 256 * v2)) 1
  have L1 : ((v0 + 256 * (v1 + 256 * v2)) >>> 1) &&& (85 + 256 * (85 + 256 * (85 + 256 * 85))) ≤ v0 + 256 * (v1 + 256 * v2) := Nat.le_trans Nat.and_le_left z1
  have e1' : y1 = n32 (bc1 v0 + 256 * (bc1 v1 + 256 * bc1 v2)) := by
    rw [e1, M1, show (1 : Int32) = n32 1 from rfl, n32_ushr (by omega) (by omega), n32_and (by omega) (by omega), n32_sub L1]
    exact n32c _ _ X1
  clear e1 X1 S1 L1 z1
  generalize bc1 v0 = c0 at B0 C0 D0 E0 e1'
  generalize bc1 v1 = c1 at B1 C1 D1 E1 e1'
  generalize bc1 v2 = c2 at B2 C2 D2 E2 e1'
  intro y2 e2
  have S2 := bcS2 B0 B1 B2
  have z2 := sh (c0 + 256 * (c1 + 256 * c2)) 2
  have e2' : y2 = n32 (bc2 c0 + 256 * (bc2 c1 + 256 * bc2 c2)) := by
    rw [e2, e1', M2, show (2 : Int32) = n32 2 from rfl, n32_ushr (by omega) (by omega), n32_and (by omega) (by omega), n32_and (by omega) (by omega), n32_add]
    exact n32c _ _ S2
  clear e2 S2 z2
  generalize bc2 c0 = d0 at C0 D0 E0 e2'
  generalize bc2 c1 = d1 at C1 D1 E1 e2'
  generalize bc2 c2 = d2 at C2 D2 E2 e2'
  intro y3 e3
  have S3 := bcS3 C0 C1 C2 D1 D2
  rw [E0, E1, E2] at S3
  have z3 := sh (d0 + 256 * (d1 + 256 * d2)) 4
  have e3' : y3 = n32 (pop8 v0 + 256 * (pop8 v1 + 256 * pop8 v2)) := by
    rw [e3, e2', M3, show (4 : Int32) = n32 4 from rfl, n32_ushr (by omega) (by omega), n32_add, n32_and (by omega) (by omega)]
    exact n32c _ _ S3
  clear e3 S3 z3
  generalize pop8 v0 = p0 at G0 e3' k
  generalize pop8 v1 = p1 at G1 e3' k
  generalize pop8 v2 = p2 at G2 e3' k
  intro y4 e4
  have e4' : y4 = n32 ((p0 + p1) + 256 * (p1 + p2) + 65536 * p2) := by
    rw [e4, e3', show (8 : Int32) = n32 8 from rfl, n32_ushr (by omega) (by omega), n32_add]
    exact n32c _ _ (by rw [Nat.shiftRight_eq_div_pow]; omega)
  clear e4
  intro y5 e5
  have e5' : y5 = n32 ((p0 + p1 + p2) + 256 * (p1 + p2) + 65536 * p2) := by
    rw [e5, e4', show (16 : Int32) = n32 16 from rfl, n32_ushr (by omega) (by omega), n32_add]
    exact n32c _ _ (by rw [Nat.shiftRight_eq_div_pow]; omega)
  have e6 : y5 &&& 63 = n32 (p0 + p1 + p2) := by
    rw [e5', show (63 : Int32) = n32 63 from rfl, n32_and (by omega) (by omega)]
    exact n32c _ _ (by rw [show (63 : Nat) = 2 ^ 6 - 1 from rfl, Nat.and_two_pow_sub_one_eq_mod]; omega)
  rw [e6]
  exact k
