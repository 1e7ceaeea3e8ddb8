/-! SHARES: lowest terms, which is less; what is out -/
theorem cf_lt {p q r s : Nat} (hq : 0 < q) (hs : 0 < s) (h : p / q < r / s) : p * s < r * q := by
  have h1 : p < q * (p / q + 1) := Nat.lt_mul_div_succ p hq
  have h2 : s * (r / s) ≤ r := Nat.mul_div_le r s
  have h3 : p * s < q * (p / q + 1) * s := (Nat.mul_lt_mul_right hs).mpr h1
  have h4 : q * (p / q + 1) * s ≤ q * (r / s) * s := Nat.mul_le_mul_right _ (Nat.mul_le_mul_left _ h)
  have h5 : q * (r / s) * s = s * (r / s) * q := by rw [Nat.mul_comm q, Nat.mul_right_comm, Nat.mul_comm (r / s) s]
  have h6 : s * (r / s) * q ≤ r * q := Nat.mul_le_mul_right _ h2
  omega
theorem cf_eq {p q r s : Nat} (h : p / q = r / s) : (p * s < r * q ↔ p % q * s < r % s * q) ∧ (r * q < p * s ↔ r % s * q < p % q * s) := by
  have e1 : p * s = q * (p / q) * s + p % q * s := by rw [← Nat.add_mul, Nat.div_add_mod]
  have e2 : r * q = s * (r / s) * q + r % s * q := by rw [← Nat.add_mul, Nat.div_add_mod]
  have e3 : q * (p / q) * s = s * (r / s) * q := by rw [h, Nat.mul_comm q, Nat.mul_right_comm, Nat.mul_comm (r / s) s]
  omega
theorem z64_div {a b : Nat} (ha : a < 9223372036854775808) (hb0 : 0 < b) (hb : b < 9223372036854775808) : z64 (a : Nat) / z64 (b : Nat) = z64 (a / b : Nat) := by
  apply Int64.toInt_inj.mp
  have hd : a / b ≤ a := Nat.div_le_self a b
  rw [Int64.toInt_div, z64_toInt (a := (a : Int)) (by omega) (by omega), z64_toInt (a := (b : Int)) (by omega) (by omega)]
  rw [Int.tdiv_eq_ediv_of_nonneg (by omega), ← Int.natCast_ediv]
  generalize a / b = c at hd ⊢
  rw [z64_toInt (by omega) (by omega)]
  apply Int.bmod_eq_of_le <;> omega
theorem z64_rem {a b : Nat} (ha : a < 9223372036854775808) (hb0 : 0 < b) (hb : b < 9223372036854775808) : z64 (a : Nat) - z64 (a : Nat) / z64 (b : Nat) * z64 (b : Nat) = z64 (a % b : Nat) := by
  rw [z64_div ha hb0 hb, z64_mul, z64_sub]
  congr 1
  have := Nat.div_add_mod a b
  have e : ((a / b : Nat) : Int) * (b : Int) = ((b * (a / b) : Nat) : Int) := by rw [Int.natCast_mul, Int.mul_comm]
  rw [e]
  omega
theorem z64_ne0 {a : Nat} (h0 : 0 < a) (h : a < 9223372036854775808) : ¬ z64 (a : Nat) = 0 := by
  rw [show (0 : Int64) = z64 0 from rfl, z64_eq (by omega) (by omega) (by decide) (by decide)]
  omega
set_option maxHeartbeats 4000000 in
set_option maxRecDepth 100000 in
theorem q_divisor6 {h : Hp} {Q : Int64 → Hp → Prop} : ∀ (n x y : Nat), y ≤ n → x < 4611686018427387904 → y < 4611686018427387904 → Q (z64 (Nat.gcd x y : Nat)) h → m_X12_divisor_6 (n + 1) Q (z64 (x : Nat)) (z64 (y : Nat)) h := by
  intro n
  have z0 : (0 : Int64) = z64 ((0 : Nat) : Int) := rfl
  induction n with
  | zero =>
    intro x y hy hx _ k
    obtain rfl : y = 0 := by omega
    rw [m_X12_divisor_6, z0]
    simp (disch := omega) only [↓m1_pm, lit32, n32_add, n32_mul, n32_ix, n32_lt, n32_le, n32_eq, n32_in, pm_ix, pm_in, pm_eqn, n_eqpm, pm_ltn, n_ltpm, pm_len, n_lepm, pm_inj, forall_eq, lgc_le]
    exact ⟨fun _ => by simpa using k, fun z => absurd (Int.le_refl _) z⟩
  | succ n ih =>
    intro x y hy hx hy2 k
    rw [m_X12_divisor_6]
    rcases Nat.eq_zero_or_pos y with rfl | hp
    · rw [z0]
      simp (disch := omega) only [↓m1_pm, lit32, n32_add, n32_mul, n32_ix, n32_lt, n32_le, n32_eq, n32_in, pm_ix, pm_in, pm_eqn, n_eqpm, pm_ltn, n_ltpm, pm_len, n_lepm, pm_inj, forall_eq, lgc_le]
      exact ⟨fun _ => by simpa using k, fun z => absurd (Int.le_refl _) z⟩
    · have hm : x % y < y := Nat.mod_lt _ hp
      have e := z64_rem (a := x) (b := y) (by omega) hp (by omega)
      refine ⟨fun z => ?_, fun _ => ⟨z64_ne0 hp (by omega), ?_⟩⟩
      · rw [z0, show (0 : Int32) = n32 0 from rfl, lgc_le (by omega) (by omega) (by omega) (by omega)] at z; omega
      · rw [e]
        intro x1 e1
        rw [e1]
        refine ih y (x % y) (by omega) hy2 (by omega) ?_
        rw [Nat.gcd_comm y, ← Nat.gcd_rec, Nat.gcd_comm]
        exact k
theorem q_divisor {h : Hp} {Q : Int64 → Hp → Prop} {x y : Nat} (hx : x < 4611686018427387904) (hy : y < 4611686018427387904) (k : Q (z64 (Nat.gcd x y : Nat)) h) : m_X12_divisor (z64 (x : Nat)) (z64 (y : Nat)) h Q := ⟨_, q_divisor6 y x y (Nat.le_refl _) hx hy k⟩
set_option maxHeartbeats 4000000 in
set_option maxRecDepth 100000 in
theorem q_isLess17 {h : Hp} {Q : Int32 → Hp → Prop} : ∀ (n p q r s t : Nat), q ≤ n → 0 < q → 0 < s → t < 2 → p < 4611686018427387904 → q < 4611686018427387904 → r < 4611686018427387904 → s < 4611686018427387904 →
    (((if t = 0 then p * s < r * q else r * q < p * s) → Q 1 h) ∧ (¬ (if t = 0 then p * s < r * q else r * q < p * s) → Q 0 h)) → m_X12_isLess_17 (n + 1) (m_X12_isLess_39 Q) (m_X12_isLess_102 Q) Q (z64 (p : Nat)) (z64 (q : Nat)) (z64 (r : Nat)) (z64 (s : Nat)) (n32 t) h := by
  intro n
  induction n with
  | zero => intro p q r s t h1 h2; omega
  | succ n ih =>
    intro p q r s t hn hq hs ht bp bq br bs k
    rw [m_X12_isLess_17]
    have d1 := z64_div (a := p) (b := q) (by omega) hq (by omega)
    have d2 := z64_div (a := r) (b := s) (by omega) hs (by omega)
    have m1 := z64_rem (a := p) (b := q) (by omega) hq (by omega)
    have m2 := z64_rem (a := r) (b := s) (by omega) hs (by omega)
    have l1 : p / q ≤ p := Nat.div_le_self _ _
    have l2 : r / s ≤ r := Nat.div_le_self _ _
    have u1 : p % q < q := Nat.mod_lt _ hq
    have u2 : r % s < s := Nat.mod_lt _ hs
    have z0 : (0 : Int64) = z64 ((0 : Nat) : Int) := rfl
    have c1 : p / q < r / s → p * s < r * q := cf_lt hq hs
    have c2 : r / s < p / q → r * q < p * s := cf_lt hs hq
    have c3 := cf_eq (p := p) (q := q) (r := r) (s := s)
    rw [m1, m2, d1, d2]
    clear d1 d2 m1 m2
    generalize p / q = X at *
    generalize r / s = Y at *
    simp only [forall_eq]
    refine ⟨z64_ne0 hq (by omega), z64_ne0 hs (by omega), fun c => ⟨z64_ne0 hq (by omega), z64_ne0 hs (by omega), ?_⟩, fun c => ?_⟩
    · rw [show (0 : Int32) = n32 0 from rfl, lgc_eq (by omega) (by omega) (by omega) (by omega)] at c
      obtain ⟨g1, g2⟩ := c3 (by omega)
      rw [g1, g2] at k
      generalize hA : p % q = A at *
      generalize hB : r % s = B at *
      have tail : A = 0 ∨ B = 0 → m_X12_isLess_102 Q (n32 t) (z64 (A : Nat)) (z64 (B : Nat)) h := by
        intro hz
        unfold m_X12_isLess_102
        rw [z0]
        simp (disch := omega) only [↓m1_pm, lit32, n32_add, n32_mul, n32_ix, n32_lt, n32_le, n32_eq, n32_in, pm_ix, pm_in, pm_eqn, n_eqpm, pm_ltn, n_ltpm, pm_len, n_lepm, pm_inj, forall_eq, lgc_eq, lgc_le]
        have kA : A = 0 → A * s = 0 := fun e => by rw [e, Nat.zero_mul]
        have kB : B = 0 → B * q = 0 := fun e => by rw [e, Nat.zero_mul]
        have pA : 0 < A → 0 < A * s := fun e => Nat.mul_pos e hs
        have pB : 0 < B → 0 < B * q := fun e => Nat.mul_pos e hq
        refine ⟨fun t0 => ⟨fun a0 => k.2 ?_, fun a0 => ⟨fun b0 => k.2 ?_, fun b0 => k.1 ?_⟩⟩, fun t0 => ⟨fun b0 => k.2 ?_, fun b0 => ⟨fun a0 => k.2 ?_, fun a0 => k.1 ?_⟩⟩⟩
        · rw [if_pos t0, kB (by omega)]; omega
        · rw [if_pos t0, kB (by omega)]; omega
        · rw [if_pos t0, kA (by omega)]; exact pB (by omega)
        · rw [if_neg t0, kA (by omega)]; omega
        · rw [if_neg t0, kA (by omega)]; omega
        · rw [if_neg t0, kB (by omega)]; exact pA (by omega)
      rw [z0]
      unfold m_X12_isLess_175
      simp (disch := omega) only [↓m1_pm, lit32, n32_add, n32_mul, n32_ix, n32_lt, n32_le, n32_eq, n32_in, pm_ix, pm_in, pm_eqn, n_eqpm, pm_ltn, n_ltpm, pm_len, n_lepm, pm_inj, forall_eq, lgc_eq]
      have e1 : s * A = A * s := Nat.mul_comm _ _
      have e2 : q * B = B * q := Nat.mul_comm _ _
      refine ⟨fun a0 => tail (Or.inl (by omega)), fun a0 => ⟨fun b0 => ⟨fun t0 => ?_, fun t0 => ?_⟩, fun b0 => tail (Or.inr (by omega))⟩⟩
      · refine ih q A s B 0 (by omega) (by omega) (by omega) (by omega) bq (by omega) bs (by omega) ?_
        rw [if_pos rfl, e1, e2]
        rw [if_neg t0] at k
        exact k
      · refine ih q A s B 1 (by omega) (by omega) (by omega) (by omega) bq (by omega) bs (by omega) ?_
        rw [if_neg (by decide), e1, e2]
        rw [if_pos t0] at k
        exact k
    · rw [show (0 : Int32) = n32 0 from rfl, lgc_eq (by omega) (by omega) (by omega) (by omega)] at c
      unfold m_X12_isLess_39
      simp (disch := omega) only [↓m1_pm, lit32, n32_add, n32_mul, n32_ix, n32_lt, n32_le, n32_eq, n32_in, pm_ix, pm_in, pm_eqn, n_eqpm, pm_ltn, n_ltpm, pm_len, n_lepm, pm_inj, forall_eq, lgc_le, lgc_ge]
      rcases Nat.lt_or_ge X Y with w | w
      · have := c1 w
        refine ⟨fun t0 => ⟨fun z => absurd z (by omega), fun _ => k.1 ?_⟩, fun t0 => ⟨fun _ => k.2 ?_, fun z => absurd z (by omega)⟩⟩
        · rw [if_pos t0]; exact this
        · rw [if_neg t0]; omega
      · have := c2 (by omega)
        refine ⟨fun t0 => ⟨fun _ => k.2 ?_, fun z => absurd z (by omega)⟩, fun t0 => ⟨fun z => absurd z (by omega), fun _ => k.1 ?_⟩⟩
        · rw [if_pos t0]; omega
        · rw [if_neg t0]; exact this
theorem q_isLess {h : Hp} {Q : Int32 → Hp → Prop} {p q r s : Nat} (hq : 0 < q) (hs : 0 < s) (bp : p < 4611686018427387904) (bq : q < 4611686018427387904) (br : r < 4611686018427387904) (bs : s < 4611686018427387904) (k1 : p * s < r * q → Q 1 h) (k2 : ¬ p * s < r * q → Q 0 h) : m_X12_isLess (z64 (p : Nat)) (z64 (q : Nat)) (z64 (r : Nat)) (z64 (s : Nat)) h Q :=
  ⟨_, q_isLess17 q p q r s 0 (Nat.le_refl _) hq hs (by decide) bp bq br bs ⟨fun z => k1 (by rw [if_pos rfl] at z; exact z), fun z => k2 (by rw [if_pos rfl] at z; exact z)⟩⟩
/-- days that rise from d on -/
def rising : Nat → List (Nat × Int) → Prop
  | _, [] => True
  | d, q :: t => d ≤ q.1 ∧ rising q.1 t
theorem outS_nn : ∀ (L : List (Nat × Int)) (c : Int) (d : Nat), rising d L → 0 ≤ outS c d L
  | [], _, _, _ => Int.le_refl _
  | q :: t, c, d, h => by
    rw [outS]
    have := outS_nn t (c + q.2) q.1 h.2
    have h1 := h.1
    split
    · have : 0 ≤ -c * ((q.1 : Int) - d) := Int.mul_nonneg (by omega) (by omega)
      omega
    · omega
/-- all sums on the way are above -M -/
def above (M : Int) : Int → List (Nat × Int) → Prop
  | c, [] => -M ≤ c
  | c, q :: t => -M ≤ c ∧ above M (c + q.2) t
theorem outS_le (M : Int) (hM : 0 ≤ M) : ∀ (L : List (Nat × Int)) (c : Int) (d : Nat), rising d L → above M c L → (∀ q ∈ L, q.1 < 3000) → d < 3000 → outS c d L ≤ M * (3000 - d)
  | [], c, d, _, _, _, hd => by
    rw [outS]
    exact Int.mul_nonneg hM (by omega)
  | q :: t, c, d, h, a, b, hd => by
    have hq := b q (by simp)
    rw [outS]
    have ih := outS_le M hM t (c + q.2) q.1 h.2 a.2 (fun p hp => b p (by simp [hp])) hq
    have h1 := h.1
    have a1 := a.1
    have e : M * (3000 - (d : Int)) = M * ((q.1 : Int) - d) + M * (3000 - (q.1 : Int)) := by rw [← Int.mul_add]; congr 1; omega
    have hle : (if c < 0 then -c * ((q.1 : Int) - d) else 0) ≤ M * ((q.1 : Int) - d) := by
      split
      · exact Int.mul_le_mul_of_nonneg_right (by omega) (by omega)
      · exact Int.mul_nonneg hM (by omega)
    omega
theorem sum_netD (F : Nat → Nat) (f : Nat) : ∀ (fl : List Rec) (ds : List Nat), ds.Nodup → (ds.map (fun d => netD F fl f 0 d)).sum = (fl.map (fun r => if r 3 = 0 ∧ r 0 ∈ ds then shr F f r else 0)).sum
  | [], ds, _ => by
    have : ∀ ds : List Nat, (ds.map (fun d => netD F [] f 0 d)).sum = 0 := by
      intro ds
      induction ds with
      | nil => rfl
      | cons d ds ih => rw [List.map_cons, List.sum_cons, ih]; rfl
    rw [this]; rfl
  | r :: fl, ds, hn => by
    have ih := sum_netD F f fl ds hn
    rw [List.map_cons, List.sum_cons, ← ih]
    have key : ∀ ds : List Nat, ds.Nodup → (ds.map (fun d => netD F (r :: fl) f 0 d)).sum = (if r 3 = 0 ∧ r 0 ∈ ds then shr F f r else 0) + (ds.map (fun d => netD F fl f 0 d)).sum := by
      intro ds
      induction ds with
      | nil => intro _; simp
      | cons d ds ih2 =>
        intro hn
        rw [List.nodup_cons] at hn
        rw [List.map_cons, List.sum_cons, ih2 hn.2, List.map_cons, List.sum_cons]
        have e : netD F (r :: fl) f 0 d = (if r 3 = 0 ∧ r 0 = d then shr F f r else 0) + netD F fl f 0 d := by simp [netD]
        rw [e]
        by_cases q : r 3 = 0
        · by_cases q2 : r 0 = d
          · rw [if_pos ⟨q, q2⟩, if_neg (fun z => hn.1 (q2 ▸ z.2)), if_pos ⟨q, by simp [q2]⟩]; omega
          · rw [if_neg (fun z => q2 z.2)]
            by_cases q3 : r 0 ∈ ds
            · rw [if_pos ⟨q, q3⟩, if_pos ⟨q, by simp [q3]⟩]; omega
            · rw [if_neg (fun z => q3 z.2), if_neg (fun z => by
                have := z.2
                rw [List.mem_cons] at this
                rcases this with w | w
                · exact q2 w
                · exact q3 w)]
              omega
        · rw [if_neg (fun z => q z.1), if_neg (fun z => q z.1), if_neg (fun z => q z.1)]; omega
    exact key ds hn
theorem sum_abs (F : Nat → Nat) (f : Nat) (P : Rec → Prop) (dp : ∀ r, Decidable (P r)) : ∀ {fl : List Rec}, (∀ q ∈ fl, RowOk q) → -(10000000000 * (fl.length : Int)) ≤ (fl.map (fun r => @ite Int (P r) (dp r) (shr F f r) 0)).sum ∧ (fl.map (fun r => @ite Int (P r) (dp r) (shr F f r) 0)).sum ≤ 10000000000 * fl.length
  | [], _ => by simp
  | r :: fl, h => by
    have ih := sum_abs F f P dp (fl := fl) (fun q hq => h q (by simp [hq]))
    have h1 := (h r (by simp)).2.2.2.2.2
    have h2 := shr_abs (F := F) (f := f) (r := r)
    rw [List.map_cons, List.sum_cons, List.length_cons]
    split <;> omega
