/-! THE MODEL: a deal's leaves -/
theorem RD.ch {b : Nat} {s : St} {h : Hp} (R : RD b s h) : ∀ n u, (u = 0 ∨ b < u ∧ u ≤ sN s ∧ 4 ≤ sD s 58 (u - 1)) → chOk (sD s) n u
  | 0, _, _ => trivial
  | n + 1, u, hu => by
    rw [chOk]
    rcases Nat.eq_zero_or_pos u with h0 | hp
    · exact Or.inl h0
    · have hg : b ≤ u - 1 ∧ u - 1 < sN s := by omega
      have ho := R.1.2.2.2.2.2.2.2.1 (u - 1) hg.1 hg.2
      refine Or.inr ⟨ho.2.2.2.2.2.1, ho.2.2.2.2.2.2.1, by omega, ho.1, ho.2.2.1, R.ch n _ ?_⟩
      have := ho.2.1
      omega
theorem q_later {b : Nat} {s : St} {h : Hp} {i : Nat} {Q : Int32 → Hp → Prop} (R : RD b s h) (h1 : b ≤ i) (h2 : i < sN s) (k : Q (n32 (cxA s i 4)) h) : m_X12_later (n32 i) h Q := by
  unfold m_X12_later
  have hn := R.2.2 i h1 h2
  have ho := R.1.2.2.2.2.2.2.2.1 i h1 h2
  have hl := R.lt
  have e := hn.2.2.1
  have o2 := ho.2.1
  simp (disch := omega) only [↓m1_pm, lit32, n32_add, n32_mul, n32_ix, n32_lt, n32_le, n32_eq, n32_in, pm_ix, pm_in, pm_eqn, n_eqpm, pm_ltn, n_ltpm, pm_len, n_lepm, pm_inj, forall_eq, e]
  refine ⟨by omega, i + 2, ?_⟩
  refine q_later9 R (i + 1) _ 0 (by omega) (by omega) (by have := ho.2.2.2.2.2.2.2.2.2.2.2; omega) ?_
  rw [Nat.zero_add, lat_cx _ _ _ (sD s 61 i)]
  exact k
set_option maxHeartbeats 4000000 in
set_option maxRecDepth 100000 in
theorem q_times6 {b c sh : Nat} {s : St} {h : Hp} {Q : Int64 → Hp → Prop} (R : RD b s h) (hc : c < 2147483648) (hsh : sh ≤ 28) : ∀ (n i acc : Nat), b ≤ i → i < sN s → sD s 60 i ≤ n → acc * 10 ^ dep (sD s) n (sD s 60 i) ≤ 10000000 → Q (z64 (acc * tm (sD s) c sh n (sD s 60 i) (sD s 61 i) : Nat)) h → m_X12_times_6 (n + 1) Q (n32 c) (n32 sh) (z64 (acc : Nat)) (n32 i) h := by
  intro n
  induction n with
  | zero =>
    intro i acc h1 h2 hu ha k
    have hn := R.2.2 i h1 h2
    have hl := R.lt
    have e := hn.2.2.1
    have e0 : sD s 60 i = 0 := by omega
    rw [e0] at k ha e
    simp only [tm, dep, Nat.mul_one, Nat.pow_zero] at k ha
    rw [m_X12_times_6]
    simp (disch := omega) only [↓m1_pm, lit32, n32_add, n32_mul, n32_ix, n32_lt, n32_le, n32_eq, n32_in, pm_ix, pm_in, pm_eqn, n_eqpm, pm_ltn, n_ltpm, pm_len, n_lepm, pm_inj, forall_eq, litJ, z64_add, z64_sub, z64_mul, n32_long, lgc_eq, lgc_le, lgc_lt, lgc_ge, lgc_gt, e]
    exact ⟨fun _ => k, fun _ => ⟨by omega, fun _ => k, fun q => absurd q (by omega)⟩⟩
  | succ n ih =>
    intro i acc h1 h2 hu ha k
    have hn := R.2.2 i h1 h2
    have ho := R.1.2.2.2.2.2.2.2.1 i h1 h2
    have hl := R.lt
    have e := hn.2.2.1
    have ep := hn.2.2.2.1
    have o2 := ho.2.1
    have o3 := ho.2.2.1
    rw [m_X12_times_6]
    rcases Nat.eq_zero_or_pos (sD s 60 i) with e0 | hp
    · rw [e0] at k ha e
      simp only [tm, dep, if_pos, Nat.mul_one, Nat.pow_zero] at k ha
      simp (disch := omega) only [↓m1_pm, lit32, n32_add, n32_mul, n32_ix, n32_lt, n32_le, n32_eq, n32_in, pm_ix, pm_in, pm_eqn, n_eqpm, pm_ltn, n_ltpm, pm_len, n_lepm, pm_inj, forall_eq, litJ, z64_add, z64_sub, z64_mul, n32_long, lgc_eq, lgc_le, lgc_lt, lgc_ge, lgc_gt, e]
      exact ⟨fun _ => k, fun _ => ⟨by omega, fun _ => k, fun q => absurd q (by omega)⟩⟩
    · obtain ⟨g, hg⟩ : ∃ g, sD s 60 i = g + 1 := ⟨sD s 60 i - 1, by omega⟩
      rw [hg] at k ha e o2 hu
      simp only [Nat.add_sub_cancel] at o2
      rw [tm, if_neg (by omega), show g + 1 - 1 = g from rfl] at k
      rw [dep, if_neg (by omega), show g + 1 - 1 = g from rfl, Nat.add_comm 1, Nat.pow_succ] at ha
      have hg1 : b ≤ g ∧ g < sN s := by omega
      have gn := R.2.2 g hg1.1 hg1.2
      have go := R.1.2.2.2.2.2.2.2.1 g hg1.1 hg1.2
      have f1 := gn.1; have f2 := gn.2.1
      have p1 := go.1; have p2 := go.2.1; have p4 := go.2.2.2.1; have p5 := go.2.2.2.2.1; have p6 := go.2.2.2.2.2.1; have p7 := go.2.2.2.2.2.2.1
      have hpos : 0 < 10 ^ dep (sD s) n (sD s 60 g) := Nat.pow_pos (by decide)
      generalize hP : 10 ^ dep (sD s) n (sD s 60 g) = P at ha hpos
      have hacc : acc * 10 ≤ 10000000 := by
        have : acc * 10 * 1 ≤ acc * 10 * P := Nat.mul_le_mul_left _ hpos
        have : acc * (P * 10) = acc * 10 * P := by rw [Nat.mul_comm P, Nat.mul_assoc]
        omega
      have e' : hI h 60 i = n32 g := e
      have num : sD s 59 g < 400 := by
        rcases (show sD s 58 g = 4 ∨ sD s 58 g = 5 ∨ sD s 58 g = 6 ∨ sD s 58 g = 7 by omega) with q | q | q | q
        · exact p4 q
        · have := p5 q; omega
        · have := p6 q; omega
        · have := p7 q; omega
      simp (disch := omega) only [↓m1_pm, lit32, n32_add, n32_mul, n32_ix, n32_lt, n32_le, n32_eq, n32_in, pm_ix, pm_in, pm_eqn, n_eqpm, pm_ltn, n_ltpm, pm_len, n_lepm, pm_inj, forall_eq, litJ, z64_add, z64_sub, z64_mul, n32_long, lgc_eq, lgc_le, lgc_lt, lgc_ge, lgc_gt, e']
      refine ⟨fun c0 => ?_, fun c0 => ⟨by omega, fun c1 => absurd c1 (by omega), fun _ => ⟨by omega, by omega, ?_⟩⟩⟩
      · obtain rfl : acc = 0 := by omega
        simpa using k
      · have go : ∀ v : Nat, v * P ≤ 10000000 → Q (z64 (v * tm (sD s) c sh n (sD s 60 g) (sD s 61 g) : Nat)) h → m_X12_times_6 (n + 1) Q (n32 c) (n32 sh) (z64 (v : Nat)) (n32 g) h := fun v hv hq => ih g v hg1.1 hg1.2 (by omega) (by rw [hP]; exact hv) hq
        have hle : acc * P ≤ 10000000 := by
          have : acc * P ≤ acc * (P * 10) := Nat.mul_le_mul_left _ (by omega)
          omega
        unfold fac at k
        rcases (show sD s 58 g = 4 ∨ sD s 58 g = 5 ∨ sD s 58 g = 6 ∨ sD s 58 g = 7 by omega) with q | q | q | q
        · rw [if_neg (by omega), if_neg (by omega), if_neg (by omega), Nat.one_mul] at k
          rw [q] at f1
          simp (disch := omega) only [↓m1_pm, lit32, n32_add, n32_mul, n32_ix, n32_lt, n32_le, n32_eq, n32_in, pm_ix, pm_in, pm_eqn, n_eqpm, pm_ltn, n_ltpm, pm_len, n_lepm, pm_inj, forall_eq, m_X12_times_56, m_X12_times_94, m_X12_times_132, f1]
          refine ⟨fun _ => ⟨by omega, fun _ => ⟨by omega, fun _ => go acc hle k, fun c => absurd c (by decide)⟩, fun c => absurd c (by decide)⟩, fun c => absurd c (by decide)⟩
        · rw [if_pos q, ← Nat.mul_assoc] at k
          rw [q] at f1
          have n10 := p5 q
          simp (disch := omega) only [↓m1_pm, lit32, n32_add, n32_mul, n32_ix, n32_lt, n32_le, n32_eq, n32_in, pm_ix, pm_in, pm_eqn, n_eqpm, pm_ltn, n_ltpm, pm_len, n_lepm, pm_inj, forall_eq, litJ, z64_add, z64_sub, z64_mul, n32_long, lgc_eq, lgc_le, lgc_lt, lgc_ge, lgc_gt, m_X12_times_56, m_X12_times_94, m_X12_times_132, f1, f2]
          refine ⟨fun c => absurd trivial c, fun _ => ⟨by omega, by omega, fun _ => ⟨by omega, fun _ => ?_, fun c => absurd c (by decide)⟩, fun c => absurd c (by decide)⟩⟩
          have := go (acc * sD s 59 g) (by
            have : acc * sD s 59 g * P ≤ acc * 10 * P := Nat.mul_le_mul_right _ (Nat.mul_le_mul_left _ (by omega))
            have : acc * (P * 10) = acc * 10 * P := by rw [Nat.mul_comm P, Nat.mul_assoc]
            omega) k
          simpa using this
        · rw [if_neg (by omega), if_pos q] at k
          rw [q] at f1
          have n5 := p6 q
          have hsub : n32 1 - n32 (sD s 61 i) = n32 (1 - sD s 61 i) := n32_sub (by omega)
          have hb : (c >>> sD s 59 g) % 2 < 2 := Nat.mod_lt _ (by decide)
          simp (disch := omega) only [↓m1_pm, lit32, n32_add, n32_mul, n32_ix, n32_lt, n32_le, n32_eq, n32_in, pm_ix, pm_in, pm_eqn, n_eqpm, pm_ltn, n_ltpm, pm_len, n_lepm, pm_inj, forall_eq, litJ, z64_add, z64_sub, z64_mul, n32_long, lgc_eq, lgc_le, lgc_lt, lgc_ge, lgc_gt, m_X12_times_56, m_X12_times_94, m_X12_times_132, f1, f2, ep, n32_bit, hsub]
          refine ⟨fun _ => ⟨by omega, fun c => absurd trivial c, fun _ => ⟨by omega, by omega, fun c2 => ⟨by omega, fun _ => ?_, fun c => absurd c (by decide)⟩, fun c2 => ⟨by omega, fun _ => ?_, fun c => absurd c (by decide)⟩⟩⟩, fun c => absurd c (by decide)⟩
          · rw [if_pos c2, Nat.one_mul] at k; exact go acc hle k
          · rw [if_neg c2, Nat.zero_mul, Nat.mul_zero] at k
            have := go 0 (by omega) (by simpa using k)
            simpa using this
        · rw [if_neg (by omega), if_neg (by omega), if_pos q] at k
          rw [q] at f1
          have n3 := p7 q
          have hb : (c >>> (sh + sD s 59 g)) % 2 < 2 := Nat.mod_lt _ (by decide)
          simp (disch := omega) only [↓m1_pm, lit32, n32_add, n32_mul, n32_ix, n32_lt, n32_le, n32_eq, n32_in, pm_ix, pm_in, pm_eqn, n_eqpm, pm_ltn, n_ltpm, pm_len, n_lepm, pm_inj, forall_eq, litJ, z64_add, z64_sub, z64_mul, n32_long, lgc_eq, lgc_le, lgc_lt, lgc_ge, lgc_gt, m_X12_times_56, m_X12_times_94, m_X12_times_132, f1, f2, ep, n32_bit]
          refine ⟨fun _ => ⟨by omega, fun _ => ⟨by omega, fun c => absurd trivial c, fun _ => ⟨by omega, by omega, fun c2 => ?_, fun c2 => ?_⟩⟩, fun c => absurd c (by decide)⟩, fun c => absurd c (by decide)⟩
          · rw [if_pos c2, Nat.one_mul] at k; exact go acc hle k
          · rw [if_neg c2, Nat.zero_mul, Nat.mul_zero] at k
            have := go 0 (by omega) (by simpa using k)
            simpa using this
/-- a leaf's times, by the leaf's own numbers -/
theorem q_times {b c bf : Nat} {s : St} {h : Hp} {i : Nat} {r : Rec} {Q : Int64 → Hp → Prop} (R : RD b s h) (h1 : b ≤ i) (h2 : i < sN s) (hl : LfAt s r i) (hc : c < 2147483648) (hsh : bf ≤ 23) (k : Q (z64 (lfTimes r (own c bf) : Nat)) h) : m_X12_times (n32 i) (n32 c) (n32 (5 + bf)) h Q := by
  unfold m_X12_times
  have ho := R.1.2.2.2.2.2.2.2.1 i h1 h2
  refine ⟨i + 2, ?_⟩
  have key := (tm_cx (sD s) c bf (i + 1) (sD s 60 i) (sD s 61 i) ho.2.2.1 (R.ch _ _ (by have := ho.2.1; omega))).2
  have := q_times6 (Q := Q) R hc (sh := 5 + bf) (by omega) (i + 1) i 1 h1 h2 (by have := ho.2.1; omega) (by
    rw [Nat.one_mul]
    exact Nat.le_trans (Nat.pow_le_pow_right (by decide) ho.2.2.2.2.2.2.2.2.2.2.2) (by decide)) (by
    rw [key, Nat.one_mul]
    unfold lfTimes at k
    rw [hl.2.2.2.2.2.2.2.2.2.1, hl.2.2.2.2.2.2.2.2.2.2.1, hl.2.2.2.2.2.2.2.2.2.2.2] at k
    exact k)
  exact (by simpa using this : m_X12_times_6 (i + 2) Q (n32 c) (n32 (5 + bf)) (z64 1) (n32 i) h)
theorem RD.at {D : List Dl} {d : Nat} {h : Hp} (R : RD (96 * d) (dS D d) h) {i : Nat} (h1 : 96 * d ≤ i) (h2 : i < sN (dS D d)) : (4 ≤ sD (dS D d) 58 i ∧ rem (dL D d) i = rem (dL D d) (i + 1)) ∨ (sD (dS D d) 58 i < 4 ∧ ∃ r, rem (dL D d) i = r :: rem (dL D d) (i + 1) ∧ LfAt (dS D d) r i ∧ LfOk r) := R.1.2.2.2.2.2.2.2.2.2.2 i h1 h2
theorem RD.beg {D : List Dl} {d : Nat} {h : Hp} (R : RD (96 * d) (dS D d) h) : rem (dL D d) (96 * d) = dL D d := R.1.2.2.2.2.2.2.2.2.1
theorem RD.fin {D : List Dl} {d : Nat} {h : Hp} (R : RD (96 * d) (dS D d) h) : rem (dL D d) (sN (dS D d)) = [] := R.1.2.2.2.2.2.2.2.2.2.1
