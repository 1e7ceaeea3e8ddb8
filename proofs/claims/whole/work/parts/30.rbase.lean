/-! THE MODEL: small questions -/
theorem q_within {v lo hi : Int32} {h : Hp} {Q : Int32 → Hp → Prop} (k1 : v < lo ∨ hi < v → Q 0 h) (k2 : ¬ v < lo → ¬ hi < v → Q 1 h) : m_X12_within v lo hi h Q := by
  unfold m_X12_within
  exact ⟨fun c => k1 (Or.inl c), fun c => ⟨fun c2 => k1 (Or.inr c2), fun c2 => k2 c c2⟩⟩
/-- a number from 0 to hi, or not -/
theorem q_upto {v : Int32} {hi : Nat} (hh : hi < 2147483647) {h : Hp} {Q : Int32 → Hp → Prop} (k1 : argN v (hi + 1) = none → Q 0 h) (k2 : ∀ a : Nat, a ≤ hi → v = n32 a → argN v (hi + 1) = some a → Q 1 h) : m_X12_within v 0 (n32 hi) h Q := by
  rcases arg_cases v (hi + 1) with ⟨e, c⟩ | ⟨a, h1, h2, rfl, e⟩
  · refine q_within (fun _ => k1 e) (fun c1 c2 => ?_)
    rcases c with c | ⟨a, g1, g2, rfl⟩
    · exact absurd c c1
    · rw [n32_lt (by omega) g2] at c2; omega
  · refine q_within (fun c => ?_) (fun c1 c2 => k2 a (by omega) rfl e)
    rw [show (0 : Int32) = n32 0 from rfl, n32_lt (by omega) (by omega), n32_lt (by omega) (by omega)] at c
    omega
theorem q_isDeal {x : Ab} {v : Int32} {h : Hp} {Q : Int32 → Hp → Prop} (R : RDeals x h) (k1 : argN v (aD x).length = none → Q 0 h) (k2 : ∀ d : Nat, d < (aD x).length → v = n32 d → argN v (aD x).length = some d → Q 1 h) : m_X12_isDeal v h Q := by
  unfold m_X12_isDeal
  have hl := R.2.1
  rw [R.1]
  rcases arg_cases v (aD x).length with ⟨e, c⟩ | ⟨a, h1, h2, rfl, e⟩
  · refine ⟨fun _ => k1 e, fun c1 => ⟨fun _ => k1 e, fun c2 => ?_⟩⟩
    rcases c with c | ⟨a, g1, g2, rfl⟩
    · exact absurd c c1
    · rw [n32_le (by omega) g2] at c2; omega
  · rw [show (0 : Int32) = n32 0 from rfl, n32_lt (by omega) (by omega), n32_le (by omega) (by omega)]
    exact ⟨fun c => absurd c (by omega), fun _ => ⟨fun c => absurd c (by omega), fun _ => k2 a h1 rfl e⟩⟩
/-- the cells of a deal -/
def RD (b : Nat) (s : St) (h : Hp) : Prop := OkS b s ∧ b + 96 ≤ 2304 ∧ ∀ i, b ≤ i → i < sN s → RNode s h i
theorem RD.lt {b : Nat} {s : St} {h : Hp} (R : RD b s h) : sN s ≤ 2304 := by
  have := R.1.2.2.1; have := R.2.1; omega
theorem InvR.rd {x : Ab} {h : Hp} (I : InvR x h) (K : OkA x) {d : Nat} (hd : d < (aD x).length) : RD (96 * d) (dS (aD x) d) h :=
  ⟨(K.1 d hd).1, by have := I.2.1.2.1; omega, (I.2.1.2.2 d hd).2.2.2.2.2⟩
theorem q_isLeaf {b : Nat} {s : St} {h : Hp} {i : Nat} {Q : Int32 → Hp → Prop} (R : RD b s h) (h1 : b ≤ i) (h2 : i < sN s) (k1 : 4 ≤ sD s 58 i → Q 0 h) (k2 : sD s 58 i < 4 → Q 1 h) : m_X12_isLeaf (n32 i) h Q := by
  unfold m_X12_isLeaf
  have hn := R.2.2 i h1 h2
  have ho := R.1.2.2.2.2.2.2.2.1 i h1 h2
  have hl := R.lt
  have e := hn.1
  have := ho.1
  simp (disch := omega) only [↓m1_pm, lit32, n32_add, n32_mul, n32_ix, n32_lt, n32_le, n32_eq, n32_in, pm_ix, pm_in, pm_eqn, n_eqpm, pm_ltn, n_ltpm, pm_len, n_lepm, pm_inj, forall_eq, e]
  exact ⟨by omega, fun c => k1 (by omega), fun c => k2 (by omega)⟩
set_option maxHeartbeats 4000000 in
set_option maxRecDepth 100000 in
theorem q_later9 {b : Nat} {s : St} {h : Hp} {Q : Int32 → Hp → Prop} (R : RD b s h) : ∀ (n u acc : Nat), (u = 0 ∨ b < u ∧ u ≤ sN s) → u ≤ n → acc + 400 * dep (sD s) n u < 10000 → Q (n32 (acc + lat (sD s) n u)) h → m_X12_later_9 (n + 1) Q (n32 acc) (pm u) h := by
  intro n
  induction n with
  | zero =>
    intro u acc hu hun ha k
    obtain rfl : u = 0 := by omega
    rw [m_X12_later_9]
    refine ⟨fun _ => ?_, fun c => ?_⟩
    · simpa [lat] using k
    · exact absurd ((pm_lt0 (by decide)).mpr rfl) c
  | succ n ih =>
    intro u acc hu hun ha k
    rw [m_X12_later_9]
    have hl := R.lt
    rcases Nat.eq_zero_or_pos u with rfl | hp
    · refine ⟨fun _ => ?_, fun c => ?_⟩
      · simpa [lat] using k
      · exact absurd ((pm_lt0 (by decide)).mpr rfl) c
    · obtain ⟨g, rfl⟩ : ∃ g, u = g + 1 := ⟨u - 1, by omega⟩
      have hg : b ≤ g ∧ g < sN s := by omega
      have hn := R.2.2 g hg.1 hg.2
      have ho := R.1.2.2.2.2.2.2.2.1 g hg.1 hg.2
      have e1 := hn.1; have e2 := hn.2.1; have e3 := hn.2.2.1
      have o1 := ho.1; have o2 := ho.2.1; have o4 := ho.2.2.2.1
      rw [lat] at k
      rw [dep] at ha
      rw [if_neg (by omega), show g + 1 - 1 = g from rfl] at k ha
      refine ⟨fun c => absurd ((pm_lt0 (by omega)).mp c) (by omega), fun _ => ?_⟩
      simp (disch := omega) only [↓m1_pm, lit32, n32_add, n32_mul, n32_ix, n32_lt, n32_le, n32_eq, n32_in, pm_ix, pm_in, pm_eqn, n_eqpm, pm_ltn, n_ltpm, pm_len, n_lepm, pm_inj, forall_eq, m_X12_later_34, pmS, e1, e2, e3]
      refine ⟨by omega, fun c => ⟨by omega, ?_⟩, fun c => ⟨by omega, by omega, ?_⟩⟩
      · refine ih _ _ (by omega) (by omega) (by omega) ?_
        rw [if_neg c] at k
        simpa using k
      · refine ih _ _ (by omega) (by omega) (by omega) ?_
        rw [if_pos c] at k
        rw [Nat.add_assoc]
        exact k
