/-! THE MODEL: size, leaf -/
theorem q_told {b : Nat} {s : St} {h : Hp} {i w : Nat} {r : Rec} {Q : Int32 → Hp → Prop} (R : RD b s h) (h1 : b ≤ i) (h2 : i < sN s) (hl : LfAt s r i) (hk : sD s 58 i < 4) (hw : w < 8) (k : Q (n32 (r w)) h) : m_X12_told (n32 i) (n32 w) h Q := by
  unfold m_X12_told
  have hn := R.2.2 i h1 h2
  have hlt := R.lt
  obtain ⟨l11, l0, l1, l2, l3, l4, l5, l6, l7, -⟩ := hl
  obtain ⟨n0, -, -, -, -, -, n7⟩ := hn
  obtain ⟨n1, n2, n3, n4, n5, n6, n8⟩ := n7 hk
  simp (disch := omega) only [↓m1_pm, lit32, n32_add, n32_mul, n32_ix, n32_lt, n32_le, n32_eq, n32_in, pm_ix, pm_in, pm_eqn, n_eqpm, pm_ltn, n_ltpm, pm_len, n_lepm, pm_inj, forall_eq, n0, n1, n2, n3, n4, n5, n6, n8]
  refine ⟨fun c => ⟨by omega, ?_⟩, fun _ => ⟨fun c => ⟨by omega, ?_⟩, fun _ => ⟨fun c => ⟨by omega, ?_⟩, fun _ => ⟨fun c => ⟨by omega, ?_⟩, fun _ => ⟨fun c => ⟨by omega, ?_⟩, fun _ => ⟨fun c => ⟨by omega, ?_⟩, fun _ => ⟨fun c => ⟨by omega, ?_⟩, fun _ => ⟨by omega, ?_⟩⟩⟩⟩⟩⟩⟩⟩
  · subst c; rw [← l0]; exact k
  · subst c; rw [← l1]; exact k
  · subst c; rw [← l2]; exact k
  · subst c; rw [← l3]; exact k
  · subst c; rw [← l4]; exact k
  · subst c; rw [← l5]; exact k
  · subst c
    refine q_later R h1 h2 ?_
    rw [n32_add, ← l6]; exact k
  · obtain rfl : w = 7 := by omega
    refine q_later R h1 h2 ?_
    rw [n32_add, ← l7]; exact k
def szF (F : Nat → Nat) (w b : Nat) (r : Rec) : Nat := if w = 4 then b ||| (2 ^ F (r 1) ||| 2 ^ F (r 2)) else b ||| 2 ^ r 3
theorem pw8 {k : Nat} (h : k < 8) : 2 ^ k < 256 := Nat.pow_lt_pow_right (a := 2) (by decide) h
theorem or8 {a b : Nat} (h1 : a < 256) (h2 : b < 256) : a ||| b < 256 := Nat.or_lt_two_pow (n := 8) h1 h2
set_option maxHeartbeats 4000000 in
set_option maxRecDepth 100000 in
theorem q_size80 {x : Ab} {d w : Nat} {h : Hp} {Q : Int32 → Hp → Prop} (I : InvR x h) (K : OkA x) (hd : d < (aD x).length) (hw : w = 4 ∨ w = 5) : ∀ (n i acc : Nat), 96 * d ≤ i → i ≤ sN (dS (aD x) d) → sN (dS (aD x) d) - i < n → acc < 256 →
    Q (n32 ((rem (dL (aD x) d) i).foldl (szF (aF x) w) acc)) h → m_X12_size_80 n Q (n32 d) (n32 w) (n32 acc) (n32 i) h := by
  intro n
  have R := I.rd K hd
  have hlt := R.lt
  have hl := I.2.1.2.1
  have e53 := (I.2.1.2.2 d hd).1
  have hb := R.1.2.1
  induction n with
  | zero => intro i acc _ _ h3; omega
  | succ n ih =>
    intro i acc h1 h2 h3 ha k
    rw [m_X12_size_80]
    have ee : 96 * d + (sN (dS (aD x) d) - 96 * d) = sN (dS (aD x) d) := by omega
    simp (disch := omega) only [↓m1_pm, lit32, n32_add, n32_mul, n32_ix, n32_lt, n32_le, n32_eq, n32_in, pm_ix, pm_in, pm_eqn, n_eqpm, pm_ltn, n_ltpm, pm_len, n_lepm, pm_inj, forall_eq, e53, ee]
    refine ⟨by omega, fun c => ?_, fun c => ?_⟩
    · obtain rfl : i = sN (dS (aD x) d) := by omega
      rw [R.fin] at k
      exact k
    · have hi : i < sN (dS (aD x) d) := by omega
      have hr := R.at h1 hi
      refine q_isLeaf R h1 hi (fun q => ?_) (fun q => ?_)
      · rcases hr with ⟨-, hr⟩ | ⟨g, -⟩
        · unfold m_X12_size_154
          simp (disch := omega) only [↓m1_pm, lit32, n32_add, n32_mul, n32_ix, n32_lt, n32_le, n32_eq, n32_in, pm_ix, pm_in, pm_eqn, n_eqpm, pm_ltn, n_ltpm, pm_len, n_lepm, pm_inj, forall_eq, true_implies, false_implies, not_true_eq_false, not_false_eq_true, true_and, and_true, forall_eq, implies_true, and_self, ne_eq, reduceCtorEq, not_false_eq_true, forall_const]
          exact ih (i + 1) acc (by omega) (by omega) (by omega) ha (by rw [hr] at k; exact k)
        · omega
      · rcases hr with ⟨g, -⟩ | ⟨-, r, hr, la, lo⟩
        · omega
        · rw [hr, List.foldl_cons] at k
          have hn := R.2.2 i h1 hi
          obtain ⟨-, -, -, -, -, -, n7⟩ := hn
          obtain ⟨n1, n2, n3, -⟩ := n7 q
          obtain ⟨-, -, l1, l2, l3, -⟩ := la
          obtain ⟨-, o1, o2, -, o3, -⟩ := lo
          have f1 := I.1 (r 1) o1; have f2 := I.1 (r 2) o2
          have e1 := f1.1; have e2 := f2.1
          have p1 := pw8 f1.2; have p2 := pw8 f2.2; have p3 := pw8 (show r 3 < 8 by omega)
          have hor := or8 p1 p2
          rw [← l1] at n1; rw [← l2] at n2; rw [← l3] at n3
          have s1 : n32 1 <<< (n32 (aF x (r 1)) &&& n32 31) = n32 (2 ^ aF x (r 1)) := by rw [n32_shl (by omega) (by omega), Nat.one_mul]
          have s2 : n32 1 <<< (n32 (aF x (r 2)) &&& n32 31) = n32 (2 ^ aF x (r 2)) := by rw [n32_shl (by omega) (by omega), Nat.one_mul]
          have s3 : n32 1 <<< (n32 (r 3) &&& n32 31) = n32 (2 ^ r 3) := by rw [n32_shl (by omega) (by omega), Nat.one_mul]
          unfold m_X12_size_152 m_X12_size_154
          simp (disch := omega) only [↓m1_pm, lit32, n32_add, n32_mul, n32_ix, n32_lt, n32_le, n32_eq, n32_in, pm_ix, pm_in, pm_eqn, n_eqpm, pm_ltn, n_ltpm, pm_len, n_lepm, pm_inj, forall_eq, n1, n2, n3, e1, e2, s1, s2, s3, n32_or]
          refine ⟨fun z => absurd z (by decide), fun _ => ⟨fun c => ⟨by omega, ?_⟩, fun c => ⟨by omega, by omega, by omega, by omega, ?_⟩⟩⟩
          · refine ih (i + 1) _ (by omega) (by omega) (by omega) (or8 ha p3) ?_
            unfold szF at k ⊢
            rw [if_neg c] at k
            exact k
          · refine ih (i + 1) _ (by omega) (by omega) (by omega) (or8 ha hor) ?_
            unfold szF at k ⊢
            rw [if_pos c] at k
            exact k
def sizeN (x : Ab) (d w : Nat) : Nat := if w = 0 then (dL (aD x) d).length else if w = 1 then dC (aD x) d else if w = 2 then dE (aD x) d else if w = 3 then dG (aD x) d else if w = 4 then faBits (aF x) (dL (aD x) d) else thBits (dL (aD x) d)
def ansSize (x : Ab) (v1 v2 : Int32) : Int32 := match argN v1 (aD x).length, argN v2 6 with | some d, some w => n32 (sizeN x d w) | _, _ => -1
theorem R_sizeN {x : Ab} {d w : Nat} {h : Hp} {Q : Int32 → Hp → Prop} (I : InvR x h) (K : OkA x) (hd : d < (aD x).length) (hw : w = 4 ∨ w = 5) (k : Q (n32 (sizeN x d w)) h) : ∃ n, m_X12_size_80 n Q (n32 d) (n32 w) (n32 0) (n32 (96 * d)) h := by
  have R := I.rd K hd
  refine ⟨_, q_size80 I K hd hw (sN (dS (aD x) d) - 96 * d + 1) (96 * d) 0 (Nat.le_refl _) R.1.2.1 (by omega) (by decide) ?_⟩
  rw [R.beg]
  rcases hw with rfl | rfl
  · exact k
  · exact k
set_option maxHeartbeats 4000000 in
set_option maxRecDepth 100000 in
theorem R_size {x : Ab} {v1 v2 : Int32} {h : Hp} {Q : Int32 → Hp → Prop} (I : InvR x h) (K : OkA x) (k : Q (ansSize x v1 v2) h) : m_X12_size v1 v2 h Q := by
  unfold m_X12_size
  unfold ansSize at k
  have hl := I.2.1.2.1
  refine q_isDeal I.2.1 (fun e => ?_) (fun d hd e1 e2 => ?_)
  · rw [e] at k
    exact ⟨fun _ => k, fun c => absurd rfl c⟩
  · refine ⟨fun c => absurd c (by decide), fun _ => ?_⟩
    refine q_upto (hi := 5) (by decide) (fun e => ?_) (fun w hw e3 e4 => ?_)
    · rw [e2, e] at k
      exact ⟨fun c => absurd rfl c, fun _ => k⟩
    · rw [e2, e4] at k
      subst e1; subst e3
      obtain ⟨g1, g2, g3, g4, g5, -⟩ := I.2.1.2.2 d hd
      simp (disch := omega) only [↓m1_pm, lit32, n32_add, n32_mul, n32_ix, n32_lt, n32_le, n32_eq, n32_in, pm_ix, pm_in, pm_eqn, n_eqpm, pm_ltn, n_ltpm, pm_len, n_lepm, pm_inj, forall_eq, g1, g2, g3, g4, g5]
      refine ⟨fun _ => ⟨fun c => ?_, fun c => ⟨fun c0 => ⟨fun c1 => ⟨fun c2 => ⟨by omega, ?_⟩, fun c2 => ⟨by omega, ?_⟩⟩, fun c1 => ⟨by omega, ?_⟩⟩, fun c0 => ⟨by omega, ?_⟩⟩⟩, fun c => absurd c (by decide)⟩
      · exact R_sizeN I K hd (by omega) k
      · obtain rfl : w = 3 := by omega
        exact k
      · subst c2; exact k
      · subst c1; exact k
      · subst c0; exact k
def ansLeaf (x : Ab) (v1 v2 v3 : Int32) : Int32 := match argN v1 (aD x).length, argN v3 8 with
  | some d, some w => (match argN v2 (dL (aD x) d).length with | some k => n32 (((dL (aD x) d).getD k rec0) w) | none => -1)
  | _, _ => -1
set_option maxHeartbeats 4000000 in
set_option maxRecDepth 100000 in
theorem q_leaf33 {x : Ab} {d w : Nat} {h : Hp} {Q : Int32 → Hp → Prop} (I : InvR x h) (K : OkA x) (hd : d < (aD x).length) (hw : w < 8) : ∀ (n i lf : Nat), 96 * d ≤ i → i ≤ sN (dS (aD x) d) → sN (dS (aD x) d) - i < n → lf < 2147483648 →
    (lf < (rem (dL (aD x) d) i).length → Q (n32 (((rem (dL (aD x) d) i).getD lf rec0) w)) h) → (¬ lf < (rem (dL (aD x) d) i).length → Q (pm 0) h) → m_X12_leaf_33 n (m_X12_leaf_66 Q) Q (n32 d) (n32 w) (n32 lf) (n32 i) h := by
  intro n
  have R := I.rd K hd
  have hlt := R.lt
  have hl := I.2.1.2.1
  have e53 := (I.2.1.2.2 d hd).1
  have hb := R.1.2.1
  induction n with
  | zero => intro i acc _ _ h3; omega
  | succ n ih =>
    intro i lf h1 h2 h3 ha k1 k2
    rw [m_X12_leaf_33]
    have ee : 96 * d + (sN (dS (aD x) d) - 96 * d) = sN (dS (aD x) d) := by omega
    simp (disch := omega) only [↓m1_pm, lit32, n32_add, n32_mul, n32_ix, n32_lt, n32_le, n32_eq, n32_in, pm_ix, pm_in, pm_eqn, n_eqpm, pm_ltn, n_ltpm, pm_len, n_lepm, pm_inj, forall_eq, e53, ee]
    refine ⟨by omega, fun c => ?_, fun c => ?_⟩
    · obtain rfl : i = sN (dS (aD x) d) := by omega
      rw [R.fin] at k2
      exact k2 (by simp)
    · have hi : i < sN (dS (aD x) d) := by omega
      have hr := R.at h1 hi
      refine q_isLeaf R h1 hi (fun q => ?_) (fun q => ?_)
      · rcases hr with ⟨-, hr⟩ | ⟨g, -⟩
        · rw [hr] at k1 k2
          unfold m_X12_leaf_77
          simp (disch := omega) only [↓m1_pm, lit32, n32_add, n32_mul, n32_ix, n32_lt, n32_le, n32_eq, n32_in, pm_ix, pm_in, pm_eqn, n_eqpm, pm_ltn, n_ltpm, pm_len, n_lepm, pm_inj, forall_eq]
          exact ⟨fun z => absurd trivial z, fun _ => ih (i + 1) lf (by omega) (by omega) (by omega) ha k1 k2⟩
        · omega
      · rcases hr with ⟨g, -⟩ | ⟨-, r, hr, la, lo⟩
        · omega
        · rw [hr] at k1 k2
          unfold m_X12_leaf_77 m_X12_leaf_66
          rcases Nat.eq_zero_or_pos lf with rfl | hp
          · simp (disch := omega) only [↓m1_pm, lit32, n32_add, n32_mul, n32_ix, n32_lt, n32_le, n32_eq, n32_in, pm_ix, pm_in, pm_eqn, n_eqpm, pm_ltn, n_ltpm, pm_len, n_lepm, pm_inj, forall_eq]
            refine ⟨fun _ => ⟨fun c => absurd trivial c, fun _ => ?_⟩, fun z => absurd z (by decide)⟩
            exact q_told R h1 hi la q hw (k1 (by simp))
          · have hdec := n32_dec hp
            simp (disch := omega) only [↓m1_pm, lit32, n32_add, n32_mul, n32_ix, n32_lt, n32_le, n32_eq, n32_in, pm_ix, pm_in, pm_eqn, n_eqpm, pm_ltn, n_ltpm, pm_len, n_lepm, pm_inj, forall_eq, hdec]
            refine ⟨fun _ => ⟨fun c => ?_, fun c => absurd c (by omega)⟩, fun z => absurd z (by decide)⟩
            refine ih (i + 1) (lf - 1) (by omega) (by omega) (by omega) (by omega) (fun z => ?_) (fun z => ?_)
            · have := k1 (by simp; omega)
              obtain ⟨m, rfl⟩ : ∃ m, lf = m + 1 := ⟨lf - 1, by omega⟩
              simpa using this
            · exact k2 (by simp; omega)
set_option maxHeartbeats 4000000 in
set_option maxRecDepth 100000 in
theorem R_leaf {x : Ab} {v1 v2 v3 : Int32} {h : Hp} {Q : Int32 → Hp → Prop} (I : InvR x h) (K : OkA x) (k : Q (ansLeaf x v1 v2 v3) h) : m_X12_leaf v1 v2 v3 h Q := by
  unfold m_X12_leaf
  unfold ansLeaf at k
  have hl := I.2.1.2.1
  refine q_isDeal I.2.1 (fun e => ?_) (fun d hd e1 e2 => ?_)
  · rw [e] at k
    exact ⟨fun _ => k, fun c => absurd rfl c⟩
  · refine ⟨fun c => absurd c (by decide), fun _ => ?_⟩
    refine q_upto (hi := 7) (by decide) (fun e => ?_) (fun w hw e3 e4 => ?_)
    · rw [e2, e] at k
      exact ⟨fun _ => k, fun c => absurd rfl c⟩
    · rw [e2, e4] at k
      dsimp only at k
      subst e1; subst e3
      refine ⟨fun c => absurd c (by decide), fun _ => ?_⟩
      have R := I.rd K hd
      have hln := R.1.2.2.2.2.2.1
      have go : ∀ lf : Nat, lf < 2147483648 → v2 = n32 lf → ∃ n, m_X12_leaf_33 n (m_X12_leaf_66 Q) Q (n32 d) (n32 w) v2 (n32 (96 * d)) h := by
        rintro lf h2 rfl
        refine ⟨_, q_leaf33 I K hd (by omega) (sN (dS (aD x) d) - 96 * d + 1) (96 * d) lf (Nat.le_refl _) R.1.2.1 (by omega) h2 ?_ ?_⟩ <;> rw [R.beg] <;> intro z
        · rw [argN_n z h2] at k; exact k
        · rw [argN_no (by omega) h2] at k; exact k
      rcases i_cases v2 with g | ⟨lf, g1, g2⟩
      · rw [argN_neg g] at k
        exact ⟨fun c => absurd g (Int32.not_lt.mpr c), fun _ => k⟩
      · simp (disch := omega) only [lit32, n32_mul, forall_eq]
        refine ⟨fun _ => go lf g1 g2, fun c => ?_⟩
        rw [g2, n32_le (by decide) g1] at c
        omega
