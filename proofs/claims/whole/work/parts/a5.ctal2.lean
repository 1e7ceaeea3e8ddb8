/-! THE CLASS: which share is less -/
def cmpR (sg : Int32) (p q r s : Nat) : Int32 := if p * s < r * q then -sg else if r * q < p * s then sg else 0
theorem c_cmp90 {sg : Int32} {A B : Nat} {h : Hp} {Q : Int32 → Hp → Prop} (hs : sg = 1 ∨ sg = -1) (hA : A < 4611686018427387904) (hB : B < 4611686018427387904) (k : Q (if A < B then -sg else if B < A then sg else 0) h) : m_X9_compareShares_90 Q sg (z64 (A : Nat)) (z64 (B : Nat)) h := by
  unfold m_X9_compareShares_90 m_J13_compare_74951
  rw [show (0 : Int32) = n32 0 from rfl, lgc_ge (by omega) (by omega) (by omega) (by omega), lgc_eq (by omega) (by omega) (by omega) (by omega)]
  refine ⟨fun z => ⟨fun y => ?_, fun y => ?_⟩, fun z => ?_⟩
  · rw [if_neg (by omega), if_pos (by omega)] at k
    rcases hs with rfl | rfl
    · exact k
    · exact k
  · rw [if_neg (by omega), if_neg (by omega)] at k
    rcases hs with rfl | rfl
    · exact k
    · exact k
  · rw [if_pos (by omega)] at k
    rcases hs with rfl | rfl
    · exact k
    · exact k
set_option maxHeartbeats 4000000 in
set_option maxRecDepth 100000 in
theorem c_cmp6 {h : Hp} {Q : Int32 → Hp → Prop} : ∀ (m p q r s v : Nat) (sg : Int32), Rnd m p q → m + v ≤ 190 → 0 < q → 0 < s → (sg = 1 ∨ sg = -1) → p < 4611686018427387904 → q < 4611686018427387904 → r < 4611686018427387904 → s < 4611686018427387904 → Q (cmpR sg p q r s) h → m_X9_compareShares_6 (m + 1) (m_X9_compareShares_47 Q) (m_X9_compareShares_90 Q) Q (z64 (p : Nat)) (z64 (q : Nat)) (z64 (r : Nat)) (z64 (s : Nat)) sg (n32 v) h := by
  intro m
  induction m with
  | zero =>
    intro p q r s v sg R hv hq
    have := R.zero
    omega
  | succ m ih =>
    intro p q r s v sg R hv hq hs hg bp bq br bs k
    have d1 := z64_div (a := p) (b := q) (by omega) hq (by omega)
    have d2 := z64_div (a := r) (b := s) (by omega) hs (by omega)
    have m1 := z64_rem (a := p) (b := q) (by omega) hq (by omega)
    have m2 := z64_rem (a := r) (b := s) (by omega) hs (by omega)
    have l1 : p / q ≤ p := Nat.div_le_self _ _
    have l2 : r / s ≤ r := Nat.div_le_self _ _
    have u1 : p % q < q := Nat.mod_lt _ hq
    have u2 : r % s < s := Nat.mod_lt _ hs
    have c1 : p / q < r / s → p * s < r * q := cf_lt hq hs
    have c2 : r / s < p / q → r * q < p * s := cf_lt hs hq
    have c3 := cf_eq (p := p) (q := q) (r := r) (s := s)
    have rn := R.nx hq
    rw [m_X9_compareShares_6, show (200 : Int32) = n32 200 from rfl, n32_le (by decide) (by omega), m1, m2, d1, d2]
    clear d1 d2 m1 m2
    generalize p / q = X at *
    generalize r / s = Y at *
    rw [show (0 : Int64) = z64 ((0 : Nat) : Int) from rfl, show (0 : Int32) = n32 0 from rfl, lgc_le (by omega) (by omega) (by omega) (by omega), lgc_le (by omega) (by omega) (by omega) (by omega)]
    refine ⟨fun z => absurd z (by omega), fun _ => ⟨fun z => absurd z (by omega), fun _ => ⟨fun z => absurd z (by omega), fun _ => ⟨z64_ne0 hq (by omega), fun x3 e3 => ⟨z64_ne0 hs (by omega), fun x4 e4 => ?_⟩⟩⟩⟩⟩
    subst e3; subst e4
    rw [lgc_eq (by omega) (by omega) (by omega) (by omega)]
    refine ⟨fun c => ⟨z64_ne0 hq (by omega), fun x5 e5 => ⟨z64_ne0 hs (by omega), fun x6 e6 => ?_⟩⟩, fun c => ?_⟩
    · subst e5; subst e6
      obtain ⟨g1, g2⟩ := c3 (by omega)
      generalize hA : p % q = A at *
      generalize hB : r % s = B at *
      have e1 : s * A = A * s := Nat.mul_comm _ _
      have e2 : q * B = B * q := Nat.mul_comm _ _
      have tail : A = 0 ∨ B = 0 → m_X9_compareShares_90 Q sg (z64 (A : Nat)) (z64 (B : Nat)) h := by
        intro hz
        refine c_cmp90 hg (by omega) (by omega) ?_
        have kA : A = 0 → A * s = 0 := fun e => by rw [e, Nat.zero_mul]
        have kB : B = 0 → B * q = 0 := fun e => by rw [e, Nat.zero_mul]
        have pA : 0 < A → 0 < A * s := fun e => Nat.mul_pos e hs
        have pB : 0 < B → 0 < B * q := fun e => Nat.mul_pos e hq
        unfold cmpR at k
        by_cases w : A < B
        · rw [if_pos w]
          have a0 : A = 0 := by omega
          have := pB (by omega)
          have := kA a0
          rw [if_pos (g1.mpr (by omega))] at k
          exact k
        · rw [if_neg w]
          by_cases w2 : B < A
          · rw [if_pos w2]
            have b0 : B = 0 := by omega
            have := pA (by omega)
            have := kB b0
            rw [if_neg (fun y => by have := g1.mp y; omega), if_pos (g2.mpr (by omega))] at k
            exact k
          · rw [if_neg w2]
            have a0 : A = 0 := by omega
            have b0 : B = 0 := by omega
            have := kA a0
            have := kB b0
            rw [if_neg (fun y => by have := g1.mp y; omega), if_neg (fun y => by have := g2.mp y; omega)] at k
            exact k
      rw [lgc_eq (by omega) (by omega) (by omega) (by omega), lgc_eq (by omega) (by omega) (by omega) (by omega)]
      refine ⟨fun a0 => tail (Or.inl (by omega)), fun a0 => ⟨fun b0 x7 e7 x8 e8 => ?_, fun b0 => tail (Or.inr (by omega))⟩⟩
      rw [e7, e8, show n32 v + 1 = n32 (v + 1) from n32_add _ 1]
      refine ih q A s B (v + 1) (-sg) rn (by omega) (by omega) (by omega) ?_ bq (by omega) bs (by omega) ?_
      · rcases hg with rfl | rfl
        · exact Or.inr rfl
        · exact Or.inl rfl
      · have nn : -(-sg) = sg := by
          rcases hg with rfl | rfl
          · rfl
          · rfl
        unfold cmpR at k ⊢
        rw [nn]
        by_cases w : p * s < r * q
        · rw [if_pos w] at k
          have := g1.mp w
          rw [if_neg (by omega), if_pos (by omega)]
          exact k
        · rw [if_neg w] at k
          have n1 : ¬ A * s < B * q := fun y => w (g1.mpr y)
          by_cases w2 : r * q < p * s
          · rw [if_pos w2] at k
            have := g2.mp w2
            rw [if_pos (by omega)]
            exact k
          · rw [if_neg w2] at k
            have n2 : ¬ B * q < A * s := fun y => w2 (g2.mpr y)
            rw [if_neg (by omega), if_neg (by omega)]
            exact k
    · unfold m_X9_compareShares_47
      unfold cmpR at k
      rw [show (0 : Int32) = n32 0 from rfl, lgc_ge (by omega) (by omega) (by omega) (by omega)]
      refine ⟨fun z => ?_, fun z => ?_⟩
      · have := c2 (by omega)
        rw [if_neg (by omega), if_pos this] at k
        exact k
      · have := c1 (by omega)
        rw [if_pos this] at k
        exact k
theorem c_compare {p q r s : Nat} {h : Hp} {Q : Int32 → Hp → Prop} (hq : 0 < q) (hs : 0 < s) (bp : p < 4611686018427387904) (bq : q < 4611686018427387904) (br : r < 4611686018427387904) (bs : s < 4611686018427387904) (k : Q (cmpR 1 p q r s) h) : m_X9_compareShares (z64 (p : Nat)) (z64 (q : Nat)) (z64 (r : Nat)) (z64 (s : Nat)) h Q :=
  ⟨_, c_cmp6 125 p q r s 0 1 (Rnd.start bp bq) (by decide) hq hs (Or.inl rfl) bp bq br bs k⟩
