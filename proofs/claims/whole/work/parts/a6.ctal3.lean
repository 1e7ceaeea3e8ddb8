/-! THE CLASS: a price is noted -/
theorem red_lt {p q r s : Nat} (hq : 0 < q) (hs : 0 < s) : (p / Nat.gcd p q) * (s / Nat.gcd r s) < (r / Nat.gcd r s) * (q / Nat.gcd p q) ↔ p * s < r * q := by
  have g1 : 0 < Nat.gcd p q := Nat.gcd_pos_of_pos_right _ hq
  have g2 : 0 < Nat.gcd r s := Nat.gcd_pos_of_pos_right _ hs
  have e1 := Nat.mul_div_cancel' (Nat.gcd_dvd_left p q)
  have e2 := Nat.mul_div_cancel' (Nat.gcd_dvd_right p q)
  have e3 := Nat.mul_div_cancel' (Nat.gcd_dvd_left r s)
  have e4 := Nat.mul_div_cancel' (Nat.gcd_dvd_right r s)
  generalize p / Nat.gcd p q = p' at *
  generalize q / Nat.gcd p q = q' at *
  generalize r / Nat.gcd r s = r' at *
  generalize s / Nat.gcd r s = s' at *
  generalize Nat.gcd p q = g at *
  generalize Nat.gcd r s = k at *
  have a1 : p * s = g * k * (p' * s') := by rw [← e1, ← e4, Nat.mul_mul_mul_comm]
  have a2 : r * q = g * k * (r' * q') := by rw [← e2, ← e3, Nat.mul_mul_mul_comm, Nat.mul_comm k g]
  rw [a1, a2]
  exact (Nat.mul_lt_mul_left (Nat.mul_pos g1 g2)).symm
def rdP (s : Nat × Nat) : Nat × Nat := (s.1 / Nat.gcd s.1 s.2, s.2 / Nat.gcd s.1 s.2)
def okP2 (s : Nat × Nat) : Prop := 0 < s.1 ∧ 0 < s.2 ∧ s.1 < 4611686018427387904 ∧ s.2 < 4611686018427387904
theorem rdP_ok {s : Nat × Nat} (O : okP2 s) : 0 < (rdP s).1 ∧ 0 < (rdP s).2 ∧ (rdP s).1 < 4611686018427387904 ∧ (rdP s).2 < 4611686018427387904 := by
  obtain ⟨h1, h2, h3, h4⟩ := O
  have g1 : 0 < Nat.gcd s.1 s.2 := Nat.gcd_pos_of_pos_right _ h2
  have a1 := Nat.div_pos (Nat.le_of_dvd h1 (Nat.gcd_dvd_left s.1 s.2)) g1
  have a2 := Nat.div_pos (Nat.le_of_dvd h2 (Nat.gcd_dvd_right s.1 s.2)) g1
  have a3 : s.1 / Nat.gcd s.1 s.2 ≤ s.1 := Nat.div_le_self _ _
  have a4 : s.2 / Nat.gcd s.1 s.2 ≤ s.2 := Nat.div_le_self _ _
  refine ⟨a1, a2, ?_, ?_⟩
  · show s.1 / Nat.gcd s.1 s.2 < _; omega
  · show s.2 / Nat.gcd s.1 s.2 < _; omega
def upP (g : Bool) (p s : Nat × Nat) : Nat × Nat := if s.1 = 0 ∨ (if g then s.1 * p.2 < p.1 * s.2 else p.1 * s.2 < s.1 * p.2) then p else s
/-- what is kept of one pair -/
def PrI (s0 s1 : Nat × Nat) (t n : Nat) (h : Hp) : Prop := hI h 27 n = n32 t ∧ (t = 0 → s0.1 = 0 ∧ s1.1 = 0) ∧ (t ≠ 0 → okP2 s0 ∧ okP2 s1 ∧ hJ h 28 (4 * n) = z64 ((rdP s0).1 : Nat) ∧ hJ h 28 (4 * n + 1) = z64 ((rdP s0).2 : Nat) ∧ hJ h 28 (4 * n + 2) = z64 ((rdP s1).1 : Nat) ∧ hJ h 28 (4 * n + 3) = z64 ((rdP s1).2 : Nat))
def SNp (n a k : Nat) : Prop := a = 27 ∧ k = n ∨ a = 28 ∧ 4 * n ≤ k ∧ k < 4 * n + 4
theorem PrI.mv {s0 s1 : Nat × Nat} {t n : Nat} {S : Nat → Nat → Prop} {h h' : Hp} (P : PrI s0 s1 t n h) (f : fr S h h') (n1 : ¬ S 27 n) (n2 : ∀ k, 4 * n ≤ k → k < 4 * n + 4 → ¬ S 28 k) : PrI s0 s1 t n h' := by
  obtain ⟨p1, p2, p3⟩ := P
  refine ⟨by rw [f.I n1]; exact p1, p2, fun z => ?_⟩
  obtain ⟨a1, a2, a3, a4, a5, a6⟩ := p3 z
  exact ⟨a1, a2, by rw [f.J (n2 _ (by omega) (by omega))]; exact a3, by rw [f.J (n2 _ (by omega) (by omega))]; exact a4, by rw [f.J (n2 _ (by omega) (by omega))]; exact a5, by rw [f.J (n2 _ (by omega) (by omega))]; exact a6⟩
theorem cmpR_lt {p q r s : Nat} : (cmpR 1 p q r s < 0 ↔ p * s < r * q) ∧ (0 < cmpR 1 p q r s ↔ r * q < p * s) := by
  unfold cmpR
  by_cases w : p * s < r * q
  · rw [if_pos w]
    exact ⟨⟨fun _ => w, fun _ => by decide⟩, ⟨fun z => absurd z (by decide), fun z => by omega⟩⟩
  · rw [if_neg w]
    by_cases w2 : r * q < p * s
    · rw [if_pos w2]
      exact ⟨⟨fun z => absurd z (by decide), fun z => absurd z w⟩, ⟨fun _ => w2, fun _ => by decide⟩⟩
    · rw [if_neg w2]
      exact ⟨⟨fun z => absurd z (by decide), fun z => absurd z w⟩, ⟨fun z => absurd z (by decide), fun z => absurd z w2⟩⟩
/-- the end of it: one time more -/
theorem c_np115 {t n : Nat} {h : Hp} {Q : Hp → Prop} (hn : n < 64) (e : hI h 27 n = n32 t) (k : Q (wI h 27 n (n32 (t + 1)))) : m_X9_notePrice_115 Q (n32 n) h := by
  unfold m_X9_notePrice_115
  rw [n32_ix (by omega), e, show n32 t + 1 = n32 (t + 1) from n32_add _ 1]
  exact ⟨vpI hn (by decide), vpI hn (by decide), k⟩
set_option maxHeartbeats 4000000 in
set_option maxRecDepth 100000 in
theorem c_np58 {s0 s1 p : Nat × Nat} {t n : Nat} {h0 h : Hp} {Q : Hp → Prop} (hn : n < 64) (ht : t < 100000) (hp : okP2 p) (f0 : fr (SNp n) h0 h) (e27 : hI h 27 n = n32 t) (o1 : okP2 s0) (j0 : hJ h 28 (4 * n) = z64 ((rdP s0).1 : Nat)) (j1 : hJ h 28 (4 * n + 1) = z64 ((rdP s0).2 : Nat)) (z1 : t = 0 → s1.1 = 0) (p1 : t ≠ 0 → okP2 s1 ∧ hJ h 28 (4 * n + 2) = z64 ((rdP s1).1 : Nat) ∧ hJ h 28 (4 * n + 3) = z64 ((rdP s1).2 : Nat))
    (k : ∀ h', fr (SNp n) h0 h' → PrI s0 (upP true p s1) (t + 1) n h' → Q h') : m_X9_notePrice_58 Q (n32 n) (z64 ((rdP p).1 : Nat)) (z64 ((rdP p).2 : Nat)) (n32 (4 * n)) h := by
  obtain ⟨q1, q2, q3, q4⟩ := rdP_ok hp
  have take : (s1.1 = 0 ∨ s1.1 * p.2 < p.1 * s1.2) → m_X9_notePrice_94 Q (n32 n) (z64 ((rdP p).1 : Nat)) (z64 ((rdP p).2 : Nat)) (n32 (4 * n)) h := by
    intro c
    have eu : upP true p s1 = p := by unfold upP; rw [if_pos (by simpa using c)]
    rw [eu] at k
    unfold m_X9_notePrice_94
    rw [show (2 : Int32) = n32 2 from rfl, show (3 : Int32) = n32 3 from rfl, n32_add, n32_add, n32_ix (show 4 * n + 2 < 2147483648 by omega), n32_ix (show 4 * n + 3 < 2147483648 by omega)]
    refine ⟨vpI (by omega) (by decide), vpI (by omega) (by decide), ?_⟩
    refine c_np115 hn (t := t) (by rw [hI_wJ, hI_wJ]; exact e27) ?_
    refine k _ (fr_wI (fr_wJ (fr_wJ f0 _ (by unfold SNp; omega)) _ (by unfold SNp; omega)) _ (by unfold SNp; omega)) ⟨by rw [hI_wI, if_pos ⟨rfl, rfl⟩], fun z => absurd z (by omega), fun _ => ⟨o1, hp, ?_, ?_, ?_, ?_⟩⟩
    · rw [hJ_wI, hJ_wJ, if_neg (by omega), hJ_wJ, if_neg (by omega)]; exact j0
    · rw [hJ_wI, hJ_wJ, if_neg (by omega), hJ_wJ, if_neg (by omega)]; exact j1
    · rw [hJ_wI, hJ_wJ, if_neg (by omega), hJ_wJ, if_pos ⟨rfl, rfl⟩]
    · rw [hJ_wI, hJ_wJ, if_pos ⟨rfl, rfl⟩]
  unfold m_X9_notePrice_58
  rw [n32_ix (by omega), e27, show (0 : Int32) = n32 0 from rfl, n32_eq (by omega) (by decide)]
  refine ⟨vpI hn (by decide), fun z => take (Or.inl (z1 z)), fun z => ?_⟩
  obtain ⟨o2, j2, j3⟩ := p1 z
  obtain ⟨r1, r2, r3, r4⟩ := rdP_ok o2
  rw [show (2 : Int32) = n32 2 from rfl, show (3 : Int32) = n32 3 from rfl, n32_add, n32_add, n32_ix (show 4 * n + 2 < 2147483648 by omega), n32_ix (show 4 * n + 3 < 2147483648 by omega), j2, j3]
  refine ⟨vpI (by omega) (by decide), vpI (by omega) (by decide), c_compare q2 r2 q3 q4 r3 r4 ?_⟩
  have L := (cmpR_lt (p := (rdP p).1) (q := (rdP p).2) (r := (rdP s1).1) (s := (rdP s1).2)).2
  have rl : (rdP s1).1 * (rdP p).2 < (rdP p).1 * (rdP s1).2 ↔ s1.1 * p.2 < p.1 * s1.2 := red_lt o2.2.1 hp.2.1
  rw [rl] at L
  refine ⟨fun y => ?_, fun y => take (Or.inr (L.mp (Int32.not_le.mp y)))⟩
  have no : ¬ s1.1 * p.2 < p.1 * s1.2 := fun w => absurd y (Int32.not_le.mpr (L.mpr w))
  have eu : upP true p s1 = s1 := by
    unfold upP
    rw [if_neg]
    have := o2.1
    simp only [if_true]
    omega
  rw [eu] at k
  refine c_np115 hn e27 ?_
  refine k _ (fr_wI f0 _ (by unfold SNp; omega)) ⟨by rw [hI_wI, if_pos ⟨rfl, rfl⟩], fun z => absurd z (by omega), fun _ => ⟨o1, o2, ?_, ?_, ?_, ?_⟩⟩
  · rw [hJ_wI]; exact j0
  · rw [hJ_wI]; exact j1
  · rw [hJ_wI]; exact j2
  · rw [hJ_wI]; exact j3
set_option maxHeartbeats 4000000 in
set_option maxRecDepth 100000 in
theorem c_notePrice {s0 s1 p : Nat × Nat} {t n : Nat} {h : Hp} {Q : Hp → Prop} (hn : n < 64) (ht : t < 100000) (hp : okP2 p) (P : PrI s0 s1 t n h)
    (k : ∀ h', fr (SNp n) h h' → PrI (upP false p s0) (upP true p s1) (t + 1) n h' → Q h') : m_X9_notePrice (n32 n) (z64 ((rdP p).1 : Nat)) (z64 ((rdP p).2 : Nat)) h Q := by
  obtain ⟨q1, q2, q3, q4⟩ := rdP_ok hp
  obtain ⟨e27, z1, p1⟩ := P
  have take : (s0.1 = 0 ∨ p.1 * s0.2 < s0.1 * p.2) → m_X9_notePrice_39 Q (n32 n) (z64 ((rdP p).1 : Nat)) (z64 ((rdP p).2 : Nat)) (n32 (4 * n)) h := by
    intro c
    have eu : upP false p s0 = p := by unfold upP; rw [if_pos (by simpa using c)]
    rw [eu] at k
    unfold m_X9_notePrice_39
    rw [show (1 : Int32) = n32 1 from rfl, n32_add, n32_ix (show 4 * n < 2147483648 by omega), n32_ix (show 4 * n + 1 < 2147483648 by omega)]
    refine ⟨vpI (by omega) (by decide), vpI (by omega) (by decide), ?_⟩
    refine c_np58 (s0 := p) (s1 := s1) (t := t) (h0 := h) hn ht hp (fr_wJ (fr_wJ (fr.rf _ _) _ (by unfold SNp; omega)) _ (by unfold SNp; omega)) (by rw [hI_wJ, hI_wJ]; exact e27) hp ?_ ?_ (fun z => (z1 z).2) (fun z => ?_) k
    · rw [hJ_wJ, if_neg (by omega), hJ_wJ, if_pos ⟨rfl, rfl⟩]
    · rw [hJ_wJ, if_pos ⟨rfl, rfl⟩]
    · obtain ⟨a1, a2, a3, a4, a5, a6⟩ := p1 z
      refine ⟨a2, ?_, ?_⟩
      · rw [hJ_wJ, if_neg (by omega), hJ_wJ, if_neg (by omega)]; exact a5
      · rw [hJ_wJ, if_neg (by omega), hJ_wJ, if_neg (by omega)]; exact a6
  unfold m_X9_notePrice
  intro x3 e3
  rw [show (4 : Int32) = n32 4 from rfl, n32_mul, Nat.mul_comm n 4] at e3
  subst e3
  rw [n32_ix (by omega), e27, show (0 : Int32) = n32 0 from rfl, n32_eq (by omega) (by decide)]
  refine ⟨vpI hn (by decide), fun z => take (Or.inl (z1 z).1), fun z => ?_⟩
  obtain ⟨o1, o2, a3, a4, a5, a6⟩ := p1 z
  obtain ⟨r1, r2, r3, r4⟩ := rdP_ok o1
  rw [show (1 : Int32) = n32 1 from rfl, n32_add, n32_ix (show 4 * n < 2147483648 by omega), n32_ix (show 4 * n + 1 < 2147483648 by omega), a3, a4]
  refine ⟨vpI (by omega) (by decide), vpI (by omega) (by decide), c_compare q2 r2 q3 q4 r3 r4 ?_⟩
  have L := (cmpR_lt (p := (rdP p).1) (q := (rdP p).2) (r := (rdP s0).1) (s := (rdP s0).2)).1
  have rl : (rdP p).1 * (rdP s0).2 < (rdP s0).1 * (rdP p).2 ↔ p.1 * s0.2 < s0.1 * p.2 := red_lt hp.2.1 o1.2.1
  rw [rl] at L
  refine ⟨fun y => ?_, fun y => take (Or.inr (L.mp (Int32.not_le.mp y)))⟩
  have no : ¬ p.1 * s0.2 < s0.1 * p.2 := fun w => absurd y (Int32.not_le.mpr (L.mpr w))
  have eu : upP false p s0 = s0 := by
    unfold upP
    rw [if_neg]
    have := o1.1
    simp only [Bool.false_eq_true, if_false]
    omega
  rw [eu] at k
  exact c_np58 hn ht hp (fr.rf _ _) e27 o1 a3 a4 (fun w => absurd w z) (fun _ => ⟨o2, a5, a6⟩) k
