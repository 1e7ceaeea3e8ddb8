/-! THE CLASS: shares; what is out, whatever the cells -/
def LkP (fl : List Rec) : Prop := (∀ q ∈ fl, RowOk q) ∧ (nz fl).length ≤ 250
theorem LkP.of {x : Ab} (K : OkA x) {l : List Nat} (hin : inD x l) (l6 : l.length ≤ 6) (c : Nat) : LkP (bRows (aD x) l c 0) := by
  have ok := bRows_ok K (c := c) (bf := 0) hin
  exact ⟨ok.1, Nat.le_trans (List.length_filter_le _ _) (by have := ok.2; omega)⟩
theorem LkP.pre {F : Nat → Nat} {fl : List Rec} (L : LkP fl) (l : Nat) {ds : List Nat} (hn : ds.Nodup) : -3000000000000 ≤ (ds.map (fun d => netD F fl l 0 d)).sum ∧ (ds.map (fun d => netD F fl l 0 d)).sum ≤ 3000000000000 := by
  have e : (ds.map (fun d => netD F fl l 0 d)).sum = (ds.map (fun d => netD F (nz fl) l 0 d)).sum := by
    congr 1
    exact List.map_congr_left (fun d _ => (netD_nz F fl l d).symm)
  rw [e, sum_netD F l (nz fl) ds hn]
  have := sum_abs F l (fun r => r 3 = 0 ∧ r 0 ∈ ds) (fun r => inferInstance) (fl := nz fl) (fun q hq => L.1 q (List.mem_filter.mp hq).1)
  have h250 := L.2
  omega
theorem LkP.tot {F : Nat → Nat} {fl : List Rec} (_L : LkP fl) (l : Nat) : ((daysOf (nz fl)).map (fun d => netD F fl l 0 d)).sum = net F fl l 0 := by
  have e : ((daysOf (nz fl)).map (fun d => netD F fl l 0 d)).sum = ((daysOf (nz fl)).map (fun d => netD F (nz fl) l 0 d)).sum := by
    congr 1
    exact List.map_congr_left (fun d _ => (netD_nz F fl l d).symm)
  rw [e, sum_netD F l (nz fl) _ (pw_nd (days_pw _)), ← net_nz]
  unfold net
  congr 1
  refine List.map_congr_left (fun r hr => ?_)
  by_cases q : r 3 = 0
  · rw [if_pos q, if_pos ⟨q, (days_mem (nz fl) (r 0)).mpr ⟨r, hr, q, rfl⟩⟩]
  · rw [if_neg q, if_neg (fun z => q z.1)]
theorem LkP.above {F : Nat → Nat} {fl : List Rec} (L : LkP fl) (l : Nat) : ∀ (rest pre : List Nat), daysOf (nz fl) = pre ++ rest → above 3000000000000 ((pre.map (fun d => netD F fl l 0 d)).sum) (dyM F fl l rest) := by
  intro rest
  have nd := pw_nd (days_pw (nz fl))
  induction rest with
  | nil =>
    intro pre e
    refine (L.pre l ?_).1
    rw [e] at nd
    exact (List.nodup_append.mp nd).1
  | cons d rest ih =>
    intro pre e
    refine ⟨(L.pre l ?_).1, ?_⟩
    · rw [e] at nd
      exact (List.nodup_append.mp nd).1
    · have := ih (pre ++ [d]) (by rw [e]; simp)
      rw [List.map_append, List.sum_append, show ([d].map (fun d => netD F fl l 0 d)).sum = netD F fl l 0 d by simp] at this
      exact this
theorem LkP.out {F : Nat → Nat} {fl : List Rec} (L : LkP fl) {l : Nat} (hp : 0 ≤ net F fl l 0) : outS 0 0 (dyM F fl l (daysOf (nz fl))) = outV F fl l ∧ 0 ≤ outV F fl l ∧ outV F fl l ≤ 9000000000000000 := by
  have e : outS 0 0 ((dyM F fl l (daysOf (nz fl))).filter (fun q => q.2 != 0)) = outS 0 0 (dyM F fl l (daysOf (nz fl))) := by
    refine outS_filter _ 0 0 ?_
    have : ((dyM F fl l (daysOf (nz fl))).map (·.2)).sum = net F fl l 0 := by
      rw [← L.tot l]
      unfold dyM
      rw [List.map_map]
      rfl
    rw [this]
    omega
  have e2 : (dyM F fl l (daysOf (nz fl))).filter (fun q => q.2 != 0) = seqN F fl l := seq_days L.1
  rw [e2] at e
  unfold outV
  rw [e]
  have r := rising_days (F := F) (fl := fl) (l := l) (d0 := 0) (days_pw (nz fl)) (fun e _ => Nat.zero_le e)
  refine ⟨rfl, outS_nn _ _ _ r, ?_⟩
  have := outS_le 3000000000000 (by decide) _ 0 0 r (L.above l _ [] rfl) (fun q hq => ?_) (by decide)
  · exact this
  · unfold dyM at hq
    rw [List.mem_map] at hq
    obtain ⟨d, hd, rfl⟩ := hq
    obtain ⟨s, hs, -, e3⟩ := (days_mem (nz fl) d).mp hd
    have := (L.1 s (List.mem_filter.mp hs).1).1
    show d < 3000
    omega
theorem LkP.pos {F : Nat → Nat} {fl : List Rec} {l b : Nat} (L : LkP fl) (hl : lendsB F fl l b = true) : 0 < net F fl l 0 ∧ 0 < outV F fl l := by
  unfold lendsB at hl
  simp only [Bool.and_eq_true, decide_eq_true_eq] at hl
  obtain ⟨⟨⟨⟨⟨-, -⟩, -⟩, hn⟩, -⟩, hd⟩ := hl
  refine ⟨hn, ?_⟩
  have htot : ((seqN F fl l).map (·.2)).sum = net F fl l 0 := by
    have e2 : (dyM F fl l (daysOf (nz fl))).filter (fun q => q.2 != 0) = seqN F fl l := seq_days L.1
    have es : ∀ M : List (Nat × Int), ((M.filter (fun q => q.2 != 0)).map (·.2)).sum = (M.map (·.2)).sum := by
      intro M
      induction M with
      | nil => rfl
      | cons p M ih =>
        rw [List.filter_cons]
        by_cases hp : p.2 = 0
        · rw [if_neg (by simp [hp]), List.map_cons, List.sum_cons, ih, hp]; omega
        · rw [if_pos (by simp [hp]), List.map_cons, List.map_cons, List.sum_cons, List.sum_cons, ih]
    rw [← e2, es, ← L.tot l]
    unfold dyM
    rw [List.map_map]
    rfl
  have hnz : ∀ q ∈ seqN F fl l, q.2 ≠ 0 := fun q hq => by
    unfold seqN at hq
    simpa using (List.mem_filter.mp hq).2
  have hpw : (seqN F fl l).Pairwise (fun a b => a.1 < b.1) := by
    unfold seqN
    refine List.Pairwise.filter _ ?_
    rw [List.pairwise_map]
    exact rng_pw 3000
  unfold outV
  generalize seqN F fl l = S at htot hnz hpw hd
  cases S with
  | nil => simp at htot; omega
  | cons q t =>
    by_cases hq : 0 < q.2
    · have : lendDay (q :: t) = none := by simp [lendDay, hq]
      rw [this] at hd; cases hd
    · have q0 := hnz q (by simp)
      cases t with
      | nil => simp at htot; omega
      | cons p t =>
        rw [List.pairwise_cons] at hpw
        have hqp := hpw.1 p (by simp)
        have pw2 := hpw.2
        have rs : ∀ {S : List (Nat × Int)} {d : Nat}, S.Pairwise (fun a b => a.1 < b.1) → (∀ e ∈ S, d ≤ e.1) → rising d S := by
          intro S
          induction S with
          | nil => intros; trivial
          | cons a S ih =>
            intro d h1 h2
            rw [List.pairwise_cons] at h1
            exact ⟨h2 a (by simp), ih h1.2 (fun e he => Nat.le_of_lt (h1.1 e he))⟩
        rw [List.pairwise_cons] at pw2
        have r : rising p.1 t := rs pw2.2 (fun e he => Nat.le_of_lt (pw2.1 e he))
        have := outS_nn t (0 + q.2 + p.2) p.1 r
        rw [outS, outS, if_neg (by decide), if_pos (by omega)]
        have : 0 < -(0 + q.2) * ((p.1 : Int) - q.1) := Int.mul_pos (by omega) (by omega)
        omega
/-- rounds that are enough -/
def Rnd (m p q : Nat) : Prop := (q ≤ p ∧ p * q < 2 ^ m) ∨ (p < q ∧ p * q < 2 ^ (m - 1) ∧ 1 ≤ m)
theorem Rnd.nx {m p q : Nat} (R : Rnd (m + 1) p q) (hq : 0 < q) : Rnd m q (p % q) := by
  have u := Nat.mod_lt p hq
  left
  refine ⟨by omega, ?_⟩
  rcases R with ⟨r1, r2⟩ | ⟨r1, r2, -⟩
  · have d := Nat.div_add_mod p q
    have d1 : 1 ≤ p / q := (Nat.one_le_div_iff hq).mpr r1
    have e1 : q ≤ q * (p / q) := Nat.le_mul_of_pos_right q d1
    have e2 : 2 * (p % q) ≤ p := by omega
    have e3 : 2 * (p % q) * q ≤ p * q := Nat.mul_le_mul_right q e2
    rw [Nat.pow_succ] at r2
    have e4 : 2 * (p % q) * q = 2 * (q * (p % q)) := by rw [Nat.mul_assoc, Nat.mul_comm (p % q)]
    omega
  · rw [Nat.mod_eq_of_lt r1, Nat.mul_comm]
    exact r2
theorem Rnd.zero {p q : Nat} (R : Rnd 0 p q) : q = 0 := by
  rcases R with ⟨r1, r2⟩ | ⟨-, -, r3⟩
  · rcases Nat.eq_zero_or_pos q with z | z
    · exact z
    · have : 1 ≤ p * q := Nat.mul_pos (by omega) z
      rw [Nat.pow_zero] at r2
      omega
  · omega
theorem Rnd.start {p q : Nat} (hp : p < 4611686018427387904) (hq : q < 4611686018427387904) : Rnd 125 p q := by
  have h : p * q < 2 ^ 124 := by
    have h1 : p * q ≤ p * 4611686018427387904 := Nat.mul_le_mul_left p (Nat.le_of_lt hq)
    have h2 : p * 4611686018427387904 < 4611686018427387904 * 4611686018427387904 := (Nat.mul_lt_mul_right (by decide)).mpr hp
    have h3 : (4611686018427387904 : Nat) * 4611686018427387904 = 2 ^ 124 := by decide
    omega
  rcases Nat.lt_or_ge p q with z | z
  · exact Or.inr ⟨z, h, by decide⟩
  · refine Or.inl ⟨z, Nat.lt_trans h (by decide)⟩
set_option maxHeartbeats 4000000 in
set_option maxRecDepth 100000 in
theorem c_cd9 {h : Hp} {Q : Int64 → Hp → Prop} : ∀ (m x y v : Nat), Rnd m x y → m + v ≤ 190 → x < 4611686018427387904 → y < 4611686018427387904 → Q (z64 (Nat.gcd x y : Nat)) h → m_X9_commonDivisor_9 (m + 1) Q (z64 (x : Nat)) (z64 (y : Nat)) (n32 v) h := by
  intro m
  have z0 : (0 : Int64) = z64 ((0 : Nat) : Int) := rfl
  have done : ∀ (n x y v : Nat), y = 0 → v ≤ 190 → x < 4611686018427387904 → Q (z64 (Nat.gcd x y : Nat)) h → m_X9_commonDivisor_9 (n + 1) Q (z64 (x : Nat)) (z64 (y : Nat)) (n32 v) h := by
    intro n x y v hy hv hx k
    subst hy
    rw [Nat.gcd_zero_right] at k
    rw [m_X9_commonDivisor_9, show (200 : Int32) = n32 200 from rfl, n32_le (by decide) (by omega), z0, show (0 : Int32) = n32 0 from rfl, lgc_eq (by omega) (by omega) (by omega) (by omega)]
    exact ⟨fun z => absurd z (by omega), fun _ => ⟨fun _ => k, fun z => absurd rfl z⟩⟩
  induction m with
  | zero =>
    intro x y v R hv hx hy k
    exact done 0 x y v R.zero (by omega) hx k
  | succ m ih =>
    intro x y v R hv hx hy k
    rcases Nat.eq_zero_or_pos y with hp | hp
    · exact done (m + 1) x y v hp (by omega) hx k
    · have hm : x % y < y := Nat.mod_lt _ hp
      have e := z64_rem (a := x) (b := y) (by omega) hp (by omega)
      rw [m_X9_commonDivisor_9, show (200 : Int32) = n32 200 from rfl, n32_le (by decide) (by omega), e]
      refine ⟨fun z => absurd z (by omega), fun _ => ⟨fun z => ?_, fun _ => ⟨z64_ne0 hp (by omega), ?_⟩⟩⟩
      · rw [z0, show (0 : Int32) = n32 0 from rfl, lgc_eq (by omega) (by omega) (by omega) (by omega)] at z; omega
      · intro x1 e1 x2 e2
        rw [e1, e2, show n32 v + 1 = n32 (v + 1) from n32_add _ 1]
        refine ih y (x % y) (v + 1) (R.nx hp) (by omega) hy (by omega) ?_
        rw [Nat.gcd_comm y, ← Nat.gcd_rec, Nat.gcd_comm]
        exact k
theorem c_commonDivisor {h : Hp} {Q : Int64 → Hp → Prop} {x y : Nat} (hx : x < 4611686018427387904) (hy : y < 4611686018427387904) (k : Q (z64 (Nat.gcd x y : Nat)) h) : m_X9_commonDivisor (z64 (x : Nat)) (z64 (y : Nat)) h Q := ⟨_, c_cd9 125 x y 0 (Rnd.start hx hy) (by decide) hx hy k⟩
