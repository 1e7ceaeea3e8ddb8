/-! THE MODEL: price -/
def outV (F : Nat → Nat) (fl : List Rec) (l : Nat) : Int := outS 0 0 (seqN F fl l)
def dyM (F : Nat → Nat) (fl : List Rec) (l : Nat) (ds : List Nat) : List (Nat × Int) := ds.map (fun d => (d, netD F fl l 0 d))
theorem pw_nd {ds : List Nat} (h : ds.Pairwise (· < ·)) : ds.Nodup := h.imp (fun h => Nat.ne_of_lt h)
theorem rising_days {F : Nat → Nat} {fl : List Rec} {l : Nat} : ∀ {ds : List Nat} {d0 : Nat}, ds.Pairwise (· < ·) → (∀ e ∈ ds, d0 ≤ e) → rising d0 (dyM F fl l ds)
  | [], _, _, _ => trivial
  | d :: ds, d0, h, h0 => by
    rw [List.pairwise_cons] at h
    exact ⟨h0 d (by simp), rising_days h.2 (fun e he => Nat.le_of_lt (h.1 e he))⟩
theorem netD_nz (F : Nat → Nat) (fl : List Rec) (f d : Nat) : netD F (nz fl) f 0 d = netD F fl f 0 d := by rw [← netGD, ← netGD, netG_nz]
theorem net_nz (F : Nat → Nat) (fl : List Rec) (f t : Nat) : net F (nz fl) f t = net F fl f t := by rw [← netG0, ← netG0, netG_nz]
theorem Look.pre {F : Nat → Nat} {fl : List Rec} {h : Hp} (L : Look F fl h) (l : Nat) {ds : List Nat} (hn : ds.Nodup) : -3000000000000 ≤ (ds.map (fun d => netD F fl l 0 d)).sum ∧ (ds.map (fun d => netD F fl l 0 d)).sum ≤ 3000000000000 := by
  have e : (ds.map (fun d => netD F fl l 0 d)).sum = (ds.map (fun d => netD F (nz fl) l 0 d)).sum := by
    congr 1
    exact List.map_congr_left (fun d _ => (netD_nz F fl l d).symm)
  rw [e, sum_netD F l (nz fl) ds hn]
  have := sum_abs F l (fun r => r 3 = 0 ∧ r 0 ∈ ds) (fun r => inferInstance) (fl := nz fl) (fun q hq => L.2.2.1 q (List.mem_filter.mp hq).1)
  have h250 := L.2.2.2.2.2
  omega
theorem Look.tot {F : Nat → Nat} {fl : List Rec} {h : Hp} (_L : Look F fl h) (l : Nat) : ((daysOf (nz fl)).map (fun d => netD F fl l 0 d)).sum = net F fl l 0 := by
  have e : ((daysOf (nz fl)).map (fun d => netD F fl l 0 d)).sum = ((daysOf (nz fl)).map (fun d => netD F (nz fl) l 0 d)).sum := by
    congr 1
    exact List.map_congr_left (fun d _ => (netD_nz F fl l d).symm)
  rw [e, sum_netD F l (nz fl) _ (pw_nd (days_pw _)), ← net_nz]
  unfold net
  congr 1
  refine List.map_congr_left (fun r hr => ?_)
  by_cases q : r 3 = 0
  · rw [if_pos q, if_pos ⟨q, (days_mem (nz fl) (r 0)).mpr ⟨r, hr, q, rfl⟩⟩]
  · rw [if_neg q, if_neg (fun z => q z.1)]
theorem Look.above {F : Nat → Nat} {fl : List Rec} {h : Hp} (L : Look F fl h) (l : Nat) : ∀ (rest pre : List Nat), daysOf (nz fl) = pre ++ rest → above 3000000000000 ((pre.map (fun d => netD F fl l 0 d)).sum) (dyM F fl l rest) := by
  intro rest
  have nd := pw_nd (days_pw (nz fl))
  induction rest with
  | nil =>
    intro pre e
    refine (L.pre l ?_).1
    rw [e] at nd
    exact (List.nodup_append.mp nd).1
  | cons d rest ih =>
    intro pre e
    refine ⟨(L.pre l ?_).1, ?_⟩
    · rw [e] at nd
      exact (List.nodup_append.mp nd).1
    · have := ih (pre ++ [d]) (by rw [e]; simp)
      rw [List.map_append, List.sum_append, show ([d].map (fun d => netD F fl l 0 d)).sum = netD F fl l 0 d by simp] at this
      exact this
theorem Look.out {F : Nat → Nat} {fl : List Rec} {h : Hp} (L : Look F fl h) {l : Nat} (hp : 0 ≤ net F fl l 0) : outS 0 0 (dyM F fl l (daysOf (nz fl))) = outV F fl l ∧ 0 ≤ outV F fl l ∧ outV F fl l ≤ 9000000000000000 := by
  have e : outS 0 0 ((dyM F fl l (daysOf (nz fl))).filter (fun q => q.2 != 0)) = outS 0 0 (dyM F fl l (daysOf (nz fl))) := by
    refine outS_filter _ 0 0 ?_
    have : ((dyM F fl l (daysOf (nz fl))).map (·.2)).sum = net F fl l 0 := by
      rw [← L.tot l]
      unfold dyM
      rw [List.map_map]
      rfl
    rw [this]
    omega
  have e2 : (dyM F fl l (daysOf (nz fl))).filter (fun q => q.2 != 0) = seqN F fl l := seq_days L.2.2.1
  rw [e2] at e
  unfold outV
  rw [e]
  have r := rising_days (F := F) (fl := fl) (l := l) (d0 := 0) (days_pw (nz fl)) (fun e _ => Nat.zero_le e)
  refine ⟨rfl, outS_nn _ _ _ r, ?_⟩
  have := outS_le 3000000000000 (by decide) _ 0 0 r (L.above l _ [] rfl) (fun q hq => ?_) (by decide)
  · exact this
  · unfold dyM at hq
    rw [List.mem_map] at hq
    obtain ⟨d, hd, rfl⟩ := hq
    obtain ⟨s, hs, -, e3⟩ := (days_mem (nz fl) d).mp hd
    have := (L.2.2.1 s (List.mem_filter.mp hs).1).1
    show d < 3000
    omega
def outT (F : Nat → Nat) (fl : List Rec) (l : Nat) (c : Int) : List Nat → Int
  | [] => 0
  | d :: t => outS (c + netD F fl l 0 d) d (dyM F fl l t)
set_option maxHeartbeats 4000000 in
set_option maxRecDepth 100000 in
theorem q_outOf8 {F : Nat → Nat} {fl : List Rec} {l : Nat} {h : Hp} {Q : Int64 → Hp → Prop} (L : Look F fl h) (hl : l < 8) : ∀ (rest pre : List Nat) (a : Int), daysOf (nz fl) = pre ++ rest → Q (z64 (a + outT F fl l ((pre.map (fun d => netD F fl l 0 d)).sum) rest)) h → m_X12_outOf_8 (rest.length + 1) Q (n32 l) (z64 (pre.map (fun d => netD F fl l 0 d)).sum) (z64 a) (n32 pre.length) h := by
  intro rest
  obtain ⟨hF, A, ok, ab, D, l250⟩ := id L
  have e61 := D.1; have d256 := D.2.1
  have nd := pw_nd (days_pw (nz fl))
  have pw := days_pw (nz fl)
  induction rest with
  | nil =>
    intro pre a e k
    rw [List.append_nil] at e
    rw [List.length_nil, m_X12_outOf_8]
    rw [e] at e61
    have : pre.length ≤ 256 := by rw [← e]; exact d256
    simp (disch := omega) only [↓m1_pm, lit32, n32_add, n32_mul, n32_ix, n32_lt, n32_le, n32_eq, n32_in, pm_ix, pm_in, pm_eqn, n_eqpm, pm_ltn, n_ltpm, pm_len, n_lepm, pm_inj, forall_eq, e61]
    exact ⟨fun _ => by simpa [outT] using k, fun z => absurd (Nat.le_refl _) z⟩
  | cons d rest ih =>
    intro pre a e k
    have hlen : (daysOf (nz fl)).length = pre.length + (rest.length + 1) := by rw [e]; simp
    obtain ⟨ed, hd⟩ := L.day e
    have hb := L.pre l (ds := pre ++ [d]) (by
      rw [e, show pre ++ d :: rest = (pre ++ [d]) ++ rest by simp] at nd
      exact (List.nodup_append.mp nd).1)
    have es : ((pre ++ [d]).map (fun d => netD F fl l 0 d)).sum = (pre.map (fun d => netD F fl l 0 d)).sum + netD F fl l 0 d := by simp
    rw [es] at hb
    rw [List.length_cons, m_X12_outOf_8]
    simp (disch := omega) only [↓m1_pm, lit32, n32_add, n32_mul, n32_ix, n32_lt, n32_le, n32_eq, n32_in, pm_ix, pm_in, pm_eqn, n_eqpm, pm_ltn, n_ltpm, pm_len, n_lepm, pm_inj, forall_eq, e61, ed]
    refine ⟨fun z => absurd z (by omega), fun _ => ⟨by omega, ?_⟩⟩
    refine q_netOf (t := 0) (dd := d + 1) hF A ok (by omega) (by omega) (by omega) ?_
    rw [netGD, z64_add]
    rw [outT] at k
    have next : ∀ a' : Int, a' + outT F fl l ((pre.map (fun d => netD F fl l 0 d)).sum + netD F fl l 0 d) rest = a + outS ((pre.map (fun d => netD F fl l 0 d)).sum + netD F fl l 0 d) d (dyM F fl l rest) → m_X12_outOf_75 (fun v1 v2 v4 v6 hh => m_X12_outOf_8 (rest.length + 1) Q v1 v2 v4 v6 hh) Q (n32 l) (z64 ((pre.map (fun d => netD F fl l 0 d)).sum + netD F fl l 0 d)) (z64 a') (n32 pre.length) h := by
      intro a' ha
      unfold m_X12_outOf_75
      simp (disch := omega) only [↓m1_pm, lit32, n32_add, n32_mul, n32_ix, n32_lt, n32_le, n32_eq, n32_in, pm_ix, pm_in, pm_eqn, n_eqpm, pm_ltn, n_ltpm, pm_len, n_lepm, pm_inj, forall_eq]
      have := ih (pre ++ [d]) a' (by rw [e]; simp) (by rw [es, ha]; exact k)
      rw [List.length_append, List.length_singleton, es] at this
      exact this
    generalize hc : (pre.map (fun d => netD F fl l 0 d)).sum + netD F fl l 0 d = c at hb next k
    have z0 : (0 : Int64) = z64 0 := rfl
    rw [z0]
    simp (disch := omega) only [↓m1_pm, lit32, n32_add, n32_mul, n32_ix, n32_lt, n32_le, n32_eq, n32_in, pm_ix, pm_in, pm_eqn, n_eqpm, pm_ltn, n_ltpm, pm_len, n_lepm, pm_inj, forall_eq, lgc_ge, e61]
    cases rest with
    | nil =>
      have hl1 : (daysOf (nz fl)).length = pre.length + 1 := by rw [hlen]; rfl
      refine ⟨fun _ => next a (by simp [outT, outS, dyM]), fun z => ⟨fun _ => next a (by simp [outT, outS, dyM]), fun z2 => absurd z2 (by omega)⟩⟩
    | cons d' t =>
      obtain ⟨ed', hd'⟩ := L.day (pre := pre ++ [d]) (rest := t) (d := d') (by rw [e]; simp)
      rw [List.length_append, List.length_singleton] at ed'
      have hdd : d < d' := by
        rw [e, List.pairwise_append] at pw
        have := pw.2.1
        rw [List.pairwise_cons] at this
        exact this.1 d' (by simp)
      have hl2 : (d' :: t).length = t.length + 1 := rfl
      have eo : outS c d (dyM F fl l (d' :: t)) = (if c < 0 then -c * ((d' : Int) - d) else 0) + outS (c + netD F fl l 0 d') d' (dyM F fl l t) := rfl
      have sub : n32 d' - n32 d = n32 (d' - d) := n32_sub (by omega)
      simp (disch := omega) only [↓m1_pm, lit32, n32_add, n32_mul, n32_ix, n32_lt, n32_le, n32_eq, n32_in, pm_ix, pm_in, pm_eqn, n_eqpm, pm_ltn, n_ltpm, pm_len, n_lepm, pm_inj, forall_eq, ed', ed, sub, n32_long, z64_mul, z64_sub]
      refine ⟨fun q => next a ?_, fun q => ⟨fun z => absurd z (by omega), fun _ => ⟨by omega, by omega, next _ ?_⟩⟩⟩
      · rw [eo, if_neg (by omega), outT]; simp
      · rw [eo, if_pos (by omega)]
        have : ((d' - d : Nat) : Int) = (d' : Int) - d := by omega
        rw [this, Int.neg_mul, outT]
        omega
theorem q_outOf {F : Nat → Nat} {fl : List Rec} {l : Nat} {h : Hp} {Q : Int64 → Hp → Prop} (L : Look F fl h) (hl : l < 8) (hp : 0 ≤ net F fl l 0) (k : Q (z64 (outV F fl l)) h) : m_X12_outOf (n32 l) h Q := by
  unfold m_X12_outOf
  refine ⟨_, q_outOf8 L hl (daysOf (nz fl)) [] 0 rfl ?_⟩
  rw [← (L.out hp).1] at k
  cases hd : daysOf (nz fl) with
  | nil => rw [hd] at k; exact k
  | cons d t =>
    rw [hd] at k
    have e : outS 0 0 (dyM F fl l (d :: t)) = 0 + outS (0 + netD F fl l 0 d) d (dyM F fl l t) := rfl
    rw [e] at k
    exact k
/-- who lends has something out -/
theorem out_pos {F : Nat → Nat} {fl : List Rec} {l b : Nat} {h : Hp} (L : Look F fl h) (hl : lendsB F fl l b = true) : 0 < net F fl l 0 ∧ 0 < outV F fl l := by
  unfold lendsB at hl
  simp only [Bool.and_eq_true, decide_eq_true_eq] at hl
  obtain ⟨⟨⟨⟨⟨-, -⟩, -⟩, hn⟩, -⟩, hd⟩ := hl
  refine ⟨hn, ?_⟩
  have htot : ((seqN F fl l).map (·.2)).sum = net F fl l 0 := by
    have e2 : (dyM F fl l (daysOf (nz fl))).filter (fun q => q.2 != 0) = seqN F fl l := seq_days L.2.2.1
    have es : ∀ M : List (Nat × Int), ((M.filter (fun q => q.2 != 0)).map (·.2)).sum = (M.map (·.2)).sum := by
      intro M
      induction M with
      | nil => rfl
      | cons p M ih =>
        rw [List.filter_cons]
        by_cases hp : p.2 = 0
        · rw [if_neg (by simp [hp]), List.map_cons, List.sum_cons, ih, hp]; omega
        · rw [if_pos (by simp [hp]), List.map_cons, List.map_cons, List.sum_cons, List.sum_cons, ih]
    rw [← e2, es, ← L.tot l]
    unfold dyM
    rw [List.map_map]
    rfl
  have hnz : ∀ q ∈ seqN F fl l, q.2 ≠ 0 := fun q hq => by
    unfold seqN at hq
    simpa using (List.mem_filter.mp hq).2
  have hpw : (seqN F fl l).Pairwise (fun a b => a.1 < b.1) := by
    unfold seqN
    refine List.Pairwise.filter _ ?_
    rw [List.pairwise_map]
    exact rng_pw 3000
  unfold outV
  generalize seqN F fl l = S at htot hnz hpw hd
  cases S with
  | nil => simp at htot; omega
  | cons q t =>
    by_cases hq : 0 < q.2
    · have : lendDay (q :: t) = none := by simp [lendDay, hq]
      rw [this] at hd; cases hd
    · have q0 := hnz q (by simp)
      cases t with
      | nil => simp at htot; omega
      | cons p t =>
        rw [List.pairwise_cons] at hpw
        have hqp := hpw.1 p (by simp)
        have pw2 := hpw.2
        have rs : ∀ {S : List (Nat × Int)} {d : Nat}, S.Pairwise (fun a b => a.1 < b.1) → (∀ e ∈ S, d ≤ e.1) → rising d S := by
          intro S
          induction S with
          | nil => intros; trivial
          | cons a S ih =>
            intro d h1 h2
            rw [List.pairwise_cons] at h1
            exact ⟨h2 a (by simp), ih h1.2 (fun e he => Nat.le_of_lt (h1.1 e he))⟩
        rw [List.pairwise_cons] at pw2
        have r : rising p.1 t := rs pw2.2 (fun e he => Nat.le_of_lt (pw2.1 e he))
        have := outS_nn t (0 + q.2 + p.2) p.1 r
        rw [outS, outS, if_neg (by decide), if_pos (by omega)]
        have : 0 < -(0 + q.2) * ((p.1 : Int) - q.1) := Int.mul_pos (by omega) (by omega)
        omega
/-- the best share till now (0 above: none) -/
def prS (F : Nat → Nat) (D : List Dl) (bs : List Nat) (l b : Nat) (g : Bool) (s : Nat × Nat) (c : Nat) : Nat × Nat :=
  if bLend F D bs c l b then
    (if s.1 = 0 ∨ (if g then s.1 * (outV F (bRows D bs c 0) l).toNat < (net F (bRows D bs c 0) l 0).toNat * s.2 else (net F (bRows D bs c 0) l 0).toNat * s.2 < s.1 * (outV F (bRows D bs c 0) l).toNat) then ((net F (bRows D bs c 0) l 0).toNat, (outV F (bRows D bs c 0) l).toNat) else s)
  else s
def prA (F : Nat → Nat) (D : List Dl) (bs : List Nat) (l b : Nat) (g : Bool) : Nat × Nat := (codesL D bs).foldl (prS F D bs l b g) (0, 1)
def ansPrice (x : Ab) (v1 v2 v3 : Int32) : Int64 := match argN v1 8, argN v2 8, argN v3 4 with
  | some l, some b, some w => if l = b then -1 else if pop (bEvs (aD x) (aB x)) + bChs (aD x) (aB x) ≤ 8 then
      (if (prA (aF x) (aD x) (aB x) l b (decide (2 ≤ w))).1 = 0 then -1 else z64 ((if w % 2 = 0 then (prA (aF x) (aD x) (aB x) l b (decide (2 ≤ w))).1 else (prA (aF x) (aD x) (aB x) l b (decide (2 ≤ w))).2) / Nat.gcd (prA (aF x) (aD x) (aB x) l b (decide (2 ≤ w))).1 (prA (aF x) (aD x) (aB x) l b (decide (2 ≤ w))).2 : Nat)) else -1
  | _, _, _ => -1
