/-! THE CLASS: a weighing whole; who borrows -/
theorem sumS_lt (C : List Rec) (f : Nat) : ∀ m, sumS (sqU C f m) = (C.map (fun e => if e 3 = 0 ∧ e 0 < m then shE f e else 0)).sum
  | 0 => by
    have : (C.map (fun e => if e 3 = 0 ∧ e 0 < 0 then shE f e else 0)).sum = 0 := by
      induction C with
      | nil => rfl
      | cons e C ih => rw [List.map_cons, List.sum_cons, ih, if_neg (by omega)]; rfl
    rw [this]; rfl
  | m + 1 => by
    have ih := sumS_lt C f m
    have e1 : sumS (sqU C f (m + 1)) = sumS (sqU C f m) + nE C f 0 (m + 1) := by
      rw [sqU_succ]
      by_cases q : nE C f 0 (m + 1) = 0
      · rw [if_pos q, List.append_nil, q, Int.add_zero]
      · rw [if_neg q, sumS_app]
    rw [e1, ih]
    unfold nE
    clear ih e1
    induction C with
    | nil => rfl
    | cons e C ih =>
      rw [List.map_cons, List.sum_cons, List.map_cons, List.sum_cons, List.map_cons, List.sum_cons, ← ih]
      by_cases z : e 3 = 0
      · by_cases y : e 0 < m
        · rw [if_pos ⟨z, y⟩, if_neg (by omega), if_pos ⟨z, by omega⟩]; omega
        · by_cases w : e 0 = m
          · rw [if_neg (by omega), if_pos ⟨z, by omega⟩, if_pos ⟨z, by omega⟩]; omega
          · rw [if_neg (by omega), if_neg (by omega), if_neg (by omega)]; omega
      · rw [if_neg (by omega), if_neg (by omega), if_neg (by omega)]; omega
theorem sumS_all {C : List Rec} (f : Nat) (h : ∀ e ∈ C, e 0 < 3000) : sumS (sqU C f 3000) = nE C f 0 0 := by
  rw [sumS_lt]
  unfold nE
  have : C.map (fun e => if e 3 = 0 ∧ e 0 < 3000 then shE f e else 0) = C.map (fun e => if e 3 = 0 ∧ (0 = 0 ∨ e 0 + 1 = 0) then shE f e else 0) := List.map_congr_left (fun e he => by
    have := h e he
    by_cases z : e 3 = 0
    · rw [if_pos ⟨z, this⟩, if_pos ⟨z, Or.inl rfl⟩]
    · rw [if_neg (fun w => z w.1), if_neg (fun w => z w.1)])
  rw [this]
/-- what was weighed tells -/
def WgO (F : Nat → Nat) (fl : List Rec) (h : Hp) : Prop :=
  (∀ f, f < 8 → hJ h 21 f = z64 (net F fl f 0) ∧ hJ h 22 f = z64 (outS 0 0 (seqN F fl f)) ∧ -3000000000000 ≤ net F fl f 0 ∧ net F fl f 0 ≤ 3000000000000 ∧ (seqN F fl f = [] → net F fl f 0 = 0)) ∧
  ∃ un be sp, un < 256 ∧ be < 256 ∧ sp < 256 ∧ hI h 14 17 = n32 sp ∧ hI h 14 18 = n32 un ∧ hI h 14 19 = n32 be ∧ ∀ f, f < 8 → un.testBit f = !clean F fl f ∧ be.testBit f = decide (net F fl f 0 < 0) ∧ sp.testBit f = decide (seqN F fl f ≠ [] ∧ lendDay (seqN F fl f) = none) ∧ (∀ q t, seqN F fl f = q :: t → ∃ u, u < 256 ∧ hI h 25 f = n32 u ∧ ∀ b, b < 8 → u.testBit b = decide (0 < netD F fl b 0 q.1))
theorem WgO.mv {F : Nat → Nat} {fl : List Rec} {S : Nat → Nat → Prop} {h h' : Hp} (W : WgO F fl h) (f : fr S h h') (n1 : ∀ k, ¬ S 21 k ∧ ¬ S 22 k ∧ ¬ S 25 k) (n2 : ¬ S 14 17 ∧ ¬ S 14 18 ∧ ¬ S 14 19) : WgO F fl h' := by
  obtain ⟨w1, un, be, sp, b1, b2, b3, e1, e2, e3, w2⟩ := W
  refine ⟨fun g hg => ?_, un, be, sp, b1, b2, b3, ?_, ?_, ?_, fun g hg => ?_⟩
  · rw [f.J (n1 g).1, f.J (n1 g).2.1]; exact w1 g hg
  · rw [f.I n2.1]; exact e1
  · rw [f.I n2.2.1]; exact e2
  · rw [f.I n2.2.2]; exact e3
  · rw [f.I (n1 g).2.2]; exact w2 g hg
theorem and_not8 {a u : Nat} (ha : a < 256) (hu : u < 256) : n32 a &&& (n32 u ^^^ (-1)) = n32 (a &&& (u ^^^ 255)) := by
  apply Int32.toBitVec_inj.mp
  rw [Int32.toBitVec_and, Int32.toBitVec_xor, n32_bv, n32_bv, n32_bv]
  apply BitVec.eq_of_toNat_eq
  have h1 : a &&& (u ^^^ 255) ≤ a := Nat.and_le_left
  have h2 : (-1 : Int32).toBitVec.toNat = 4294967295 := by decide
  rw [BitVec.toNat_and, BitVec.toNat_xor, h2, BitVec.toNat_ofNat, BitVec.toNat_ofNat, BitVec.toNat_ofNat, Nat.mod_eq_of_lt (show a < 2 ^ 32 by omega), Nat.mod_eq_of_lt (show u < 2 ^ 32 by omega), Nat.mod_eq_of_lt (show a &&& (u ^^^ 255) < 2 ^ 32 by omega)]
  apply Nat.eq_of_testBit_eq
  intro j
  rw [Nat.testBit_and, Nat.testBit_and, Nat.testBit_xor, Nat.testBit_xor]
  by_cases y : j < 8
  · rw [show (4294967295 : Nat) = 2 ^ 32 - 1 from rfl, show (255 : Nat) = 2 ^ 8 - 1 from rfl, Nat.testBit_two_pow_sub_one, Nat.testBit_two_pow_sub_one]
    simp [y, show j < 32 by omega]
  · have : a.testBit j = false := Nat.testBit_lt_two_pow (Nat.lt_of_lt_of_le (show a < 2 ^ 8 from ha) (Nat.pow_le_pow_right (by decide) (by omega)))
    rw [this]; rfl
theorem shr_tb (a s : Nat) : ((a >>> s) % 2 = 1) ↔ a.testBit s = true := by
  rw [Nat.testBit, Nat.and_comm, Nat.and_one_is_mod]; simp
theorem lnB_zero {F : Nat → Nat} {fl : List Rec} {l : Nat} (h : ∀ b, b < 8 → lendsB F fl l b = false) : lnB F fl l 8 = 0 := by
  apply Nat.eq_of_testBit_eq
  intro i
  rw [lnB_bit, Nat.zero_testBit]
  by_cases y : i < 8
  · rw [h i y]; simp
  · simp [y]
set_option maxHeartbeats 4000000 in
set_option maxRecDepth 100000 in
theorem c_borrowersOf {F : Nat → Nat} {fl : List Rec} {h : Hp} {l : Nat} {Q : Int32 → Hp → Prop} (W : WgO F fl h) (hl : l < 8) (k : Q (n32 (lnB F fl l 8)) h) : m_X5_borrowersOf (n32 l) h Q := by
  obtain ⟨w1, un, be, sp, b1, b2, b3, e1, e2, e3, w2⟩ := W
  obtain ⟨a1, a2, a3, a4, a5⟩ := w1 l hl
  obtain ⟨c1, c2, c3, c4⟩ := w2 l hl
  have hor : sp ||| un < 256 := Nat.or_lt_two_pow (n := 8) b3 b1
  have m2 : (sp ||| un) >>> l % 2 < 2147483648 := by omega
  unfold m_X5_borrowersOf
  rw [n32_ix (by omega), a1, show (0 : Int64) = z64 0 from rfl, show (0 : Int32) = n32 0 from rfl, lgc_le (by omega) (by omega) (by omega) (by omega), e1, e2, e3, n32_or (by omega) (by omega), show (1 : Int32) = n32 1 from rfl, show (31 : Int32) = n32 31 from rfl, n32_bit (by omega) (by omega), n32_eq m2 (by decide), shr_tb, Nat.testBit_or, c1, c3]
  refine ⟨vpI hl (by decide), fun z => ?_, fun z => ⟨fun y => ⟨vpI hl (by decide), ?_⟩, fun y => ?_⟩⟩
  · rw [lnB_zero (fun b hb => ?_)] at k
    · exact k
    · unfold lendsB
      rw [show decide (0 < net F fl l 0) = false from decide_eq_false (by omega)]; simp
  · -- it lends
    cases hs : seqN F fl l with
    | nil => exact absurd (a5 hs) (by omega)
    | cons q t =>
      obtain ⟨u, u1, u2, u3⟩ := c4 q t hs
      have cl : clean F fl l = true := by
        cases hh : clean F fl l with
        | true => rfl
        | false => exact absurd (by rw [hh]; simp) y
      have ld : lendDay (seqN F fl l) ≠ none := fun w => y (by rw [w, hs]; simp)
      obtain ⟨d, hd⟩ := Option.ne_none_iff_exists'.mp ld
      obtain ⟨q', t', hq, hq1⟩ := lendDay_first hd
      rw [hs] at hq
      injection hq with hq2 hq3
      subst hq2
      rw [u2, n32_and (by omega) (by omega), show -n32 1 = (-1 : Int32) from rfl, and_not8 (Nat.lt_of_le_of_lt Nat.and_le_left b2) b1]
      have : be &&& u &&& (un ^^^ 255) = lnB F fl l 8 := by
        apply Nat.eq_of_testBit_eq
        intro i
        rw [lnB_bit, Nat.testBit_and, Nat.testBit_and, Nat.testBit_xor, show (255 : Nat) = 2 ^ 8 - 1 from rfl, Nat.testBit_two_pow_sub_one]
        by_cases i8 : i < 8
        · obtain ⟨d1, d2, -, -⟩ := w2 i i8
          rw [d1, d2, u3 i i8]
          unfold lendsB
          rw [hd, cl, show decide (0 < net F fl l 0) = true from decide_eq_true (by omega), hq1]
          dsimp only
          by_cases v : net F fl i 0 < 0
          · have ne : (l != i) = true := by
              rw [bne_iff_ne]; intro w; subst w; omega
            rw [ne, decide_eq_true i8, decide_eq_true v]
            simp [Bool.and_comm]
          · simp [v]
        · have : be.testBit i = false := Nat.testBit_lt_two_pow (Nat.lt_of_lt_of_le (show be < 2 ^ 8 from b2) (Nat.pow_le_pow_right (by decide) (by omega)))
          rw [this]; simp [i8]
      rw [this]; exact k
  · rw [lnB_zero (fun b hb => ?_)] at k
    · exact k
    · unfold lendsB
      rw [Bool.or_eq_true, decide_eq_true_iff] at y
      rcases y with ⟨-, y⟩ | y
      · rw [y]; simp
      · have : clean F fl l = false := by simpa using y
        rw [this]; simp
set_option maxHeartbeats 4000000 in
set_option maxRecDepth 100000 in
theorem c_weigh {x : Ab} {l : List Nat} {E : List Rec} {c : Nat} {h : Hp} {Q : Hp → Prop} (A : EnA E h) (T : TkP x l E) (Td : CTdy h) (hc : c < 2147483648) (k : ∀ h', fr SWg h h' → CTdy h' → WgO (aF x) (bRows (aD x) l c 0) h' → Q h') : m_X5_weigh (n32 c) h Q := by
  unfold m_X5_weigh
  obtain ⟨T1, T2, T3⟩ := id T
  refine q_fillJ (by decide) (fun h1 f1 g1 => q_fillJ (by decide) (fun h2 f2 g2 => q_fillJ (by decide) (fun h3 f3 g3 => ?_)))
  have k1 : fr SWg h h1 := f1.mono (by unfold SWg; omega)
  have k2 : fr SWg h h2 := k1.trans (f2.mono (by unfold SWg; omega))
  have k3 : fr SWg h h3 := k2.trans (f3.mono (by unfold SWg; omega))
  have k4 : fr SWg h (wI (wI (wI h3 14 15 0) 14 16 0) 14 17 0) := fr_wI (fr_wI (fr_wI k3 _ (by unfold SWg; omega)) _ (by unfold SWg; omega)) _ (by unfold SWg; omega)
  have i15 : hI (wI (wI (wI h3 14 15 0) 14 16 0) 14 17 0) 14 15 = n32 0 := by rw [hI_wI, if_neg (by omega), hI_wI, if_neg (by omega), hI_wI, if_pos ⟨rfl, rfl⟩]; rfl
  have i16 : hI (wI (wI (wI h3 14 15 0) 14 16 0) 14 17 0) 14 16 = n32 0 := by rw [hI_wI, if_neg (by omega), hI_wI, if_pos ⟨rfl, rfl⟩]; rfl
  have i17 : hI (wI (wI (wI h3 14 15 0) 14 16 0) 14 17 0) 14 17 = n32 0 := by rw [hI_wI, if_pos ⟨rfl, rfl⟩]; rfl
  have j19 : ∀ j, j < 48 → hJ (wI (wI (wI h3 14 15 0) 14 16 0) 14 17 0) 19 j = z64 0 := fun j hj => by rw [hJ_wI, hJ_wI, hJ_wI, f3.J (by omega), f2.J (by omega), g1 j hj]; rfl
  have j21 : ∀ j, j < 8 → hJ (wI (wI (wI h3 14 15 0) 14 16 0) 14 17 0) 21 j = z64 0 := fun j hj => by rw [hJ_wI, hJ_wI, hJ_wI, f3.J (by omega), g2 j hj]; rfl
  have j22 : ∀ j, j < 8 → hJ (wI (wI (wI h3 14 15 0) 14 16 0) 14 17 0) 22 j = z64 0 := fun j hj => by rw [hJ_wI, hJ_wI, hJ_wI, g3 j hj]; rfl
  have j23 : ∀ j, j < 8 → hJ (wI (wI (wI h3 14 15 0) 14 16 0) 14 17 0) 23 j = z64 0 := fun j hj => by rw [hJ_wI, hJ_wI, hJ_wI, f3.J (by omega), f2.J (by omega), f1.J (by omega), Td j hj]; rfl
  generalize wI (wI (wI h3 14 15 0) 14 16 0) 14 17 0 = h4 at k4 i15 i16 i17 j19 j21 j22 j23
  have CS : ∀ e ∈ E.filter (psB c), EnOk e := fun e he => T3 e (List.mem_filter.mp he).1
  have CL : (E.filter (psB c)).length ≤ 216 := Nat.le_trans (List.length_filter_le _ _) A.1.2.1
  have ab : ∀ f t dd, -2160000000000 ≤ nE (E.filter (psB c)) f t dd ∧ nE (E.filter (psB c)) f t dd ≤ 2160000000000 := fun f t dd => by
    have := nE_abs f t dd CS; omega
  have sm : ∀ f, sumS (sqU (E.filter (psB c)) f 3000) = nE (E.filter (psB c)) f 0 0 := fun f => sumS_all f (fun e he => (CS e he).1)
  refine ⟨_, c_weighLoop A T2 T3 hc (fun h5 f5 W5 => ?_) E [] 0 h4 rfl k4 ⟨fun f t hf ht t0 => j19 _ (by omega), fun f hf => j23 f hf, fun _ => 0, ⟨0, 0, 0, by decide, by decide, by decide, i15, i16, i17, fun f hf => ⟨?_, ?_, ?_, j21 f hf, j22 f hf, fun z => absurd rfl z⟩⟩, fun f hf q t hs => by cases hs⟩ ⟨fun _ e he => absurd he (by simp), fun z => absurd rfl z, by omega⟩ (fun z => absurd rfl z)⟩
  · obtain ⟨w1, w2, up, ⟨bg, rs, sp, d1, d2, d3, e15, e16, e17, FB⟩, w4⟩ := W5
    have A5 := A.mv f5 (by unfold SWg; omega) (by unfold SWg; omega)
    have FB : ∀ f, f < 8 → FmB (sqU (E.filter (psB c)) f 3000) (up f) f bg rs sp h5 := FB
    refine c_findUneven (A := fun f t => nE (E.filter (psB c)) f t 0) (S := fun f => nE (E.filter (psB c)) f 0 0) A5.pr w1 (fun f hf => by rw [(FB f hf).2.2.2.1, sm]) (fun f t => by have := ab f t 0; omega) (fun f => by have := ab f 0 0; omega) (fun f hf hp => ⟨fun t => nE_off_prs hf hp (fun e he => (List.mem_filter.mp he).1), nE_off_prs hf hp (fun e he => (List.mem_filter.mp he).1)⟩) (fun h6 un be f6 u1 u2 e18 e19 ub => ?_)
    have n0 : ∀ f t, nE (E.filter (psB c)) f t 0 = net (aF x) (bRows (aD x) l c 0) f t := fun f t => by rw [nE_rows T, netG0]
    refine k h6 (f5.trans (f6.mono (by unfold SFu SWg; omega))) (fun f hf => by rw [f6.J (by unfold SFu; omega), w2 f hf]; rfl) ⟨fun f hf => ⟨?_, ?_, ?_, ?_, fun z => ?_⟩, un, be, sp, u1, u2, d3, ?_, e18, e19, fun f hf => ⟨?_, ?_, ?_, fun q t hs => ?_⟩⟩
    · rw [f6.J (by unfold SFu; omega), (FB f hf).2.2.2.1, sm, n0]
    · rw [f6.J (by unfold SFu; omega), (FB f hf).2.2.2.2.1, sqU_seqN T]
    · rw [← n0]; have := ab f 0 0; omega
    · rw [← n0]; have := ab f 0 0; omega
    · rw [← n0, ← sm, sqU_seqN T, z]; rfl
    · rw [f6.I (by unfold SFu; omega)]; exact e17
    · rw [(ub f hf).1]
      unfold clA clean
      simp only [n0]
    · rw [(ub f hf).2, n0]
    · rw [(FB f hf).2.2.1, sqU_seqN T]
    · rw [← sqU_seqN T] at hs
      obtain ⟨v1, v2⟩ := w4 f hf q t hs
      refine ⟨up f, v1, ?_, fun b hb => ?_⟩
      · rw [f6.I (by unfold SFu; omega)]
        exact ((FB f hf).2.2.2.2.2 (by rw [hs]; simp)).2
      · rw [v2 b hb, nE_rows T, netGD]
  · simp [sqU]
  · simp [sqU, rise]
  · simp [sqU]
