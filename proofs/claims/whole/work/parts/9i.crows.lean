/-! THE CLASS: rows that pass by a code -/
def un (q : Rec) : Rec := mkRow (q 0) (q 1) (q 2) (q 3) (q 6)
def psB (c : Nat) (q : Rec) : Bool := decide (c &&& q 4 = q 5)
theorem un_c (d a b t m : Nat) (r : Rec) : un (cRow (mkRow d a b t m) r) = mkRow d a b t m ∧ cRow (mkRow d a b t m) r 4 = r 9 ∧ cRow (mkRow d a b t m) r 5 = r 10 := by
  refine ⟨?_, by simp [cRow], by simp [cRow]⟩
  unfold un cRow
  simp [mkRow]
theorem lfRows_mk (n : Nat) (r : Rec) : ∀ q ∈ lfRows n r, ∃ d a b t m, q = mkRow d a b t m := by
  intro q hq
  unfold lfRows at hq
  split at hq
  · rw [List.mem_singleton] at hq; exact ⟨_, _, _, _, _, hq⟩
  · split at hq
    · simp only [List.mem_cons, List.not_mem_nil, or_false] at hq
      rcases hq with hq | hq <;> exact ⟨_, _, _, _, _, hq⟩
    · simp only [List.mem_cons, List.not_mem_nil, or_false] at hq
      rcases hq with hq | hq | hq <;> exact ⟨_, _, _, _, _, hq⟩
/-- rows that pass are the rows laid out whose bits fit -/
theorem dl_c (c : Nat) : ∀ L : List Rec, dlRows L c = ((cRows L).filter (psB c)).map un
  | [] => rfl
  | r :: L => by
    have ih := dl_c c L
    unfold dlRows cRows at ih ⊢
    rw [List.flatMap_cons, List.flatMap_cons, List.filter_append, List.map_append, ih]
    congr 1
    by_cases h8 : r 8 = 0
    · have : lfTimes r c = 0 := by unfold lfTimes; split <;> simp [h8]
      rw [if_pos this, if_pos h8]; rfl
    · rw [if_neg h8]
      have key : ∀ q ∈ lfRows (r 8) r, un (cRow q r) = q ∧ psB c (cRow q r) = decide (c &&& r 9 = r 10) := by
        intro q hq
        obtain ⟨d, a, b, t, m, rfl⟩ := lfRows_mk _ _ q hq
        obtain ⟨y1, y2, y3⟩ := un_c d a b t m r
        refine ⟨y1, ?_⟩
        unfold psB
        rw [y2, y3]
      by_cases hc : c &&& r 9 = r 10
      · have : lfTimes r c = r 8 := by unfold lfTimes; rw [if_pos hc]
        rw [this, if_neg h8]
        have e1 : ((lfRows (r 8) r).map (fun q => cRow q r)).filter (psB c) = (lfRows (r 8) r).map (fun q => cRow q r) := by
          rw [List.filter_eq_self]
          intro q hq
          obtain ⟨p, hp, rfl⟩ := List.mem_map.mp hq
          rw [(key p hp).2]; simp [hc]
        rw [e1, List.map_map]
        symm
        calc (lfRows (r 8) r).map (un ∘ fun q => cRow q r) = (lfRows (r 8) r).map id := List.map_congr_left (fun q hq => (key q hq).1)
          _ = lfRows (r 8) r := List.map_id _
      · have : lfTimes r c = 0 := by unfold lfTimes; rw [if_neg hc]
        rw [this, if_pos rfl]
        have e1 : ((lfRows (r 8) r).map (fun q => cRow q r)).filter (psB c) = [] := by
          rw [List.filter_eq_nil_iff]
          intro q hq
          obtain ⟨p, hp, rfl⟩ := List.mem_map.mp hq
          rw [(key p hp).2]; simp [hc]
        rw [e1]; rfl
def CrOk (q : Rec) : Prop := q 0 < 3000 ∧ q 1 < 8 ∧ q 2 < 8 ∧ q 3 < 6 ∧ q 4 < 256 ∧ q 5 < 256 ∧ q 6 ≤ 10000000000 ∧ q 1 ≠ q 2
theorem cRows_ok {L : List Rec} (h : ∀ r ∈ L, LfOk r) : (∀ q ∈ cRows L, CrOk q) ∧ (cRows L).length ≤ 3 * L.length := by
  induction L with
  | nil => exact ⟨fun q hq => absurd hq (by simp [cRows]), by simp [cRows]⟩
  | cons r L ih =>
    obtain ⟨i1, i2⟩ := ih (fun q hq => h q (by simp [hq]))
    have hr := h r (by simp)
    have e : cRows (r :: L) = (if r 8 = 0 then [] else (lfRows (r 8) r).map (fun q => cRow q r)) ++ cRows L := by
      unfold cRows; rw [List.flatMap_cons]
    have o := lfRows_ok (n := r 8) hr hr.2.2.2.2.2.2.2.2.2.1
    have l3 := lfRows_len (r 8) r
    rw [e]
    refine ⟨fun q hq => ?_, ?_⟩
    · rw [List.mem_append] at hq
      rcases hq with hq | hq
      · split at hq
        · exact absurd hq (by simp)
        · obtain ⟨p, hp, rfl⟩ := List.mem_map.mp hq
          obtain ⟨a1, a2, a3, a4, a5, a6⟩ := o p hp
          exact ⟨a1, a2, a3, a5, hr.2.2.2.2.2.2.2.2.2.2.1, hr.2.2.2.2.2.2.2.2.2.2.2.1, a6, a4⟩
      · exact i1 q hq
    · rw [List.length_append, List.length_cons]
      split
      · simp only [List.length_nil]; omega
      · rw [List.length_map]; omega
theorem n32_hi {a : Nat} (ha : a < 2147483648) : n32 a &&& (-32) = n32 (a / 32 * 32) := by
  apply Int32.toBitVec_inj.mp
  rw [Int32.toBitVec_and, n32_bv, n32_bv]
  apply BitVec.eq_of_getLsbD_eq
  intro i hi
  have k32 : ∀ t : Fin 32, ((-32 : Int32).toBitVec).getLsbD t.val = decide (5 ≤ t.val) := by decide
  rw [BitVec.getLsbD_and, BitVec.getLsbD_ofNat, BitVec.getLsbD_ofNat, k32 ⟨i, hi⟩, show a / 32 * 32 = 2 ^ 5 * (a / 2 ^ 5) by rw [Nat.mul_comm], Nat.testBit_two_pow_mul, Nat.testBit_div_two_pow]
  by_cases q : 5 ≤ i
  · rw [show i - 5 + 5 = i by omega]
    simp [q, hi]
  · simp [q]
theorem n32_own {c bf : Nat} (hc : c < 2147483648) (hb : bf < 32) : (n32 c &&& 31) ||| ((n32 c >>> (n32 bf &&& 31)) &&& (-32)) = n32 (own c bf) := by
  have hle : c >>> bf ≤ c := by rw [Nat.shiftRight_eq_div_pow]; exact Nat.div_le_self _ _
  have h2 : (c >>> bf) / 32 * 32 ≤ c >>> bf := by omega
  rw [show (31 : Int32) = n32 31 from rfl, n32_shr hb hc, n32_and hc (by decide), n32_hi (by omega), show (31 : Nat) = 2 ^ 5 - 1 from rfl, Nat.and_two_pow_sub_one_eq_mod, n32_or (by omega) (by omega), or_hi (by omega)]
  unfold own
  rw [Nat.shiftRight_eq_div_pow, Nat.mul_comm 32]
theorem own_lt {c bf : Nat} (hc : c < 2147483648) : own c bf < 2147483648 := by
  unfold own
  have := Nat.div_le_self c (2 ^ bf)
  have h1 : c / 2 ^ bf / 32 * 32 ≤ c / 2 ^ bf := by omega
  by_cases q : bf = 0
  · subst q; simp; omega
  · have : 2 ^ 1 ≤ 2 ^ bf := pw_le (by omega)
    have : c / 2 ^ bf ≤ c / 2 ^ 1 := Nat.div_le_div_left this (by decide)
    omega
/-- a deal's row, as it stands -/
def RwA (h : Hp) (a k : Nat) (q : Rec) : Prop := hI h (a + 2) (6 * k) = n32 (q 0) ∧ hI h (a + 2) (6 * k + 1) = n32 (q 1) ∧ hI h (a + 2) (6 * k + 2) = n32 (q 2) ∧ hI h (a + 2) (6 * k + 3) = n32 (q 3) ∧ hI h (a + 2) (6 * k + 4) = n32 (q 4) ∧ hI h (a + 2) (6 * k + 5) = n32 (q 5) ∧ hJ h (a + 3) k = z64 (q 6 : Nat)
theorem CVw.row {x : Ab} {da : Nat → Nat} {d : Nat} {h : Hp} (V : CVw x da h) (K : OkA x) (hd : d < (aD x).length) {pre rest : List Rec} {q : Rec} (e : cRows (dL (aD x) d) = pre ++ q :: rest) : RwA h (da d) pre.length q ∧ CrOk q ∧ pre.length < 36 := by
  have ok : ∀ r ∈ dL (aD x) d, LfOk r := (K.1 d hd).1.2.2.2.2.2.2.1
  obtain ⟨o1, o2⟩ := cRows_ok ok
  have hl := K.l12 hd
  have len : (cRows (dL (aD x) d)).length = pre.length + (rest.length + 1) := by rw [e]; simp
  obtain ⟨c1, c2⟩ := (V.2.2 d hd).1.2.2.2.2.2.2.2.1 pre.length (by omega)
  rw [e, getD_mid] at c1 c2
  exact ⟨⟨c1 0 (by omega), c1 1 (by omega), c1 2 (by omega), c1 3 (by omega), c1 4 (by omega), c1 5 (by omega), c2⟩, o1 q (by rw [e]; simp), by omega⟩
theorem rows_le {x : Ab} (K : OkA x) {d : Nat} (hd : d < (aD x).length) : (cRows (dL (aD x) d)).length ≤ 36 := by
  have := (cRows_ok (L := dL (aD x) d) (K.1 d hd).1.2.2.2.2.2.2.1).2
  have := K.l12 hd
  omega
theorem c_passing {a k c : Nat} {q : Rec} {h : Hp} {Q : Int32 → Hp → Prop} (R : RwA h a k q) (O : CrOk q) (hk : k < 36) (hc : c < 2147483648) (k1 : psB c q = true → Q 1 h) (k0 : psB c q = false → Q 0 h) : m_X1_isPassing a (n32 k) (n32 c) h Q := by
  unfold m_X1_isPassing
  obtain ⟨-, -, -, -, r4, r5, -⟩ := R
  rw [show (6 : Int32) = n32 6 from rfl, n32_mul, show (4 : Int32) = n32 4 from rfl, show (5 : Int32) = n32 5 from rfl, n32_add, n32_add, n32_ix (by omega), n32_ix (by omega), Nat.mul_comm k 6, r4, r5, n32_and hc (by have := O.2.2.2.2.1; omega), n32_eq (Nat.lt_of_le_of_lt Nat.and_le_left hc) (by have := O.2.2.2.2.2.1; omega)]
  refine ⟨vpI (by omega) (by decide), vpI (by omega) (by decide), fun z => k0 ?_, fun z => k1 ?_⟩
  · unfold psB; exact decide_eq_false z
  · unfold psB; exact decide_eq_true z
theorem bRows_app (D : List Dl) (c : Nat) : ∀ (l m : List Nat) (bf : Nat), bRows D (l ++ m) c bf = bRows D l c bf ++ bRows D m c (bf + bChs D l)
  | [], m, bf => by simp [bRows, bChs]
  | d :: l, m, bf => by
    rw [List.cons_append, bRows, bRows, bRows_app D c l m, List.append_assoc]
    congr 3
    simp [bChs]; omega
theorem bR_one (D : List Dl) (c d bf : Nat) : bRows D [d] c bf = dlRows (dL D d) (own c bf) := by simp [bRows]
/-- rows counted -/
theorem c_rowsBy {x : Ab} {da : Nat → Nat} {a c : Nat} {l : List Nat} {h : Hp} {Q : Int32 → Hp → Prop} (V : CVw x da h) (K : OkA x) (B : CBd x da a l h) (hc : c < 2147483648) (k : Q (n32 (bRows (aD x) l c 0).length) h) : m_X0_rowsBy a (n32 c) h Q := by
  have hl := B.2.1
  have main : ∀ (rest pre : List Nat), l = pre ++ rest → m_X0_rowsBy_7 (rest.length + 1) Q a (n32 c) (n32 (bRows (aD x) pre c 0).length) (n32 (bChs (aD x) pre)) (n32 pre.length) h := by
    intro rest
    induction rest with
    | nil =>
      intro pre e
      rw [List.append_nil] at e
      subst e
      rw [m_X0_rowsBy_7, B.1, n32_le (by omega) (by omega)]
      exact ⟨fun _ => k, fun z => absurd (Nat.le_refl _) z⟩
    | cons d rest ih =>
      intro pre e
      have B' := B
      rw [e] at B'
      obtain ⟨r, hd, h6⟩ := B'.mid
      have el : l.length = pre.length + (rest.length + 1) := by rw [e]; simp
      have hp : inD x pre := fun z hz => B.2.2.2 z (by rw [e]; simp [hz])
      have hb := bChs_le K hp
      have r36 := rows_le K hd
      rw [m_X0_rowsBy_7, B.1, n32_le (by omega) (by omega)]
      refine ⟨fun z => absurd z (by omega), fun _ => ?_⟩
      unfold m_X0_codeFor
      rw [n32_own hc (by omega)]
      have inner : ∀ (rs ps : List Rec), cRows (dL (aD x) d) = ps ++ rs → m_X0_rowsBy_26 (rs.length + 1) (m_X0_rowsBy_67 (fun (v0 : Nat) (v1 : Int32) (v2 : Int32) (v3 : Int32) (v4 : Int32) hh => m_X0_rowsBy_7 (rest.length + 1) Q v0 v1 v2 v3 v4 hh) Q) Q a (n32 c) (n32 ((bRows (aD x) pre c 0).length + (ps.filter (psB (own c (bChs (aD x) pre)))).length)) (n32 (bChs (aD x) pre)) (n32 pre.length) (n32 (own c (bChs (aD x) pre))) (n32 ps.length) h := by
        intro rs
        induction rs with
        | nil =>
          intro ps e2
          rw [List.append_nil] at e2
          rw [m_X0_rowsBy_26, n32_ix (by omega)]
          refine ⟨vpI h6 (by decide), da d, r, ?_⟩
          rw [(V.2.2 d hd).1.r, e2, n32_le (by rw [← e2]; omega) (by rw [← e2]; omega)]
          refine ⟨fun _ => ?_, fun z => absurd (Nat.le_refl _) z⟩
          unfold m_X0_rowsBy_67
          rw [n32_ix (by omega)]
          refine ⟨vpI h6 (by decide), da d, r, fun x2 e3 x3 e4 => ?_⟩
          rw [e3, e4, (V.2.2 d hd).1.c, n32_add, show n32 pre.length + 1 = n32 (pre.length + 1) from n32_add _ 1]
          have := ih (pre ++ [d]) (by rw [e]; simp)
          rw [bRows_app, bR_one, dl_c, bChs_app, List.length_append, List.length_append, List.length_map, Nat.zero_add, e2] at this
          have e1 : bChs (aD x) [d] = dC (aD x) d := by simp [bChs]
          rw [e1] at this
          exact this
        | cons q rs ih2 =>
          intro ps e2
          obtain ⟨R, O, h36⟩ := V.row K hd e2
          have len : (cRows (dL (aD x) d)).length = ps.length + (rs.length + 1) := by rw [e2]; simp
          rw [m_X0_rowsBy_26, n32_ix (by omega)]
          refine ⟨vpI h6 (by decide), da d, r, ?_⟩
          rw [(V.2.2 d hd).1.r, n32_le (by omega) (by omega)]
          refine ⟨fun z => absurd z (by omega), fun _ => ⟨vpI h6 (by decide), da d, r, ?_⟩⟩
          have nx := ih2 (ps ++ [q]) (by rw [e2]; simp)
          rw [List.filter_append, List.length_append, List.length_append] at nx
          refine c_passing R O h36 (own_lt hc) (fun p => ⟨fun z => absurd z (by decide), fun _ x9 e9 => ?_⟩) (fun p => ⟨fun _ => ?_, fun z => absurd rfl z⟩)
          · unfold m_X0_rowsBy_61
            intro x4 e4
            have ef : (List.filter (psB (own c (bChs (aD x) pre))) [q]).length = 1 := by rw [List.filter_cons, if_pos p]; rfl
            rw [ef] at nx
            rw [e4, e9, show n32 ps.length + 1 = n32 (ps.length + 1) from n32_add _ 1, show ∀ z, n32 z + 1 = n32 (z + 1) from fun z => n32_add z 1]
            exact nx
          · unfold m_X0_rowsBy_61
            intro x4 e4
            have ef : (List.filter (psB (own c (bChs (aD x) pre))) [q]).length = 0 := by rw [List.filter_cons, if_neg (by rw [p]; simp)]; rfl
            rw [ef] at nx
            rw [e4, show n32 ps.length + 1 = n32 (ps.length + 1) from n32_add _ 1]
            exact nx
      exact ⟨_, inner _ [] rfl⟩
  exact ⟨_, main l [] rfl⟩
