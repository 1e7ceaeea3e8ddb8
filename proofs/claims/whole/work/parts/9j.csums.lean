/-! THE CLASS: passed, net, bears, cost -/
theorem un_f (q : Rec) : un q 0 = q 0 ∧ un q 1 = q 1 ∧ un q 2 = q 2 ∧ un q 3 = q 3 ∧ un q 4 = q 6 := mkRow_f _ _ _ _ _
set_option maxHeartbeats 4000000 in
set_option maxRecDepth 100000 in
theorem c_toldOfRow {x : Ab} {da : Nat → Nat} {a c wk w : Nat} {l : List Nat} {h : Hp} {Q : Int64 → Hp → Prop} (V : CVw x da h) (K : OkA x) (B : CBd x da a l h) (hc : c < 2147483648) (hw : w < 5) (hwk : wk < 2147483648)
    (k1 : wk < (bRows (aD x) l c 0).length → Q (z64 (((bRows (aD x) l c 0).getD wk rec0) w : Nat)) h) (k0 : ¬ wk < (bRows (aD x) l c 0).length → Q (-1) h) : m_X0_toldOfRow a (n32 c) (n32 wk) (n32 w) h Q := by
  have hl := B.2.1
  have blen := (bRows_ok K (l := l) (c := c) (bf := 0) B.2.2.2).2
  have main : ∀ (rest pre : List Nat), l = pre ++ rest → (bRows (aD x) pre c 0).length ≤ wk → m_X0_toldOfRow_9 (rest.length + 1) (m_X0_toldOfRow_67 Q) Q a (n32 c) (n32 wk) (n32 w) (n32 (bRows (aD x) pre c 0).length) (n32 (bChs (aD x) pre)) (n32 pre.length) h := by
    intro rest
    induction rest with
    | nil =>
      intro pre e hle
      rw [List.append_nil] at e
      subst e
      rw [m_X0_toldOfRow_9, B.1, n32_le (by omega) (by omega)]
      exact ⟨fun _ => k0 (by omega), fun z => absurd (Nat.le_refl _) z⟩
    | cons d rest ih =>
      intro pre e hle
      have B' := B
      rw [e] at B'
      obtain ⟨r, hd, h6⟩ := B'.mid
      have el : l.length = pre.length + (rest.length + 1) := by rw [e]; simp
      have hp : inD x pre := fun z hz => B.2.2.2 z (by rw [e]; simp [hz])
      have hb := bChs_le K hp
      have r36 := rows_le K hd
      have plen := (bRows_ok K (l := pre) (c := c) (bf := 0) hp).2
      rw [m_X0_toldOfRow_9, B.1, n32_le (by omega) (by omega)]
      refine ⟨fun z => absurd z (by omega), fun _ => ?_⟩
      unfold m_X0_codeFor
      rw [n32_own hc (by omega)]
      have eL : bRows (aD x) l c 0 = bRows (aD x) pre c 0 ++ (((cRows (dL (aD x) d)).filter (psB (own c (bChs (aD x) pre)))).map un ++ bRows (aD x) rest c (bChs (aD x) pre + dC (aD x) d)) := by
        rw [e, bRows_app, bRows, dl_c, Nat.zero_add]
      have inner : ∀ (rs ps : List Rec), cRows (dL (aD x) d) = ps ++ rs → (bRows (aD x) pre c 0).length + (ps.filter (psB (own c (bChs (aD x) pre)))).length ≤ wk → m_X0_toldOfRow_29 (rs.length + 1) (m_X0_toldOfRow_67 Q) (m_X0_toldOfRow_117 (fun (v0 : Nat) (v1 : Int32) (v2 : Int32) (v3 : Int32) (v4 : Int32) (v5 : Int32) (v6 : Int32) hh => m_X0_toldOfRow_9 (rest.length + 1) (m_X0_toldOfRow_67 Q) Q v0 v1 v2 v3 v4 v5 v6 hh) (m_X0_toldOfRow_67 Q) Q) Q a (n32 c) (n32 wk) (n32 w) (n32 ((bRows (aD x) pre c 0).length + (ps.filter (psB (own c (bChs (aD x) pre)))).length)) (n32 (bChs (aD x) pre)) (n32 pre.length) (n32 (own c (bChs (aD x) pre))) (n32 ps.length) h := by
        intro rs
        induction rs with
        | nil =>
          intro ps e2 hle2
          rw [List.append_nil] at e2
          rw [m_X0_toldOfRow_29, n32_ix (by omega)]
          refine ⟨vpI h6 (by decide), da d, r, ?_⟩
          rw [(V.2.2 d hd).1.r, e2, n32_le (by rw [← e2]; omega) (by rw [← e2]; omega)]
          refine ⟨fun _ => ?_, fun z => absurd (Nat.le_refl _) z⟩
          unfold m_X0_toldOfRow_117
          rw [n32_ix (by omega)]
          refine ⟨vpI h6 (by decide), da d, r, fun x2 e3 x3 e4 => ?_⟩
          rw [e3, e4, (V.2.2 d hd).1.c, n32_add, show n32 pre.length + 1 = n32 (pre.length + 1) from n32_add _ 1]
          have := ih (pre ++ [d]) (by rw [e]; simp)
          rw [bRows_app, bR_one, dl_c, bChs_app, List.length_append, List.length_append, List.length_map, Nat.zero_add, e2] at this
          have e1 : bChs (aD x) [d] = dC (aD x) d := by simp [bChs]
          rw [e1] at this
          exact this hle2
        | cons q rs ih2 =>
          intro ps e2 hle2
          obtain ⟨R, O, h36⟩ := V.row K hd e2
          have len : (cRows (dL (aD x) d)).length = ps.length + (rs.length + 1) := by rw [e2]; simp
          have fl := List.length_filter_le (psB (own c (bChs (aD x) pre))) ps
          rw [m_X0_toldOfRow_29, n32_ix (by omega)]
          refine ⟨vpI h6 (by decide), da d, r, ?_⟩
          rw [(V.2.2 d hd).1.r, n32_le (by omega) (by omega)]
          refine ⟨fun z => absurd z (by omega), fun _ => ⟨vpI h6 (by decide), da d, r, ?_⟩⟩
          have nx := ih2 (ps ++ [q]) (by rw [e2]; simp)
          rw [List.filter_append, List.length_append, List.length_append] at nx
          refine c_passing R O h36 (own_lt hc) (fun p => ⟨fun z => absurd z (by decide), fun _ => ?_⟩) (fun p => ⟨fun _ => ?_, fun z => absurd rfl z⟩)
          · have ef : (List.filter (psB (own c (bChs (aD x) pre))) [q]).length = 1 := by rw [List.filter_cons, if_pos p]; rfl
            rw [ef] at nx
            rw [n32_eq (by omega) hwk]
            refine ⟨fun z x11 e11 => ?_, fun z => ?_⟩
            · unfold m_X0_toldOfRow_111
              intro x4 e4
              rw [e4, e11, show n32 ps.length + 1 = n32 (ps.length + 1) from n32_add _ 1, show ∀ z, n32 z + 1 = n32 (z + 1) from fun z => n32_add z 1]
              exact nx (by omega)
            · have eq : bRows (aD x) l c 0 = (bRows (aD x) pre c 0 ++ (ps.filter (psB (own c (bChs (aD x) pre)))).map un) ++ un q :: ((rs.filter (psB (own c (bChs (aD x) pre)))).map un ++ bRows (aD x) rest c (bChs (aD x) pre + dC (aD x) d)) := by
                rw [eL, e2, List.filter_append, List.filter_cons, if_pos p]; simp
              have lp : (bRows (aD x) pre c 0 ++ (ps.filter (psB (own c (bChs (aD x) pre)))).map un).length = wk := by
                rw [List.length_append, List.length_map]; exact z
              have kk := k1 (by rw [eq, List.length_append, lp]; simp)
              rw [eq, ← lp, getD_mid] at kk
              obtain ⟨u0, u1, u2, u3, u4⟩ := un_f q
              obtain ⟨w0, w1, w2, w3, w4, w5, w6⟩ := R
              unfold m_X0_toldOfRow_67
              rw [show (4 : Int32) = n32 4 from rfl, n32_eq (by omega) (by decide), n32_ix (by omega), n32_ix (by omega), show (6 : Int32) = n32 6 from rfl, n32_mul, n32_add, n32_ix (by omega), Nat.mul_comm ps.length 6]
              refine ⟨fun y => ⟨vpI h6 (by decide), da d, r, vpI (by omega) (by decide), ?_⟩, fun y => ⟨vpI h6 (by decide), da d, r, vpI h36 (by decide), ?_⟩⟩
              · rcases (show w = 0 ∨ w = 1 ∨ w = 2 ∨ w = 3 by omega) with rfl | rfl | rfl | rfl
                · rw [u0] at kk; show Q (hI h (da d + 2) (6 * ps.length)).toInt64 h; rw [w0, n32_long (by have := O.1; omega)]; exact kk
                · rw [u1] at kk; rw [w1, n32_long (by have := O.2.1; omega)]; exact kk
                · rw [u2] at kk; rw [w2, n32_long (by have := O.2.2.1; omega)]; exact kk
                · rw [u3] at kk; rw [w3, n32_long (by have := O.2.2.2.1; omega)]; exact kk
              · subst y; rw [u4] at kk; rw [w6]; exact kk
          · unfold m_X0_toldOfRow_111
            intro x4 e4
            have ef : (List.filter (psB (own c (bChs (aD x) pre))) [q]).length = 0 := by rw [List.filter_cons, if_neg (by rw [p]; simp)]; rfl
            rw [ef] at nx
            rw [e4, show n32 ps.length + 1 = n32 (ps.length + 1) from n32_add _ 1]
            exact nx (by omega)
      exact ⟨_, inner _ [] rfl (by simpa using hle)⟩
  exact ⟨_, main l [] rfl (Nat.zero_le _)⟩
theorem C_passed {x : Ab} {da : Nat → Nat} {v1 v2 v3 : Int32} {h : Hp} {Q : Int64 → Hp → Prop} (I : InvC x da h) (K : OkA x) (k : Q (ansPassed x v1 v2 v3) h) : m_X11_passed v1 v2 v3 h Q := by
  unfold m_X11_passed
  unfold ansPassed bR at k
  have V := I.vw
  have B := I.2.2.2.2.2.2.1.bd
  have blen : ∀ c, (bRows (aD x) (aB x) c 0).length ≤ 36 * (aB x).length := fun c => (bRows_ok K (l := aB x) (c := c) (bf := 0) B.2.2.2).2
  have hl := B.2.1
  have nc := nCod_le K B.2.2.2 B.2.1
  refine c_hasCode V K B (fun e => ?_) (fun c hc e1 e2 => ?_)
  · rw [e] at k; exact ⟨fun z => absurd rfl z, fun _ => k⟩
  · rw [e2] at k
    subst e1
    dsimp only at k
    refine ⟨fun _ => ⟨fun z => ?_, fun z => ?_⟩, fun z => absurd z (by decide)⟩
    · rw [if_neg z] at k
      refine ⟨fun y => ?_, fun y => ?_⟩
      · rw [argN_neg y] at k; exact k
      · obtain ⟨wk, hwk, rfl⟩ := n32_of (Int32.not_lt.mp y)
        rw [show (5 : Int32) = n32 5 from rfl]
        refine c_within (by omega) (fun e => ?_) (fun w hw hw2 e3 e4 => ?_)
        · rw [e] at k
          refine ⟨fun y => absurd rfl y, fun _ => ?_⟩
          cases hq : argN (n32 wk) (bRows (aD x) (aB x) c 0).length with
          | none => rw [hq] at k; exact k
          | some _ => rw [hq] at k; exact k
        · rw [e4] at k
          subst e3
          refine ⟨fun _ => c_toldOfRow V K B (by omega) hw hwk (fun q => ?_) (fun q => ?_), fun y => absurd y (by decide)⟩
          · rw [argN_n q hwk] at k; exact k
          · rw [argN_no (by omega) hwk] at k; exact k
    · rw [if_pos z] at k
      refine ⟨fun y => by rw [if_neg y] at k; exact k, fun y => ?_⟩
      rw [if_pos y] at k
      refine c_rowsBy V K B (by omega) ?_
      have := blen c
      rw [n32_long (by omega)]
      exact k
theorem c_share {x : Ab} {da : Nat → Nat} {a k f : Nat} {q : Rec} {h : Hp} {Q : Int64 → Hp → Prop} (V : CVw x da h) (R : RwA h a k q) (O : CrOk q) (hk : k < 36) (hf : f < 2147483648) (kk : Q (z64 (shr (aF x) f (un q))) h) : m_X5_shareOf a (n32 k) (n32 f) h Q := by
  obtain ⟨w0, w1, w2, w3, w4, w5, w6⟩ := R
  obtain ⟨u0, u1, u2, u3, u4⟩ := un_f q
  have f1 := V.1 (q 1) O.2.1
  have f2 := V.1 (q 2) O.2.2.1
  have o1 := O.2.1; have o2 := O.2.2.1
  unfold shr at kk
  rw [u1, u2, u4] at kk
  have last : ∀ s : Int, Q (z64 (s - (if aF x (q 1) = f then (q 6 : Int) else 0))) h → m_X5_shareOf_34 Q a (n32 k) (n32 f) (z64 s) h := by
    intro s hs
    unfold m_X5_shareOf_34
    rw [show (6 : Int32) = n32 6 from rfl, n32_mul, show (1 : Int32) = n32 1 from rfl, n32_add, n32_ix (by omega), Nat.mul_comm k 6, w1, n32_ix (by omega), f1.1, n32_eq (by omega) hf, n32_ix (by omega), w6]
    refine ⟨vpI (by omega) (by decide), vpI o1 (by decide), fun z => ?_, fun z => ⟨vpI hk (by decide), fun x1 e1 => ?_⟩⟩
    · rw [if_neg z, Int.sub_zero] at hs; exact hs
    · rw [if_pos z] at hs; rw [e1, z64_sub]; exact hs
  unfold m_X5_shareOf
  rw [show (6 : Int32) = n32 6 from rfl, n32_mul, show (2 : Int32) = n32 2 from rfl, n32_add, n32_ix (by omega), Nat.mul_comm k 6, w2, n32_ix (by omega), f2.1, n32_eq (by omega) hf, n32_ix (by omega), w6]
  refine ⟨vpI (by omega) (by decide), vpI o2 (by decide), fun z => ?_, fun z => ⟨vpI hk (by decide), fun x1 e1 => ?_⟩⟩
  · rw [if_neg z] at kk; exact last 0 kk
  · rw [if_pos z] at kk
    rw [e1, show (0 : Int64) = z64 0 from rfl, z64_add, Int.zero_add]
    exact last _ kk
theorem netG_app (F : Nat → Nat) (l m : List Rec) (f t dd : Nat) : netG F (l ++ m) f t dd = netG F l f t dd + netG F m f t dd := by unfold netG; rw [List.map_append, List.sum_append]
set_option maxHeartbeats 4000000 in
set_option maxRecDepth 100000 in
theorem c_sumOf {x : Ab} {da : Nat → Nat} {a c f t dd : Nat} {l : List Nat} {h : Hp} {Q : Int64 → Hp → Prop} (V : CVw x da h) (K : OkA x) (B : CBd x da a l h) (hc : c < 2147483648) (hf : f < 2147483648) (ht : t < 2147483648) (hdd : dd ≤ 2147483648) (k : Q (z64 (netG (aF x) (bRows (aD x) l c 0) f t dd)) h) : m_X5_sumOf a (n32 c) (n32 f) (n32 t) (pm dd) h Q := by
  have hl := B.2.1
  have main : ∀ (rest pre : List Nat), l = pre ++ rest → m_X5_sumOf_9 (rest.length + 1) Q a (n32 c) (n32 f) (n32 t) (pm dd) (z64 (netG (aF x) (bRows (aD x) pre c 0) f t dd)) (n32 (bChs (aD x) pre)) (n32 pre.length) h := by
    intro rest
    induction rest with
    | nil =>
      intro pre e
      rw [List.append_nil] at e
      subst e
      rw [m_X5_sumOf_9, B.1, n32_le (by omega) (by omega)]
      exact ⟨fun _ => k, fun z => absurd (Nat.le_refl _) z⟩
    | cons d rest ih =>
      intro pre e
      have B' := B
      rw [e] at B'
      obtain ⟨r, hd, h6⟩ := B'.mid
      have el : l.length = pre.length + (rest.length + 1) := by rw [e]; simp
      have hp : inD x pre := fun z hz => B.2.2.2 z (by rw [e]; simp [hz])
      have hb := bChs_le K hp
      have r36 := rows_le K hd
      rw [m_X5_sumOf_9, B.1, n32_le (by omega) (by omega), n32_ix (by omega)]
      refine ⟨fun z => absurd z (by omega), fun _ => ⟨vpI h6 (by decide), da d, r, ?_⟩⟩
      unfold m_X0_codeFor
      rw [n32_own hc (by omega)]
      have inner : ∀ (rs ps : List Rec), cRows (dL (aD x) d) = ps ++ rs → m_X5_sumOf_38 (rs.length + 1) (m_X5_sumOf_128 (fun (v1 : Nat) (v2 : Int32) (v3 : Int32) (v4 : Int32) (v5 : Int32) (v6 : Int64) (v8 : Int32) (v9 : Int32) hh => m_X5_sumOf_9 (rest.length + 1) Q v1 v2 v3 v4 v5 v6 v8 v9 hh) Q) Q a (n32 c) (n32 f) (n32 t) (pm dd) (z64 (netG (aF x) (bRows (aD x) pre c 0) f t dd + netG (aF x) ((ps.filter (psB (own c (bChs (aD x) pre)))).map un) f t dd)) (n32 (bChs (aD x) pre)) (n32 pre.length) (da d) (n32 (own c (bChs (aD x) pre))) (n32 ps.length) h := by
        intro rs
        induction rs with
        | nil =>
          intro ps e2
          rw [List.append_nil] at e2
          rw [m_X5_sumOf_38, (V.2.2 d hd).1.r, e2, n32_le (by rw [← e2]; omega) (by rw [← e2]; omega)]
          refine ⟨fun _ => ?_, fun z => absurd (Nat.le_refl _) z⟩
          unfold m_X5_sumOf_128
          intro x2 e3 x3 e4
          rw [e3, e4, (V.2.2 d hd).1.c, n32_add, show n32 pre.length + 1 = n32 (pre.length + 1) from n32_add _ 1]
          have := ih (pre ++ [d]) (by rw [e]; simp)
          rw [bRows_app, bR_one, dl_c, bChs_app, List.length_append, netG_app, Nat.zero_add, e2] at this
          have e1 : bChs (aD x) [d] = dC (aD x) d := by simp [bChs]
          rw [e1] at this
          exact this
        | cons q rs ih2 =>
          intro ps e2
          obtain ⟨R, O, h36⟩ := V.row K hd e2
          have len : (cRows (dL (aD x) d)).length = ps.length + (rs.length + 1) := by rw [e2]; simp
          obtain ⟨u0, u1, u2, u3, u4⟩ := un_f q
          obtain ⟨w0, w1, w2, w3, w4, w5, w6⟩ := id R
          have o0 := O.1; have o3 := O.2.2.2.1
          have nx := ih2 (ps ++ [q]) (by rw [e2]; simp)
          rw [List.filter_append, List.map_append, netG_app, ← Int.add_assoc, List.length_append] at nx
          have skip : netG (aF x) ((List.filter (psB (own c (bChs (aD x) pre))) [q]).map un) f t dd = 0 → m_X5_sumOf_122 (fun (v1 : Nat) (v2 : Int32) (v3 : Int32) (v4 : Int32) (v5 : Int32) (v6 : Int64) (v8 : Int32) (v9 : Int32) (v10 : Nat) (v11 : Int32) (v12 : Int32) hh => m_X5_sumOf_38 (rs.length + 1) (m_X5_sumOf_128 (fun (v1 : Nat) (v2 : Int32) (v3 : Int32) (v4 : Int32) (v5 : Int32) (v6 : Int64) (v8 : Int32) (v9 : Int32) hh => m_X5_sumOf_9 (rest.length + 1) Q v1 v2 v3 v4 v5 v6 v8 v9 hh) Q) Q v1 v2 v3 v4 v5 v6 v8 v9 v10 v11 v12 hh) (m_X5_sumOf_128 (fun (v1 : Nat) (v2 : Int32) (v3 : Int32) (v4 : Int32) (v5 : Int32) (v6 : Int64) (v8 : Int32) (v9 : Int32) hh => m_X5_sumOf_9 (rest.length + 1) Q v1 v2 v3 v4 v5 v6 v8 v9 hh) Q) Q a (n32 c) (n32 f) (n32 t) (pm dd) (z64 (netG (aF x) (bRows (aD x) pre c 0) f t dd + netG (aF x) ((ps.filter (psB (own c (bChs (aD x) pre)))).map un) f t dd)) (n32 (bChs (aD x) pre)) (n32 pre.length) (da d) (n32 (own c (bChs (aD x) pre))) (n32 ps.length) h := by
            intro z
            unfold m_X5_sumOf_122
            intro x3 e3
            rw [e3, show n32 ps.length + 1 = n32 (ps.length + 1) from n32_add _ 1]
            rw [z, Int.add_zero] at nx
            exact nx
          have add : psB (own c (bChs (aD x) pre)) q = true → q 3 = t → (dd = 0 ∨ q 0 + 1 = dd) → m_X5_sumOf_108 (fun (v1 : Nat) (v2 : Int32) (v3 : Int32) (v4 : Int32) (v5 : Int32) (v6 : Int64) (v8 : Int32) (v9 : Int32) (v10 : Nat) (v11 : Int32) (v12 : Int32) hh => m_X5_sumOf_38 (rs.length + 1) (m_X5_sumOf_128 (fun (v1 : Nat) (v2 : Int32) (v3 : Int32) (v4 : Int32) (v5 : Int32) (v6 : Int64) (v8 : Int32) (v9 : Int32) hh => m_X5_sumOf_9 (rest.length + 1) Q v1 v2 v3 v4 v5 v6 v8 v9 hh) Q) Q v1 v2 v3 v4 v5 v6 v8 v9 v10 v11 v12 hh) (m_X5_sumOf_128 (fun (v1 : Nat) (v2 : Int32) (v3 : Int32) (v4 : Int32) (v5 : Int32) (v6 : Int64) (v8 : Int32) (v9 : Int32) hh => m_X5_sumOf_9 (rest.length + 1) Q v1 v2 v3 v4 v5 v6 v8 v9 hh) Q) Q a (n32 c) (n32 f) (n32 t) (pm dd) (z64 (netG (aF x) (bRows (aD x) pre c 0) f t dd + netG (aF x) ((ps.filter (psB (own c (bChs (aD x) pre)))).map un) f t dd)) (n32 (bChs (aD x) pre)) (n32 pre.length) (da d) (n32 (own c (bChs (aD x) pre))) (n32 ps.length) h := by
            intro p z3 zd
            unfold m_X5_sumOf_108
            refine c_share V R O h36 hf ?_
            intro x6 e6
            unfold m_X5_sumOf_122
            intro x3 e3
            have eg : netG (aF x) ((List.filter (psB (own c (bChs (aD x) pre))) [q]).map un) f t dd = shr (aF x) f (un q) := by
              rw [List.filter_cons, if_pos p]
              unfold netG
              simp only [List.filter_nil, List.map_cons, List.map_nil, List.sum_cons, List.sum_nil, Int.add_zero]
              rw [if_pos ⟨by rw [u3]; exact z3, by rw [u0]; exact zd⟩]
            rw [eg] at nx
            rw [e3, e6, z64_add, show n32 ps.length + 1 = n32 (ps.length + 1) from n32_add _ 1]
            exact nx
          have z0 : ¬ (q 3 = t ∧ (dd = 0 ∨ q 0 + 1 = dd)) → netG (aF x) ((List.filter (psB (own c (bChs (aD x) pre))) [q]).map un) f t dd = 0 := by
            intro z
            rw [List.filter_cons]
            split
            · unfold netG
              simp only [List.filter_nil, List.map_cons, List.map_nil, List.sum_cons, List.sum_nil, Int.add_zero]
              rw [if_neg (by rw [u3, u0]; exact z)]
            · rfl
          rw [m_X5_sumOf_38, (V.2.2 d hd).1.r, n32_le (by omega) (by omega), show (6 : Int32) = n32 6 from rfl, n32_mul, show (3 : Int32) = n32 3 from rfl, n32_add, n32_ix (by omega), Nat.mul_comm ps.length 6, w3, n32_eq (by omega) ht]
          refine ⟨fun z => absurd z (by omega), fun _ => ⟨vpI (by omega) (by decide), fun z => ?_, fun z => ?_⟩⟩
          · unfold m_X5_sumOf_82 m_X5_sumOf_83
            exact ⟨fun _ => skip (z0 (fun y => z y.1)), fun y => absurd rfl y⟩
          · refine c_passing R O h36 (own_lt hc) (fun p => ⟨fun y => absurd y (by decide), fun _ => ?_⟩) (fun p => ⟨fun _ => ?_, fun y => absurd rfl y⟩)
            · unfold m_X5_sumOf_83
              refine ⟨fun y => absurd y (by decide), fun _ => ⟨fun y => ?_, fun y => ?_⟩⟩
              · rw [show (-1 : Int32) = pm 0 from rfl, pm_inj hdd (by decide)] at y
                exact add p z (Or.inl y)
              · rw [show (-1 : Int32) = pm 0 from rfl, pm_inj hdd (by decide)] at y
                unfold m_X1_dayOf
                rw [show (6 : Int32) = n32 6 from rfl, n32_mul, show (0 : Int32) = n32 0 from rfl, n32_add, n32_ix (by omega), Nat.mul_comm ps.length 6, Nat.add_zero, w0]
                have en := n_eqpm (a := q 0) (b := dd) (by omega) hdd
                exact ⟨vpI (by omega) (by decide), fun v => skip (z0 (fun u => u.2.elim y (fun w => v (en.mpr w)))), fun v => add p z (Or.inr (en.mp v))⟩
            · unfold m_X5_sumOf_82 m_X5_sumOf_83
              refine ⟨fun _ => skip ?_, fun y => absurd rfl y⟩
              rw [List.filter_cons, if_neg (by rw [p]; simp)]; rfl
      have i0 := inner _ [] rfl
      have en : netG (aF x) ((List.filter (psB (own c (bChs (aD x) pre))) []).map un) f t dd = 0 := rfl
      rw [en, Int.add_zero] at i0
      exact ⟨_, i0⟩
  exact ⟨_, main l [] rfl⟩
theorem C_net {x : Ab} {da : Nat → Nat} {v1 v2 v3 v4 : Int32} {h : Hp} {Q : Int64 → Hp → Prop} (I : InvC x da h) (K : OkA x) (k : Q (ansNet x v1 v2 v3 v4) h) : m_X11_net v1 v2 v3 v4 h Q := by
  unfold m_X11_net
  unfold ansNet bR at k
  have V := I.vw
  have B := I.2.2.2.2.2.2.1.bd
  have nc := nCod_le K B.2.2.2 B.2.1
  refine c_hasCode V K B (fun e => ?_) (fun c hc e1 e2 => ?_)
  · rw [e] at k; exact ⟨fun _ => k, fun z => absurd rfl z⟩
  · rw [e2] at k
    subst e1
    refine ⟨fun z => absurd z (by decide), fun _ => ?_⟩
    rw [show (8 : Int32) = n32 8 from rfl]
    refine c_within (by omega) (fun e => ?_) (fun f hf hf2 e3 e4 => ?_)
    · rw [e] at k; exact ⟨fun _ => k, fun z => absurd rfl z⟩
    · rw [e4] at k
      subst e3
      refine ⟨fun z => absurd z (by decide), fun _ => ?_⟩
      rw [show (6 : Int32) = n32 6 from rfl]
      refine c_within (by omega) (fun e => ?_) (fun t ht ht2 e5 e6 => ?_)
      · rw [e] at k; exact ⟨fun z => absurd rfl z, fun _ => k⟩
      · rw [e6] at k
        subst e5
        refine ⟨fun _ => ?_, fun z => absurd z (by decide)⟩
        unfold m_X11_net_56
        rcases argP_cases v4 10000 (by decide) with ⟨e, y⟩ | ⟨dd, hdd, rfl, e⟩
        · rw [e] at k
          have y1 : ¬ v4 = -1 := by
            rintro rfl
            unfold argP at e
            rw [if_pos rfl] at e; cases e
          refine ⟨fun z => absurd z y1, fun _ => ⟨fun _ => k, fun z => ⟨fun z2 => ?_, fun _ => k⟩⟩⟩
          rcases y with y | ⟨q, g1, g2, rfl⟩
          · exfalso
            apply z
            have h0 := Int32.lt_iff_toInt_lt.mp y
            rw [Int32.lt_iff_toInt_lt]
            have e2 : (pm 0).toInt = -1 := rfl
            have e3 : (0 : Int32).toInt = 0 := rfl
            omega
          · rw [show (9999 : Int32) = n32 9999 from rfl, n32_le g2 (by decide)] at z2; omega
        · rw [e] at k
          dsimp only at k
          have go := c_sumOf (f := f) (t := t) (dd := dd) V K B (show c < 2147483648 by omega) hf2 ht2 (by omega) k
          refine ⟨fun _ => go, fun z => ⟨fun z2 => ?_, fun _ => ⟨fun _ => go, fun z2 => ?_⟩⟩⟩
          · rw [pm_lt0 (by omega)] at z2; subst z2; exact absurd rfl z
          · exfalso
            apply z2
            rw [show (9999 : Int32) = n32 9999 from rfl, pm_len (by omega) (by decide)]; omega
theorem C_bears {x : Ab} {da : Nat → Nat} {v1 v2 : Int32} {h : Hp} {Q : Int64 → Hp → Prop} (I : InvC x da h) (K : OkA x) (k : Q (ansBears x v1 v2) h) : m_X11_bears v1 v2 h Q := by
  unfold m_X11_bears
  unfold ansBears bR at k
  have V := I.vw
  have B := I.2.2.2.2.2.2.1.bd
  rw [show (8 : Int32) = n32 8 from rfl]
  refine c_within (by omega) (fun e => ?_) (fun f hf hf2 e3 e4 => ?_)
  · rw [e] at k; exact ⟨fun _ => k, fun z => absurd rfl z⟩
  · rw [e4] at k
    subst e3
    refine ⟨fun z => absurd z (by decide), fun _ => ?_⟩
    rw [show (5 : Int32) = n32 5 from rfl]
    refine c_within (by omega) (fun e => ?_) (fun t ht ht2 e5 e6 => ?_)
    · rw [e] at k; exact ⟨fun z => absurd rfl z, fun _ => k⟩
    · rw [e6] at k
      subst e5
      dsimp only at k
      refine ⟨fun _ => ?_, fun z => absurd z (by decide)⟩
      have pt := pw_le (show t ≤ 4 by omega)
      rw [show (1 : Int32) = n32 1 from rfl, show (31 : Int32) = n32 31 from rfl, shl1 (by omega), show (0 : Int32) = n32 0 from rfl, show (-n32 1 : Int32) = pm 0 from by decide]
      refine c_sumOf V K B (by omega) hf2 (by decide) (by decide) ?_
      refine c_sumOf V K B (by decide) hf2 (by decide) (by decide) ?_
      rw [netG0, netG0, z64_sub]
      exact k
