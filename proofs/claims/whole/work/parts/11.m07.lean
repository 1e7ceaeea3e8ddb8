theorem dX12_hand_0 : decode cX12_hand 0 = .ok (.aload_n 0, 1) := rfl
theorem dX12_hand_1 : decode cX12_hand 1 = .ok (.getfield 220, 3) := rfl
theorem dX12_hand_4 : decode cX12_hand 4 = .ok (.ifCond .eq 5, 3) := by decide +kernel
theorem dX12_hand_7 : decode cX12_hand 7 = .ok (.iconst 0, 1) := rfl
theorem dX12_hand_8 : decode cX12_hand 8 = .ok (.ireturn, 1) := rfl
theorem dX12_hand_9 : decode cX12_hand 9 = .ok (.aload_n 0, 1) := rfl
theorem dX12_hand_10 : decode cX12_hand 10 = .ok (.getfield 214, 3) := rfl
theorem dX12_hand_13 : decode cX12_hand 13 = .ok (.iconst 1, 1) := rfl
theorem dX12_hand_14 : decode cX12_hand 14 = .ok (.if_icmp .ne 33, 3) := by decide +kernel
theorem dX12_hand_17 : decode cX12_hand 17 = .ok (.aload_n 0, 1) := rfl
theorem dX12_hand_18 : decode cX12_hand 18 = .ok (.getfield 207, 3) := rfl
theorem dX12_hand_21 : decode cX12_hand 21 = .ok (.lconst 1, 1) := rfl
theorem dX12_hand_22 : decode cX12_hand 22 = .ok (.lcmp, 1) := rfl
theorem dX12_hand_23 : decode cX12_hand 23 = .ok (.ifCond .lt 24, 3) := by decide +kernel
theorem dX12_hand_26 : decode cX12_hand 26 = .ok (.aload_n 0, 1) := rfl
theorem dX12_hand_27 : decode cX12_hand 27 = .ok (.getfield 207, 3) := rfl
theorem dX12_hand_30 : decode cX12_hand 30 = .ok (.ldc2_w 272, 3) := rfl
theorem dX12_hand_33 : decode cX12_hand 33 = .ok (.lcmp, 1) := rfl
theorem dX12_hand_34 : decode cX12_hand 34 = .ok (.ifCond .gt 13, 3) := by decide +kernel
theorem dX12_hand_37 : decode cX12_hand 37 = .ok (.aload_n 0, 1) := rfl
theorem dX12_hand_38 : decode cX12_hand 38 = .ok (.getfield 207, 3) := rfl
theorem dX12_hand_41 : decode cX12_hand 41 = .ok (.l2i, 1) := rfl
theorem dX12_hand_42 : decode cX12_hand 42 = .ok (.iconst 1, 1) := rfl
theorem dX12_hand_43 : decode cX12_hand 43 = .ok (.isub, 1) := rfl
theorem dX12_hand_44 : decode cX12_hand 44 = .ok (.goto 4, 3) := by decide +kernel
theorem dX12_hand_47 : decode cX12_hand 47 = .ok (.iconst (-1), 1) := rfl
theorem dX12_hand_48 : decode cX12_hand 48 = .ok (.istore_n 2, 1) := rfl
theorem dX12_hand_49 : decode cX12_hand 49 = .ok (.iload_n 2, 1) := rfl
theorem dX12_hand_50 : decode cX12_hand 50 = .ok (.ifCond .lt 8, 3) := by decide +kernel
theorem dX12_hand_53 : decode cX12_hand 53 = .ok (.iload_n 2, 1) := rfl
theorem dX12_hand_54 : decode cX12_hand 54 = .ok (.iload_n 1, 1) := rfl
theorem dX12_hand_55 : decode cX12_hand 55 = .ok (.if_icmp .ne 9, 3) := by decide +kernel
theorem dX12_hand_58 : decode cX12_hand 58 = .ok (.aload_n 0, 1) := rfl
theorem dX12_hand_59 : decode cX12_hand 59 = .ok (.invokevirtual 231, 3) := rfl
theorem dX12_hand_62 : decode cX12_hand 62 = .ok (.iconst 0, 1) := rfl
theorem dX12_hand_63 : decode cX12_hand 63 = .ok (.ireturn, 1) := rfl
theorem dX12_hand_64 : decode cX12_hand 64 = .ok (.aload_n 0, 1) := rfl
theorem dX12_hand_65 : decode cX12_hand 65 = .ok (.invokevirtual 228, 3) := rfl
theorem dX12_hand_68 : decode cX12_hand 68 = .ok (.iload_n 2, 1) := rfl
theorem dX12_hand_69 : decode cX12_hand 69 = .ok (.ireturn, 1) := rfl
def m_X12_hand_58  (Q : Int32 → Hp → Prop) (h : Hp) : Prop := m_X12_errs h (fun (h2 : Hp) => Q 0 h2)
set_option maxHeartbeats 4000000 in
set_option maxRecDepth 100000 in
theorem s_X12_hand_58 {l : Launch} {G : Cx} {d : Nat} {h0 : Hp} (hd : 6 ≤ d) {Q : Int32 → Hp → Prop} {h : Hp} (hm : m_X12_hand_58 Q h) : Rn l G d 0 0 MX12_hand h0 (qI Q) 58 [some (tR 12 0 (some 51))] [] h 0 0 := by
  unfold m_X12_hand_58 at hm
  refine r_aload_n dX12_hand_58 rfl rfl ?_
  refine r_callVU (d' := d - 1) (as := []) (st := []) cl_12 dX12_hand_59 mi_X12_errs t_1595 t_1597 ts_61 rfl rfl (Nat.le_of_ble_eq_true rfl) (by omega) ⟨by decide, by decide⟩ ⟨rfl, rfl⟩ (s_X12_errs (by omega) hm) (fun h2 hm => ?_)
  refine r_iconst (v := 0) dX12_hand_62 rfl ?_
  exact r_ireturn dX12_hand_63 rfl ⟨by decide, by decide⟩ ⟨_, rfl, hm⟩
def m_X12_hand_48  (Q : Int32 → Hp → Prop) (v1 : Int32) (s0 : Int32) (h : Hp) : Prop := (s0 < 0 → m_X12_hand_58 Q h) ∧ (¬ s0 < 0 → (¬ s0 = v1 → m_X12_next h (fun (h4 : Hp) => Q s0 h4)) ∧ (s0 = v1 → m_X12_hand_58 Q h))
set_option maxHeartbeats 4000000 in
set_option maxRecDepth 100000 in
theorem s_X12_hand_48 {l : Launch} {G : Cx} {d : Nat} {h0 : Hp} (hd : 6 ≤ d) {Q : Int32 → Hp → Prop} {v1 : Int32} {s0 : Int32} {h : Hp} (hm : m_X12_hand_48 Q v1 s0 h) : Rn l G d 0 0 MX12_hand h0 (qI Q) 48 [some (tR 12 0 (some 51)), some (tI v1)] [tI s0] h 0 0 := by
  unfold m_X12_hand_48 at hm
  refine r_istore_n (L' := [some (tR 12 0 (some 51)), some (tI v1), some (tI s0)]) dX12_hand_48 rfl (by decide) rfl ?_
  refine r_iload_n dX12_hand_49 rfl rfl ?_
  refine r_if_lt (tgt := 58) dX12_hand_50 rfl (fun hc => ?_) (fun hc => ?_)
  · replace hm := hm.1 hc
    refine r_keep (L' := [some (tR 12 0 (some 51))]) [true] rfl ?_
    exact s_X12_hand_58 hd hm
  · replace hm := hm.2 hc
    refine r_iload_n dX12_hand_53 rfl rfl ?_
    refine r_iload_n dX12_hand_54 rfl rfl ?_
    refine r_icmp_ne (tgt := 64) dX12_hand_55 rfl (fun hc => ?_) (fun hc => ?_)
    · replace hm := hm.1 hc
      refine r_aload_n dX12_hand_64 rfl rfl ?_
      refine r_callVU (d' := d - 1) (as := []) (st := []) cl_12 dX12_hand_65 mi_X12_next t_1572 t_1574 ts_58 rfl rfl (Nat.le_of_ble_eq_true rfl) (by omega) ⟨by decide, by decide⟩ ⟨rfl, rfl⟩ (s_X12_next (by omega) hm) (fun h4 hm => ?_)
      refine r_iload_n dX12_hand_68 rfl rfl ?_
      exact r_ireturn dX12_hand_69 rfl ⟨by decide, by decide⟩ ⟨_, rfl, hm⟩
    · replace hm := hm.2 hc
      refine r_keep (L' := [some (tR 12 0 (some 51))]) [true] rfl ?_
      exact s_X12_hand_58 hd hm
def m_X12_hand_47  (Q : Int32 → Hp → Prop) (v1 : Int32) (h : Hp) : Prop := m_X12_hand_48 Q v1 (-1) h
set_option maxHeartbeats 4000000 in
set_option maxRecDepth 100000 in
theorem s_X12_hand_47 {l : Launch} {G : Cx} {d : Nat} {h0 : Hp} (hd : 6 ≤ d) {Q : Int32 → Hp → Prop} {v1 : Int32} {h : Hp} (hm : m_X12_hand_47 Q v1 h) : Rn l G d 0 0 MX12_hand h0 (qI Q) 47 [some (tR 12 0 (some 51)), some (tI v1)] [] h 0 0 := by
  unfold m_X12_hand_47 at hm
  refine r_iconst (v := (-1)) dX12_hand_47 rfl ?_
  refine r_keep (L' := [some (tR 12 0 (some 51)), some (tI v1)]) [true, true] rfl ?_
  exact s_X12_hand_48 hd hm
def m_X12_hand (v1 : Int32) (h : Hp) (Q : Int32 → Hp → Prop) : Prop := ((hI h 51 29) = 0 → (¬ (hI h 51 26) = 1 → m_X12_hand_47 Q v1 h) ∧ ((hI h 51 26) = 1 → ((lg_cmp (hJ h 51 28) 1) < 0 → m_X12_hand_47 Q v1 h) ∧ (¬ (lg_cmp (hJ h 51 28) 1) < 0 → (0 < (lg_cmp (hJ h 51 28) 8) → m_X12_hand_47 Q v1 h) ∧ (¬ 0 < (lg_cmp (hJ h 51 28) 8) → m_X12_hand_48 Q v1 (((hJ h 51 28).toInt32) - 1) h)))) ∧ (¬ (hI h 51 29) = 0 → Q 0 h)
set_option maxHeartbeats 4000000 in
set_option maxRecDepth 100000 in
theorem s_X12_hand {l : Launch} {G : Cx} {d : Nat} (hd : 6 ≤ d) {v1 : Int32} {h : Hp} {Q : Int32 → Hp → Prop} (hm : m_X12_hand v1 h Q) : Ct l G d 0 0 yX12_hand MX12_hand [tR 12 0 (some 51), tI v1] h (qI Q) := by
  unfold m_X12_hand at hm
  refine Ct.of (L := [some (tR 12 0 (some 51)), some (tI v1)]) (by decide) rfl rfl (Nat.le_of_ble_eq_true rfl) rfl ?_
  refine r_aload_n dX12_hand_0 rfl rfl ?_
  refine r_getI (k := 29) cl_12 dX12_hand_1 t_1301 (Or.inl rfl) gf_12_29 ?_
  refine r_if_eq (tgt := 9) dX12_hand_4 rfl (fun hc => ?_) (fun hc => ?_)
  · replace hm := hm.1 hc
    refine r_aload_n dX12_hand_9 rfl rfl ?_
    refine r_getI (k := 26) cl_12 dX12_hand_10 t_1298 (Or.inl rfl) gf_12_26 ?_
    refine r_iconst (v := 1) dX12_hand_13 rfl ?_
    refine r_icmp_ne (tgt := 47) dX12_hand_14 rfl (fun hc => ?_) (fun hc => ?_)
    · replace hm := hm.1 hc
      refine r_keep (L' := [some (tR 12 0 (some 51)), some (tI v1)]) [true, true] rfl ?_
      exact s_X12_hand_47 hd hm
    · replace hm := hm.2 hc
      refine r_aload_n dX12_hand_17 rfl rfl ?_
      refine r_getJ (k := 28) cl_12 dX12_hand_18 t_1300 (Or.inl rfl) gf_12_28 ?_
      refine r_lconst (v := 1) dX12_hand_21 rfl ?_
      refine r_lcmp dX12_hand_22 ?_
      refine r_if_lt (tgt := 47) dX12_hand_23 rfl (fun hc => ?_) (fun hc => ?_)
      · replace hm := hm.1 hc
        refine r_keep (L' := [some (tR 12 0 (some 51)), some (tI v1)]) [true, true] rfl ?_
        exact s_X12_hand_47 hd hm
      · replace hm := hm.2 hc
        refine r_aload_n dX12_hand_26 rfl rfl ?_
        refine r_getJ (k := 28) cl_12 dX12_hand_27 t_1300 (Or.inl rfl) gf_12_28 ?_
        refine r_ldc2_w dX12_hand_30 t_1611 ?_
        refine r_lcmp dX12_hand_33 ?_
        refine r_if_gt (tgt := 47) dX12_hand_34 rfl (fun hc => ?_) (fun hc => ?_)
        · replace hm := hm.1 hc
          refine r_keep (L' := [some (tR 12 0 (some 51)), some (tI v1)]) [true, true] rfl ?_
          exact s_X12_hand_47 hd hm
        · replace hm := hm.2 hc
          refine r_aload_n dX12_hand_37 rfl rfl ?_
          refine r_getJ (k := 28) cl_12 dX12_hand_38 t_1300 (Or.inl rfl) gf_12_28 ?_
          refine r_l2i dX12_hand_41 ?_
          refine r_iconst (v := 1) dX12_hand_42 rfl ?_
          refine r_isub dX12_hand_43 ?_
          refine r_goto (tgt := 48) dX12_hand_44 rfl ?_
          refine r_keep (L' := [some (tR 12 0 (some 51)), some (tI v1)]) [true, true] rfl ?_
          exact s_X12_hand_48 hd hm
  · replace hm := hm.2 hc
    refine r_iconst (v := 0) dX12_hand_7 rfl ?_
    exact r_ireturn dX12_hand_8 rfl ⟨by decide, by decide⟩ ⟨_, rfl, hm⟩
theorem dX12_thingOf_0 : decode cX12_thingOf 0 = .ok (.aload_n 0, 1) := rfl
theorem dX12_thingOf_1 : decode cX12_thingOf 1 = .ok (.getfield 220, 3) := rfl
theorem dX12_thingOf_4 : decode cX12_thingOf 4 = .ok (.ifCond .eq 5, 3) := by decide +kernel
theorem dX12_thingOf_7 : decode cX12_thingOf 7 = .ok (.iconst 0, 1) := rfl
theorem dX12_thingOf_8 : decode cX12_thingOf 8 = .ok (.ireturn, 1) := rfl
theorem dX12_thingOf_9 : decode cX12_thingOf 9 = .ok (.aload_n 0, 1) := rfl
theorem dX12_thingOf_10 : decode cX12_thingOf 10 = .ok (.invokevirtual 274, 3) := rfl
theorem dX12_thingOf_13 : decode cX12_thingOf 13 = .ok (.istore_n 1, 1) := rfl
theorem dX12_thingOf_14 : decode cX12_thingOf 14 = .ok (.iload_n 1, 1) := rfl
theorem dX12_thingOf_15 : decode cX12_thingOf 15 = .ok (.ifCond .ge 10, 3) := by decide +kernel
theorem dX12_thingOf_18 : decode cX12_thingOf 18 = .ok (.aload_n 0, 1) := rfl
theorem dX12_thingOf_19 : decode cX12_thingOf 19 = .ok (.invokevirtual 231, 3) := rfl
theorem dX12_thingOf_22 : decode cX12_thingOf 22 = .ok (.goto 7, 3) := by decide +kernel
theorem dX12_thingOf_25 : decode cX12_thingOf 25 = .ok (.aload_n 0, 1) := rfl
theorem dX12_thingOf_26 : decode cX12_thingOf 26 = .ok (.invokevirtual 228, 3) := rfl
theorem dX12_thingOf_29 : decode cX12_thingOf 29 = .ok (.iload_n 1, 1) := rfl
theorem dX12_thingOf_30 : decode cX12_thingOf 30 = .ok (.ireturn, 1) := rfl
def m_X12_thingOf  (h : Hp) (Q : Int32 → Hp → Prop) : Prop := ((hI h 51 29) = 0 → m_X12_thingHere h (fun (x1 : Int32) (h2 : Hp) => (0 ≤ x1 → m_X12_next h2 (fun (h4 : Hp) => Q x1 h4)) ∧ (¬ 0 ≤ x1 → m_X12_errs h2 (fun (h6 : Hp) => Q x1 h6)))) ∧ (¬ (hI h 51 29) = 0 → Q 0 h)
set_option maxHeartbeats 4000000 in
set_option maxRecDepth 100000 in
theorem s_X12_thingOf {l : Launch} {G : Cx} {d : Nat} (hd : 6 ≤ d) {h : Hp} {Q : Int32 → Hp → Prop} (hm : m_X12_thingOf h Q) : Ct l G d 0 0 yX12_thingOf MX12_thingOf [tR 12 0 (some 51)] h (qI Q) := by
  unfold m_X12_thingOf at hm
  refine Ct.of (L := [some (tR 12 0 (some 51))]) (by decide) rfl rfl (Nat.le_of_ble_eq_true rfl) rfl ?_
  refine r_aload_n dX12_thingOf_0 rfl rfl ?_
  refine r_getI (k := 29) cl_12 dX12_thingOf_1 t_1301 (Or.inl rfl) gf_12_29 ?_
  refine r_if_eq (tgt := 9) dX12_thingOf_4 rfl (fun hc => ?_) (fun hc => ?_)
  · replace hm := hm.1 hc
    refine r_aload_n dX12_thingOf_9 rfl rfl ?_
    refine r_callVI (d' := d - 1) (as := []) (st := []) cl_12 dX12_thingOf_10 mi_X12_thingHere t_1616 t_1618 ts_66 rfl rfl (Nat.le_of_ble_eq_true rfl) (by omega) ⟨by decide, by decide⟩ ⟨rfl, rfl⟩ (s_X12_thingHere (by omega) hm) (fun x1 h2 hm => ?_)
    refine r_istore_n (L' := [some (tR 12 0 (some 51)), some (tI x1)]) dX12_thingOf_13 rfl (by decide) rfl ?_
    refine r_iload_n dX12_thingOf_14 rfl rfl ?_
    refine r_if_ge (tgt := 25) dX12_thingOf_15 rfl (fun hc => ?_) (fun hc => ?_)
    · replace hm := hm.1 hc
      refine r_aload_n dX12_thingOf_25 rfl rfl ?_
      refine r_callVU (d' := d - 1) (as := []) (st := []) cl_12 dX12_thingOf_26 mi_X12_next t_1572 t_1574 ts_58 rfl rfl (Nat.le_of_ble_eq_true rfl) (by omega) ⟨by decide, by decide⟩ ⟨rfl, rfl⟩ (s_X12_next (by omega) hm) (fun h4 hm => ?_)
      refine r_iload_n dX12_thingOf_29 rfl rfl ?_
      exact r_ireturn dX12_thingOf_30 rfl ⟨by decide, by decide⟩ ⟨_, rfl, hm⟩
    · replace hm := hm.2 hc
      refine r_aload_n dX12_thingOf_18 rfl rfl ?_
      refine r_callVU (d' := d - 1) (as := []) (st := []) cl_12 dX12_thingOf_19 mi_X12_errs t_1595 t_1597 ts_61 rfl rfl (Nat.le_of_ble_eq_true rfl) (by omega) ⟨by decide, by decide⟩ ⟨rfl, rfl⟩ (s_X12_errs (by omega) hm) (fun h6 hm => ?_)
      refine r_goto (tgt := 29) dX12_thingOf_22 rfl ?_
      refine r_iload_n dX12_thingOf_29 rfl rfl ?_
      exact r_ireturn dX12_thingOf_30 rfl ⟨by decide, by decide⟩ ⟨_, rfl, hm⟩
  · replace hm := hm.2 hc
    refine r_iconst (v := 0) dX12_thingOf_7 rfl ?_
    exact r_ireturn dX12_thingOf_8 rfl ⟨by decide, by decide⟩ ⟨_, rfl, hm⟩
theorem dX12_beginsText_0 : decode cX12_beginsText 0 = .ok (.aload_n 0, 1) := rfl
theorem dX12_beginsText_1 : decode cX12_beginsText 1 = .ok (.iload_n 1, 1) := rfl
theorem dX12_beginsText_2 : decode cX12_beginsText 2 = .ok (.putfield 195, 3) := rfl
theorem dX12_beginsText_5 : decode cX12_beginsText 5 = .ok (.aload_n 0, 1) := rfl
theorem dX12_beginsText_6 : decode cX12_beginsText 6 = .ok (.iconst 0, 1) := rfl
theorem dX12_beginsText_7 : decode cX12_beginsText 7 = .ok (.putfield 189, 3) := rfl
theorem dX12_beginsText_10 : decode cX12_beginsText 10 = .ok (.aload_n 0, 1) := rfl
theorem dX12_beginsText_11 : decode cX12_beginsText 11 = .ok (.iconst 0, 1) := rfl
theorem dX12_beginsText_12 : decode cX12_beginsText 12 = .ok (.putfield 192, 3) := rfl
theorem dX12_beginsText_15 : decode cX12_beginsText 15 = .ok (.aload_n 0, 1) := rfl
theorem dX12_beginsText_16 : decode cX12_beginsText 16 = .ok (.iconst (-1), 1) := rfl
theorem dX12_beginsText_17 : decode cX12_beginsText 17 = .ok (.putfield 71, 3) := rfl
theorem dX12_beginsText_20 : decode cX12_beginsText 20 = .ok (.aload_n 0, 1) := rfl
theorem dX12_beginsText_21 : decode cX12_beginsText 21 = .ok (.iconst 0, 1) := rfl
theorem dX12_beginsText_22 : decode cX12_beginsText 22 = .ok (.putfield 220, 3) := rfl
theorem dX12_beginsText_25 : decode cX12_beginsText 25 = .ok (.aload_n 0, 1) := rfl
theorem dX12_beginsText_26 : decode cX12_beginsText 26 = .ok (.invokevirtual 228, 3) := rfl
theorem dX12_beginsText_29 : decode cX12_beginsText 29 = .ok (.return_, 1) := rfl
def m_X12_beginsText (v1 : Int32) (h : Hp) (Q : Hp → Prop) : Prop := m_X12_next (wI (wI (wI (wI (wI h 51 23 v1) 51 21 0) 51 24 0) 51 22 (-1)) 51 29 0) (fun (h2 : Hp) => Q h2)
set_option maxHeartbeats 4000000 in
set_option maxRecDepth 100000 in
theorem s_X12_beginsText {l : Launch} {G : Cx} {d : Nat} (hd : 6 ≤ d) {v1 : Int32} {h : Hp} {Q : Hp → Prop} (hm : m_X12_beginsText v1 h Q) : Ct l G d 0 0 yX12_beginsText MX12_beginsText [tR 12 0 (some 51), tI v1] h (qV Q) := by
  unfold m_X12_beginsText at hm
  refine Ct.of (L := [some (tR 12 0 (some 51)), some (tI v1)]) (by decide) rfl rfl (Nat.le_of_ble_eq_true rfl) rfl ?_
  refine r_aload_n dX12_beginsText_0 rfl rfl ?_
  refine r_iload_n dX12_beginsText_1 rfl rfl ?_
  refine r_putI0 (k := 23) cl_12 dX12_beginsText_2 t_1295 (Or.inl rfl) gf_12_23 pf_12_23.1 (Or.inl pf_12_23.2) ?_
  refine r_aload_n dX12_beginsText_5 rfl rfl ?_
  refine r_iconst (v := 0) dX12_beginsText_6 rfl ?_
  refine r_putI0 (k := 21) cl_12 dX12_beginsText_7 t_1293 (Or.inl rfl) gf_12_21 pf_12_21.1 (Or.inl pf_12_21.2) ?_
  refine r_aload_n dX12_beginsText_10 rfl rfl ?_
  refine r_iconst (v := 0) dX12_beginsText_11 rfl ?_
  refine r_putI0 (k := 24) cl_12 dX12_beginsText_12 t_1296 (Or.inl rfl) gf_12_24 pf_12_24.1 (Or.inl pf_12_24.2) ?_
  refine r_aload_n dX12_beginsText_15 rfl rfl ?_
  refine r_iconst (v := (-1)) dX12_beginsText_16 rfl ?_
  refine r_putI0 (k := 22) cl_12 dX12_beginsText_17 t_1294 (Or.inl rfl) gf_12_22 pf_12_22.1 (Or.inl pf_12_22.2) ?_
  refine r_aload_n dX12_beginsText_20 rfl rfl ?_
  refine r_iconst (v := 0) dX12_beginsText_21 rfl ?_
  refine r_putZ0 (k := 29) cl_12 dX12_beginsText_22 t_1301 (Or.inl rfl) gf_12_29 pf_12_29.1 (Or.inl pf_12_29.2) (by unfold bz; decide) ?_
  refine r_aload_n dX12_beginsText_25 rfl rfl ?_
  refine r_callVU (d' := d - 1) (as := []) (st := []) cl_12 dX12_beginsText_26 mi_X12_next t_1572 t_1574 ts_58 rfl rfl (Nat.le_of_ble_eq_true rfl) (by omega) ⟨by decide, by decide⟩ ⟨rfl, rfl⟩ (s_X12_next (by omega) hm) (fun h2 hm => ?_)
  exact r_return dX12_beginsText_29 rfl ⟨by decide, by decide⟩ ⟨rfl, hm⟩
theorem dX12_newNode_0 : decode cX12_newNode 0 = .ok (.aload_n 0, 1) := by decide +kernel
theorem dX12_newNode_1 : decode cX12_newNode 1 = .ok (.getfield 277, 3) := by decide +kernel
theorem dX12_newNode_4 : decode cX12_newNode 4 = .ok (.aload_n 0, 1) := by decide +kernel
theorem dX12_newNode_5 : decode cX12_newNode 5 = .ok (.getfield 280, 3) := by decide +kernel
theorem dX12_newNode_8 : decode cX12_newNode 8 = .ok (.iadd, 1) := by decide +kernel
theorem dX12_newNode_9 : decode cX12_newNode 9 = .ok (.istore_n 2, 1) := by decide +kernel
theorem dX12_newNode_10 : decode cX12_newNode 10 = .ok (.aload_n 0, 1) := by decide +kernel
theorem dX12_newNode_11 : decode cX12_newNode 11 = .ok (.dup, 1) := by decide +kernel
theorem dX12_newNode_12 : decode cX12_newNode 12 = .ok (.getfield 280, 3) := by decide +kernel
theorem dX12_newNode_15 : decode cX12_newNode 15 = .ok (.iconst 1, 1) := by decide +kernel
theorem dX12_newNode_16 : decode cX12_newNode 16 = .ok (.iadd, 1) := by decide +kernel
theorem dX12_newNode_17 : decode cX12_newNode 17 = .ok (.putfield 280, 3) := by decide +kernel
theorem dX12_newNode_20 : decode cX12_newNode 20 = .ok (.aload_n 0, 1) := by decide +kernel
theorem dX12_newNode_21 : decode cX12_newNode 21 = .ok (.getfield 28, 3) := by decide +kernel
theorem dX12_newNode_24 : decode cX12_newNode 24 = .ok (.iload_n 2, 1) := by decide +kernel
theorem dX12_newNode_25 : decode cX12_newNode 25 = .ok (.iload_n 1, 1) := by decide +kernel
theorem dX12_newNode_26 : decode cX12_newNode 26 = .ok (.iastore, 1) := by decide +kernel
theorem dX12_newNode_27 : decode cX12_newNode 27 = .ok (.aload_n 0, 1) := by decide +kernel
theorem dX12_newNode_28 : decode cX12_newNode 28 = .ok (.getfield 31, 3) := by decide +kernel
theorem dX12_newNode_31 : decode cX12_newNode 31 = .ok (.iload_n 2, 1) := by decide +kernel
theorem dX12_newNode_32 : decode cX12_newNode 32 = .ok (.iconst 0, 1) := by decide +kernel
theorem dX12_newNode_33 : decode cX12_newNode 33 = .ok (.iastore, 1) := by decide +kernel
theorem dX12_newNode_34 : decode cX12_newNode 34 = .ok (.aload_n 0, 1) := by decide +kernel
theorem dX12_newNode_35 : decode cX12_newNode 35 = .ok (.getfield 34, 3) := by decide +kernel
theorem dX12_newNode_38 : decode cX12_newNode 38 = .ok (.iload_n 2, 1) := by decide +kernel
theorem dX12_newNode_39 : decode cX12_newNode 39 = .ok (.aload_n 0, 1) := by decide +kernel
theorem dX12_newNode_40 : decode cX12_newNode 40 = .ok (.getfield 283, 3) := by decide +kernel
theorem dX12_newNode_43 : decode cX12_newNode 43 = .ok (.ifCond .le 17, 3) := by decide +kernel
theorem dX12_newNode_46 : decode cX12_newNode 46 = .ok (.aload_n 0, 1) := by decide +kernel
theorem dX12_newNode_47 : decode cX12_newNode 47 = .ok (.getfield 75, 3) := by decide +kernel
theorem dX12_newNode_50 : decode cX12_newNode 50 = .ok (.aload_n 0, 1) := by decide +kernel
theorem dX12_newNode_51 : decode cX12_newNode 51 = .ok (.getfield 283, 3) := by decide +kernel
theorem dX12_newNode_54 : decode cX12_newNode 54 = .ok (.iconst 1, 1) := by decide +kernel
theorem dX12_newNode_55 : decode cX12_newNode 55 = .ok (.isub, 1) := by decide +kernel
theorem dX12_newNode_56 : decode cX12_newNode 56 = .ok (.iaload, 1) := by decide +kernel
theorem dX12_newNode_57 : decode cX12_newNode 57 = .ok (.goto 4, 3) := by decide +kernel
theorem dX12_newNode_60 : decode cX12_newNode 60 = .ok (.iconst (-1), 1) := by decide +kernel
theorem dX12_newNode_61 : decode cX12_newNode 61 = .ok (.iastore, 1) := by decide +kernel
theorem dX12_newNode_62 : decode cX12_newNode 62 = .ok (.aload_n 0, 1) := by decide +kernel
theorem dX12_newNode_63 : decode cX12_newNode 63 = .ok (.getfield 37, 3) := by decide +kernel
theorem dX12_newNode_66 : decode cX12_newNode 66 = .ok (.iload_n 2, 1) := by decide +kernel
theorem dX12_newNode_67 : decode cX12_newNode 67 = .ok (.aload_n 0, 1) := by decide +kernel
theorem dX12_newNode_68 : decode cX12_newNode 68 = .ok (.getfield 283, 3) := by decide +kernel
theorem dX12_newNode_71 : decode cX12_newNode 71 = .ok (.ifCond .le 17, 3) := by decide +kernel
theorem dX12_newNode_74 : decode cX12_newNode 74 = .ok (.aload_n 0, 1) := by decide +kernel
theorem dX12_newNode_75 : decode cX12_newNode 75 = .ok (.getfield 78, 3) := by decide +kernel
theorem dX12_newNode_78 : decode cX12_newNode 78 = .ok (.aload_n 0, 1) := by decide +kernel
theorem dX12_newNode_79 : decode cX12_newNode 79 = .ok (.getfield 283, 3) := by decide +kernel
theorem dX12_newNode_82 : decode cX12_newNode 82 = .ok (.iconst 1, 1) := by decide +kernel
theorem dX12_newNode_83 : decode cX12_newNode 83 = .ok (.isub, 1) := by decide +kernel
theorem dX12_newNode_84 : decode cX12_newNode 84 = .ok (.iaload, 1) := by decide +kernel
theorem dX12_newNode_85 : decode cX12_newNode 85 = .ok (.goto 4, 3) := by decide +kernel
theorem dX12_newNode_88 : decode cX12_newNode 88 = .ok (.iconst 0, 1) := by decide +kernel
theorem dX12_newNode_89 : decode cX12_newNode 89 = .ok (.iastore, 1) := by decide +kernel
theorem dX12_newNode_90 : decode cX12_newNode 90 = .ok (.aload_n 0, 1) := by decide +kernel
theorem dX12_newNode_91 : decode cX12_newNode 91 = .ok (.getfield 40, 3) := by decide +kernel
theorem dX12_newNode_94 : decode cX12_newNode 94 = .ok (.iload_n 2, 1) := by decide +kernel
theorem dX12_newNode_95 : decode cX12_newNode 95 = .ok (.iload_n 2, 1) := by decide +kernel
theorem dX12_newNode_96 : decode cX12_newNode 96 = .ok (.iconst 1, 1) := by decide +kernel
theorem dX12_newNode_97 : decode cX12_newNode 97 = .ok (.iadd, 1) := by decide +kernel
theorem dX12_newNode_98 : decode cX12_newNode 98 = .ok (.iastore, 1) := by decide +kernel
theorem dX12_newNode_99 : decode cX12_newNode 99 = .ok (.aload_n 0, 1) := by decide +kernel
theorem dX12_newNode_100 : decode cX12_newNode 100 = .ok (.getfield 43, 3) := by decide +kernel
theorem dX12_newNode_103 : decode cX12_newNode 103 = .ok (.iload_n 2, 1) := by decide +kernel
theorem dX12_newNode_104 : decode cX12_newNode 104 = .ok (.iconst (-1), 1) := by decide +kernel
theorem dX12_newNode_105 : decode cX12_newNode 105 = .ok (.iastore, 1) := by decide +kernel
theorem dX12_newNode_106 : decode cX12_newNode 106 = .ok (.iload_n 2, 1) := by decide +kernel
theorem dX12_newNode_107 : decode cX12_newNode 107 = .ok (.ireturn, 1) := by decide +kernel
def m_X12_newNode_89  (Q : Int32 → Hp → Prop) (v2 : Int32) (s1 : Int32) (s2 : Int32) (h : Hp) : Prop := vp_in s1 2304 ∧ (vp_in v2 2304 ∧ (vp_in v2 2304 ∧ (Q v2 (wI (wI (wI h 61 (ix s1) s2) 62 (ix v2) (v2 + 1)) 63 (ix v2) (-1)))))
set_option maxHeartbeats 4000000 in
set_option maxRecDepth 100000 in
theorem s_X12_newNode_89 {l : Launch} {G : Cx} {d : Nat} {h0 : Hp} (hd : 2 ≤ d) {Q : Int32 → Hp → Prop} {v2 : Int32} {s1 : Int32} {s2 : Int32} {h : Hp} (hm : m_X12_newNode_89 Q v2 s1 s2 h) : Rn l G d 0 0 MX12_newNode h0 (qI Q) 89 [some (tR 12 0 (some 51)), none, some (tI v2)] [tI s2, tI s1, tR 40 2304 (some 61)] h 0 0 := by
  unfold m_X12_newNode_89 at hm
  refine r_iast dX12_newNode_89 hm.1 ?_
  replace hm := hm.2
  refine r_aload_n dX12_newNode_90 rfl rfl ?_
  refine r_getC (k := 11) cl_12 dX12_newNode_91 t_1283 gf_12_11.1 gf_12_11.2 (gc_12_11 _) ?_
  refine r_iload_n dX12_newNode_94 rfl rfl ?_
  refine r_iload_n dX12_newNode_95 rfl rfl ?_
  refine r_iconst (v := 1) dX12_newNode_96 rfl ?_
  refine r_iadd dX12_newNode_97 ?_
  refine r_iast dX12_newNode_98 hm.1 ?_
  replace hm := hm.2
  refine r_aload_n dX12_newNode_99 rfl rfl ?_
  refine r_getC (k := 12) cl_12 dX12_newNode_100 t_1284 gf_12_12.1 gf_12_12.2 (gc_12_12 _) ?_
  refine r_iload_n dX12_newNode_103 rfl rfl ?_
  refine r_iconst (v := (-1)) dX12_newNode_104 rfl ?_
  refine r_iast dX12_newNode_105 hm.1 ?_
  replace hm := hm.2
  refine r_iload_n dX12_newNode_106 rfl rfl ?_
  exact r_ireturn dX12_newNode_107 rfl ⟨by decide, by decide⟩ ⟨_, rfl, hm⟩
def m_X12_newNode_61  (Q : Int32 → Hp → Prop) (v2 : Int32) (s1 : Int32) (s2 : Int32) (h : Hp) : Prop := vp_in s1 2304 ∧ (((hI (wI h 60 (ix s1) s2) 51 32) ≤ 0 → m_X12_newNode_89 Q v2 v2 0 (wI h 60 (ix s1) s2)) ∧ (¬ (hI (wI h 60 (ix s1) s2) 51 32) ≤ 0 → vp_in ((hI (wI h 60 (ix s1) s2) 51 32) - 1) 6 ∧ (m_X12_newNode_89 Q v2 v2 (hI (wI h 60 (ix s1) s2) 73 (ix ((hI (wI h 60 (ix s1) s2) 51 32) - 1))) (wI h 60 (ix s1) s2))))
set_option maxHeartbeats 4000000 in
set_option maxRecDepth 100000 in
theorem s_X12_newNode_61 {l : Launch} {G : Cx} {d : Nat} {h0 : Hp} (hd : 2 ≤ d) {Q : Int32 → Hp → Prop} {v2 : Int32} {s1 : Int32} {s2 : Int32} {h : Hp} (hm : m_X12_newNode_61 Q v2 s1 s2 h) : Rn l G d 0 0 MX12_newNode h0 (qI Q) 61 [some (tR 12 0 (some 51)), none, some (tI v2)] [tI s2, tI s1, tR 40 2304 (some 60)] h 0 0 := by
  unfold m_X12_newNode_61 at hm
  refine r_iast dX12_newNode_61 hm.1 ?_
  replace hm := hm.2
  refine r_aload_n dX12_newNode_62 rfl rfl ?_
  refine r_getC (k := 10) cl_12 dX12_newNode_63 t_1282 gf_12_10.1 gf_12_10.2 (gc_12_10 _) ?_
  refine r_iload_n dX12_newNode_66 rfl rfl ?_
  refine r_aload_n dX12_newNode_67 rfl rfl ?_
  refine r_getI (k := 32) cl_12 dX12_newNode_68 t_1304 (Or.inl rfl) gf_12_32 ?_
  refine r_if_le (tgt := 88) dX12_newNode_71 rfl (fun hc => ?_) (fun hc => ?_)
  · replace hm := hm.1 hc
    refine r_iconst (v := 0) dX12_newNode_88 rfl ?_
    refine r_keep (L' := [some (tR 12 0 (some 51)), none, some (tI v2)]) [true, false, true] rfl ?_
    exact s_X12_newNode_89 hd hm
  · replace hm := hm.2 hc
    refine r_aload_n dX12_newNode_74 rfl rfl ?_
    refine r_getC (k := 31) cl_12 dX12_newNode_75 t_1303 gf_12_31.1 gf_12_31.2 (gc_12_31 _) ?_
    refine r_aload_n dX12_newNode_78 rfl rfl ?_
    refine r_getI (k := 32) cl_12 dX12_newNode_79 t_1304 (Or.inl rfl) gf_12_32 ?_
    refine r_iconst (v := 1) dX12_newNode_82 rfl ?_
    refine r_isub dX12_newNode_83 ?_
    refine r_iald dX12_newNode_84 hm.1 ?_
    replace hm := hm.2
    refine r_goto (tgt := 89) dX12_newNode_85 rfl ?_
    refine r_keep (L' := [some (tR 12 0 (some 51)), none, some (tI v2)]) [true, false, true] rfl ?_
    exact s_X12_newNode_89 hd hm
def m_X12_newNode (v1 : Int32) (h : Hp) (Q : Int32 → Hp → Prop) : Prop := ∀ x1 : Int32, x1 = ((hI h 51 37) + (hI h 51 33)) → vp_in x1 2304 ∧ (vp_in x1 2304 ∧ (((hI (wI (wI (wI h 51 33 ((hI h 51 33) + 1)) 58 (ix x1) v1) 59 (ix x1) 0) 51 32) ≤ 0 → m_X12_newNode_61 Q x1 x1 (-1) (wI (wI (wI h 51 33 ((hI h 51 33) + 1)) 58 (ix x1) v1) 59 (ix x1) 0)) ∧ (¬ (hI (wI (wI (wI h 51 33 ((hI h 51 33) + 1)) 58 (ix x1) v1) 59 (ix x1) 0) 51 32) ≤ 0 → vp_in ((hI (wI (wI (wI h 51 33 ((hI h 51 33) + 1)) 58 (ix x1) v1) 59 (ix x1) 0) 51 32) - 1) 6 ∧ (m_X12_newNode_61 Q x1 x1 (hI (wI (wI (wI h 51 33 ((hI h 51 33) + 1)) 58 (ix x1) v1) 59 (ix x1) 0) 72 (ix ((hI (wI (wI (wI h 51 33 ((hI h 51 33) + 1)) 58 (ix x1) v1) 59 (ix x1) 0) 51 32) - 1))) (wI (wI (wI h 51 33 ((hI h 51 33) + 1)) 58 (ix x1) v1) 59 (ix x1) 0)))))
set_option maxHeartbeats 4000000 in
set_option maxRecDepth 100000 in
theorem s_X12_newNode {l : Launch} {G : Cx} {d : Nat} (hd : 2 ≤ d) {v1 : Int32} {h : Hp} {Q : Int32 → Hp → Prop} (hm : m_X12_newNode v1 h Q) : Ct l G d 0 0 yX12_newNode MX12_newNode [tR 12 0 (some 51), tI v1] h (qI Q) := by
  unfold m_X12_newNode at hm
  refine Ct.of (L := [some (tR 12 0 (some 51)), some (tI v1)]) (by decide) rfl rfl (Nat.le_of_ble_eq_true rfl) rfl ?_
  refine r_aload_n dX12_newNode_0 rfl rfl ?_
  refine r_getI (k := 37) cl_12 dX12_newNode_1 t_1309 (Or.inl rfl) gf_12_37 ?_
  refine r_aload_n dX12_newNode_4 rfl rfl ?_
  refine r_getI (k := 33) cl_12 dX12_newNode_5 t_1305 (Or.inl rfl) gf_12_33 ?_
  refine r_iadd dX12_newNode_8 ?_
  refine r_nmI (fun x1 e_x1 => ?_)
  replace hm := hm x1 e_x1
  refine r_istore_n (L' := [some (tR 12 0 (some 51)), some (tI v1), some (tI x1)]) dX12_newNode_9 rfl (by decide) rfl ?_
  refine r_aload_n dX12_newNode_10 rfl rfl ?_
  refine r_dup dX12_newNode_11 cv_cat1R ?_
  refine r_getI (k := 33) cl_12 dX12_newNode_12 t_1305 (Or.inl rfl) gf_12_33 ?_
  refine r_iconst (v := 1) dX12_newNode_15 rfl ?_
  refine r_iadd dX12_newNode_16 ?_
  refine r_putI0 (k := 33) cl_12 dX12_newNode_17 t_1305 (Or.inl rfl) gf_12_33 pf_12_33.1 (Or.inl pf_12_33.2) ?_
  refine r_aload_n dX12_newNode_20 rfl rfl ?_
  refine r_getC (k := 7) cl_12 dX12_newNode_21 t_1279 gf_12_7.1 gf_12_7.2 (gc_12_7 _) ?_
  refine r_iload_n dX12_newNode_24 rfl rfl ?_
  refine r_iload_n dX12_newNode_25 rfl rfl ?_
  refine r_iast dX12_newNode_26 hm.1 ?_
  replace hm := hm.2
  refine r_aload_n dX12_newNode_27 rfl rfl ?_
  refine r_getC (k := 8) cl_12 dX12_newNode_28 t_1280 gf_12_8.1 gf_12_8.2 (gc_12_8 _) ?_
  refine r_iload_n dX12_newNode_31 rfl rfl ?_
  refine r_iconst (v := 0) dX12_newNode_32 rfl ?_
  refine r_iast dX12_newNode_33 hm.1 ?_
  replace hm := hm.2
  refine r_aload_n dX12_newNode_34 rfl rfl ?_
  refine r_getC (k := 9) cl_12 dX12_newNode_35 t_1281 gf_12_9.1 gf_12_9.2 (gc_12_9 _) ?_
  refine r_iload_n dX12_newNode_38 rfl rfl ?_
  refine r_aload_n dX12_newNode_39 rfl rfl ?_
  refine r_getI (k := 32) cl_12 dX12_newNode_40 t_1304 (Or.inl rfl) gf_12_32 ?_
  refine r_if_le (tgt := 60) dX12_newNode_43 rfl (fun hc => ?_) (fun hc => ?_)
  · replace hm := hm.1 hc
    refine r_iconst (v := (-1)) dX12_newNode_60 rfl ?_
    refine r_keep (L' := [some (tR 12 0 (some 51)), none, some (tI x1)]) [true, false, true] rfl ?_
    exact s_X12_newNode_61 hd hm
  · replace hm := hm.2 hc
    refine r_aload_n dX12_newNode_46 rfl rfl ?_
    refine r_getC (k := 30) cl_12 dX12_newNode_47 t_1302 gf_12_30.1 gf_12_30.2 (gc_12_30 _) ?_
    refine r_aload_n dX12_newNode_50 rfl rfl ?_
    refine r_getI (k := 32) cl_12 dX12_newNode_51 t_1304 (Or.inl rfl) gf_12_32 ?_
    refine r_iconst (v := 1) dX12_newNode_54 rfl ?_
    refine r_isub dX12_newNode_55 ?_
    refine r_iald dX12_newNode_56 hm.1 ?_
    replace hm := hm.2
    refine r_goto (tgt := 61) dX12_newNode_57 rfl ?_
    refine r_keep (L' := [some (tR 12 0 (some 51)), none, some (tI x1)]) [true, false, true] rfl ?_
    exact s_X12_newNode_61 hd hm
theorem dX12_readLeaf_0 : decode cX12_readLeaf 0 = .ok (.aload_n 0, 1) := by decide +kernel
theorem dX12_readLeaf_1 : decode cX12_readLeaf 1 = .ok (.getfield 286, 3) := by decide +kernel
theorem dX12_readLeaf_4 : decode cX12_readLeaf 4 = .ok (.bipush 12, 2) := by decide +kernel
theorem dX12_readLeaf_6 : decode cX12_readLeaf 6 = .ok (.if_icmp .ne 8, 3) := by decide +kernel
theorem dX12_readLeaf_9 : decode cX12_readLeaf 9 = .ok (.aload_n 0, 1) := by decide +kernel
theorem dX12_readLeaf_10 : decode cX12_readLeaf 10 = .ok (.invokevirtual 231, 3) := by decide +kernel
theorem dX12_readLeaf_13 : decode cX12_readLeaf 13 = .ok (.return_, 1) := by decide +kernel
theorem dX12_readLeaf_14 : decode cX12_readLeaf 14 = .ok (.aload_n 0, 1) := by decide +kernel
theorem dX12_readLeaf_15 : decode cX12_readLeaf 15 = .ok (.iload_n 1, 1) := by decide +kernel
theorem dX12_readLeaf_16 : decode cX12_readLeaf 16 = .ok (.invokevirtual 289, 3) := by decide +kernel
theorem dX12_readLeaf_19 : decode cX12_readLeaf 19 = .ok (.istore_n 2, 1) := by decide +kernel
theorem dX12_readLeaf_20 : decode cX12_readLeaf 20 = .ok (.aload_n 0, 1) := by decide +kernel
theorem dX12_readLeaf_21 : decode cX12_readLeaf 21 = .ok (.dup, 1) := by decide +kernel
theorem dX12_readLeaf_22 : decode cX12_readLeaf 22 = .ok (.getfield 286, 3) := by decide +kernel
theorem dX12_readLeaf_25 : decode cX12_readLeaf 25 = .ok (.iconst 1, 1) := by decide +kernel
theorem dX12_readLeaf_26 : decode cX12_readLeaf 26 = .ok (.iadd, 1) := by decide +kernel
theorem dX12_readLeaf_27 : decode cX12_readLeaf 27 = .ok (.putfield 286, 3) := by decide +kernel
theorem dX12_readLeaf_30 : decode cX12_readLeaf 30 = .ok (.aload_n 0, 1) := by decide +kernel
theorem dX12_readLeaf_31 : decode cX12_readLeaf 31 = .ok (.invokevirtual 228, 3) := by decide +kernel
theorem dX12_readLeaf_34 : decode cX12_readLeaf 34 = .ok (.aload_n 0, 1) := by decide +kernel
theorem dX12_readLeaf_35 : decode cX12_readLeaf 35 = .ok (.getfield 46, 3) := by decide +kernel
theorem dX12_readLeaf_38 : decode cX12_readLeaf 38 = .ok (.iload_n 2, 1) := by decide +kernel
theorem dX12_readLeaf_39 : decode cX12_readLeaf 39 = .ok (.aload_n 0, 1) := by decide +kernel
theorem dX12_readLeaf_40 : decode cX12_readLeaf 40 = .ok (.iconst (-1), 1) := by decide +kernel
theorem dX12_readLeaf_41 : decode cX12_readLeaf 41 = .ok (.invokevirtual 293, 3) := by decide +kernel
theorem dX12_readLeaf_44 : decode cX12_readLeaf 44 = .ok (.iastore, 1) := by decide +kernel
theorem dX12_readLeaf_45 : decode cX12_readLeaf 45 = .ok (.aload_n 0, 1) := by decide +kernel
theorem dX12_readLeaf_46 : decode cX12_readLeaf 46 = .ok (.getfield 49, 3) := by decide +kernel
theorem dX12_readLeaf_49 : decode cX12_readLeaf 49 = .ok (.iload_n 2, 1) := by decide +kernel
theorem dX12_readLeaf_50 : decode cX12_readLeaf 50 = .ok (.aload_n 0, 1) := by decide +kernel
theorem dX12_readLeaf_51 : decode cX12_readLeaf 51 = .ok (.aload_n 0, 1) := by decide +kernel
theorem dX12_readLeaf_52 : decode cX12_readLeaf 52 = .ok (.getfield 46, 3) := by decide +kernel
theorem dX12_readLeaf_55 : decode cX12_readLeaf 55 = .ok (.iload_n 2, 1) := by decide +kernel
theorem dX12_readLeaf_56 : decode cX12_readLeaf 56 = .ok (.iaload, 1) := by decide +kernel
theorem dX12_readLeaf_57 : decode cX12_readLeaf 57 = .ok (.invokevirtual 293, 3) := by decide +kernel
theorem dX12_readLeaf_60 : decode cX12_readLeaf 60 = .ok (.iastore, 1) := by decide +kernel
theorem dX12_readLeaf_61 : decode cX12_readLeaf 61 = .ok (.aload_n 0, 1) := by decide +kernel
theorem dX12_readLeaf_62 : decode cX12_readLeaf 62 = .ok (.getfield 52, 3) := by decide +kernel
theorem dX12_readLeaf_65 : decode cX12_readLeaf 65 = .ok (.iload_n 2, 1) := by decide +kernel
theorem dX12_readLeaf_66 : decode cX12_readLeaf 66 = .ok (.aload_n 0, 1) := by decide +kernel
theorem dX12_readLeaf_67 : decode cX12_readLeaf 67 = .ok (.invokevirtual 296, 3) := by decide +kernel
theorem dX12_readLeaf_70 : decode cX12_readLeaf 70 = .ok (.iastore, 1) := by decide +kernel
theorem dX12_readLeaf_71 : decode cX12_readLeaf 71 = .ok (.aload_n 0, 1) := by decide +kernel
theorem dX12_readLeaf_72 : decode cX12_readLeaf 72 = .ok (.getfield 55, 3) := by decide +kernel
theorem dX12_readLeaf_75 : decode cX12_readLeaf 75 = .ok (.iload_n 2, 1) := by decide +kernel
theorem dX12_readLeaf_76 : decode cX12_readLeaf 76 = .ok (.aload_n 0, 1) := by decide +kernel
theorem dX12_readLeaf_77 : decode cX12_readLeaf 77 = .ok (.iconst 0, 1) := by decide +kernel
theorem dX12_readLeaf_78 : decode cX12_readLeaf 78 = .ok (.sipush 9999, 3) := by decide +kernel
theorem dX12_readLeaf_81 : decode cX12_readLeaf 81 = .ok (.invokevirtual 299, 3) := by decide +kernel
theorem dX12_readLeaf_84 : decode cX12_readLeaf 84 = .ok (.iastore, 1) := by decide +kernel
theorem dX12_readLeaf_85 : decode cX12_readLeaf 85 = .ok (.aload_n 0, 1) := by decide +kernel
theorem dX12_readLeaf_86 : decode cX12_readLeaf 86 = .ok (.getfield 58, 3) := by decide +kernel
theorem dX12_readLeaf_89 : decode cX12_readLeaf 89 = .ok (.iload_n 2, 1) := by decide +kernel
theorem dX12_readLeaf_90 : decode cX12_readLeaf 90 = .ok (.iconst 0, 1) := by decide +kernel
theorem dX12_readLeaf_91 : decode cX12_readLeaf 91 = .ok (.iastore, 1) := by decide +kernel
theorem dX12_readLeaf_92 : decode cX12_readLeaf 92 = .ok (.iload_n 1, 1) := by decide +kernel
theorem dX12_readLeaf_93 : decode cX12_readLeaf 93 = .ok (.iconst 2, 1) := by decide +kernel
theorem dX12_readLeaf_94 : decode cX12_readLeaf 94 = .ok (.if_icmp .lt 24, 3) := by decide +kernel
theorem dX12_readLeaf_97 : decode cX12_readLeaf 97 = .ok (.aload_n 0, 1) := by decide +kernel
theorem dX12_readLeaf_98 : decode cX12_readLeaf 98 = .ok (.ldc2_w 303, 3) := by decide +kernel
theorem dX12_readLeaf_101 : decode cX12_readLeaf 101 = .ok (.invokevirtual 305, 3) := by decide +kernel
theorem dX12_readLeaf_104 : decode cX12_readLeaf 104 = .ok (.aload_n 0, 1) := by decide +kernel
theorem dX12_readLeaf_105 : decode cX12_readLeaf 105 = .ok (.getfield 58, 3) := by decide +kernel
theorem dX12_readLeaf_108 : decode cX12_readLeaf 108 = .ok (.iload_n 2, 1) := by decide +kernel
theorem dX12_readLeaf_109 : decode cX12_readLeaf 109 = .ok (.aload_n 0, 1) := by decide +kernel
theorem dX12_readLeaf_110 : decode cX12_readLeaf 110 = .ok (.iconst 0, 1) := by decide +kernel
theorem dX12_readLeaf_111 : decode cX12_readLeaf 111 = .ok (.sipush 9999, 3) := by decide +kernel
theorem dX12_readLeaf_114 : decode cX12_readLeaf 114 = .ok (.invokevirtual 299, 3) := by decide +kernel
theorem dX12_readLeaf_117 : decode cX12_readLeaf 117 = .ok (.iastore, 1) := by decide +kernel
theorem dX12_readLeaf_118 : decode cX12_readLeaf 118 = .ok (.aload_n 0, 1) := by decide +kernel
theorem dX12_readLeaf_119 : decode cX12_readLeaf 119 = .ok (.ldc2_w 309, 3) := by decide +kernel
theorem dX12_readLeaf_122 : decode cX12_readLeaf 122 = .ok (.invokevirtual 305, 3) := by decide +kernel
theorem dX12_readLeaf_125 : decode cX12_readLeaf 125 = .ok (.aload_n 0, 1) := by decide +kernel
theorem dX12_readLeaf_126 : decode cX12_readLeaf 126 = .ok (.getfield 61, 3) := by decide +kernel
theorem dX12_readLeaf_129 : decode cX12_readLeaf 129 = .ok (.iload_n 2, 1) := by decide +kernel
theorem dX12_readLeaf_130 : decode cX12_readLeaf 130 = .ok (.aload_n 0, 1) := by decide +kernel
theorem dX12_readLeaf_131 : decode cX12_readLeaf 131 = .ok (.iconst 0, 1) := by decide +kernel
theorem dX12_readLeaf_132 : decode cX12_readLeaf 132 = .ok (.sipush 399, 3) := by decide +kernel
theorem dX12_readLeaf_135 : decode cX12_readLeaf 135 = .ok (.invokevirtual 299, 3) := by decide +kernel
theorem dX12_readLeaf_138 : decode cX12_readLeaf 138 = .ok (.iastore, 1) := by decide +kernel
theorem dX12_readLeaf_139 : decode cX12_readLeaf 139 = .ok (.aload_n 0, 1) := by decide +kernel
theorem dX12_readLeaf_140 : decode cX12_readLeaf 140 = .ok (.getfield 64, 3) := by decide +kernel
theorem dX12_readLeaf_143 : decode cX12_readLeaf 143 = .ok (.iload_n 2, 1) := by decide +kernel
theorem dX12_readLeaf_144 : decode cX12_readLeaf 144 = .ok (.aload_n 0, 1) := by decide +kernel
theorem dX12_readLeaf_145 : decode cX12_readLeaf 145 = .ok (.getfield 61, 3) := by decide +kernel
theorem dX12_readLeaf_148 : decode cX12_readLeaf 148 = .ok (.iload_n 2, 1) := by decide +kernel
theorem dX12_readLeaf_149 : decode cX12_readLeaf 149 = .ok (.iaload, 1) := by decide +kernel
theorem dX12_readLeaf_150 : decode cX12_readLeaf 150 = .ok (.iastore, 1) := by decide +kernel
theorem dX12_readLeaf_151 : decode cX12_readLeaf 151 = .ok (.iload_n 1, 1) := by decide +kernel
theorem dX12_readLeaf_152 : decode cX12_readLeaf 152 = .ok (.iconst 2, 1) := by decide +kernel
theorem dX12_readLeaf_153 : decode cX12_readLeaf 153 = .ok (.if_icmp .ne 43, 3) := by decide +kernel
theorem dX12_readLeaf_156 : decode cX12_readLeaf 156 = .ok (.aload_n 0, 1) := by decide +kernel
theorem dX12_readLeaf_157 : decode cX12_readLeaf 157 = .ok (.getfield 220, 3) := by decide +kernel
theorem dX12_readLeaf_160 : decode cX12_readLeaf 160 = .ok (.ifCond .ne 36, 3) := by decide +kernel
theorem dX12_readLeaf_163 : decode cX12_readLeaf 163 = .ok (.aload_n 0, 1) := by decide +kernel
theorem dX12_readLeaf_164 : decode cX12_readLeaf 164 = .ok (.ldc2_w 311, 3) := by decide +kernel
theorem dX12_readLeaf_167 : decode cX12_readLeaf 167 = .ok (.invokevirtual 224, 3) := by decide +kernel
theorem dX12_readLeaf_170 : decode cX12_readLeaf 170 = .ok (.ifCond .eq 26, 3) := by decide +kernel
theorem dX12_readLeaf_173 : decode cX12_readLeaf 173 = .ok (.aload_n 0, 1) := by decide +kernel
theorem dX12_readLeaf_174 : decode cX12_readLeaf 174 = .ok (.invokevirtual 228, 3) := by decide +kernel
theorem dX12_readLeaf_177 : decode cX12_readLeaf 177 = .ok (.aload_n 0, 1) := by decide +kernel
theorem dX12_readLeaf_178 : decode cX12_readLeaf 178 = .ok (.getfield 64, 3) := by decide +kernel
theorem dX12_readLeaf_181 : decode cX12_readLeaf 181 = .ok (.iload_n 2, 1) := by decide +kernel
theorem dX12_readLeaf_182 : decode cX12_readLeaf 182 = .ok (.aload_n 0, 1) := by decide +kernel
theorem dX12_readLeaf_183 : decode cX12_readLeaf 183 = .ok (.aload_n 0, 1) := by decide +kernel
theorem dX12_readLeaf_184 : decode cX12_readLeaf 184 = .ok (.getfield 61, 3) := by decide +kernel
theorem dX12_readLeaf_187 : decode cX12_readLeaf 187 = .ok (.iload_n 2, 1) := by decide +kernel
theorem dX12_readLeaf_188 : decode cX12_readLeaf 188 = .ok (.iaload, 1) := by decide +kernel
theorem dX12_readLeaf_189 : decode cX12_readLeaf 189 = .ok (.sipush 399, 3) := by decide +kernel
theorem dX12_readLeaf_192 : decode cX12_readLeaf 192 = .ok (.invokevirtual 299, 3) := by decide +kernel
theorem dX12_readLeaf_195 : decode cX12_readLeaf 195 = .ok (.iastore, 1) := by decide +kernel
theorem dX12_readLeaf_196 : decode cX12_readLeaf 196 = .ok (.iload_n 1, 1) := by decide +kernel
theorem dX12_readLeaf_197 : decode cX12_readLeaf 197 = .ok (.iconst 3, 1) := by decide +kernel
theorem dX12_readLeaf_198 : decode cX12_readLeaf 198 = .ok (.if_icmp .ne 29, 3) := by decide +kernel
theorem dX12_readLeaf_201 : decode cX12_readLeaf 201 = .ok (.aload_n 0, 1) := by decide +kernel
theorem dX12_readLeaf_202 : decode cX12_readLeaf 202 = .ok (.ldc2_w 313, 3) := by decide +kernel
theorem dX12_readLeaf_205 : decode cX12_readLeaf 205 = .ok (.invokevirtual 305, 3) := by decide +kernel
theorem dX12_readLeaf_208 : decode cX12_readLeaf 208 = .ok (.aload_n 0, 1) := by decide +kernel
theorem dX12_readLeaf_209 : decode cX12_readLeaf 209 = .ok (.getfield 64, 3) := by decide +kernel
theorem dX12_readLeaf_212 : decode cX12_readLeaf 212 = .ok (.iload_n 2, 1) := by decide +kernel
theorem dX12_readLeaf_213 : decode cX12_readLeaf 213 = .ok (.aload_n 0, 1) := by decide +kernel
theorem dX12_readLeaf_214 : decode cX12_readLeaf 214 = .ok (.aload_n 0, 1) := by decide +kernel
theorem dX12_readLeaf_215 : decode cX12_readLeaf 215 = .ok (.getfield 61, 3) := by decide +kernel
theorem dX12_readLeaf_218 : decode cX12_readLeaf 218 = .ok (.iload_n 2, 1) := by decide +kernel
theorem dX12_readLeaf_219 : decode cX12_readLeaf 219 = .ok (.iaload, 1) := by decide +kernel
theorem dX12_readLeaf_220 : decode cX12_readLeaf 220 = .ok (.sipush 399, 3) := by decide +kernel
theorem dX12_readLeaf_223 : decode cX12_readLeaf 223 = .ok (.invokevirtual 299, 3) := by decide +kernel
theorem dX12_readLeaf_226 : decode cX12_readLeaf 226 = .ok (.iastore, 1) := by decide +kernel
theorem dX12_readLeaf_227 : decode cX12_readLeaf 227 = .ok (.return_, 1) := by decide +kernel
def m_X12_readLeaf_196  (Q : Hp → Prop) (v1 : Int32) (v2 : Int32) (h : Hp) : Prop := (¬ v1 = 3 → Q h) ∧ (v1 = 3 → m_X12_mustBe 40187 h (fun (h2 : Hp) => vp_in v2 2304 ∧ (m_X12_numeral (hI h2 69 (ix v2)) 399 h2 (fun (x3 : Int32) (h4 : Hp) => vp_in v2 2304 ∧ (Q (wI h4 70 (ix v2) x3))))))
set_option maxHeartbeats 4000000 in
set_option maxRecDepth 100000 in
theorem s_X12_readLeaf_196 {l : Launch} {G : Cx} {d : Nat} {h0 : Hp} (hd : 8 ≤ d) {Q : Hp → Prop} {v1 : Int32} {v2 : Int32} {h : Hp} (hm : m_X12_readLeaf_196 Q v1 v2 h) : Rn l G d 0 0 MX12_readLeaf h0 (qV Q) 196 [some (tR 12 0 (some 51)), some (tI v1), some (tI v2)] [] h 0 0 := by
  unfold m_X12_readLeaf_196 at hm
  refine r_iload_n dX12_readLeaf_196 rfl rfl ?_
  refine r_iconst (v := 3) dX12_readLeaf_197 rfl ?_
  refine r_icmp_ne (tgt := 227) dX12_readLeaf_198 rfl (fun hc => ?_) (fun hc => ?_)
  · replace hm := hm.1 hc
    exact r_return dX12_readLeaf_227 rfl ⟨by decide, by decide⟩ ⟨rfl, hm⟩
  · replace hm := hm.2 hc
    refine r_aload_n dX12_readLeaf_201 rfl rfl ?_
    refine r_ldc2_w dX12_readLeaf_202 t_1641 ?_
    refine r_callVU (d' := d - 1) (as := [tJ 40187]) (st := []) cl_12 dX12_readLeaf_205 mi_X12_mustBe t_1631 t_1633 ts_68 rfl rfl (Nat.le_of_ble_eq_true rfl) (by omega) ⟨by decide, by decide⟩ ⟨rfl, rfl⟩ (s_X12_mustBe (by omega) hm) (fun h2 hm => ?_)
    refine r_aload_n dX12_readLeaf_208 rfl rfl ?_
    refine r_getC (k := 19) cl_12 dX12_readLeaf_209 t_1291 gf_12_19.1 gf_12_19.2 (gc_12_19 _) ?_
    refine r_iload_n dX12_readLeaf_212 rfl rfl ?_
    refine r_aload_n dX12_readLeaf_213 rfl rfl ?_
    refine r_aload_n dX12_readLeaf_214 rfl rfl ?_
    refine r_getC (k := 18) cl_12 dX12_readLeaf_215 t_1290 gf_12_18.1 gf_12_18.2 (gc_12_18 _) ?_
    refine r_iload_n dX12_readLeaf_218 rfl rfl ?_
    refine r_iald dX12_readLeaf_219 hm.1 ?_
    replace hm := hm.2
    refine r_sipush (v := 399) dX12_readLeaf_220 rfl ?_
    refine r_callVI (d' := d - 1) (as := [tI (hI h2 69 (ix v2)), tI 399]) (st := [tI v2, tR 40 2304 (some 70)]) cl_12 dX12_readLeaf_223 mi_X12_numeral t_1626 t_1628 ts_67 rfl rfl (Nat.le_of_ble_eq_true rfl) (by omega) ⟨by decide, by decide⟩ ⟨rfl, rfl⟩ (s_X12_numeral (by omega) hm) (fun x3 h4 hm => ?_)
    refine r_iast dX12_readLeaf_226 hm.1 ?_
    replace hm := hm.2
    exact r_return dX12_readLeaf_227 rfl ⟨by decide, by decide⟩ ⟨rfl, hm⟩
def m_X12_readLeaf_118  (Q : Hp → Prop) (v1 : Int32) (v2 : Int32) (h : Hp) : Prop := m_X12_mustBe 47 h (fun (h6 : Hp) => m_X12_numeral 0 399 h6 (fun (x7 : Int32) (h8 : Hp) => vp_in v2 2304 ∧ (vp_in v2 2304 ∧ (vp_in v2 2304 ∧ ((¬ v1 = 2 → m_X12_readLeaf_196 Q v1 v2 (wI (wI h8 69 (ix v2) x7) 70 (ix v2) (hI (wI h8 69 (ix v2) x7) 69 (ix v2)))) ∧ (v1 = 2 → (¬ (hI (wI (wI h8 69 (ix v2) x7) 70 (ix v2) (hI (wI h8 69 (ix v2) x7) 69 (ix v2))) 51 29) = 0 → m_X12_readLeaf_196 Q v1 v2 (wI (wI h8 69 (ix v2) x7) 70 (ix v2) (hI (wI h8 69 (ix v2) x7) 69 (ix v2)))) ∧ ((hI (wI (wI h8 69 (ix v2) x7) 70 (ix v2) (hI (wI h8 69 (ix v2) x7) 69 (ix v2))) 51 29) = 0 → m_X12_is 315904 (wI (wI h8 69 (ix v2) x7) 70 (ix v2) (hI (wI h8 69 (ix v2) x7) 69 (ix v2))) (fun (x9 : Int32) (h10 : Hp) => (x9 = 0 → m_X12_readLeaf_196 Q v1 v2 h10) ∧ (¬ x9 = 0 → m_X12_next h10 (fun (h12 : Hp) => vp_in v2 2304 ∧ (m_X12_numeral (hI h12 69 (ix v2)) 399 h12 (fun (x13 : Int32) (h14 : Hp) => vp_in v2 2304 ∧ (m_X12_readLeaf_196 Q v1 v2 (wI h14 70 (ix v2) x13))))))))))))))
set_option maxHeartbeats 4000000 in
set_option maxRecDepth 100000 in
theorem s_X12_readLeaf_118 {l : Launch} {G : Cx} {d : Nat} {h0 : Hp} (hd : 8 ≤ d) {Q : Hp → Prop} {v1 : Int32} {v2 : Int32} {h : Hp} (hm : m_X12_readLeaf_118 Q v1 v2 h) : Rn l G d 0 0 MX12_readLeaf h0 (qV Q) 118 [some (tR 12 0 (some 51)), some (tI v1), some (tI v2)] [] h 0 0 := by
  unfold m_X12_readLeaf_118 at hm
  refine r_aload_n dX12_readLeaf_118 rfl rfl ?_
  refine r_ldc2_w dX12_readLeaf_119 t_1639 ?_
  refine r_callVU (d' := d - 1) (as := [tJ 47]) (st := []) cl_12 dX12_readLeaf_122 mi_X12_mustBe t_1631 t_1633 ts_68 rfl rfl (Nat.le_of_ble_eq_true rfl) (by omega) ⟨by decide, by decide⟩ ⟨rfl, rfl⟩ (s_X12_mustBe (by omega) hm) (fun h6 hm => ?_)
  refine r_aload_n dX12_readLeaf_125 rfl rfl ?_
  refine r_getC (k := 18) cl_12 dX12_readLeaf_126 t_1290 gf_12_18.1 gf_12_18.2 (gc_12_18 _) ?_
  refine r_iload_n dX12_readLeaf_129 rfl rfl ?_
  refine r_aload_n dX12_readLeaf_130 rfl rfl ?_
  refine r_iconst (v := 0) dX12_readLeaf_131 rfl ?_
  refine r_sipush (v := 399) dX12_readLeaf_132 rfl ?_
  refine r_callVI (d' := d - 1) (as := [tI 0, tI 399]) (st := [tI v2, tR 40 2304 (some 69)]) cl_12 dX12_readLeaf_135 mi_X12_numeral t_1626 t_1628 ts_67 rfl rfl (Nat.le_of_ble_eq_true rfl) (by omega) ⟨by decide, by decide⟩ ⟨rfl, rfl⟩ (s_X12_numeral (by omega) hm) (fun x7 h8 hm => ?_)
  refine r_iast dX12_readLeaf_138 hm.1 ?_
  replace hm := hm.2
  refine r_aload_n dX12_readLeaf_139 rfl rfl ?_
  refine r_getC (k := 19) cl_12 dX12_readLeaf_140 t_1291 gf_12_19.1 gf_12_19.2 (gc_12_19 _) ?_
  refine r_iload_n dX12_readLeaf_143 rfl rfl ?_
  refine r_aload_n dX12_readLeaf_144 rfl rfl ?_
  refine r_getC (k := 18) cl_12 dX12_readLeaf_145 t_1290 gf_12_18.1 gf_12_18.2 (gc_12_18 _) ?_
  refine r_iload_n dX12_readLeaf_148 rfl rfl ?_
  refine r_iald dX12_readLeaf_149 hm.1 ?_
  replace hm := hm.2
  refine r_iast dX12_readLeaf_150 hm.1 ?_
  replace hm := hm.2
  refine r_iload_n dX12_readLeaf_151 rfl rfl ?_
  refine r_iconst (v := 2) dX12_readLeaf_152 rfl ?_
  refine r_icmp_ne (tgt := 196) dX12_readLeaf_153 rfl (fun hc => ?_) (fun hc => ?_)
  · replace hm := hm.1 hc
    refine r_keep (L' := [some (tR 12 0 (some 51)), some (tI v1), some (tI v2)]) [true, true, true] rfl ?_
    exact s_X12_readLeaf_196 hd hm
  · replace hm := hm.2 hc
    refine r_aload_n dX12_readLeaf_156 rfl rfl ?_
    refine r_getI (k := 29) cl_12 dX12_readLeaf_157 t_1301 (Or.inl rfl) gf_12_29 ?_
    refine r_if_ne (tgt := 196) dX12_readLeaf_160 rfl (fun hc => ?_) (fun hc => ?_)
    · replace hm := hm.1 hc
      refine r_keep (L' := [some (tR 12 0 (some 51)), some (tI v1), some (tI v2)]) [true, true, true] rfl ?_
      exact s_X12_readLeaf_196 hd hm
    · replace hm := hm.2 hc
      refine r_aload_n dX12_readLeaf_163 rfl rfl ?_
      refine r_ldc2_w dX12_readLeaf_164 t_1640 ?_
      refine r_callVI (d' := d - 1) (as := [tJ 315904]) (st := []) cl_12 dX12_readLeaf_167 mi_X12_is t_1635 t_1637 ts_69 rfl rfl (Nat.le_of_ble_eq_true rfl) (by omega) ⟨by decide, by decide⟩ ⟨rfl, rfl⟩ (s_X12_is (by omega) hm) (fun x9 h10 hm => ?_)
      refine r_if_eq (tgt := 196) dX12_readLeaf_170 rfl (fun hc => ?_) (fun hc => ?_)
      · replace hm := hm.1 hc
        refine r_keep (L' := [some (tR 12 0 (some 51)), some (tI v1), some (tI v2)]) [true, true, true] rfl ?_
        exact s_X12_readLeaf_196 hd hm
      · replace hm := hm.2 hc
        refine r_aload_n dX12_readLeaf_173 rfl rfl ?_
        refine r_callVU (d' := d - 1) (as := []) (st := []) cl_12 dX12_readLeaf_174 mi_X12_next t_1572 t_1574 ts_58 rfl rfl (Nat.le_of_ble_eq_true rfl) (by omega) ⟨by decide, by decide⟩ ⟨rfl, rfl⟩ (s_X12_next (by omega) hm) (fun h12 hm => ?_)
        refine r_aload_n dX12_readLeaf_177 rfl rfl ?_
        refine r_getC (k := 19) cl_12 dX12_readLeaf_178 t_1291 gf_12_19.1 gf_12_19.2 (gc_12_19 _) ?_
        refine r_iload_n dX12_readLeaf_181 rfl rfl ?_
        refine r_aload_n dX12_readLeaf_182 rfl rfl ?_
        refine r_aload_n dX12_readLeaf_183 rfl rfl ?_
        refine r_getC (k := 18) cl_12 dX12_readLeaf_184 t_1290 gf_12_18.1 gf_12_18.2 (gc_12_18 _) ?_
        refine r_iload_n dX12_readLeaf_187 rfl rfl ?_
        refine r_iald dX12_readLeaf_188 hm.1 ?_
        replace hm := hm.2
        refine r_sipush (v := 399) dX12_readLeaf_189 rfl ?_
        refine r_callVI (d' := d - 1) (as := [tI (hI h12 69 (ix v2)), tI 399]) (st := [tI v2, tR 40 2304 (some 70)]) cl_12 dX12_readLeaf_192 mi_X12_numeral t_1626 t_1628 ts_67 rfl rfl (Nat.le_of_ble_eq_true rfl) (by omega) ⟨by decide, by decide⟩ ⟨rfl, rfl⟩ (s_X12_numeral (by omega) hm) (fun x13 h14 hm => ?_)
        refine r_iast dX12_readLeaf_195 hm.1 ?_
        replace hm := hm.2
        refine r_keep (L' := [some (tR 12 0 (some 51)), some (tI v1), some (tI v2)]) [true, true, true] rfl ?_
        exact s_X12_readLeaf_196 hd hm
def m_X12_readLeaf (v1 : Int32) (h : Hp) (Q : Hp → Prop) : Prop := (¬ (hI h 51 34) = 12 → m_X12_newNode v1 h (fun (x15 : Int32) (h16 : Hp) => m_X12_next (wI h16 51 34 ((hI h16 51 34) + 1)) (fun (h18 : Hp) => m_X12_hand (-1) h18 (fun (x19 : Int32) (h20 : Hp) => vp_in x15 2304 ∧ (vp_in x15 2304 ∧ (m_X12_hand (hI (wI h20 64 (ix x15) x19) 64 (ix x15)) (wI h20 64 (ix x15) x19) (fun (x21 : Int32) (h22 : Hp) => vp_in x15 2304 ∧ (m_X12_thingOf (wI h22 65 (ix x15) x21) (fun (x23 : Int32) (h24 : Hp) => vp_in x15 2304 ∧ (m_X12_numeral 0 9999 (wI h24 66 (ix x15) x23) (fun (x25 : Int32) (h26 : Hp) => vp_in x15 2304 ∧ (vp_in x15 2304 ∧ ((v1 < 2 → m_X12_readLeaf_118 Q v1 x15 (wI (wI h26 67 (ix x15) x25) 68 (ix x15) 0)) ∧ (¬ v1 < 2 → m_X12_mustBe 4797 (wI (wI h26 67 (ix x15) x25) 68 (ix x15) 0) (fun (h28 : Hp) => m_X12_numeral 0 9999 h28 (fun (x29 : Int32) (h30 : Hp) => vp_in x15 2304 ∧ (m_X12_readLeaf_118 Q v1 x15 (wI h30 68 (ix x15) x29)))))))))))))))))) ∧ ((hI h 51 34) = 12 → m_X12_errs h (fun (h32 : Hp) => Q h32))
set_option maxHeartbeats 4000000 in
set_option maxRecDepth 100000 in
theorem s_X12_readLeaf {l : Launch} {G : Cx} {d : Nat} (hd : 8 ≤ d) {v1 : Int32} {h : Hp} {Q : Hp → Prop} (hm : m_X12_readLeaf v1 h Q) : Ct l G d 0 0 yX12_readLeaf MX12_readLeaf [tR 12 0 (some 51), tI v1] h (qV Q) := by
  unfold m_X12_readLeaf at hm
  refine Ct.of (L := [some (tR 12 0 (some 51)), some (tI v1)]) (by decide) rfl rfl (Nat.le_of_ble_eq_true rfl) rfl ?_
  refine r_aload_n dX12_readLeaf_0 rfl rfl ?_
  refine r_getI (k := 34) cl_12 dX12_readLeaf_1 t_1306 (Or.inl rfl) gf_12_34 ?_
  refine r_bipush (v := 12) dX12_readLeaf_4 rfl ?_
  refine r_icmp_ne (tgt := 14) dX12_readLeaf_6 rfl (fun hc => ?_) (fun hc => ?_)
  · replace hm := hm.1 hc
    refine r_aload_n dX12_readLeaf_14 rfl rfl ?_
    refine r_iload_n dX12_readLeaf_15 rfl rfl ?_
    refine r_callVI (d' := d - 1) (as := [tI v1]) (st := []) cl_12 dX12_readLeaf_16 mi_X12_newNode t_1603 t_1605 ts_63 rfl rfl (Nat.le_of_ble_eq_true rfl) (by omega) ⟨by decide, by decide⟩ ⟨rfl, rfl⟩ (s_X12_newNode (by omega) hm) (fun x15 h16 hm => ?_)
    refine r_istore_n (L' := [some (tR 12 0 (some 51)), some (tI v1), some (tI x15)]) dX12_readLeaf_19 rfl (by decide) rfl ?_
    refine r_aload_n dX12_readLeaf_20 rfl rfl ?_
    refine r_dup dX12_readLeaf_21 cv_cat1R ?_
    refine r_getI (k := 34) cl_12 dX12_readLeaf_22 t_1306 (Or.inl rfl) gf_12_34 ?_
    refine r_iconst (v := 1) dX12_readLeaf_25 rfl ?_
    refine r_iadd dX12_readLeaf_26 ?_
    refine r_putI0 (k := 34) cl_12 dX12_readLeaf_27 t_1306 (Or.inl rfl) gf_12_34 pf_12_34.1 (Or.inl pf_12_34.2) ?_
    refine r_aload_n dX12_readLeaf_30 rfl rfl ?_
    refine r_callVU (d' := d - 1) (as := []) (st := []) cl_12 dX12_readLeaf_31 mi_X12_next t_1572 t_1574 ts_58 rfl rfl (Nat.le_of_ble_eq_true rfl) (by omega) ⟨by decide, by decide⟩ ⟨rfl, rfl⟩ (s_X12_next (by omega) hm) (fun h18 hm => ?_)
    refine r_aload_n dX12_readLeaf_34 rfl rfl ?_
    refine r_getC (k := 13) cl_12 dX12_readLeaf_35 t_1285 gf_12_13.1 gf_12_13.2 (gc_12_13 _) ?_
    refine r_iload_n dX12_readLeaf_38 rfl rfl ?_
    refine r_aload_n dX12_readLeaf_39 rfl rfl ?_
    refine r_iconst (v := (-1)) dX12_readLeaf_40 rfl ?_
    refine r_callVI (d' := d - 1) (as := [tI (-1)]) (st := [tI x15, tR 40 2304 (some 64)]) cl_12 dX12_readLeaf_41 mi_X12_hand t_1607 t_1609 ts_64 rfl rfl (Nat.le_of_ble_eq_true rfl) (by omega) ⟨by decide, by decide⟩ ⟨rfl, rfl⟩ (s_X12_hand (by omega) hm) (fun x19 h20 hm => ?_)
    refine r_iast dX12_readLeaf_44 hm.1 ?_
    replace hm := hm.2
    refine r_aload_n dX12_readLeaf_45 rfl rfl ?_
    refine r_getC (k := 14) cl_12 dX12_readLeaf_46 t_1286 gf_12_14.1 gf_12_14.2 (gc_12_14 _) ?_
    refine r_iload_n dX12_readLeaf_49 rfl rfl ?_
    refine r_aload_n dX12_readLeaf_50 rfl rfl ?_
    refine r_aload_n dX12_readLeaf_51 rfl rfl ?_
    refine r_getC (k := 13) cl_12 dX12_readLeaf_52 t_1285 gf_12_13.1 gf_12_13.2 (gc_12_13 _) ?_
    refine r_iload_n dX12_readLeaf_55 rfl rfl ?_
    refine r_iald dX12_readLeaf_56 hm.1 ?_
    replace hm := hm.2
    refine r_callVI (d' := d - 1) (as := [tI (hI (wI h20 64 (ix x15) x19) 64 (ix x15))]) (st := [tI x15, tR 40 2304 (some 65)]) cl_12 dX12_readLeaf_57 mi_X12_hand t_1607 t_1609 ts_64 rfl rfl (Nat.le_of_ble_eq_true rfl) (by omega) ⟨by decide, by decide⟩ ⟨rfl, rfl⟩ (s_X12_hand (by omega) hm) (fun x21 h22 hm => ?_)
    refine r_iast dX12_readLeaf_60 hm.1 ?_
    replace hm := hm.2
    refine r_aload_n dX12_readLeaf_61 rfl rfl ?_
    refine r_getC (k := 15) cl_12 dX12_readLeaf_62 t_1287 gf_12_15.1 gf_12_15.2 (gc_12_15 _) ?_
    refine r_iload_n dX12_readLeaf_65 rfl rfl ?_
    refine r_aload_n dX12_readLeaf_66 rfl rfl ?_
    refine r_callVI (d' := d - 1) (as := []) (st := [tI x15, tR 40 2304 (some 66)]) cl_12 dX12_readLeaf_67 mi_X12_thingOf t_1612 t_1614 ts_65 rfl rfl (Nat.le_of_ble_eq_true rfl) (by omega) ⟨by decide, by decide⟩ ⟨rfl, rfl⟩ (s_X12_thingOf (by omega) hm) (fun x23 h24 hm => ?_)
    refine r_iast dX12_readLeaf_70 hm.1 ?_
    replace hm := hm.2
    refine r_aload_n dX12_readLeaf_71 rfl rfl ?_
    refine r_getC (k := 16) cl_12 dX12_readLeaf_72 t_1288 gf_12_16.1 gf_12_16.2 (gc_12_16 _) ?_
    refine r_iload_n dX12_readLeaf_75 rfl rfl ?_
    refine r_aload_n dX12_readLeaf_76 rfl rfl ?_
    refine r_iconst (v := 0) dX12_readLeaf_77 rfl ?_
    refine r_sipush (v := 9999) dX12_readLeaf_78 rfl ?_
    refine r_callVI (d' := d - 1) (as := [tI 0, tI 9999]) (st := [tI x15, tR 40 2304 (some 67)]) cl_12 dX12_readLeaf_81 mi_X12_numeral t_1626 t_1628 ts_67 rfl rfl (Nat.le_of_ble_eq_true rfl) (by omega) ⟨by decide, by decide⟩ ⟨rfl, rfl⟩ (s_X12_numeral (by omega) hm) (fun x25 h26 hm => ?_)
    refine r_iast dX12_readLeaf_84 hm.1 ?_
    replace hm := hm.2
    refine r_aload_n dX12_readLeaf_85 rfl rfl ?_
    refine r_getC (k := 17) cl_12 dX12_readLeaf_86 t_1289 gf_12_17.1 gf_12_17.2 (gc_12_17 _) ?_
    refine r_iload_n dX12_readLeaf_89 rfl rfl ?_
    refine r_iconst (v := 0) dX12_readLeaf_90 rfl ?_
    refine r_iast dX12_readLeaf_91 hm.1 ?_
    replace hm := hm.2
    refine r_iload_n dX12_readLeaf_92 rfl rfl ?_
    refine r_iconst (v := 2) dX12_readLeaf_93 rfl ?_
    refine r_icmp_lt (tgt := 118) dX12_readLeaf_94 rfl (fun hc => ?_) (fun hc => ?_)
    · replace hm := hm.1 hc
      refine r_keep (L' := [some (tR 12 0 (some 51)), some (tI v1), some (tI x15)]) [true, true, true] rfl ?_
      exact s_X12_readLeaf_118 hd hm
    · replace hm := hm.2 hc
      refine r_aload_n dX12_readLeaf_97 rfl rfl ?_
      refine r_ldc2_w dX12_readLeaf_98 t_1630 ?_
      refine r_callVU (d' := d - 1) (as := [tJ 4797]) (st := []) cl_12 dX12_readLeaf_101 mi_X12_mustBe t_1631 t_1633 ts_68 rfl rfl (Nat.le_of_ble_eq_true rfl) (by omega) ⟨by decide, by decide⟩ ⟨rfl, rfl⟩ (s_X12_mustBe (by omega) hm) (fun h28 hm => ?_)
      refine r_aload_n dX12_readLeaf_104 rfl rfl ?_
      refine r_getC (k := 17) cl_12 dX12_readLeaf_105 t_1289 gf_12_17.1 gf_12_17.2 (gc_12_17 _) ?_
      refine r_iload_n dX12_readLeaf_108 rfl rfl ?_
      refine r_aload_n dX12_readLeaf_109 rfl rfl ?_
      refine r_iconst (v := 0) dX12_readLeaf_110 rfl ?_
      refine r_sipush (v := 9999) dX12_readLeaf_111 rfl ?_
      refine r_callVI (d' := d - 1) (as := [tI 0, tI 9999]) (st := [tI x15, tR 40 2304 (some 68)]) cl_12 dX12_readLeaf_114 mi_X12_numeral t_1626 t_1628 ts_67 rfl rfl (Nat.le_of_ble_eq_true rfl) (by omega) ⟨by decide, by decide⟩ ⟨rfl, rfl⟩ (s_X12_numeral (by omega) hm) (fun x29 h30 hm => ?_)
      refine r_iast dX12_readLeaf_117 hm.1 ?_
      replace hm := hm.2
      refine r_keep (L' := [some (tR 12 0 (some 51)), some (tI v1), some (tI x15)]) [true, true, true] rfl ?_
      exact s_X12_readLeaf_118 hd hm
  · replace hm := hm.2 hc
    refine r_aload_n dX12_readLeaf_9 rfl rfl ?_
    refine r_callVU (d' := d - 1) (as := []) (st := []) cl_12 dX12_readLeaf_10 mi_X12_errs t_1595 t_1597 ts_61 rfl rfl (Nat.le_of_ble_eq_true rfl) (by omega) ⟨by decide, by decide⟩ ⟨rfl, rfl⟩ (s_X12_errs (by omega) hm) (fun h32 hm => ?_)
    exact r_return dX12_readLeaf_13 rfl ⟨by decide, by decide⟩ ⟨rfl, hm⟩
theorem dX12_opens_0 : decode cX12_opens 0 = .ok (.aload_n 0, 1) := rfl
theorem dX12_opens_1 : decode cX12_opens 1 = .ok (.getfield 220, 3) := rfl
theorem dX12_opens_4 : decode cX12_opens 4 = .ok (.ifCond .eq 4, 3) := by decide +kernel
theorem dX12_opens_7 : decode cX12_opens 7 = .ok (.return_, 1) := rfl
theorem dX12_opens_8 : decode cX12_opens 8 = .ok (.aload_n 0, 1) := rfl
theorem dX12_opens_9 : decode cX12_opens 9 = .ok (.getfield 214, 3) := rfl
theorem dX12_opens_12 : decode cX12_opens 12 = .ok (.bipush 123, 2) := by decide +kernel
theorem dX12_opens_14 : decode cX12_opens 14 = .ok (.if_icmp .ne 12, 3) := by decide +kernel
theorem dX12_opens_17 : decode cX12_opens 17 = .ok (.aload_n 0, 1) := rfl
theorem dX12_opens_18 : decode cX12_opens 18 = .ok (.getfield 283, 3) := rfl
theorem dX12_opens_21 : decode cX12_opens 21 = .ok (.bipush 6, 2) := by decide +kernel
theorem dX12_opens_23 : decode cX12_opens 23 = .ok (.if_icmp .ne 8, 3) := by decide +kernel
theorem dX12_opens_26 : decode cX12_opens 26 = .ok (.aload_n 0, 1) := rfl
theorem dX12_opens_27 : decode cX12_opens 27 = .ok (.invokevirtual 231, 3) := rfl
theorem dX12_opens_30 : decode cX12_opens 30 = .ok (.return_, 1) := rfl
theorem dX12_opens_31 : decode cX12_opens 31 = .ok (.aload_n 0, 1) := rfl
theorem dX12_opens_32 : decode cX12_opens 32 = .ok (.getfield 75, 3) := rfl
theorem dX12_opens_35 : decode cX12_opens 35 = .ok (.aload_n 0, 1) := rfl
theorem dX12_opens_36 : decode cX12_opens 36 = .ok (.getfield 283, 3) := rfl
theorem dX12_opens_39 : decode cX12_opens 39 = .ok (.iload_n 1, 1) := rfl
theorem dX12_opens_40 : decode cX12_opens 40 = .ok (.iastore, 1) := rfl
theorem dX12_opens_41 : decode cX12_opens 41 = .ok (.aload_n 0, 1) := rfl
theorem dX12_opens_42 : decode cX12_opens 42 = .ok (.getfield 78, 3) := rfl
theorem dX12_opens_45 : decode cX12_opens 45 = .ok (.aload_n 0, 1) := rfl
theorem dX12_opens_46 : decode cX12_opens 46 = .ok (.getfield 283, 3) := rfl
theorem dX12_opens_49 : decode cX12_opens 49 = .ok (.iload_n 2, 1) := rfl
theorem dX12_opens_50 : decode cX12_opens 50 = .ok (.iastore, 1) := rfl
theorem dX12_opens_51 : decode cX12_opens 51 = .ok (.aload_n 0, 1) := rfl
theorem dX12_opens_52 : decode cX12_opens 52 = .ok (.dup, 1) := rfl
theorem dX12_opens_53 : decode cX12_opens 53 = .ok (.getfield 283, 3) := rfl
theorem dX12_opens_56 : decode cX12_opens 56 = .ok (.iconst 1, 1) := rfl
theorem dX12_opens_57 : decode cX12_opens 57 = .ok (.iadd, 1) := rfl
theorem dX12_opens_58 : decode cX12_opens 58 = .ok (.putfield 283, 3) := rfl
theorem dX12_opens_61 : decode cX12_opens 61 = .ok (.aload_n 0, 1) := rfl
theorem dX12_opens_62 : decode cX12_opens 62 = .ok (.invokevirtual 228, 3) := rfl
theorem dX12_opens_65 : decode cX12_opens 65 = .ok (.return_, 1) := rfl
def m_X12_opens_26  (Q : Hp → Prop) (h : Hp) : Prop := m_X12_errs h (fun (h2 : Hp) => Q h2)
set_option maxHeartbeats 4000000 in
set_option maxRecDepth 100000 in
theorem s_X12_opens_26 {l : Launch} {G : Cx} {d : Nat} {h0 : Hp} (hd : 6 ≤ d) {Q : Hp → Prop} {h : Hp} (hm : m_X12_opens_26 Q h) : Rn l G d 0 0 MX12_opens h0 (qV Q) 26 [some (tR 12 0 (some 51))] [] h 0 0 := by
  unfold m_X12_opens_26 at hm
  refine r_aload_n dX12_opens_26 rfl rfl ?_
  refine r_callVU (d' := d - 1) (as := []) (st := []) cl_12 dX12_opens_27 mi_X12_errs t_1595 t_1597 ts_61 rfl rfl (Nat.le_of_ble_eq_true rfl) (by omega) ⟨by decide, by decide⟩ ⟨rfl, rfl⟩ (s_X12_errs (by omega) hm) (fun h2 hm => ?_)
  exact r_return dX12_opens_30 rfl ⟨by decide, by decide⟩ ⟨rfl, hm⟩
def m_X12_opens (v1 : Int32) (v2 : Int32) (h : Hp) (Q : Hp → Prop) : Prop := ((hI h 51 29) = 0 → (¬ (hI h 51 26) = 123 → m_X12_opens_26 Q h) ∧ ((hI h 51 26) = 123 → (¬ (hI h 51 32) = 6 → vp_in (hI h 51 32) 6 ∧ (vp_in (hI (wI h 72 (ix (hI h 51 32)) v1) 51 32) 6 ∧ (m_X12_next (wI (wI (wI h 72 (ix (hI h 51 32)) v1) 73 (ix (hI (wI h 72 (ix (hI h 51 32)) v1) 51 32)) v2) 51 32 ((hI (wI (wI h 72 (ix (hI h 51 32)) v1) 73 (ix (hI (wI h 72 (ix (hI h 51 32)) v1) 51 32)) v2) 51 32) + 1)) (fun (h4 : Hp) => Q h4)))) ∧ ((hI h 51 32) = 6 → m_X12_opens_26 Q h))) ∧ (¬ (hI h 51 29) = 0 → Q h)
set_option maxHeartbeats 4000000 in
set_option maxRecDepth 100000 in
theorem s_X12_opens {l : Launch} {G : Cx} {d : Nat} (hd : 6 ≤ d) {v1 : Int32} {v2 : Int32} {h : Hp} {Q : Hp → Prop} (hm : m_X12_opens v1 v2 h Q) : Ct l G d 0 0 yX12_opens MX12_opens [tR 12 0 (some 51), tI v1, tI v2] h (qV Q) := by
  unfold m_X12_opens at hm
  refine Ct.of (L := [some (tR 12 0 (some 51)), some (tI v1), some (tI v2)]) (by decide) rfl rfl (Nat.le_of_ble_eq_true rfl) rfl ?_
  refine r_aload_n dX12_opens_0 rfl rfl ?_
  refine r_getI (k := 29) cl_12 dX12_opens_1 t_1301 (Or.inl rfl) gf_12_29 ?_
  refine r_if_eq (tgt := 8) dX12_opens_4 rfl (fun hc => ?_) (fun hc => ?_)
  · replace hm := hm.1 hc
    refine r_aload_n dX12_opens_8 rfl rfl ?_
    refine r_getI (k := 26) cl_12 dX12_opens_9 t_1298 (Or.inl rfl) gf_12_26 ?_
    refine r_bipush (v := 123) dX12_opens_12 rfl ?_
    refine r_icmp_ne (tgt := 26) dX12_opens_14 rfl (fun hc => ?_) (fun hc => ?_)
    · replace hm := hm.1 hc
      refine r_keep (L' := [some (tR 12 0 (some 51))]) [true] rfl ?_
      exact s_X12_opens_26 hd hm
    · replace hm := hm.2 hc
      refine r_aload_n dX12_opens_17 rfl rfl ?_
      refine r_getI (k := 32) cl_12 dX12_opens_18 t_1304 (Or.inl rfl) gf_12_32 ?_
      refine r_bipush (v := 6) dX12_opens_21 rfl ?_
      refine r_icmp_ne (tgt := 31) dX12_opens_23 rfl (fun hc => ?_) (fun hc => ?_)
      · replace hm := hm.1 hc
        refine r_aload_n dX12_opens_31 rfl rfl ?_
        refine r_getC (k := 30) cl_12 dX12_opens_32 t_1302 gf_12_30.1 gf_12_30.2 (gc_12_30 _) ?_
        refine r_aload_n dX12_opens_35 rfl rfl ?_
        refine r_getI (k := 32) cl_12 dX12_opens_36 t_1304 (Or.inl rfl) gf_12_32 ?_
        refine r_iload_n dX12_opens_39 rfl rfl ?_
        refine r_iast dX12_opens_40 hm.1 ?_
        replace hm := hm.2
        refine r_aload_n dX12_opens_41 rfl rfl ?_
        refine r_getC (k := 31) cl_12 dX12_opens_42 t_1303 gf_12_31.1 gf_12_31.2 (gc_12_31 _) ?_
        refine r_aload_n dX12_opens_45 rfl rfl ?_
        refine r_getI (k := 32) cl_12 dX12_opens_46 t_1304 (Or.inl rfl) gf_12_32 ?_
        refine r_iload_n dX12_opens_49 rfl rfl ?_
        refine r_iast dX12_opens_50 hm.1 ?_
        replace hm := hm.2
        refine r_aload_n dX12_opens_51 rfl rfl ?_
        refine r_dup dX12_opens_52 cv_cat1R ?_
        refine r_getI (k := 32) cl_12 dX12_opens_53 t_1304 (Or.inl rfl) gf_12_32 ?_
        refine r_iconst (v := 1) dX12_opens_56 rfl ?_
        refine r_iadd dX12_opens_57 ?_
        refine r_putI0 (k := 32) cl_12 dX12_opens_58 t_1304 (Or.inl rfl) gf_12_32 pf_12_32.1 (Or.inl pf_12_32.2) ?_
        refine r_aload_n dX12_opens_61 rfl rfl ?_
        refine r_callVU (d' := d - 1) (as := []) (st := []) cl_12 dX12_opens_62 mi_X12_next t_1572 t_1574 ts_58 rfl rfl (Nat.le_of_ble_eq_true rfl) (by omega) ⟨by decide, by decide⟩ ⟨rfl, rfl⟩ (s_X12_next (by omega) hm) (fun h4 hm => ?_)
        exact r_return dX12_opens_65 rfl ⟨by decide, by decide⟩ ⟨rfl, hm⟩
      · replace hm := hm.2 hc
        refine r_keep (L' := [some (tR 12 0 (some 51))]) [true] rfl ?_
        exact s_X12_opens_26 hd hm
  · replace hm := hm.2 hc
    exact r_return dX12_opens_7 rfl ⟨by decide, by decide⟩ ⟨rfl, hm⟩
theorem dX12_readGroup_0 : decode cX12_readGroup 0 = .ok (.iload_n 1, 1) := by decide +kernel
theorem dX12_readGroup_1 : decode cX12_readGroup 1 = .ok (.bipush 7, 2) := by decide +kernel
theorem dX12_readGroup_3 : decode cX12_readGroup 3 = .ok (.if_icmp .ne 16, 3) := by decide +kernel
theorem dX12_readGroup_6 : decode cX12_readGroup 6 = .ok (.aload_n 0, 1) := by decide +kernel
theorem dX12_readGroup_7 : decode cX12_readGroup 7 = .ok (.getfield 315, 3) := by decide +kernel
theorem dX12_readGroup_10 : decode cX12_readGroup 10 = .ok (.iconst 3, 1) := by decide +kernel
theorem dX12_readGroup_11 : decode cX12_readGroup 11 = .ok (.if_icmp .ne 8, 3) := by decide +kernel
theorem dX12_readGroup_14 : decode cX12_readGroup 14 = .ok (.aload_n 0, 1) := by decide +kernel
theorem dX12_readGroup_15 : decode cX12_readGroup 15 = .ok (.invokevirtual 231, 3) := by decide +kernel
theorem dX12_readGroup_18 : decode cX12_readGroup 18 = .ok (.return_, 1) := by decide +kernel
theorem dX12_readGroup_19 : decode cX12_readGroup 19 = .ok (.aload_n 0, 1) := by decide +kernel
theorem dX12_readGroup_20 : decode cX12_readGroup 20 = .ok (.iload_n 1, 1) := by decide +kernel
theorem dX12_readGroup_21 : decode cX12_readGroup 21 = .ok (.invokevirtual 289, 3) := by decide +kernel
theorem dX12_readGroup_24 : decode cX12_readGroup 24 = .ok (.istore_n 2, 1) := by decide +kernel
theorem dX12_readGroup_25 : decode cX12_readGroup 25 = .ok (.aload_n 0, 1) := by decide +kernel
theorem dX12_readGroup_26 : decode cX12_readGroup 26 = .ok (.invokevirtual 228, 3) := by decide +kernel
theorem dX12_readGroup_29 : decode cX12_readGroup 29 = .ok (.iload_n 1, 1) := by decide +kernel
theorem dX12_readGroup_30 : decode cX12_readGroup 30 = .ok (.iconst 4, 1) := by decide +kernel
theorem dX12_readGroup_31 : decode cX12_readGroup 31 = .ok (.if_icmp .ne 17, 3) := by decide +kernel
theorem dX12_readGroup_34 : decode cX12_readGroup 34 = .ok (.aload_n 0, 1) := by decide +kernel
theorem dX12_readGroup_35 : decode cX12_readGroup 35 = .ok (.getfield 31, 3) := by decide +kernel
theorem dX12_readGroup_38 : decode cX12_readGroup 38 = .ok (.iload_n 2, 1) := by decide +kernel
theorem dX12_readGroup_39 : decode cX12_readGroup 39 = .ok (.aload_n 0, 1) := by decide +kernel
theorem dX12_readGroup_40 : decode cX12_readGroup 40 = .ok (.iconst 0, 1) := by decide +kernel
theorem dX12_readGroup_41 : decode cX12_readGroup 41 = .ok (.sipush 399, 3) := by decide +kernel
theorem dX12_readGroup_44 : decode cX12_readGroup 44 = .ok (.invokevirtual 299, 3) := by decide +kernel
theorem dX12_readGroup_47 : decode cX12_readGroup 47 = .ok (.iastore, 1) := by decide +kernel
theorem dX12_readGroup_48 : decode cX12_readGroup 48 = .ok (.iload_n 1, 1) := by decide +kernel
theorem dX12_readGroup_49 : decode cX12_readGroup 49 = .ok (.iconst 5, 1) := by decide +kernel
theorem dX12_readGroup_50 : decode cX12_readGroup 50 = .ok (.if_icmp .ne 16, 3) := by decide +kernel
theorem dX12_readGroup_53 : decode cX12_readGroup 53 = .ok (.aload_n 0, 1) := by decide +kernel
theorem dX12_readGroup_54 : decode cX12_readGroup 54 = .ok (.getfield 31, 3) := by decide +kernel
theorem dX12_readGroup_57 : decode cX12_readGroup 57 = .ok (.iload_n 2, 1) := by decide +kernel
theorem dX12_readGroup_58 : decode cX12_readGroup 58 = .ok (.aload_n 0, 1) := by decide +kernel
theorem dX12_readGroup_59 : decode cX12_readGroup 59 = .ok (.iconst 0, 1) := by decide +kernel
theorem dX12_readGroup_60 : decode cX12_readGroup 60 = .ok (.bipush 9, 2) := by decide +kernel
theorem dX12_readGroup_62 : decode cX12_readGroup 62 = .ok (.invokevirtual 299, 3) := by decide +kernel
theorem dX12_readGroup_65 : decode cX12_readGroup 65 = .ok (.iastore, 1) := by decide +kernel
theorem dX12_readGroup_66 : decode cX12_readGroup 66 = .ok (.iload_n 1, 1) := by decide +kernel
theorem dX12_readGroup_67 : decode cX12_readGroup 67 = .ok (.bipush 6, 2) := by decide +kernel
theorem dX12_readGroup_69 : decode cX12_readGroup 69 = .ok (.if_icmp .ne 48, 3) := by decide +kernel
theorem dX12_readGroup_72 : decode cX12_readGroup 72 = .ok (.aload_n 0, 1) := by decide +kernel
theorem dX12_readGroup_73 : decode cX12_readGroup 73 = .ok (.getfield 31, 3) := by decide +kernel
theorem dX12_readGroup_76 : decode cX12_readGroup 76 = .ok (.iload_n 2, 1) := by decide +kernel
theorem dX12_readGroup_77 : decode cX12_readGroup 77 = .ok (.aload_n 0, 1) := by decide +kernel
theorem dX12_readGroup_78 : decode cX12_readGroup 78 = .ok (.invokevirtual 318, 3) := by decide +kernel
theorem dX12_readGroup_81 : decode cX12_readGroup 81 = .ok (.iastore, 1) := by decide +kernel
theorem dX12_readGroup_82 : decode cX12_readGroup 82 = .ok (.aload_n 0, 1) := by decide +kernel
theorem dX12_readGroup_83 : decode cX12_readGroup 83 = .ok (.getfield 31, 3) := by decide +kernel
theorem dX12_readGroup_86 : decode cX12_readGroup 86 = .ok (.iload_n 2, 1) := by decide +kernel
theorem dX12_readGroup_87 : decode cX12_readGroup 87 = .ok (.iaload, 1) := by decide +kernel
theorem dX12_readGroup_88 : decode cX12_readGroup 88 = .ok (.ifCond .ge 8, 3) := by decide +kernel
theorem dX12_readGroup_91 : decode cX12_readGroup 91 = .ok (.aload_n 0, 1) := by decide +kernel
theorem dX12_readGroup_92 : decode cX12_readGroup 92 = .ok (.invokevirtual 231, 3) := by decide +kernel
theorem dX12_readGroup_95 : decode cX12_readGroup 95 = .ok (.return_, 1) := by decide +kernel
theorem dX12_readGroup_96 : decode cX12_readGroup 96 = .ok (.aload_n 0, 1) := by decide +kernel
theorem dX12_readGroup_97 : decode cX12_readGroup 97 = .ok (.dup, 1) := by decide +kernel
theorem dX12_readGroup_98 : decode cX12_readGroup 98 = .ok (.getfield 321, 3) := by decide +kernel
theorem dX12_readGroup_101 : decode cX12_readGroup 101 = .ok (.iconst 1, 1) := by decide +kernel
theorem dX12_readGroup_102 : decode cX12_readGroup 102 = .ok (.aload_n 0, 1) := by decide +kernel
theorem dX12_readGroup_103 : decode cX12_readGroup 103 = .ok (.getfield 31, 3) := by decide +kernel
theorem dX12_readGroup_106 : decode cX12_readGroup 106 = .ok (.iload_n 2, 1) := by decide +kernel
theorem dX12_readGroup_107 : decode cX12_readGroup 107 = .ok (.iaload, 1) := by decide +kernel
theorem dX12_readGroup_108 : decode cX12_readGroup 108 = .ok (.ishl, 1) := by decide +kernel
theorem dX12_readGroup_109 : decode cX12_readGroup 109 = .ok (.ior, 1) := by decide +kernel
theorem dX12_readGroup_110 : decode cX12_readGroup 110 = .ok (.putfield 321, 3) := by decide +kernel
theorem dX12_readGroup_113 : decode cX12_readGroup 113 = .ok (.aload_n 0, 1) := by decide +kernel
theorem dX12_readGroup_114 : decode cX12_readGroup 114 = .ok (.invokevirtual 228, 3) := by decide +kernel
theorem dX12_readGroup_117 : decode cX12_readGroup 117 = .ok (.iload_n 1, 1) := by decide +kernel
theorem dX12_readGroup_118 : decode cX12_readGroup 118 = .ok (.bipush 7, 2) := by decide +kernel
theorem dX12_readGroup_120 : decode cX12_readGroup 120 = .ok (.if_icmp .ne 34, 3) := by decide +kernel
theorem dX12_readGroup_123 : decode cX12_readGroup 123 = .ok (.aload_n 0, 1) := by decide +kernel
theorem dX12_readGroup_124 : decode cX12_readGroup 124 = .ok (.getfield 46, 3) := by decide +kernel
theorem dX12_readGroup_127 : decode cX12_readGroup 127 = .ok (.iload_n 2, 1) := by decide +kernel
theorem dX12_readGroup_128 : decode cX12_readGroup 128 = .ok (.aload_n 0, 1) := by decide +kernel
theorem dX12_readGroup_129 : decode cX12_readGroup 129 = .ok (.iconst (-1), 1) := by decide +kernel
theorem dX12_readGroup_130 : decode cX12_readGroup 130 = .ok (.invokevirtual 293, 3) := by decide +kernel
theorem dX12_readGroup_133 : decode cX12_readGroup 133 = .ok (.iastore, 1) := by decide +kernel
theorem dX12_readGroup_134 : decode cX12_readGroup 134 = .ok (.aload_n 0, 1) := by decide +kernel
theorem dX12_readGroup_135 : decode cX12_readGroup 135 = .ok (.getfield 31, 3) := by decide +kernel
theorem dX12_readGroup_138 : decode cX12_readGroup 138 = .ok (.iload_n 2, 1) := by decide +kernel
theorem dX12_readGroup_139 : decode cX12_readGroup 139 = .ok (.aload_n 0, 1) := by decide +kernel
theorem dX12_readGroup_140 : decode cX12_readGroup 140 = .ok (.getfield 315, 3) := by decide +kernel
theorem dX12_readGroup_143 : decode cX12_readGroup 143 = .ok (.iastore, 1) := by decide +kernel
theorem dX12_readGroup_144 : decode cX12_readGroup 144 = .ok (.aload_n 0, 1) := by decide +kernel
theorem dX12_readGroup_145 : decode cX12_readGroup 145 = .ok (.dup, 1) := by decide +kernel
theorem dX12_readGroup_146 : decode cX12_readGroup 146 = .ok (.getfield 315, 3) := by decide +kernel
theorem dX12_readGroup_149 : decode cX12_readGroup 149 = .ok (.iconst 1, 1) := by decide +kernel
theorem dX12_readGroup_150 : decode cX12_readGroup 150 = .ok (.iadd, 1) := by decide +kernel
theorem dX12_readGroup_151 : decode cX12_readGroup 151 = .ok (.putfield 315, 3) := by decide +kernel
theorem dX12_readGroup_154 : decode cX12_readGroup 154 = .ok (.aload_n 0, 1) := by decide +kernel
theorem dX12_readGroup_155 : decode cX12_readGroup 155 = .ok (.iload_n 2, 1) := by decide +kernel
theorem dX12_readGroup_156 : decode cX12_readGroup 156 = .ok (.iconst 0, 1) := by decide +kernel
theorem dX12_readGroup_157 : decode cX12_readGroup 157 = .ok (.invokevirtual 324, 3) := by decide +kernel
theorem dX12_readGroup_160 : decode cX12_readGroup 160 = .ok (.return_, 1) := by decide +kernel
def m_X12_readGroup_154  (Q : Hp → Prop) (v2 : Int32) (h : Hp) : Prop := m_X12_opens v2 0 h (fun (h2 : Hp) => Q h2)
set_option maxHeartbeats 4000000 in
set_option maxRecDepth 100000 in
theorem s_X12_readGroup_154 {l : Launch} {G : Cx} {d : Nat} {h0 : Hp} (hd : 8 ≤ d) {Q : Hp → Prop} {v2 : Int32} {h : Hp} (hm : m_X12_readGroup_154 Q v2 h) : Rn l G d 0 0 MX12_readGroup h0 (qV Q) 154 [some (tR 12 0 (some 51)), none, some (tI v2)] [] h 0 0 := by
  unfold m_X12_readGroup_154 at hm
  refine r_aload_n dX12_readGroup_154 rfl rfl ?_
  refine r_iload_n dX12_readGroup_155 rfl rfl ?_
  refine r_iconst (v := 0) dX12_readGroup_156 rfl ?_
  refine r_callVU (d' := d - 1) (as := [tI v2, tI 0]) (st := []) cl_12 dX12_readGroup_157 mi_X12_opens t_1648 t_1650 ts_71 rfl rfl (Nat.le_of_ble_eq_true rfl) (by omega) ⟨by decide, by decide⟩ ⟨rfl, rfl⟩ (s_X12_opens (by omega) hm) (fun h2 hm => ?_)
  exact r_return dX12_readGroup_160 rfl ⟨by decide, by decide⟩ ⟨rfl, hm⟩
def m_X12_readGroup_117  (Q : Hp → Prop) (v1 : Int32) (v2 : Int32) (h : Hp) : Prop := (¬ v1 = 7 → m_X12_readGroup_154 Q v2 h) ∧ (v1 = 7 → m_X12_hand (-1) h (fun (x3 : Int32) (h4 : Hp) => vp_in v2 2304 ∧ (vp_in v2 2304 ∧ (m_X12_readGroup_154 Q v2 (wI (wI (wI h4 64 (ix v2) x3) 59 (ix v2) (hI (wI h4 64 (ix v2) x3) 51 35)) 51 35 ((hI (wI (wI h4 64 (ix v2) x3) 59 (ix v2) (hI (wI h4 64 (ix v2) x3) 51 35)) 51 35) + 1))))))
set_option maxHeartbeats 4000000 in
set_option maxRecDepth 100000 in
theorem s_X12_readGroup_117 {l : Launch} {G : Cx} {d : Nat} {h0 : Hp} (hd : 8 ≤ d) {Q : Hp → Prop} {v1 : Int32} {v2 : Int32} {h : Hp} (hm : m_X12_readGroup_117 Q v1 v2 h) : Rn l G d 0 0 MX12_readGroup h0 (qV Q) 117 [some (tR 12 0 (some 51)), some (tI v1), some (tI v2)] [] h 0 0 := by
  unfold m_X12_readGroup_117 at hm
  refine r_iload_n dX12_readGroup_117 rfl rfl ?_
  refine r_bipush (v := 7) dX12_readGroup_118 rfl ?_
  refine r_icmp_ne (tgt := 154) dX12_readGroup_120 rfl (fun hc => ?_) (fun hc => ?_)
  · replace hm := hm.1 hc
    refine r_keep (L' := [some (tR 12 0 (some 51)), none, some (tI v2)]) [true, false, true] rfl ?_
    exact s_X12_readGroup_154 hd hm
  · replace hm := hm.2 hc
    refine r_aload_n dX12_readGroup_123 rfl rfl ?_
    refine r_getC (k := 13) cl_12 dX12_readGroup_124 t_1285 gf_12_13.1 gf_12_13.2 (gc_12_13 _) ?_
    refine r_iload_n dX12_readGroup_127 rfl rfl ?_
    refine r_aload_n dX12_readGroup_128 rfl rfl ?_
    refine r_iconst (v := (-1)) dX12_readGroup_129 rfl ?_
    refine r_callVI (d' := d - 1) (as := [tI (-1)]) (st := [tI v2, tR 40 2304 (some 64)]) cl_12 dX12_readGroup_130 mi_X12_hand t_1607 t_1609 ts_64 rfl rfl (Nat.le_of_ble_eq_true rfl) (by omega) ⟨by decide, by decide⟩ ⟨rfl, rfl⟩ (s_X12_hand (by omega) hm) (fun x3 h4 hm => ?_)
    refine r_iast dX12_readGroup_133 hm.1 ?_
    replace hm := hm.2
    refine r_aload_n dX12_readGroup_134 rfl rfl ?_
    refine r_getC (k := 8) cl_12 dX12_readGroup_135 t_1280 gf_12_8.1 gf_12_8.2 (gc_12_8 _) ?_
    refine r_iload_n dX12_readGroup_138 rfl rfl ?_
    refine r_aload_n dX12_readGroup_139 rfl rfl ?_
    refine r_getI (k := 35) cl_12 dX12_readGroup_140 t_1307 (Or.inl rfl) gf_12_35 ?_
    refine r_iast dX12_readGroup_143 hm.1 ?_
    replace hm := hm.2
    refine r_aload_n dX12_readGroup_144 rfl rfl ?_
    refine r_dup dX12_readGroup_145 cv_cat1R ?_
    refine r_getI (k := 35) cl_12 dX12_readGroup_146 t_1307 (Or.inl rfl) gf_12_35 ?_
    refine r_iconst (v := 1) dX12_readGroup_149 rfl ?_
    refine r_iadd dX12_readGroup_150 ?_
    refine r_putI0 (k := 35) cl_12 dX12_readGroup_151 t_1307 (Or.inl rfl) gf_12_35 pf_12_35.1 (Or.inl pf_12_35.2) ?_
    refine r_keep (L' := [some (tR 12 0 (some 51)), none, some (tI v2)]) [true, false, true] rfl ?_
    exact s_X12_readGroup_154 hd hm
def m_X12_readGroup_66  (Q : Hp → Prop) (v1 : Int32) (v2 : Int32) (h : Hp) : Prop := (¬ v1 = 6 → m_X12_readGroup_117 Q v1 v2 h) ∧ (v1 = 6 → m_X12_eventHere h (fun (x5 : Int32) (h6 : Hp) => vp_in v2 2304 ∧ (vp_in v2 2304 ∧ ((0 ≤ (hI (wI h6 59 (ix v2) x5) 59 (ix v2)) → vp_in v2 2304 ∧ (m_X12_next (wI (wI h6 59 (ix v2) x5) 51 36 ((hI (wI h6 59 (ix v2) x5) 51 36) ||| (1 <<< ((hI (wI h6 59 (ix v2) x5) 59 (ix v2)) &&& 31)))) (fun (h8 : Hp) => m_X12_readGroup_117 Q v1 v2 h8))) ∧ (¬ 0 ≤ (hI (wI h6 59 (ix v2) x5) 59 (ix v2)) → m_X12_errs (wI h6 59 (ix v2) x5) (fun (h10 : Hp) => Q h10))))))
set_option maxHeartbeats 4000000 in
set_option maxRecDepth 100000 in
theorem s_X12_readGroup_66 {l : Launch} {G : Cx} {d : Nat} {h0 : Hp} (hd : 8 ≤ d) {Q : Hp → Prop} {v1 : Int32} {v2 : Int32} {h : Hp} (hm : m_X12_readGroup_66 Q v1 v2 h) : Rn l G d 0 0 MX12_readGroup h0 (qV Q) 66 [some (tR 12 0 (some 51)), some (tI v1), some (tI v2)] [] h 0 0 := by
  unfold m_X12_readGroup_66 at hm
  refine r_iload_n dX12_readGroup_66 rfl rfl ?_
  refine r_bipush (v := 6) dX12_readGroup_67 rfl ?_
  refine r_icmp_ne (tgt := 117) dX12_readGroup_69 rfl (fun hc => ?_) (fun hc => ?_)
  · replace hm := hm.1 hc
    refine r_keep (L' := [some (tR 12 0 (some 51)), some (tI v1), some (tI v2)]) [true, true, true] rfl ?_
    exact s_X12_readGroup_117 hd hm
  · replace hm := hm.2 hc
    refine r_aload_n dX12_readGroup_72 rfl rfl ?_
    refine r_getC (k := 8) cl_12 dX12_readGroup_73 t_1280 gf_12_8.1 gf_12_8.2 (gc_12_8 _) ?_
    refine r_iload_n dX12_readGroup_76 rfl rfl ?_
    refine r_aload_n dX12_readGroup_77 rfl rfl ?_
    refine r_callVI (d' := d - 1) (as := []) (st := [tI v2, tR 40 2304 (some 59)]) cl_12 dX12_readGroup_78 mi_X12_eventHere t_1656 t_1658 ts_73 rfl rfl (Nat.le_of_ble_eq_true rfl) (by omega) ⟨by decide, by decide⟩ ⟨rfl, rfl⟩ (s_X12_eventHere (by omega) hm) (fun x5 h6 hm => ?_)
    refine r_iast dX12_readGroup_81 hm.1 ?_
    replace hm := hm.2
    refine r_aload_n dX12_readGroup_82 rfl rfl ?_
    refine r_getC (k := 8) cl_12 dX12_readGroup_83 t_1280 gf_12_8.1 gf_12_8.2 (gc_12_8 _) ?_
    refine r_iload_n dX12_readGroup_86 rfl rfl ?_
    refine r_iald dX12_readGroup_87 hm.1 ?_
    replace hm := hm.2
    refine r_if_ge (tgt := 96) dX12_readGroup_88 rfl (fun hc => ?_) (fun hc => ?_)
    · replace hm := hm.1 hc
      refine r_aload_n dX12_readGroup_96 rfl rfl ?_
      refine r_dup dX12_readGroup_97 cv_cat1R ?_
      refine r_getI (k := 36) cl_12 dX12_readGroup_98 t_1308 (Or.inl rfl) gf_12_36 ?_
      refine r_iconst (v := 1) dX12_readGroup_101 rfl ?_
      refine r_aload_n dX12_readGroup_102 rfl rfl ?_
      refine r_getC (k := 8) cl_12 dX12_readGroup_103 t_1280 gf_12_8.1 gf_12_8.2 (gc_12_8 _) ?_
      refine r_iload_n dX12_readGroup_106 rfl rfl ?_
      refine r_iald dX12_readGroup_107 hm.1 ?_
      replace hm := hm.2
      refine r_ishl dX12_readGroup_108 ?_
      refine r_ior dX12_readGroup_109 ?_
      refine r_putI0 (k := 36) cl_12 dX12_readGroup_110 t_1308 (Or.inl rfl) gf_12_36 pf_12_36.1 (Or.inl pf_12_36.2) ?_
      refine r_aload_n dX12_readGroup_113 rfl rfl ?_
      refine r_callVU (d' := d - 1) (as := []) (st := []) cl_12 dX12_readGroup_114 mi_X12_next t_1572 t_1574 ts_58 rfl rfl (Nat.le_of_ble_eq_true rfl) (by omega) ⟨by decide, by decide⟩ ⟨rfl, rfl⟩ (s_X12_next (by omega) hm) (fun h8 hm => ?_)
      refine r_keep (L' := [some (tR 12 0 (some 51)), some (tI v1), some (tI v2)]) [true, true, true] rfl ?_
      exact s_X12_readGroup_117 hd hm
    · replace hm := hm.2 hc
      refine r_aload_n dX12_readGroup_91 rfl rfl ?_
      refine r_callVU (d' := d - 1) (as := []) (st := []) cl_12 dX12_readGroup_92 mi_X12_errs t_1595 t_1597 ts_61 rfl rfl (Nat.le_of_ble_eq_true rfl) (by omega) ⟨by decide, by decide⟩ ⟨rfl, rfl⟩ (s_X12_errs (by omega) hm) (fun h10 hm => ?_)
      exact r_return dX12_readGroup_95 rfl ⟨by decide, by decide⟩ ⟨rfl, hm⟩
def m_X12_readGroup_48  (Q : Hp → Prop) (v1 : Int32) (v2 : Int32) (h : Hp) : Prop := (¬ v1 = 5 → m_X12_readGroup_66 Q v1 v2 h) ∧ (v1 = 5 → m_X12_numeral 0 9 h (fun (x11 : Int32) (h12 : Hp) => vp_in v2 2304 ∧ (m_X12_readGroup_66 Q v1 v2 (wI h12 59 (ix v2) x11))))
set_option maxHeartbeats 4000000 in
set_option maxRecDepth 100000 in
theorem s_X12_readGroup_48 {l : Launch} {G : Cx} {d : Nat} {h0 : Hp} (hd : 8 ≤ d) {Q : Hp → Prop} {v1 : Int32} {v2 : Int32} {h : Hp} (hm : m_X12_readGroup_48 Q v1 v2 h) : Rn l G d 0 0 MX12_readGroup h0 (qV Q) 48 [some (tR 12 0 (some 51)), some (tI v1), some (tI v2)] [] h 0 0 := by
  unfold m_X12_readGroup_48 at hm
  refine r_iload_n dX12_readGroup_48 rfl rfl ?_
  refine r_iconst (v := 5) dX12_readGroup_49 rfl ?_
  refine r_icmp_ne (tgt := 66) dX12_readGroup_50 rfl (fun hc => ?_) (fun hc => ?_)
  · replace hm := hm.1 hc
    refine r_keep (L' := [some (tR 12 0 (some 51)), some (tI v1), some (tI v2)]) [true, true, true] rfl ?_
    exact s_X12_readGroup_66 hd hm
  · replace hm := hm.2 hc
    refine r_aload_n dX12_readGroup_53 rfl rfl ?_
    refine r_getC (k := 8) cl_12 dX12_readGroup_54 t_1280 gf_12_8.1 gf_12_8.2 (gc_12_8 _) ?_
    refine r_iload_n dX12_readGroup_57 rfl rfl ?_
    refine r_aload_n dX12_readGroup_58 rfl rfl ?_
    refine r_iconst (v := 0) dX12_readGroup_59 rfl ?_
    refine r_bipush (v := 9) dX12_readGroup_60 rfl ?_
    refine r_callVI (d' := d - 1) (as := [tI 0, tI 9]) (st := [tI v2, tR 40 2304 (some 59)]) cl_12 dX12_readGroup_62 mi_X12_numeral t_1626 t_1628 ts_67 rfl rfl (Nat.le_of_ble_eq_true rfl) (by omega) ⟨by decide, by decide⟩ ⟨rfl, rfl⟩ (s_X12_numeral (by omega) hm) (fun x11 h12 hm => ?_)
    refine r_iast dX12_readGroup_65 hm.1 ?_
    replace hm := hm.2
    refine r_keep (L' := [some (tR 12 0 (some 51)), some (tI v1), some (tI v2)]) [true, true, true] rfl ?_
    exact s_X12_readGroup_66 hd hm
def m_X12_readGroup_19  (Q : Hp → Prop) (v1 : Int32) (h : Hp) : Prop := m_X12_newNode v1 h (fun (x13 : Int32) (h14 : Hp) => m_X12_next h14 (fun (h16 : Hp) => (¬ v1 = 4 → m_X12_readGroup_48 Q v1 x13 h16) ∧ (v1 = 4 → m_X12_numeral 0 399 h16 (fun (x17 : Int32) (h18 : Hp) => vp_in x13 2304 ∧ (m_X12_readGroup_48 Q v1 x13 (wI h18 59 (ix x13) x17))))))
set_option maxHeartbeats 4000000 in
set_option maxRecDepth 100000 in
theorem s_X12_readGroup_19 {l : Launch} {G : Cx} {d : Nat} {h0 : Hp} (hd : 8 ≤ d) {Q : Hp → Prop} {v1 : Int32} {h : Hp} (hm : m_X12_readGroup_19 Q v1 h) : Rn l G d 0 0 MX12_readGroup h0 (qV Q) 19 [some (tR 12 0 (some 51)), some (tI v1)] [] h 0 0 := by
  unfold m_X12_readGroup_19 at hm
  refine r_aload_n dX12_readGroup_19 rfl rfl ?_
  refine r_iload_n dX12_readGroup_20 rfl rfl ?_
  refine r_callVI (d' := d - 1) (as := [tI v1]) (st := []) cl_12 dX12_readGroup_21 mi_X12_newNode t_1603 t_1605 ts_63 rfl rfl (Nat.le_of_ble_eq_true rfl) (by omega) ⟨by decide, by decide⟩ ⟨rfl, rfl⟩ (s_X12_newNode (by omega) hm) (fun x13 h14 hm => ?_)
  refine r_istore_n (L' := [some (tR 12 0 (some 51)), some (tI v1), some (tI x13)]) dX12_readGroup_24 rfl (by decide) rfl ?_
  refine r_aload_n dX12_readGroup_25 rfl rfl ?_
  refine r_callVU (d' := d - 1) (as := []) (st := []) cl_12 dX12_readGroup_26 mi_X12_next t_1572 t_1574 ts_58 rfl rfl (Nat.le_of_ble_eq_true rfl) (by omega) ⟨by decide, by decide⟩ ⟨rfl, rfl⟩ (s_X12_next (by omega) hm) (fun h16 hm => ?_)
  refine r_iload_n dX12_readGroup_29 rfl rfl ?_
  refine r_iconst (v := 4) dX12_readGroup_30 rfl ?_
  refine r_icmp_ne (tgt := 48) dX12_readGroup_31 rfl (fun hc => ?_) (fun hc => ?_)
  · replace hm := hm.1 hc
    refine r_keep (L' := [some (tR 12 0 (some 51)), some (tI v1), some (tI x13)]) [true, true, true] rfl ?_
    exact s_X12_readGroup_48 hd hm
  · replace hm := hm.2 hc
    refine r_aload_n dX12_readGroup_34 rfl rfl ?_
    refine r_getC (k := 8) cl_12 dX12_readGroup_35 t_1280 gf_12_8.1 gf_12_8.2 (gc_12_8 _) ?_
    refine r_iload_n dX12_readGroup_38 rfl rfl ?_
    refine r_aload_n dX12_readGroup_39 rfl rfl ?_
    refine r_iconst (v := 0) dX12_readGroup_40 rfl ?_
    refine r_sipush (v := 399) dX12_readGroup_41 rfl ?_
    refine r_callVI (d' := d - 1) (as := [tI 0, tI 399]) (st := [tI x13, tR 40 2304 (some 59)]) cl_12 dX12_readGroup_44 mi_X12_numeral t_1626 t_1628 ts_67 rfl rfl (Nat.le_of_ble_eq_true rfl) (by omega) ⟨by decide, by decide⟩ ⟨rfl, rfl⟩ (s_X12_numeral (by omega) hm) (fun x17 h18 hm => ?_)
    refine r_iast dX12_readGroup_47 hm.1 ?_
    replace hm := hm.2
    refine r_keep (L' := [some (tR 12 0 (some 51)), some (tI v1), some (tI x13)]) [true, true, true] rfl ?_
    exact s_X12_readGroup_48 hd hm
def m_X12_readGroup (v1 : Int32) (h : Hp) (Q : Hp → Prop) : Prop := (¬ v1 = 7 → m_X12_readGroup_19 Q v1 h) ∧ (v1 = 7 → (¬ (hI h 51 35) = 3 → m_X12_readGroup_19 Q v1 h) ∧ ((hI h 51 35) = 3 → m_X12_errs h (fun (h20 : Hp) => Q h20)))
set_option maxHeartbeats 4000000 in
set_option maxRecDepth 100000 in
theorem s_X12_readGroup {l : Launch} {G : Cx} {d : Nat} (hd : 8 ≤ d) {v1 : Int32} {h : Hp} {Q : Hp → Prop} (hm : m_X12_readGroup v1 h Q) : Ct l G d 0 0 yX12_readGroup MX12_readGroup [tR 12 0 (some 51), tI v1] h (qV Q) := by
  unfold m_X12_readGroup at hm
  refine Ct.of (L := [some (tR 12 0 (some 51)), some (tI v1)]) (by decide) rfl rfl (Nat.le_of_ble_eq_true rfl) rfl ?_
  refine r_iload_n dX12_readGroup_0 rfl rfl ?_
  refine r_bipush (v := 7) dX12_readGroup_1 rfl ?_
  refine r_icmp_ne (tgt := 19) dX12_readGroup_3 rfl (fun hc => ?_) (fun hc => ?_)
  · replace hm := hm.1 hc
    refine r_keep (L' := [some (tR 12 0 (some 51)), some (tI v1)]) [true, true] rfl ?_
    exact s_X12_readGroup_19 hd hm
  · replace hm := hm.2 hc
    refine r_aload_n dX12_readGroup_6 rfl rfl ?_
    refine r_getI (k := 35) cl_12 dX12_readGroup_7 t_1307 (Or.inl rfl) gf_12_35 ?_
    refine r_iconst (v := 3) dX12_readGroup_10 rfl ?_
    refine r_icmp_ne (tgt := 19) dX12_readGroup_11 rfl (fun hc => ?_) (fun hc => ?_)
    · replace hm := hm.1 hc
      refine r_keep (L' := [some (tR 12 0 (some 51)), some (tI v1)]) [true, true] rfl ?_
      exact s_X12_readGroup_19 hd hm
    · replace hm := hm.2 hc
      refine r_aload_n dX12_readGroup_14 rfl rfl ?_
      refine r_callVU (d' := d - 1) (as := []) (st := []) cl_12 dX12_readGroup_15 mi_X12_errs t_1595 t_1597 ts_61 rfl rfl (Nat.le_of_ble_eq_true rfl) (by omega) ⟨by decide, by decide⟩ ⟨rfl, rfl⟩ (s_X12_errs (by omega) hm) (fun h20 hm => ?_)
      exact r_return dX12_readGroup_18 rfl ⟨by decide, by decide⟩ ⟨rfl, hm⟩
theorem dX12_closes_0 : decode cX12_closes 0 = .ok (.aload_n 0, 1) := by decide +kernel
theorem dX12_closes_1 : decode cX12_closes 1 = .ok (.getfield 220, 3) := by decide +kernel
theorem dX12_closes_4 : decode cX12_closes 4 = .ok (.ifCond .ne 187, 3) := by decide +kernel
theorem dX12_closes_7 : decode cX12_closes 7 = .ok (.aload_n 0, 1) := by decide +kernel
theorem dX12_closes_8 : decode cX12_closes 8 = .ok (.getfield 214, 3) := by decide +kernel
theorem dX12_closes_11 : decode cX12_closes 11 = .ok (.bipush 44, 2) := by decide +kernel
theorem dX12_closes_13 : decode cX12_closes 13 = .ok (.if_icmp .ne 9, 3) := by decide +kernel
theorem dX12_closes_16 : decode cX12_closes 16 = .ok (.aload_n 0, 1) := by decide +kernel
theorem dX12_closes_17 : decode cX12_closes 17 = .ok (.invokevirtual 228, 3) := by decide +kernel
theorem dX12_closes_20 : decode cX12_closes 20 = .ok (.iconst 1, 1) := by decide +kernel
theorem dX12_closes_21 : decode cX12_closes 21 = .ok (.ireturn, 1) := by decide +kernel
theorem dX12_closes_22 : decode cX12_closes 22 = .ok (.aload_n 0, 1) := by decide +kernel
theorem dX12_closes_23 : decode cX12_closes 23 = .ok (.getfield 214, 3) := by decide +kernel
theorem dX12_closes_26 : decode cX12_closes 26 = .ok (.bipush 125, 2) := by decide +kernel
theorem dX12_closes_28 : decode cX12_closes 28 = .ok (.if_icmp .ne 143, 3) := by decide +kernel
theorem dX12_closes_31 : decode cX12_closes 31 = .ok (.aload_n 0, 1) := by decide +kernel
theorem dX12_closes_32 : decode cX12_closes 32 = .ok (.getfield 283, 3) := by decide +kernel
theorem dX12_closes_35 : decode cX12_closes 35 = .ok (.ifCond .le 136, 3) := by decide +kernel
theorem dX12_closes_38 : decode cX12_closes 38 = .ok (.aload_n 0, 1) := by decide +kernel
theorem dX12_closes_39 : decode cX12_closes 39 = .ok (.invokevirtual 228, 3) := by decide +kernel
theorem dX12_closes_42 : decode cX12_closes 42 = .ok (.aload_n 0, 1) := by decide +kernel
theorem dX12_closes_43 : decode cX12_closes 43 = .ok (.dup, 1) := by decide +kernel
theorem dX12_closes_44 : decode cX12_closes 44 = .ok (.getfield 283, 3) := by decide +kernel
theorem dX12_closes_47 : decode cX12_closes 47 = .ok (.iconst 1, 1) := by decide +kernel
theorem dX12_closes_48 : decode cX12_closes 48 = .ok (.isub, 1) := by decide +kernel
theorem dX12_closes_49 : decode cX12_closes 49 = .ok (.putfield 283, 3) := by decide +kernel
theorem dX12_closes_52 : decode cX12_closes 52 = .ok (.aload_n 0, 1) := by decide +kernel
theorem dX12_closes_53 : decode cX12_closes 53 = .ok (.getfield 75, 3) := by decide +kernel
theorem dX12_closes_56 : decode cX12_closes 56 = .ok (.aload_n 0, 1) := by decide +kernel
theorem dX12_closes_57 : decode cX12_closes 57 = .ok (.getfield 283, 3) := by decide +kernel
theorem dX12_closes_60 : decode cX12_closes 60 = .ok (.iaload, 1) := by decide +kernel
theorem dX12_closes_61 : decode cX12_closes 61 = .ok (.istore_n 1, 1) := by decide +kernel
theorem dX12_closes_62 : decode cX12_closes 62 = .ok (.aload_n 0, 1) := by decide +kernel
theorem dX12_closes_63 : decode cX12_closes 63 = .ok (.getfield 78, 3) := by decide +kernel
theorem dX12_closes_66 : decode cX12_closes 66 = .ok (.aload_n 0, 1) := by decide +kernel
theorem dX12_closes_67 : decode cX12_closes 67 = .ok (.getfield 283, 3) := by decide +kernel
theorem dX12_closes_70 : decode cX12_closes 70 = .ok (.iaload, 1) := by decide +kernel
theorem dX12_closes_71 : decode cX12_closes 71 = .ok (.ifCond .ne 49, 3) := by decide +kernel
theorem dX12_closes_74 : decode cX12_closes 74 = .ok (.aload_n 0, 1) := by decide +kernel
theorem dX12_closes_75 : decode cX12_closes 75 = .ok (.getfield 28, 3) := by decide +kernel
theorem dX12_closes_78 : decode cX12_closes 78 = .ok (.iload_n 1, 1) := by decide +kernel
theorem dX12_closes_79 : decode cX12_closes 79 = .ok (.iaload, 1) := by decide +kernel
theorem dX12_closes_80 : decode cX12_closes 80 = .ok (.bipush 6, 2) := by decide +kernel
theorem dX12_closes_82 : decode cX12_closes 82 = .ok (.if_icmp .ne 13, 3) := by decide +kernel
theorem dX12_closes_85 : decode cX12_closes 85 = .ok (.aload_n 0, 1) := by decide +kernel
theorem dX12_closes_86 : decode cX12_closes 86 = .ok (.ldc2_w 328, 3) := by decide +kernel
theorem dX12_closes_89 : decode cX12_closes 89 = .ok (.invokevirtual 224, 3) := by decide +kernel
theorem dX12_closes_92 : decode cX12_closes 92 = .ok (.ifCond .ne 24, 3) := by decide +kernel
theorem dX12_closes_95 : decode cX12_closes 95 = .ok (.aload_n 0, 1) := by decide +kernel
theorem dX12_closes_96 : decode cX12_closes 96 = .ok (.getfield 28, 3) := by decide +kernel
theorem dX12_closes_99 : decode cX12_closes 99 = .ok (.iload_n 1, 1) := by decide +kernel
theorem dX12_closes_100 : decode cX12_closes 100 = .ok (.iaload, 1) := by decide +kernel
theorem dX12_closes_101 : decode cX12_closes 101 = .ok (.bipush 7, 2) := by decide +kernel
theorem dX12_closes_103 : decode cX12_closes 103 = .ok (.if_icmp .ne 17, 3) := by decide +kernel
theorem dX12_closes_106 : decode cX12_closes 106 = .ok (.aload_n 0, 1) := by decide +kernel
theorem dX12_closes_107 : decode cX12_closes 107 = .ok (.ldc2_w 330, 3) := by decide +kernel
theorem dX12_closes_110 : decode cX12_closes 110 = .ok (.invokevirtual 224, 3) := by decide +kernel
theorem dX12_closes_113 : decode cX12_closes 113 = .ok (.ifCond .eq 7, 3) := by decide +kernel
theorem dX12_closes_116 : decode cX12_closes 116 = .ok (.iconst 1, 1) := by decide +kernel
theorem dX12_closes_117 : decode cX12_closes 117 = .ok (.goto 4, 3) := by decide +kernel
theorem dX12_closes_120 : decode cX12_closes 120 = .ok (.iconst 0, 1) := by decide +kernel
theorem dX12_closes_121 : decode cX12_closes 121 = .ok (.istore_n 2, 1) := by decide +kernel
theorem dX12_closes_122 : decode cX12_closes 122 = .ok (.aload_n 0, 1) := by decide +kernel
theorem dX12_closes_123 : decode cX12_closes 123 = .ok (.getfield 40, 3) := by decide +kernel
theorem dX12_closes_126 : decode cX12_closes 126 = .ok (.iload_n 1, 1) := by decide +kernel
theorem dX12_closes_127 : decode cX12_closes 127 = .ok (.aload_n 0, 1) := by decide +kernel
theorem dX12_closes_128 : decode cX12_closes 128 = .ok (.getfield 277, 3) := by decide +kernel
theorem dX12_closes_131 : decode cX12_closes 131 = .ok (.aload_n 0, 1) := by decide +kernel
theorem dX12_closes_132 : decode cX12_closes 132 = .ok (.getfield 280, 3) := by decide +kernel
theorem dX12_closes_135 : decode cX12_closes 135 = .ok (.iadd, 1) := by decide +kernel
theorem dX12_closes_136 : decode cX12_closes 136 = .ok (.iastore, 1) := by decide +kernel
theorem dX12_closes_137 : decode cX12_closes 137 = .ok (.iload_n 2, 1) := by decide +kernel
theorem dX12_closes_138 : decode cX12_closes 138 = .ok (.ifCond .eq 30, 3) := by decide +kernel
theorem dX12_closes_141 : decode cX12_closes 141 = .ok (.aload_n 0, 1) := by decide +kernel
theorem dX12_closes_142 : decode cX12_closes 142 = .ok (.invokevirtual 228, 3) := by decide +kernel
theorem dX12_closes_145 : decode cX12_closes 145 = .ok (.aload_n 0, 1) := by decide +kernel
theorem dX12_closes_146 : decode cX12_closes 146 = .ok (.getfield 43, 3) := by decide +kernel
theorem dX12_closes_149 : decode cX12_closes 149 = .ok (.iload_n 1, 1) := by decide +kernel
theorem dX12_closes_150 : decode cX12_closes 150 = .ok (.aload_n 0, 1) := by decide +kernel
theorem dX12_closes_151 : decode cX12_closes 151 = .ok (.getfield 277, 3) := by decide +kernel
theorem dX12_closes_154 : decode cX12_closes 154 = .ok (.aload_n 0, 1) := by decide +kernel
theorem dX12_closes_155 : decode cX12_closes 155 = .ok (.getfield 280, 3) := by decide +kernel
theorem dX12_closes_158 : decode cX12_closes 158 = .ok (.iadd, 1) := by decide +kernel
theorem dX12_closes_159 : decode cX12_closes 159 = .ok (.iastore, 1) := by decide +kernel
theorem dX12_closes_160 : decode cX12_closes 160 = .ok (.aload_n 0, 1) := by decide +kernel
theorem dX12_closes_161 : decode cX12_closes 161 = .ok (.iload_n 1, 1) := by decide +kernel
theorem dX12_closes_162 : decode cX12_closes 162 = .ok (.iconst 1, 1) := by decide +kernel
theorem dX12_closes_163 : decode cX12_closes 163 = .ok (.invokevirtual 324, 3) := by decide +kernel
theorem dX12_closes_166 : decode cX12_closes 166 = .ok (.iconst 1, 1) := by decide +kernel
theorem dX12_closes_167 : decode cX12_closes 167 = .ok (.ireturn, 1) := by decide +kernel
theorem dX12_closes_168 : decode cX12_closes 168 = .ok (.goto (-168), 3) := by decide +kernel
theorem dX12_closes_171 : decode cX12_closes 171 = .ok (.aload_n 0, 1) := by decide +kernel
theorem dX12_closes_172 : decode cX12_closes 172 = .ok (.getfield 214, 3) := by decide +kernel
theorem dX12_closes_175 : decode cX12_closes 175 = .ok (.ifCond .ne 10, 3) := by decide +kernel
theorem dX12_closes_178 : decode cX12_closes 178 = .ok (.aload_n 0, 1) := by decide +kernel
theorem dX12_closes_179 : decode cX12_closes 179 = .ok (.getfield 283, 3) := by decide +kernel
theorem dX12_closes_182 : decode cX12_closes 182 = .ok (.ifCond .le 7, 3) := by decide +kernel
theorem dX12_closes_185 : decode cX12_closes 185 = .ok (.aload_n 0, 1) := by decide +kernel
theorem dX12_closes_186 : decode cX12_closes 186 = .ok (.invokevirtual 231, 3) := by decide +kernel
theorem dX12_closes_189 : decode cX12_closes 189 = .ok (.iconst 0, 1) := by decide +kernel
theorem dX12_closes_190 : decode cX12_closes 190 = .ok (.ireturn, 1) := by decide +kernel
theorem dX12_closes_191 : decode cX12_closes 191 = .ok (.iconst 0, 1) := by decide +kernel
theorem dX12_closes_192 : decode cX12_closes 192 = .ok (.ireturn, 1) := by decide +kernel
def m_X12_closes_185  (Q : Int32 → Hp → Prop) (h : Hp) : Prop := m_X12_errs h (fun (h2 : Hp) => Q 0 h2)
set_option maxHeartbeats 4000000 in
set_option maxRecDepth 100000 in
theorem s_X12_closes_185 {l : Launch} {G : Cx} {d : Nat} {h0 : Hp} (hd : 8 ≤ d) {Q : Int32 → Hp → Prop} {h : Hp} (hm : m_X12_closes_185 Q h) : Rn l G d 0 0 MX12_closes h0 (qI Q) 185 [some (tR 12 0 (some 51))] [] h 0 0 := by
  unfold m_X12_closes_185 at hm
  refine r_aload_n dX12_closes_185 rfl rfl ?_
  refine r_callVU (d' := d - 1) (as := []) (st := []) cl_12 dX12_closes_186 mi_X12_errs t_1595 t_1597 ts_61 rfl rfl (Nat.le_of_ble_eq_true rfl) (by omega) ⟨by decide, by decide⟩ ⟨rfl, rfl⟩ (s_X12_errs (by omega) hm) (fun h2 hm => ?_)
  refine r_iconst (v := 0) dX12_closes_189 rfl ?_
  exact r_bret dX12_closes_190 rfl ⟨by decide, by decide⟩ (by unfold bz; decide) ⟨_, rfl, hm⟩
def m_X12_closes_171  (Q : Int32 → Hp → Prop) (h : Hp) : Prop := (¬ (hI h 51 26) = 0 → m_X12_closes_185 Q h) ∧ ((hI h 51 26) = 0 → ((hI h 51 32) ≤ 0 → Q 0 h) ∧ (¬ (hI h 51 32) ≤ 0 → m_X12_closes_185 Q h))
set_option maxHeartbeats 4000000 in
set_option maxRecDepth 100000 in
theorem s_X12_closes_171 {l : Launch} {G : Cx} {d : Nat} {h0 : Hp} (hd : 8 ≤ d) {Q : Int32 → Hp → Prop} {h : Hp} (hm : m_X12_closes_171 Q h) : Rn l G d 0 0 MX12_closes h0 (qI Q) 171 [some (tR 12 0 (some 51))] [] h 0 0 := by
  unfold m_X12_closes_171 at hm
  refine r_aload_n dX12_closes_171 rfl rfl ?_
  refine r_getI (k := 26) cl_12 dX12_closes_172 t_1298 (Or.inl rfl) gf_12_26 ?_
  refine r_if_ne (tgt := 185) dX12_closes_175 rfl (fun hc => ?_) (fun hc => ?_)
  · replace hm := hm.1 hc
    refine r_keep (L' := [some (tR 12 0 (some 51))]) [true] rfl ?_
    exact s_X12_closes_185 hd hm
  · replace hm := hm.2 hc
    refine r_aload_n dX12_closes_178 rfl rfl ?_
    refine r_getI (k := 32) cl_12 dX12_closes_179 t_1304 (Or.inl rfl) gf_12_32 ?_
    refine r_if_le (tgt := 189) dX12_closes_182 rfl (fun hc => ?_) (fun hc => ?_)
    · replace hm := hm.1 hc
      refine r_iconst (v := 0) dX12_closes_189 rfl ?_
      exact r_bret dX12_closes_190 rfl ⟨by decide, by decide⟩ (by unfold bz; decide) ⟨_, rfl, hm⟩
    · replace hm := hm.2 hc
      refine r_keep (L' := [some (tR 12 0 (some 51))]) [true] rfl ?_
      exact s_X12_closes_185 hd hm
def m_X12_closes_141  (Q : Int32 → Hp → Prop) (v1 : Int32) (h : Hp) : Prop := m_X12_next h (fun (h4 : Hp) => vp_in v1 2304 ∧ (m_X12_opens v1 1 (wI h4 63 (ix v1) ((hI h4 51 37) + (hI h4 51 33))) (fun (h6 : Hp) => Q 1 h6)))
set_option maxHeartbeats 4000000 in
set_option maxRecDepth 100000 in
theorem s_X12_closes_141 {l : Launch} {G : Cx} {d : Nat} {h0 : Hp} (hd : 8 ≤ d) {Q : Int32 → Hp → Prop} {v1 : Int32} {h : Hp} (hm : m_X12_closes_141 Q v1 h) : Rn l G d 0 0 MX12_closes h0 (qI Q) 141 [some (tR 12 0 (some 51)), some (tI v1)] [] h 0 0 := by
  unfold m_X12_closes_141 at hm
  refine r_aload_n dX12_closes_141 rfl rfl ?_
  refine r_callVU (d' := d - 1) (as := []) (st := []) cl_12 dX12_closes_142 mi_X12_next t_1572 t_1574 ts_58 rfl rfl (Nat.le_of_ble_eq_true rfl) (by omega) ⟨by decide, by decide⟩ ⟨rfl, rfl⟩ (s_X12_next (by omega) hm) (fun h4 hm => ?_)
  refine r_aload_n dX12_closes_145 rfl rfl ?_
  refine r_getC (k := 12) cl_12 dX12_closes_146 t_1284 gf_12_12.1 gf_12_12.2 (gc_12_12 _) ?_
  refine r_iload_n dX12_closes_149 rfl rfl ?_
  refine r_aload_n dX12_closes_150 rfl rfl ?_
  refine r_getI (k := 37) cl_12 dX12_closes_151 t_1309 (Or.inl rfl) gf_12_37 ?_
  refine r_aload_n dX12_closes_154 rfl rfl ?_
  refine r_getI (k := 33) cl_12 dX12_closes_155 t_1305 (Or.inl rfl) gf_12_33 ?_
  refine r_iadd dX12_closes_158 ?_
  refine r_iast dX12_closes_159 hm.1 ?_
  replace hm := hm.2
  refine r_aload_n dX12_closes_160 rfl rfl ?_
  refine r_iload_n dX12_closes_161 rfl rfl ?_
  refine r_iconst (v := 1) dX12_closes_162 rfl ?_
  refine r_callVU (d' := d - 1) (as := [tI v1, tI 1]) (st := []) cl_12 dX12_closes_163 mi_X12_opens t_1648 t_1650 ts_71 rfl rfl (Nat.le_of_ble_eq_true rfl) (by omega) ⟨by decide, by decide⟩ ⟨rfl, rfl⟩ (s_X12_opens (by omega) hm) (fun h6 hm => ?_)
  refine r_iconst (v := 1) dX12_closes_166 rfl ?_
  exact r_bret dX12_closes_167 rfl ⟨by decide, by decide⟩ (by unfold bz; decide) ⟨_, rfl, hm⟩
def m_X12_closes_121 (k0 : Hp → Prop) (k16 : Hp → Prop) (k141 : Int32 → Hp → Prop) (k171 : Hp → Prop) (Q : Int32 → Hp → Prop) (v1 : Int32) (s0 : Int32) (h : Hp) : Prop := vp_in v1 2304 ∧ ((s0 = 0 → k0 (wI h 62 (ix v1) ((hI h 51 37) + (hI h 51 33)))) ∧ (¬ s0 = 0 → k141 v1 (wI h 62 (ix v1) ((hI h 51 37) + (hI h 51 33)))))
set_option maxHeartbeats 4000000 in
set_option maxRecDepth 100000 in
theorem s_X12_closes_121 {l : Launch} {G : Cx} {d : Nat} {h0 : Hp} (hd : 8 ≤ d) {k0 : Hp → Prop} {k16 : Hp → Prop} {k141 : Int32 → Hp → Prop} {k171 : Hp → Prop} {Q : Int32 → Hp → Prop} (hk0 : ∀ (hh : Hp), k0 hh → Rn l G d 0 0 MX12_closes h0 (qI Q) 0 [some (tR 12 0 (some 51))] [] hh 0 0) (hk16 : ∀ (hh : Hp), k16 hh → Rn l G d 0 0 MX12_closes h0 (qI Q) 16 [some (tR 12 0 (some 51))] [] hh 0 0) (hk141 : ∀ (v1 : Int32) (hh : Hp), k141 v1 hh → Rn l G d 0 0 MX12_closes h0 (qI Q) 141 [some (tR 12 0 (some 51)), some (tI v1)] [] hh 0 0) (hk171 : ∀ (hh : Hp), k171 hh → Rn l G d 0 0 MX12_closes h0 (qI Q) 171 [some (tR 12 0 (some 51))] [] hh 0 0) {v1 : Int32} {s0 : Int32} {h : Hp} (hm : m_X12_closes_121 k0 k16 k141 k171 Q v1 s0 h) : Rn l G d 0 0 MX12_closes h0 (qI Q) 121 [some (tR 12 0 (some 51)), some (tI v1)] [tI s0] h 0 0 := by
  unfold m_X12_closes_121 at hm
  refine r_istore_n (L' := [some (tR 12 0 (some 51)), some (tI v1), some (tI s0)]) dX12_closes_121 rfl (by decide) rfl ?_
  refine r_aload_n dX12_closes_122 rfl rfl ?_
  refine r_getC (k := 11) cl_12 dX12_closes_123 t_1283 gf_12_11.1 gf_12_11.2 (gc_12_11 _) ?_
  refine r_iload_n dX12_closes_126 rfl rfl ?_
  refine r_aload_n dX12_closes_127 rfl rfl ?_
  refine r_getI (k := 37) cl_12 dX12_closes_128 t_1309 (Or.inl rfl) gf_12_37 ?_
  refine r_aload_n dX12_closes_131 rfl rfl ?_
  refine r_getI (k := 33) cl_12 dX12_closes_132 t_1305 (Or.inl rfl) gf_12_33 ?_
  refine r_iadd dX12_closes_135 ?_
  refine r_iast dX12_closes_136 hm.1 ?_
  replace hm := hm.2
  refine r_iload_n dX12_closes_137 rfl rfl ?_
  refine r_if_eq (tgt := 168) dX12_closes_138 rfl (fun hc => ?_) (fun hc => ?_)
  · replace hm := hm.1 hc
    refine r_goto (tgt := 0) dX12_closes_168 rfl ?_
    refine r_keep (L' := [some (tR 12 0 (some 51))]) [true] rfl ?_
    exact hk0 _ hm
  · replace hm := hm.2 hc
    refine r_keep (L' := [some (tR 12 0 (some 51)), some (tI v1)]) [true, true] rfl ?_
    exact hk141 _ _ hm
def m_X12_closes_120 (k0 : Hp → Prop) (k16 : Hp → Prop) (k141 : Int32 → Hp → Prop) (k171 : Hp → Prop) (Q : Int32 → Hp → Prop) (v1 : Int32) (h : Hp) : Prop := m_X12_closes_121 k0 k16 k141 k171 Q v1 0 h
set_option maxHeartbeats 4000000 in
set_option maxRecDepth 100000 in
theorem s_X12_closes_120 {l : Launch} {G : Cx} {d : Nat} {h0 : Hp} (hd : 8 ≤ d) {k0 : Hp → Prop} {k16 : Hp → Prop} {k141 : Int32 → Hp → Prop} {k171 : Hp → Prop} {Q : Int32 → Hp → Prop} (hk0 : ∀ (hh : Hp), k0 hh → Rn l G d 0 0 MX12_closes h0 (qI Q) 0 [some (tR 12 0 (some 51))] [] hh 0 0) (hk16 : ∀ (hh : Hp), k16 hh → Rn l G d 0 0 MX12_closes h0 (qI Q) 16 [some (tR 12 0 (some 51))] [] hh 0 0) (hk141 : ∀ (v1 : Int32) (hh : Hp), k141 v1 hh → Rn l G d 0 0 MX12_closes h0 (qI Q) 141 [some (tR 12 0 (some 51)), some (tI v1)] [] hh 0 0) (hk171 : ∀ (hh : Hp), k171 hh → Rn l G d 0 0 MX12_closes h0 (qI Q) 171 [some (tR 12 0 (some 51))] [] hh 0 0) {v1 : Int32} {h : Hp} (hm : m_X12_closes_120 k0 k16 k141 k171 Q v1 h) : Rn l G d 0 0 MX12_closes h0 (qI Q) 120 [some (tR 12 0 (some 51)), some (tI v1)] [] h 0 0 := by
  unfold m_X12_closes_120 at hm
  refine r_iconst (v := 0) dX12_closes_120 rfl ?_
  refine r_keep (L' := [some (tR 12 0 (some 51)), some (tI v1)]) [true, true] rfl ?_
  exact s_X12_closes_121 hd hk0 hk16 hk141 hk171 hm
def m_X12_closes_116 (k0 : Hp → Prop) (k16 : Hp → Prop) (k141 : Int32 → Hp → Prop) (k171 : Hp → Prop) (Q : Int32 → Hp → Prop) (v1 : Int32) (h : Hp) : Prop := m_X12_closes_121 k0 k16 k141 k171 Q v1 1 h
set_option maxHeartbeats 4000000 in
set_option maxRecDepth 100000 in
theorem s_X12_closes_116 {l : Launch} {G : Cx} {d : Nat} {h0 : Hp} (hd : 8 ≤ d) {k0 : Hp → Prop} {k16 : Hp → Prop} {k141 : Int32 → Hp → Prop} {k171 : Hp → Prop} {Q : Int32 → Hp → Prop} (hk0 : ∀ (hh : Hp), k0 hh → Rn l G d 0 0 MX12_closes h0 (qI Q) 0 [some (tR 12 0 (some 51))] [] hh 0 0) (hk16 : ∀ (hh : Hp), k16 hh → Rn l G d 0 0 MX12_closes h0 (qI Q) 16 [some (tR 12 0 (some 51))] [] hh 0 0) (hk141 : ∀ (v1 : Int32) (hh : Hp), k141 v1 hh → Rn l G d 0 0 MX12_closes h0 (qI Q) 141 [some (tR 12 0 (some 51)), some (tI v1)] [] hh 0 0) (hk171 : ∀ (hh : Hp), k171 hh → Rn l G d 0 0 MX12_closes h0 (qI Q) 171 [some (tR 12 0 (some 51))] [] hh 0 0) {v1 : Int32} {h : Hp} (hm : m_X12_closes_116 k0 k16 k141 k171 Q v1 h) : Rn l G d 0 0 MX12_closes h0 (qI Q) 116 [some (tR 12 0 (some 51)), some (tI v1)] [] h 0 0 := by
  unfold m_X12_closes_116 at hm
  refine r_iconst (v := 1) dX12_closes_116 rfl ?_
  refine r_goto (tgt := 121) dX12_closes_117 rfl ?_
  refine r_keep (L' := [some (tR 12 0 (some 51)), some (tI v1)]) [true, true] rfl ?_
  exact s_X12_closes_121 hd hk0 hk16 hk141 hk171 hm
def m_X12_closes_95 (k0 : Hp → Prop) (k16 : Hp → Prop) (k141 : Int32 → Hp → Prop) (k171 : Hp → Prop) (Q : Int32 → Hp → Prop) (v1 : Int32) (h : Hp) : Prop := vp_in v1 2304 ∧ ((¬ (hI h 58 (ix v1)) = 7 → m_X12_closes_120 k0 k16 k141 k171 Q v1 h) ∧ ((hI h 58 (ix v1)) = 7 → m_X12_is 423 h (fun (x7 : Int32) (h8 : Hp) => (x7 = 0 → m_X12_closes_120 k0 k16 k141 k171 Q v1 h8) ∧ (¬ x7 = 0 → m_X12_closes_116 k0 k16 k141 k171 Q v1 h8))))
set_option maxHeartbeats 4000000 in
set_option maxRecDepth 100000 in
theorem s_X12_closes_95 {l : Launch} {G : Cx} {d : Nat} {h0 : Hp} (hd : 8 ≤ d) {k0 : Hp → Prop} {k16 : Hp → Prop} {k141 : Int32 → Hp → Prop} {k171 : Hp → Prop} {Q : Int32 → Hp → Prop} (hk0 : ∀ (hh : Hp), k0 hh → Rn l G d 0 0 MX12_closes h0 (qI Q) 0 [some (tR 12 0 (some 51))] [] hh 0 0) (hk16 : ∀ (hh : Hp), k16 hh → Rn l G d 0 0 MX12_closes h0 (qI Q) 16 [some (tR 12 0 (some 51))] [] hh 0 0) (hk141 : ∀ (v1 : Int32) (hh : Hp), k141 v1 hh → Rn l G d 0 0 MX12_closes h0 (qI Q) 141 [some (tR 12 0 (some 51)), some (tI v1)] [] hh 0 0) (hk171 : ∀ (hh : Hp), k171 hh → Rn l G d 0 0 MX12_closes h0 (qI Q) 171 [some (tR 12 0 (some 51))] [] hh 0 0) {v1 : Int32} {h : Hp} (hm : m_X12_closes_95 k0 k16 k141 k171 Q v1 h) : Rn l G d 0 0 MX12_closes h0 (qI Q) 95 [some (tR 12 0 (some 51)), some (tI v1)] [] h 0 0 := by
  unfold m_X12_closes_95 at hm
  refine r_aload_n dX12_closes_95 rfl rfl ?_
  refine r_getC (k := 7) cl_12 dX12_closes_96 t_1279 gf_12_7.1 gf_12_7.2 (gc_12_7 _) ?_
  refine r_iload_n dX12_closes_99 rfl rfl ?_
  refine r_iald dX12_closes_100 hm.1 ?_
  replace hm := hm.2
  refine r_bipush (v := 7) dX12_closes_101 rfl ?_
  refine r_icmp_ne (tgt := 120) dX12_closes_103 rfl (fun hc => ?_) (fun hc => ?_)
  · replace hm := hm.1 hc
    refine r_keep (L' := [some (tR 12 0 (some 51)), some (tI v1)]) [true, true] rfl ?_
    exact s_X12_closes_120 hd hk0 hk16 hk141 hk171 hm
  · replace hm := hm.2 hc
    refine r_aload_n dX12_closes_106 rfl rfl ?_
    refine r_ldc2_w dX12_closes_107 t_1647 ?_
    refine r_callVI (d' := d - 1) (as := [tJ 423]) (st := []) cl_12 dX12_closes_110 mi_X12_is t_1635 t_1637 ts_69 rfl rfl (Nat.le_of_ble_eq_true rfl) (by omega) ⟨by decide, by decide⟩ ⟨rfl, rfl⟩ (s_X12_is (by omega) hm) (fun x7 h8 hm => ?_)
    refine r_if_eq (tgt := 120) dX12_closes_113 rfl (fun hc => ?_) (fun hc => ?_)
    · replace hm := hm.1 hc
      refine r_keep (L' := [some (tR 12 0 (some 51)), some (tI v1)]) [true, true] rfl ?_
      exact s_X12_closes_120 hd hk0 hk16 hk141 hk171 hm
    · replace hm := hm.2 hc
      refine r_keep (L' := [some (tR 12 0 (some 51)), some (tI v1)]) [true, true] rfl ?_
      exact s_X12_closes_116 hd hk0 hk16 hk141 hk171 hm
def m_X12_closes_16  (Q : Int32 → Hp → Prop) (h : Hp) : Prop := m_X12_next h (fun (h10 : Hp) => Q 1 h10)
set_option maxHeartbeats 4000000 in
set_option maxRecDepth 100000 in
theorem s_X12_closes_16 {l : Launch} {G : Cx} {d : Nat} {h0 : Hp} (hd : 8 ≤ d) {Q : Int32 → Hp → Prop} {h : Hp} (hm : m_X12_closes_16 Q h) : Rn l G d 0 0 MX12_closes h0 (qI Q) 16 [some (tR 12 0 (some 51))] [] h 0 0 := by
  unfold m_X12_closes_16 at hm
  refine r_aload_n dX12_closes_16 rfl rfl ?_
  refine r_callVU (d' := d - 1) (as := []) (st := []) cl_12 dX12_closes_17 mi_X12_next t_1572 t_1574 ts_58 rfl rfl (Nat.le_of_ble_eq_true rfl) (by omega) ⟨by decide, by decide⟩ ⟨rfl, rfl⟩ (s_X12_next (by omega) hm) (fun h10 hm => ?_)
  refine r_iconst (v := 1) dX12_closes_20 rfl ?_
  exact r_bret dX12_closes_21 rfl ⟨by decide, by decide⟩ (by unfold bz; decide) ⟨_, rfl, hm⟩
def m_X12_closes_0 : Nat → (Hp → Prop) → (Int32 → Hp → Prop) → (Hp → Prop) → (Int32 → Hp → Prop) → Hp → Prop
  | 0, _, _, _, _, _ => False
  | n + 1, k16, k141, k171, Q, h => (¬ (hI h 51 29) = 0 → Q 0 h) ∧ ((hI h 51 29) = 0 → (¬ (hI h 51 26) = 44 → (¬ (hI h 51 26) = 125 → k171 h) ∧ ((hI h 51 26) = 125 → ((hI h 51 32) ≤ 0 → k171 h) ∧ (¬ (hI h 51 32) ≤ 0 → m_X12_next h (fun (h12 : Hp) => vp_in (hI (wI h12 51 32 ((hI h12 51 32) - 1)) 51 32) 6 ∧ (∀ x13 : Int32, x13 = (hI (wI h12 51 32 ((hI h12 51 32) - 1)) 72 (ix (hI (wI h12 51 32 ((hI h12 51 32) - 1)) 51 32))) → vp_in (hI (wI h12 51 32 ((hI h12 51 32) - 1)) 51 32) 6 ∧ ((¬ (hI (wI h12 51 32 ((hI h12 51 32) - 1)) 73 (ix (hI (wI h12 51 32 ((hI h12 51 32) - 1)) 51 32))) = 0 → m_X12_closes_120 (fun (hh : Hp) => m_X12_closes_0 n k16 k141 k171 Q hh) k16 k141 k171 Q x13 (wI h12 51 32 ((hI h12 51 32) - 1))) ∧ ((hI (wI h12 51 32 ((hI h12 51 32) - 1)) 73 (ix (hI (wI h12 51 32 ((hI h12 51 32) - 1)) 51 32))) = 0 → vp_in x13 2304 ∧ ((¬ (hI (wI h12 51 32 ((hI h12 51 32) - 1)) 58 (ix x13)) = 6 → m_X12_closes_95 (fun (hh : Hp) => m_X12_closes_0 n k16 k141 k171 Q hh) k16 k141 k171 Q x13 (wI h12 51 32 ((hI h12 51 32) - 1))) ∧ ((hI (wI h12 51 32 ((hI h12 51 32) - 1)) 58 (ix x13)) = 6 → m_X12_is 107681 (wI h12 51 32 ((hI h12 51 32) - 1)) (fun (x14 : Int32) (h15 : Hp) => (¬ x14 = 0 → m_X12_closes_116 (fun (hh : Hp) => m_X12_closes_0 n k16 k141 k171 Q hh) k16 k141 k171 Q x13 h15) ∧ (x14 = 0 → m_X12_closes_95 (fun (hh : Hp) => m_X12_closes_0 n k16 k141 k171 Q hh) k16 k141 k171 Q x13 h15))))))))))) ∧ ((hI h 51 26) = 44 → k16 h))
set_option maxHeartbeats 4000000 in
set_option maxRecDepth 100000 in
theorem s_X12_closes_0 {l : Launch} {G : Cx} {d : Nat} {h0 : Hp} (hd : 8 ≤ d) {k16 : Hp → Prop} {k141 : Int32 → Hp → Prop} {k171 : Hp → Prop} {Q : Int32 → Hp → Prop} (hk16 : ∀ (hh : Hp), k16 hh → Rn l G d 0 0 MX12_closes h0 (qI Q) 16 [some (tR 12 0 (some 51))] [] hh 0 0) (hk141 : ∀ (v1 : Int32) (hh : Hp), k141 v1 hh → Rn l G d 0 0 MX12_closes h0 (qI Q) 141 [some (tR 12 0 (some 51)), some (tI v1)] [] hh 0 0) (hk171 : ∀ (hh : Hp), k171 hh → Rn l G d 0 0 MX12_closes h0 (qI Q) 171 [some (tR 12 0 (some 51))] [] hh 0 0) : ∀ {n : Nat} {h : Hp}, m_X12_closes_0 n k16 k141 k171 Q h → Rn l G d 0 0 MX12_closes h0 (qI Q) 0 [some (tR 12 0 (some 51))] [] h 0 0 := by
  intro n
  induction n with
  | zero => intro h hm; exact hm.elim
  | succ n ih =>
    intro h hm
    have hk0 := fun (hh : Hp) (hm : m_X12_closes_0 n k16 k141 k171 Q hh) => ih hm
    rw [m_X12_closes_0] at hm
    refine r_aload_n dX12_closes_0 rfl rfl ?_
    refine r_getI (k := 29) cl_12 dX12_closes_1 t_1301 (Or.inl rfl) gf_12_29 ?_
    refine r_if_ne (tgt := 191) dX12_closes_4 rfl (fun hc => ?_) (fun hc => ?_)
    · replace hm := hm.1 hc
      refine r_iconst (v := 0) dX12_closes_191 rfl ?_
      exact r_bret dX12_closes_192 rfl ⟨by decide, by decide⟩ (by unfold bz; decide) ⟨_, rfl, hm⟩
    · replace hm := hm.2 hc
      refine r_aload_n dX12_closes_7 rfl rfl ?_
      refine r_getI (k := 26) cl_12 dX12_closes_8 t_1298 (Or.inl rfl) gf_12_26 ?_
      refine r_bipush (v := 44) dX12_closes_11 rfl ?_
      refine r_icmp_ne (tgt := 22) dX12_closes_13 rfl (fun hc => ?_) (fun hc => ?_)
      · replace hm := hm.1 hc
        refine r_aload_n dX12_closes_22 rfl rfl ?_
        refine r_getI (k := 26) cl_12 dX12_closes_23 t_1298 (Or.inl rfl) gf_12_26 ?_
        refine r_bipush (v := 125) dX12_closes_26 rfl ?_
        refine r_icmp_ne (tgt := 171) dX12_closes_28 rfl (fun hc => ?_) (fun hc => ?_)
        · replace hm := hm.1 hc
          refine r_keep (L' := [some (tR 12 0 (some 51))]) [true] rfl ?_
          exact hk171 _ hm
        · replace hm := hm.2 hc
          refine r_aload_n dX12_closes_31 rfl rfl ?_
          refine r_getI (k := 32) cl_12 dX12_closes_32 t_1304 (Or.inl rfl) gf_12_32 ?_
          refine r_if_le (tgt := 171) dX12_closes_35 rfl (fun hc => ?_) (fun hc => ?_)
          · replace hm := hm.1 hc
            refine r_keep (L' := [some (tR 12 0 (some 51))]) [true] rfl ?_
            exact hk171 _ hm
          · replace hm := hm.2 hc
            refine r_aload_n dX12_closes_38 rfl rfl ?_
            refine r_callVU (d' := d - 1) (as := []) (st := []) cl_12 dX12_closes_39 mi_X12_next t_1572 t_1574 ts_58 rfl rfl (Nat.le_of_ble_eq_true rfl) (by omega) ⟨by decide, by decide⟩ ⟨rfl, rfl⟩ (s_X12_next (by omega) hm) (fun h12 hm => ?_)
            refine r_aload_n dX12_closes_42 rfl rfl ?_
            refine r_dup dX12_closes_43 cv_cat1R ?_
            refine r_getI (k := 32) cl_12 dX12_closes_44 t_1304 (Or.inl rfl) gf_12_32 ?_
            refine r_iconst (v := 1) dX12_closes_47 rfl ?_
            refine r_isub dX12_closes_48 ?_
            refine r_putI0 (k := 32) cl_12 dX12_closes_49 t_1304 (Or.inl rfl) gf_12_32 pf_12_32.1 (Or.inl pf_12_32.2) ?_
            refine r_aload_n dX12_closes_52 rfl rfl ?_
            refine r_getC (k := 30) cl_12 dX12_closes_53 t_1302 gf_12_30.1 gf_12_30.2 (gc_12_30 _) ?_
            refine r_aload_n dX12_closes_56 rfl rfl ?_
            refine r_getI (k := 32) cl_12 dX12_closes_57 t_1304 (Or.inl rfl) gf_12_32 ?_
            refine r_iald dX12_closes_60 hm.1 ?_
            replace hm := hm.2
            refine r_nmI (fun x13 e_x13 => ?_)
            replace hm := hm x13 e_x13
            refine r_istore_n (L' := [some (tR 12 0 (some 51)), some (tI x13)]) dX12_closes_61 rfl (by decide) rfl ?_
            refine r_aload_n dX12_closes_62 rfl rfl ?_
            refine r_getC (k := 31) cl_12 dX12_closes_63 t_1303 gf_12_31.1 gf_12_31.2 (gc_12_31 _) ?_
            refine r_aload_n dX12_closes_66 rfl rfl ?_
            refine r_getI (k := 32) cl_12 dX12_closes_67 t_1304 (Or.inl rfl) gf_12_32 ?_
            refine r_iald dX12_closes_70 hm.1 ?_
            replace hm := hm.2
            refine r_if_ne (tgt := 120) dX12_closes_71 rfl (fun hc => ?_) (fun hc => ?_)
            · replace hm := hm.1 hc
              refine r_keep (L' := [some (tR 12 0 (some 51)), some (tI x13)]) [true, true] rfl ?_
              exact s_X12_closes_120 hd hk0 hk16 hk141 hk171 hm
            · replace hm := hm.2 hc
              refine r_aload_n dX12_closes_74 rfl rfl ?_
              refine r_getC (k := 7) cl_12 dX12_closes_75 t_1279 gf_12_7.1 gf_12_7.2 (gc_12_7 _) ?_
              refine r_iload_n dX12_closes_78 rfl rfl ?_
              refine r_iald dX12_closes_79 hm.1 ?_
              replace hm := hm.2
              refine r_bipush (v := 6) dX12_closes_80 rfl ?_
              refine r_icmp_ne (tgt := 95) dX12_closes_82 rfl (fun hc => ?_) (fun hc => ?_)
              · replace hm := hm.1 hc
                refine r_keep (L' := [some (tR 12 0 (some 51)), some (tI x13)]) [true, true] rfl ?_
                exact s_X12_closes_95 hd hk0 hk16 hk141 hk171 hm
              · replace hm := hm.2 hc
                refine r_aload_n dX12_closes_85 rfl rfl ?_
                refine r_ldc2_w dX12_closes_86 t_1646 ?_
                refine r_callVI (d' := d - 1) (as := [tJ 107681]) (st := []) cl_12 dX12_closes_89 mi_X12_is t_1635 t_1637 ts_69 rfl rfl (Nat.le_of_ble_eq_true rfl) (by omega) ⟨by decide, by decide⟩ ⟨rfl, rfl⟩ (s_X12_is (by omega) hm) (fun x14 h15 hm => ?_)
                refine r_if_ne (tgt := 116) dX12_closes_92 rfl (fun hc => ?_) (fun hc => ?_)
                · replace hm := hm.1 hc
                  refine r_keep (L' := [some (tR 12 0 (some 51)), some (tI x13)]) [true, true] rfl ?_
                  exact s_X12_closes_116 hd hk0 hk16 hk141 hk171 hm
                · replace hm := hm.2 hc
                  refine r_keep (L' := [some (tR 12 0 (some 51)), some (tI x13)]) [true, true] rfl ?_
                  exact s_X12_closes_95 hd hk0 hk16 hk141 hk171 hm
      · replace hm := hm.2 hc
        refine r_keep (L' := [some (tR 12 0 (some 51))]) [true] rfl ?_
        exact hk16 _ hm
def m_X12_closes  (h : Hp) (Q : Int32 → Hp → Prop) : Prop := ∃ n0, m_X12_closes_0 n0 (m_X12_closes_16 Q) (m_X12_closes_141 Q) (m_X12_closes_171 Q) Q h
set_option maxHeartbeats 4000000 in
set_option maxRecDepth 100000 in
theorem s_X12_closes {l : Launch} {G : Cx} {d : Nat} (hd : 8 ≤ d) {h : Hp} {Q : Int32 → Hp → Prop} (hm : m_X12_closes h Q) : Ct l G d 0 0 yX12_closes MX12_closes [tR 12 0 (some 51)] h (qI Q) := by
  unfold m_X12_closes at hm
  refine Ct.of (L := [some (tR 12 0 (some 51))]) (by decide) rfl rfl (Nat.le_of_ble_eq_true rfl) rfl ?_
  refine r_keep (L' := [some (tR 12 0 (some 51))]) [true] rfl ?_
  obtain ⟨n, hm⟩ := hm
  refine s_X12_closes_0 hd ?_ ?_ ?_ hm
  · exact (fun _ hm => s_X12_closes_16 hd hm)
  · exact (fun _ _ hm => s_X12_closes_141 hd hm)
  · exact (fun _ hm => s_X12_closes_171 hd hm)
theorem dX12_deal_0 : decode cX12_deal 0 = .ok (.iload_n 1, 1) := by decide +kernel
theorem dX12_deal_1 : decode cX12_deal 1 = .ok (.ifCond .lt 22, 3) := by decide +kernel
theorem dX12_deal_4 : decode cX12_deal 4 = .ok (.iload_n 1, 1) := by decide +kernel
theorem dX12_deal_5 : decode cX12_deal 5 = .ok (.aload_n 0, 1) := by decide +kernel
theorem dX12_deal_6 : decode cX12_deal 6 = .ok (.getfield 189, 3) := by decide +kernel
theorem dX12_deal_9 : decode cX12_deal 9 = .ok (.if_icmp .gt 14, 3) := by decide +kernel
theorem dX12_deal_12 : decode cX12_deal 12 = .ok (.iload_n 2, 1) := by decide +kernel
theorem dX12_deal_13 : decode cX12_deal 13 = .ok (.iconst 0, 1) := by decide +kernel
theorem dX12_deal_14 : decode cX12_deal 14 = .ok (.sipush 399, 3) := by decide +kernel
theorem dX12_deal_17 : decode cX12_deal 17 = .ok (.invokestatic 185, 3) := by decide +kernel
theorem dX12_deal_20 : decode cX12_deal 20 = .ok (.ifCond .ne 6, 3) := by decide +kernel
theorem dX12_deal_23 : decode cX12_deal 23 = .ok (.bipush (-2), 2) := by decide +kernel
theorem dX12_deal_25 : decode cX12_deal 25 = .ok (.ireturn, 1) := by decide +kernel
theorem dX12_deal_26 : decode cX12_deal 26 = .ok (.aload_n 0, 1) := by decide +kernel
theorem dX12_deal_27 : decode cX12_deal 27 = .ok (.getfield 332, 3) := by decide +kernel
theorem dX12_deal_30 : decode cX12_deal 30 = .ok (.bipush 24, 2) := by decide +kernel
theorem dX12_deal_32 : decode cX12_deal 32 = .ok (.if_icmp .ne 6, 3) := by decide +kernel
theorem dX12_deal_35 : decode cX12_deal 35 = .ok (.bipush (-3), 2) := by decide +kernel
theorem dX12_deal_37 : decode cX12_deal 37 = .ok (.ireturn, 1) := by decide +kernel
theorem dX12_deal_38 : decode cX12_deal 38 = .ok (.aload_n 0, 1) := by decide +kernel
theorem dX12_deal_39 : decode cX12_deal 39 = .ok (.iload_n 1, 1) := by decide +kernel
theorem dX12_deal_40 : decode cX12_deal 40 = .ok (.invokevirtual 335, 3) := by decide +kernel
theorem dX12_deal_43 : decode cX12_deal 43 = .ok (.aload_n 0, 1) := by decide +kernel
theorem dX12_deal_44 : decode cX12_deal 44 = .ok (.bipush 96, 2) := by decide +kernel
theorem dX12_deal_46 : decode cX12_deal 46 = .ok (.aload_n 0, 1) := by decide +kernel
theorem dX12_deal_47 : decode cX12_deal 47 = .ok (.getfield 332, 3) := by decide +kernel
theorem dX12_deal_50 : decode cX12_deal 50 = .ok (.imul, 1) := by decide +kernel
theorem dX12_deal_51 : decode cX12_deal 51 = .ok (.putfield 277, 3) := by decide +kernel
theorem dX12_deal_54 : decode cX12_deal 54 = .ok (.aload_n 0, 1) := by decide +kernel
theorem dX12_deal_55 : decode cX12_deal 55 = .ok (.iconst 0, 1) := by decide +kernel
theorem dX12_deal_56 : decode cX12_deal 56 = .ok (.putfield 280, 3) := by decide +kernel
theorem dX12_deal_59 : decode cX12_deal 59 = .ok (.aload_n 0, 1) := by decide +kernel
theorem dX12_deal_60 : decode cX12_deal 60 = .ok (.iconst 0, 1) := by decide +kernel
theorem dX12_deal_61 : decode cX12_deal 61 = .ok (.putfield 283, 3) := by decide +kernel
theorem dX12_deal_64 : decode cX12_deal 64 = .ok (.aload_n 0, 1) := by decide +kernel
theorem dX12_deal_65 : decode cX12_deal 65 = .ok (.iconst 0, 1) := by decide +kernel
theorem dX12_deal_66 : decode cX12_deal 66 = .ok (.putfield 286, 3) := by decide +kernel
theorem dX12_deal_69 : decode cX12_deal 69 = .ok (.aload_n 0, 1) := by decide +kernel
theorem dX12_deal_70 : decode cX12_deal 70 = .ok (.iconst 0, 1) := by decide +kernel
theorem dX12_deal_71 : decode cX12_deal 71 = .ok (.putfield 315, 3) := by decide +kernel
theorem dX12_deal_74 : decode cX12_deal 74 = .ok (.aload_n 0, 1) := by decide +kernel
theorem dX12_deal_75 : decode cX12_deal 75 = .ok (.iconst 0, 1) := by decide +kernel
theorem dX12_deal_76 : decode cX12_deal 76 = .ok (.putfield 321, 3) := by decide +kernel
theorem dX12_deal_79 : decode cX12_deal 79 = .ok (.iconst 1, 1) := by decide +kernel
theorem dX12_deal_80 : decode cX12_deal 80 = .ok (.istore_n 3, 1) := by decide +kernel
theorem dX12_deal_81 : decode cX12_deal 81 = .ok (.iload_n 3, 1) := by decide +kernel
theorem dX12_deal_82 : decode cX12_deal 82 = .ok (.ifCond .eq 57, 3) := by decide +kernel
theorem dX12_deal_85 : decode cX12_deal 85 = .ok (.aload_n 0, 1) := by decide +kernel
theorem dX12_deal_86 : decode cX12_deal 86 = .ok (.getfield 220, 3) := by decide +kernel
theorem dX12_deal_89 : decode cX12_deal 89 = .ok (.ifCond .ne 50, 3) := by decide +kernel
theorem dX12_deal_92 : decode cX12_deal 92 = .ok (.aload_n 0, 1) := by decide +kernel
theorem dX12_deal_93 : decode cX12_deal 93 = .ok (.invokevirtual 339, 3) := by decide +kernel
theorem dX12_deal_96 : decode cX12_deal 96 = .ok (.istore 4, 2) := by decide +kernel
theorem dX12_deal_98 : decode cX12_deal 98 = .ok (.iload 4, 2) := by decide +kernel
theorem dX12_deal_100 : decode cX12_deal 100 = .ok (.ifCond .ge 10, 3) := by decide +kernel
theorem dX12_deal_103 : decode cX12_deal 103 = .ok (.aload_n 0, 1) := by decide +kernel
theorem dX12_deal_104 : decode cX12_deal 104 = .ok (.invokevirtual 231, 3) := by decide +kernel
theorem dX12_deal_107 : decode cX12_deal 107 = .ok (.goto 29, 3) := by decide +kernel
theorem dX12_deal_110 : decode cX12_deal 110 = .ok (.iload 4, 2) := by decide +kernel
theorem dX12_deal_112 : decode cX12_deal 112 = .ok (.iconst 3, 1) := by decide +kernel
theorem dX12_deal_113 : decode cX12_deal 113 = .ok (.if_icmp .gt 17, 3) := by decide +kernel
theorem dX12_deal_116 : decode cX12_deal 116 = .ok (.aload_n 0, 1) := by decide +kernel
theorem dX12_deal_117 : decode cX12_deal 117 = .ok (.iload 4, 2) := by decide +kernel
theorem dX12_deal_119 : decode cX12_deal 119 = .ok (.invokevirtual 342, 3) := by decide +kernel
theorem dX12_deal_122 : decode cX12_deal 122 = .ok (.aload_n 0, 1) := by decide +kernel
theorem dX12_deal_123 : decode cX12_deal 123 = .ok (.invokevirtual 345, 3) := by decide +kernel
theorem dX12_deal_126 : decode cX12_deal 126 = .ok (.istore_n 3, 1) := by decide +kernel
theorem dX12_deal_127 : decode cX12_deal 127 = .ok (.goto 9, 3) := by decide +kernel
theorem dX12_deal_130 : decode cX12_deal 130 = .ok (.aload_n 0, 1) := by decide +kernel
theorem dX12_deal_131 : decode cX12_deal 131 = .ok (.iload 4, 2) := by decide +kernel
theorem dX12_deal_133 : decode cX12_deal 133 = .ok (.invokevirtual 349, 3) := by decide +kernel
theorem dX12_deal_136 : decode cX12_deal 136 = .ok (.goto (-55), 3) := by decide +kernel
theorem dX12_deal_139 : decode cX12_deal 139 = .ok (.aload_n 0, 1) := by decide +kernel
theorem dX12_deal_140 : decode cX12_deal 140 = .ok (.getfield 220, 3) := by decide +kernel
theorem dX12_deal_143 : decode cX12_deal 143 = .ok (.ifCond .eq 5, 3) := by decide +kernel
theorem dX12_deal_146 : decode cX12_deal 146 = .ok (.iconst (-1), 1) := by decide +kernel
theorem dX12_deal_147 : decode cX12_deal 147 = .ok (.ireturn, 1) := by decide +kernel
theorem dX12_deal_148 : decode cX12_deal 148 = .ok (.aload_n 0, 1) := by decide +kernel
theorem dX12_deal_149 : decode cX12_deal 149 = .ok (.getfield 13, 3) := by decide +kernel
theorem dX12_deal_152 : decode cX12_deal 152 = .ok (.aload_n 0, 1) := by decide +kernel
theorem dX12_deal_153 : decode cX12_deal 153 = .ok (.getfield 332, 3) := by decide +kernel
theorem dX12_deal_156 : decode cX12_deal 156 = .ok (.aload_n 0, 1) := by decide +kernel
theorem dX12_deal_157 : decode cX12_deal 157 = .ok (.getfield 280, 3) := by decide +kernel
theorem dX12_deal_160 : decode cX12_deal 160 = .ok (.iastore, 1) := by decide +kernel
theorem dX12_deal_161 : decode cX12_deal 161 = .ok (.aload_n 0, 1) := by decide +kernel
theorem dX12_deal_162 : decode cX12_deal 162 = .ok (.getfield 16, 3) := by decide +kernel
theorem dX12_deal_165 : decode cX12_deal 165 = .ok (.aload_n 0, 1) := by decide +kernel
theorem dX12_deal_166 : decode cX12_deal 166 = .ok (.getfield 332, 3) := by decide +kernel
theorem dX12_deal_169 : decode cX12_deal 169 = .ok (.iload_n 2, 1) := by decide +kernel
theorem dX12_deal_170 : decode cX12_deal 170 = .ok (.iastore, 1) := by decide +kernel
theorem dX12_deal_171 : decode cX12_deal 171 = .ok (.aload_n 0, 1) := by decide +kernel
theorem dX12_deal_172 : decode cX12_deal 172 = .ok (.getfield 19, 3) := by decide +kernel
theorem dX12_deal_175 : decode cX12_deal 175 = .ok (.aload_n 0, 1) := by decide +kernel
theorem dX12_deal_176 : decode cX12_deal 176 = .ok (.getfield 332, 3) := by decide +kernel
theorem dX12_deal_179 : decode cX12_deal 179 = .ok (.aload_n 0, 1) := by decide +kernel
theorem dX12_deal_180 : decode cX12_deal 180 = .ok (.getfield 286, 3) := by decide +kernel
theorem dX12_deal_183 : decode cX12_deal 183 = .ok (.iastore, 1) := by decide +kernel
theorem dX12_deal_184 : decode cX12_deal 184 = .ok (.aload_n 0, 1) := by decide +kernel
theorem dX12_deal_185 : decode cX12_deal 185 = .ok (.getfield 22, 3) := by decide +kernel
theorem dX12_deal_188 : decode cX12_deal 188 = .ok (.aload_n 0, 1) := by decide +kernel
theorem dX12_deal_189 : decode cX12_deal 189 = .ok (.getfield 332, 3) := by decide +kernel
theorem dX12_deal_192 : decode cX12_deal 192 = .ok (.aload_n 0, 1) := by decide +kernel
theorem dX12_deal_193 : decode cX12_deal 193 = .ok (.getfield 315, 3) := by decide +kernel
theorem dX12_deal_196 : decode cX12_deal 196 = .ok (.iastore, 1) := by decide +kernel
theorem dX12_deal_197 : decode cX12_deal 197 = .ok (.aload_n 0, 1) := by decide +kernel
theorem dX12_deal_198 : decode cX12_deal 198 = .ok (.getfield 25, 3) := by decide +kernel
theorem dX12_deal_201 : decode cX12_deal 201 = .ok (.aload_n 0, 1) := by decide +kernel
theorem dX12_deal_202 : decode cX12_deal 202 = .ok (.getfield 332, 3) := by decide +kernel
theorem dX12_deal_205 : decode cX12_deal 205 = .ok (.aload_n 0, 1) := by decide +kernel
theorem dX12_deal_206 : decode cX12_deal 206 = .ok (.getfield 321, 3) := by decide +kernel
theorem dX12_deal_209 : decode cX12_deal 209 = .ok (.iastore, 1) := by decide +kernel
theorem dX12_deal_210 : decode cX12_deal 210 = .ok (.aload_n 0, 1) := by decide +kernel
theorem dX12_deal_211 : decode cX12_deal 211 = .ok (.dup, 1) := by decide +kernel
theorem dX12_deal_212 : decode cX12_deal 212 = .ok (.getfield 332, 3) := by decide +kernel
theorem dX12_deal_215 : decode cX12_deal 215 = .ok (.iconst 1, 1) := by decide +kernel
theorem dX12_deal_216 : decode cX12_deal 216 = .ok (.iadd, 1) := by decide +kernel
theorem dX12_deal_217 : decode cX12_deal 217 = .ok (.putfield 332, 3) := by decide +kernel
theorem dX12_deal_220 : decode cX12_deal 220 = .ok (.aload_n 0, 1) := by decide +kernel
theorem dX12_deal_221 : decode cX12_deal 221 = .ok (.getfield 332, 3) := by decide +kernel
theorem dX12_deal_224 : decode cX12_deal 224 = .ok (.iconst 1, 1) := by decide +kernel
theorem dX12_deal_225 : decode cX12_deal 225 = .ok (.isub, 1) := by decide +kernel
theorem dX12_deal_226 : decode cX12_deal 226 = .ok (.ireturn, 1) := by decide +kernel
def m_X12_deal_139  (Q : Int32 → Hp → Prop) (v2 : Int32) (h : Hp) : Prop := ((hI h 51 29) = 0 → vp_in (hI h 51 1) 24 ∧ (vp_in (hI (wI h 53 (ix (hI h 51 1)) (hI h 51 33)) 51 1) 24 ∧ (vp_in (hI (wI (wI h 53 (ix (hI h 51 1)) (hI h 51 33)) 54 (ix (hI (wI h 53 (ix (hI h 51 1)) (hI h 51 33)) 51 1)) v2) 51 1) 24 ∧ (vp_in (hI (wI (wI (wI h 53 (ix (hI h 51 1)) (hI h 51 33)) 54 (ix (hI (wI h 53 (ix (hI h 51 1)) (hI h 51 33)) 51 1)) v2) 55 (ix (hI (wI (wI h 53 (ix (hI h 51 1)) (hI h 51 33)) 54 (ix (hI (wI h 53 (ix (hI h 51 1)) (hI h 51 33)) 51 1)) v2) 51 1)) (hI (wI (wI h 53 (ix (hI h 51 1)) (hI h 51 33)) 54 (ix (hI (wI h 53 (ix (hI h 51 1)) (hI h 51 33)) 51 1)) v2) 51 34)) 51 1) 24 ∧ (vp_in (hI (wI (wI (wI (wI h 53 (ix (hI h 51 1)) (hI h 51 33)) 54 (ix (hI (wI h 53 (ix (hI h 51 1)) (hI h 51 33)) 51 1)) v2) 55 (ix (hI (wI (wI h 53 (ix (hI h 51 1)) (hI h 51 33)) 54 (ix (hI (wI h 53 (ix (hI h 51 1)) (hI h 51 33)) 51 1)) v2) 51 1)) (hI (wI (wI h 53 (ix (hI h 51 1)) (hI h 51 33)) 54 (ix (hI (wI h 53 (ix (hI h 51 1)) (hI h 51 33)) 51 1)) v2) 51 34)) 56 (ix (hI (wI (wI (wI h 53 (ix (hI h 51 1)) (hI h 51 33)) 54 (ix (hI (wI h 53 (ix (hI h 51 1)) (hI h 51 33)) 51 1)) v2) 55 (ix (hI (wI (wI h 53 (ix (hI h 51 1)) (hI h 51 33)) 54 (ix (hI (wI h 53 (ix (hI h 51 1)) (hI h 51 33)) 51 1)) v2) 51 1)) (hI (wI (wI h 53 (ix (hI h 51 1)) (hI h 51 33)) 54 (ix (hI (wI h 53 (ix (hI h 51 1)) (hI h 51 33)) 51 1)) v2) 51 34)) 51 1)) (hI (wI (wI (wI h 53 (ix (hI h 51 1)) (hI h 51 33)) 54 (ix (hI (wI h 53 (ix (hI h 51 1)) (hI h 51 33)) 51 1)) v2) 55 (ix (hI (wI (wI h 53 (ix (hI h 51 1)) (hI h 51 33)) 54 (ix (hI (wI h 53 (ix (hI h 51 1)) (hI h 51 33)) 51 1)) v2) 51 1)) (hI (wI (wI h 53 (ix (hI h 51 1)) (hI h 51 33)) 54 (ix (hI (wI h 53 (ix (hI h 51 1)) (hI h 51 33)) 51 1)) v2) 51 34)) 51 35)) 51 1) 24 ∧ (Q ((hI (wI (wI (wI (wI (wI (wI h 53 (ix (hI h 51 1)) (hI h 51 33)) 54 (ix (hI (wI h 53 (ix (hI h 51 1)) (hI h 51 33)) 51 1)) v2) 55 (ix (hI (wI (wI h 53 (ix (hI h 51 1)) (hI h 51 33)) 54 (ix (hI (wI h 53 (ix (hI h 51 1)) (hI h 51 33)) 51 1)) v2) 51 1)) (hI (wI (wI h 53 (ix (hI h 51 1)) (hI h 51 33)) 54 (ix (hI (wI h 53 (ix (hI h 51 1)) (hI h 51 33)) 51 1)) v2) 51 34)) 56 (ix (hI (wI (wI (wI h 53 (ix (hI h 51 1)) (hI h 51 33)) 54 (ix (hI (wI h 53 (ix (hI h 51 1)) (hI h 51 33)) 51 1)) v2) 55 (ix (hI (wI (wI h 53 (ix (hI h 51 1)) (hI h 51 33)) 54 (ix (hI (wI h 53 (ix (hI h 51 1)) (hI h 51 33)) 51 1)) v2) 51 1)) (hI (wI (wI h 53 (ix (hI h 51 1)) (hI h 51 33)) 54 (ix (hI (wI h 53 (ix (hI h 51 1)) (hI h 51 33)) 51 1)) v2) 51 34)) 51 1)) (hI (wI (wI (wI h 53 (ix (hI h 51 1)) (hI h 51 33)) 54 (ix (hI (wI h 53 (ix (hI h 51 1)) (hI h 51 33)) 51 1)) v2) 55 (ix (hI (wI (wI h 53 (ix (hI h 51 1)) (hI h 51 33)) 54 (ix (hI (wI h 53 (ix (hI h 51 1)) (hI h 51 33)) 51 1)) v2) 51 1)) (hI (wI (wI h 53 (ix (hI h 51 1)) (hI h 51 33)) 54 (ix (hI (wI h 53 (ix (hI h 51 1)) (hI h 51 33)) 51 1)) v2) 51 34)) 51 35)) 57 (ix (hI (wI (wI (wI (wI h 53 (ix (hI h 51 1)) (hI h 51 33)) 54 (ix (hI (wI h 53 (ix (hI h 51 1)) (hI h 51 33)) 51 1)) v2) 55 (ix (hI (wI (wI h 53 (ix (hI h 51 1)) (hI h 51 33)) 54 (ix (hI (wI h 53 (ix (hI h 51 1)) (hI h 51 33)) 51 1)) v2) 51 1)) (hI (wI (wI h 53 (ix (hI h 51 1)) (hI h 51 33)) 54 (ix (hI (wI h 53 (ix (hI h 51 1)) (hI h 51 33)) 51 1)) v2) 51 34)) 56 (ix (hI (wI (wI (wI h 53 (ix (hI h 51 1)) (hI h 51 33)) 54 (ix (hI (wI h 53 (ix (hI h 51 1)) (hI h 51 33)) 51 1)) v2) 55 (ix (hI (wI (wI h 53 (ix (hI h 51 1)) (hI h 51 33)) 54 (ix (hI (wI h 53 (ix (hI h 51 1)) (hI h 51 33)) 51 1)) v2) 51 1)) (hI (wI (wI h 53 (ix (hI h 51 1)) (hI h 51 33)) 54 (ix (hI (wI h 53 (ix (hI h 51 1)) (hI h 51 33)) 51 1)) v2) 51 34)) 51 1)) (hI (wI (wI (wI h 53 (ix (hI h 51 1)) (hI h 51 33)) 54 (ix (hI (wI h 53 (ix (hI h 51 1)) (hI h 51 33)) 51 1)) v2) 55 (ix (hI (wI (wI h 53 (ix (hI h 51 1)) (hI h 51 33)) 54 (ix (hI (wI h 53 (ix (hI h 51 1)) (hI h 51 33)) 51 1)) v2) 51 1)) (hI (wI (wI h 53 (ix (hI h 51 1)) (hI h 51 33)) 54 (ix (hI (wI h 53 (ix (hI h 51 1)) (hI h 51 33)) 51 1)) v2) 51 34)) 51 35)) 51 1)) (hI (wI (wI (wI (wI h 53 (ix (hI h 51 1)) (hI h 51 33)) 54 (ix (hI (wI h 53 (ix (hI h 51 1)) (hI h 51 33)) 51 1)) v2) 55 (ix (hI (wI (wI h 53 (ix (hI h 51 1)) (hI h 51 33)) 54 (ix (hI (wI h 53 (ix (hI h 51 1)) (hI h 51 33)) 51 1)) v2) 51 1)) (hI (wI (wI h 53 (ix (hI h 51 1)) (hI h 51 33)) 54 (ix (hI (wI h 53 (ix (hI h 51 1)) (hI h 51 33)) 51 1)) v2) 51 34)) 56 (ix (hI (wI (wI (wI h 53 (ix (hI h 51 1)) (hI h 51 33)) 54 (ix (hI (wI h 53 (ix (hI h 51 1)) (hI h 51 33)) 51 1)) v2) 55 (ix (hI (wI (wI h 53 (ix (hI h 51 1)) (hI h 51 33)) 54 (ix (hI (wI h 53 (ix (hI h 51 1)) (hI h 51 33)) 51 1)) v2) 51 1)) (hI (wI (wI h 53 (ix (hI h 51 1)) (hI h 51 33)) 54 (ix (hI (wI h 53 (ix (hI h 51 1)) (hI h 51 33)) 51 1)) v2) 51 34)) 51 1)) (hI (wI (wI (wI h 53 (ix (hI h 51 1)) (hI h 51 33)) 54 (ix (hI (wI h 53 (ix (hI h 51 1)) (hI h 51 33)) 51 1)) v2) 55 (ix (hI (wI (wI h 53 (ix (hI h 51 1)) (hI h 51 33)) 54 (ix (hI (wI h 53 (ix (hI h 51 1)) (hI h 51 33)) 51 1)) v2) 51 1)) (hI (wI (wI h 53 (ix (hI h 51 1)) (hI h 51 33)) 54 (ix (hI (wI h 53 (ix (hI h 51 1)) (hI h 51 33)) 51 1)) v2) 51 34)) 51 35)) 51 36)) 51 1 ((hI (wI (wI (wI (wI (wI h 53 (ix (hI h 51 1)) (hI h 51 33)) 54 (ix (hI (wI h 53 (ix (hI h 51 1)) (hI h 51 33)) 51 1)) v2) 55 (ix (hI (wI (wI h 53 (ix (hI h 51 1)) (hI h 51 33)) 54 (ix (hI (wI h 53 (ix (hI h 51 1)) (hI h 51 33)) 51 1)) v2) 51 1)) (hI (wI (wI h 53 (ix (hI h 51 1)) (hI h 51 33)) 54 (ix (hI (wI h 53 (ix (hI h 51 1)) (hI h 51 33)) 51 1)) v2) 51 34)) 56 (ix (hI (wI (wI (wI h 53 (ix (hI h 51 1)) (hI h 51 33)) 54 (ix (hI (wI h 53 (ix (hI h 51 1)) (hI h 51 33)) 51 1)) v2) 55 (ix (hI (wI (wI h 53 (ix (hI h 51 1)) (hI h 51 33)) 54 (ix (hI (wI h 53 (ix (hI h 51 1)) (hI h 51 33)) 51 1)) v2) 51 1)) (hI (wI (wI h 53 (ix (hI h 51 1)) (hI h 51 33)) 54 (ix (hI (wI h 53 (ix (hI h 51 1)) (hI h 51 33)) 51 1)) v2) 51 34)) 51 1)) (hI (wI (wI (wI h 53 (ix (hI h 51 1)) (hI h 51 33)) 54 (ix (hI (wI h 53 (ix (hI h 51 1)) (hI h 51 33)) 51 1)) v2) 55 (ix (hI (wI (wI h 53 (ix (hI h 51 1)) (hI h 51 33)) 54 (ix (hI (wI h 53 (ix (hI h 51 1)) (hI h 51 33)) 51 1)) v2) 51 1)) (hI (wI (wI h 53 (ix (hI h 51 1)) (hI h 51 33)) 54 (ix (hI (wI h 53 (ix (hI h 51 1)) (hI h 51 33)) 51 1)) v2) 51 34)) 51 35)) 57 (ix (hI (wI (wI (wI (wI h 53 (ix (hI h 51 1)) (hI h 51 33)) 54 (ix (hI (wI h 53 (ix (hI h 51 1)) (hI h 51 33)) 51 1)) v2) 55 (ix (hI (wI (wI h 53 (ix (hI h 51 1)) (hI h 51 33)) 54 (ix (hI (wI h 53 (ix (hI h 51 1)) (hI h 51 33)) 51 1)) v2) 51 1)) (hI (wI (wI h 53 (ix (hI h 51 1)) (hI h 51 33)) 54 (ix (hI (wI h 53 (ix (hI h 51 1)) (hI h 51 33)) 51 1)) v2) 51 34)) 56 (ix (hI (wI (wI (wI h 53 (ix (hI h 51 1)) (hI h 51 33)) 54 (ix (hI (wI h 53 (ix (hI h 51 1)) (hI h 51 33)) 51 1)) v2) 55 (ix (hI (wI (wI h 53 (ix (hI h 51 1)) (hI h 51 33)) 54 (ix (hI (wI h 53 (ix (hI h 51 1)) (hI h 51 33)) 51 1)) v2) 51 1)) (hI (wI (wI h 53 (ix (hI h 51 1)) (hI h 51 33)) 54 (ix (hI (wI h 53 (ix (hI h 51 1)) (hI h 51 33)) 51 1)) v2) 51 34)) 51 1)) (hI (wI (wI (wI h 53 (ix (hI h 51 1)) (hI h 51 33)) 54 (ix (hI (wI h 53 (ix (hI h 51 1)) (hI h 51 33)) 51 1)) v2) 55 (ix (hI (wI (wI h 53 (ix (hI h 51 1)) (hI h 51 33)) 54 (ix (hI (wI h 53 (ix (hI h 51 1)) (hI h 51 33)) 51 1)) v2) 51 1)) (hI (wI (wI h 53 (ix (hI h 51 1)) (hI h 51 33)) 54 (ix (hI (wI h 53 (ix (hI h 51 1)) (hI h 51 33)) 51 1)) v2) 51 34)) 51 35)) 51 1)) (hI (wI (wI (wI (wI h 53 (ix (hI h 51 1)) (hI h 51 33)) 54 (ix (hI (wI h 53 (ix (hI h 51 1)) (hI h 51 33)) 51 1)) v2) 55 (ix (hI (wI (wI h 53 (ix (hI h 51 1)) (hI h 51 33)) 54 (ix (hI (wI h 53 (ix (hI h 51 1)) (hI h 51 33)) 51 1)) v2) 51 1)) (hI (wI (wI h 53 (ix (hI h 51 1)) (hI h 51 33)) 54 (ix (hI (wI h 53 (ix (hI h 51 1)) (hI h 51 33)) 51 1)) v2) 51 34)) 56 (ix (hI (wI (wI (wI h 53 (ix (hI h 51 1)) (hI h 51 33)) 54 (ix (hI (wI h 53 (ix (hI h 51 1)) (hI h 51 33)) 51 1)) v2) 55 (ix (hI (wI (wI h 53 (ix (hI h 51 1)) (hI h 51 33)) 54 (ix (hI (wI h 53 (ix (hI h 51 1)) (hI h 51 33)) 51 1)) v2) 51 1)) (hI (wI (wI h 53 (ix (hI h 51 1)) (hI h 51 33)) 54 (ix (hI (wI h 53 (ix (hI h 51 1)) (hI h 51 33)) 51 1)) v2) 51 34)) 51 1)) (hI (wI (wI (wI h 53 (ix (hI h 51 1)) (hI h 51 33)) 54 (ix (hI (wI h 53 (ix (hI h 51 1)) (hI h 51 33)) 51 1)) v2) 55 (ix (hI (wI (wI h 53 (ix (hI h 51 1)) (hI h 51 33)) 54 (ix (hI (wI h 53 (ix (hI h 51 1)) (hI h 51 33)) 51 1)) v2) 51 1)) (hI (wI (wI h 53 (ix (hI h 51 1)) (hI h 51 33)) 54 (ix (hI (wI h 53 (ix (hI h 51 1)) (hI h 51 33)) 51 1)) v2) 51 34)) 51 35)) 51 36)) 51 1) + 1)) 51 1) - 1) (wI (wI (wI (wI (wI (wI h 53 (ix (hI h 51 1)) (hI h 51 33)) 54 (ix (hI (wI h 53 (ix (hI h 51 1)) (hI h 51 33)) 51 1)) v2) 55 (ix (hI (wI (wI h 53 (ix (hI h 51 1)) (hI h 51 33)) 54 (ix (hI (wI h 53 (ix (hI h 51 1)) (hI h 51 33)) 51 1)) v2) 51 1)) (hI (wI (wI h 53 (ix (hI h 51 1)) (hI h 51 33)) 54 (ix (hI (wI h 53 (ix (hI h 51 1)) (hI h 51 33)) 51 1)) v2) 51 34)) 56 (ix (hI (wI (wI (wI h 53 (ix (hI h 51 1)) (hI h 51 33)) 54 (ix (hI (wI h 53 (ix (hI h 51 1)) (hI h 51 33)) 51 1)) v2) 55 (ix (hI (wI (wI h 53 (ix (hI h 51 1)) (hI h 51 33)) 54 (ix (hI (wI h 53 (ix (hI h 51 1)) (hI h 51 33)) 51 1)) v2) 51 1)) (hI (wI (wI h 53 (ix (hI h 51 1)) (hI h 51 33)) 54 (ix (hI (wI h 53 (ix (hI h 51 1)) (hI h 51 33)) 51 1)) v2) 51 34)) 51 1)) (hI (wI (wI (wI h 53 (ix (hI h 51 1)) (hI h 51 33)) 54 (ix (hI (wI h 53 (ix (hI h 51 1)) (hI h 51 33)) 51 1)) v2) 55 (ix (hI (wI (wI h 53 (ix (hI h 51 1)) (hI h 51 33)) 54 (ix (hI (wI h 53 (ix (hI h 51 1)) (hI h 51 33)) 51 1)) v2) 51 1)) (hI (wI (wI h 53 (ix (hI h 51 1)) (hI h 51 33)) 54 (ix (hI (wI h 53 (ix (hI h 51 1)) (hI h 51 33)) 51 1)) v2) 51 34)) 51 35)) 57 (ix (hI (wI (wI (wI (wI h 53 (ix (hI h 51 1)) (hI h 51 33)) 54 (ix (hI (wI h 53 (ix (hI h 51 1)) (hI h 51 33)) 51 1)) v2) 55 (ix (hI (wI (wI h 53 (ix (hI h 51 1)) (hI h 51 33)) 54 (ix (hI (wI h 53 (ix (hI h 51 1)) (hI h 51 33)) 51 1)) v2) 51 1)) (hI (wI (wI h 53 (ix (hI h 51 1)) (hI h 51 33)) 54 (ix (hI (wI h 53 (ix (hI h 51 1)) (hI h 51 33)) 51 1)) v2) 51 34)) 56 (ix (hI (wI (wI (wI h 53 (ix (hI h 51 1)) (hI h 51 33)) 54 (ix (hI (wI h 53 (ix (hI h 51 1)) (hI h 51 33)) 51 1)) v2) 55 (ix (hI (wI (wI h 53 (ix (hI h 51 1)) (hI h 51 33)) 54 (ix (hI (wI h 53 (ix (hI h 51 1)) (hI h 51 33)) 51 1)) v2) 51 1)) (hI (wI (wI h 53 (ix (hI h 51 1)) (hI h 51 33)) 54 (ix (hI (wI h 53 (ix (hI h 51 1)) (hI h 51 33)) 51 1)) v2) 51 34)) 51 1)) (hI (wI (wI (wI h 53 (ix (hI h 51 1)) (hI h 51 33)) 54 (ix (hI (wI h 53 (ix (hI h 51 1)) (hI h 51 33)) 51 1)) v2) 55 (ix (hI (wI (wI h 53 (ix (hI h 51 1)) (hI h 51 33)) 54 (ix (hI (wI h 53 (ix (hI h 51 1)) (hI h 51 33)) 51 1)) v2) 51 1)) (hI (wI (wI h 53 (ix (hI h 51 1)) (hI h 51 33)) 54 (ix (hI (wI h 53 (ix (hI h 51 1)) (hI h 51 33)) 51 1)) v2) 51 34)) 51 35)) 51 1)) (hI (wI (wI (wI (wI h 53 (ix (hI h 51 1)) (hI h 51 33)) 54 (ix (hI (wI h 53 (ix (hI h 51 1)) (hI h 51 33)) 51 1)) v2) 55 (ix (hI (wI (wI h 53 (ix (hI h 51 1)) (hI h 51 33)) 54 (ix (hI (wI h 53 (ix (hI h 51 1)) (hI h 51 33)) 51 1)) v2) 51 1)) (hI (wI (wI h 53 (ix (hI h 51 1)) (hI h 51 33)) 54 (ix (hI (wI h 53 (ix (hI h 51 1)) (hI h 51 33)) 51 1)) v2) 51 34)) 56 (ix (hI (wI (wI (wI h 53 (ix (hI h 51 1)) (hI h 51 33)) 54 (ix (hI (wI h 53 (ix (hI h 51 1)) (hI h 51 33)) 51 1)) v2) 55 (ix (hI (wI (wI h 53 (ix (hI h 51 1)) (hI h 51 33)) 54 (ix (hI (wI h 53 (ix (hI h 51 1)) (hI h 51 33)) 51 1)) v2) 51 1)) (hI (wI (wI h 53 (ix (hI h 51 1)) (hI h 51 33)) 54 (ix (hI (wI h 53 (ix (hI h 51 1)) (hI h 51 33)) 51 1)) v2) 51 34)) 51 1)) (hI (wI (wI (wI h 53 (ix (hI h 51 1)) (hI h 51 33)) 54 (ix (hI (wI h 53 (ix (hI h 51 1)) (hI h 51 33)) 51 1)) v2) 55 (ix (hI (wI (wI h 53 (ix (hI h 51 1)) (hI h 51 33)) 54 (ix (hI (wI h 53 (ix (hI h 51 1)) (hI h 51 33)) 51 1)) v2) 51 1)) (hI (wI (wI h 53 (ix (hI h 51 1)) (hI h 51 33)) 54 (ix (hI (wI h 53 (ix (hI h 51 1)) (hI h 51 33)) 51 1)) v2) 51 34)) 51 35)) 51 36)) 51 1 ((hI (wI (wI (wI (wI (wI h 53 (ix (hI h 51 1)) (hI h 51 33)) 54 (ix (hI (wI h 53 (ix (hI h 51 1)) (hI h 51 33)) 51 1)) v2) 55 (ix (hI (wI (wI h 53 (ix (hI h 51 1)) (hI h 51 33)) 54 (ix (hI (wI h 53 (ix (hI h 51 1)) (hI h 51 33)) 51 1)) v2) 51 1)) (hI (wI (wI h 53 (ix (hI h 51 1)) (hI h 51 33)) 54 (ix (hI (wI h 53 (ix (hI h 51 1)) (hI h 51 33)) 51 1)) v2) 51 34)) 56 (ix (hI (wI (wI (wI h 53 (ix (hI h 51 1)) (hI h 51 33)) 54 (ix (hI (wI h 53 (ix (hI h 51 1)) (hI h 51 33)) 51 1)) v2) 55 (ix (hI (wI (wI h 53 (ix (hI h 51 1)) (hI h 51 33)) 54 (ix (hI (wI h 53 (ix (hI h 51 1)) (hI h 51 33)) 51 1)) v2) 51 1)) (hI (wI (wI h 53 (ix (hI h 51 1)) (hI h 51 33)) 54 (ix (hI (wI h 53 (ix (hI h 51 1)) (hI h 51 33)) 51 1)) v2) 51 34)) 51 1)) (hI (wI (wI (wI h 53 (ix (hI h 51 1)) (hI h 51 33)) 54 (ix (hI (wI h 53 (ix (hI h 51 1)) (hI h 51 33)) 51 1)) v2) 55 (ix (hI (wI (wI h 53 (ix (hI h 51 1)) (hI h 51 33)) 54 (ix (hI (wI h 53 (ix (hI h 51 1)) (hI h 51 33)) 51 1)) v2) 51 1)) (hI (wI (wI h 53 (ix (hI h 51 1)) (hI h 51 33)) 54 (ix (hI (wI h 53 (ix (hI h 51 1)) (hI h 51 33)) 51 1)) v2) 51 34)) 51 35)) 57 (ix (hI (wI (wI (wI (wI h 53 (ix (hI h 51 1)) (hI h 51 33)) 54 (ix (hI (wI h 53 (ix (hI h 51 1)) (hI h 51 33)) 51 1)) v2) 55 (ix (hI (wI (wI h 53 (ix (hI h 51 1)) (hI h 51 33)) 54 (ix (hI (wI h 53 (ix (hI h 51 1)) (hI h 51 33)) 51 1)) v2) 51 1)) (hI (wI (wI h 53 (ix (hI h 51 1)) (hI h 51 33)) 54 (ix (hI (wI h 53 (ix (hI h 51 1)) (hI h 51 33)) 51 1)) v2) 51 34)) 56 (ix (hI (wI (wI (wI h 53 (ix (hI h 51 1)) (hI h 51 33)) 54 (ix (hI (wI h 53 (ix (hI h 51 1)) (hI h 51 33)) 51 1)) v2) 55 (ix (hI (wI (wI h 53 (ix (hI h 51 1)) (hI h 51 33)) 54 (ix (hI (wI h 53 (ix (hI h 51 1)) (hI h 51 33)) 51 1)) v2) 51 1)) (hI (wI (wI h 53 (ix (hI h 51 1)) (hI h 51 33)) 54 (ix (hI (wI h 53 (ix (hI h 51 1)) (hI h 51 33)) 51 1)) v2) 51 34)) 51 1)) (hI (wI (wI (wI h 53 (ix (hI h 51 1)) (hI h 51 33)) 54 (ix (hI (wI h 53 (ix (hI h 51 1)) (hI h 51 33)) 51 1)) v2) 55 (ix (hI (wI (wI h 53 (ix (hI h 51 1)) (hI h 51 33)) 54 (ix (hI (wI h 53 (ix (hI h 51 1)) (hI h 51 33)) 51 1)) v2) 51 1)) (hI (wI (wI h 53 (ix (hI h 51 1)) (hI h 51 33)) 54 (ix (hI (wI h 53 (ix (hI h 51 1)) (hI h 51 33)) 51 1)) v2) 51 34)) 51 35)) 51 1)) (hI (wI (wI (wI (wI h 53 (ix (hI h 51 1)) (hI h 51 33)) 54 (ix (hI (wI h 53 (ix (hI h 51 1)) (hI h 51 33)) 51 1)) v2) 55 (ix (hI (wI (wI h 53 (ix (hI h 51 1)) (hI h 51 33)) 54 (ix (hI (wI h 53 (ix (hI h 51 1)) (hI h 51 33)) 51 1)) v2) 51 1)) (hI (wI (wI h 53 (ix (hI h 51 1)) (hI h 51 33)) 54 (ix (hI (wI h 53 (ix (hI h 51 1)) (hI h 51 33)) 51 1)) v2) 51 34)) 56 (ix (hI (wI (wI (wI h 53 (ix (hI h 51 1)) (hI h 51 33)) 54 (ix (hI (wI h 53 (ix (hI h 51 1)) (hI h 51 33)) 51 1)) v2) 55 (ix (hI (wI (wI h 53 (ix (hI h 51 1)) (hI h 51 33)) 54 (ix (hI (wI h 53 (ix (hI h 51 1)) (hI h 51 33)) 51 1)) v2) 51 1)) (hI (wI (wI h 53 (ix (hI h 51 1)) (hI h 51 33)) 54 (ix (hI (wI h 53 (ix (hI h 51 1)) (hI h 51 33)) 51 1)) v2) 51 34)) 51 1)) (hI (wI (wI (wI h 53 (ix (hI h 51 1)) (hI h 51 33)) 54 (ix (hI (wI h 53 (ix (hI h 51 1)) (hI h 51 33)) 51 1)) v2) 55 (ix (hI (wI (wI h 53 (ix (hI h 51 1)) (hI h 51 33)) 54 (ix (hI (wI h 53 (ix (hI h 51 1)) (hI h 51 33)) 51 1)) v2) 51 1)) (hI (wI (wI h 53 (ix (hI h 51 1)) (hI h 51 33)) 54 (ix (hI (wI h 53 (ix (hI h 51 1)) (hI h 51 33)) 51 1)) v2) 51 34)) 51 35)) 51 36)) 51 1) + 1)))))))) ∧ (¬ (hI h 51 29) = 0 → Q (-1) h)
set_option maxHeartbeats 4000000 in
set_option maxRecDepth 100000 in
theorem s_X12_deal_139 {l : Launch} {G : Cx} {d : Nat} {h0 : Hp} (hd : 10 ≤ d) {Q : Int32 → Hp → Prop} {v2 : Int32} {h : Hp} (hm : m_X12_deal_139 Q v2 h) : Rn l G d 0 0 MX12_deal h0 (qI Q) 139 [some (tR 12 0 (some 51)), none, some (tI v2)] [] h 0 0 := by
  unfold m_X12_deal_139 at hm
  refine r_aload_n dX12_deal_139 rfl rfl ?_
  refine r_getI (k := 29) cl_12 dX12_deal_140 t_1301 (Or.inl rfl) gf_12_29 ?_
  refine r_if_eq (tgt := 148) dX12_deal_143 rfl (fun hc => ?_) (fun hc => ?_)
  · replace hm := hm.1 hc
    refine r_aload_n dX12_deal_148 rfl rfl ?_
    refine r_getC (k := 2) cl_12 dX12_deal_149 t_1274 gf_12_2.1 gf_12_2.2 (gc_12_2 _) ?_
    refine r_aload_n dX12_deal_152 rfl rfl ?_
    refine r_getI (k := 1) cl_12 dX12_deal_153 t_1273 (Or.inl rfl) gf_12_1 ?_
    refine r_aload_n dX12_deal_156 rfl rfl ?_
    refine r_getI (k := 33) cl_12 dX12_deal_157 t_1305 (Or.inl rfl) gf_12_33 ?_
    refine r_iast dX12_deal_160 hm.1 ?_
    replace hm := hm.2
    refine r_aload_n dX12_deal_161 rfl rfl ?_
    refine r_getC (k := 3) cl_12 dX12_deal_162 t_1275 gf_12_3.1 gf_12_3.2 (gc_12_3 _) ?_
    refine r_aload_n dX12_deal_165 rfl rfl ?_
    refine r_getI (k := 1) cl_12 dX12_deal_166 t_1273 (Or.inl rfl) gf_12_1 ?_
    refine r_iload_n dX12_deal_169 rfl rfl ?_
    refine r_iast dX12_deal_170 hm.1 ?_
    replace hm := hm.2
    refine r_aload_n dX12_deal_171 rfl rfl ?_
    refine r_getC (k := 4) cl_12 dX12_deal_172 t_1276 gf_12_4.1 gf_12_4.2 (gc_12_4 _) ?_
    refine r_aload_n dX12_deal_175 rfl rfl ?_
    refine r_getI (k := 1) cl_12 dX12_deal_176 t_1273 (Or.inl rfl) gf_12_1 ?_
    refine r_aload_n dX12_deal_179 rfl rfl ?_
    refine r_getI (k := 34) cl_12 dX12_deal_180 t_1306 (Or.inl rfl) gf_12_34 ?_
    refine r_iast dX12_deal_183 hm.1 ?_
    replace hm := hm.2
    refine r_aload_n dX12_deal_184 rfl rfl ?_
    refine r_getC (k := 5) cl_12 dX12_deal_185 t_1277 gf_12_5.1 gf_12_5.2 (gc_12_5 _) ?_
    refine r_aload_n dX12_deal_188 rfl rfl ?_
    refine r_getI (k := 1) cl_12 dX12_deal_189 t_1273 (Or.inl rfl) gf_12_1 ?_
    refine r_aload_n dX12_deal_192 rfl rfl ?_
    refine r_getI (k := 35) cl_12 dX12_deal_193 t_1307 (Or.inl rfl) gf_12_35 ?_
    refine r_iast dX12_deal_196 hm.1 ?_
    replace hm := hm.2
    refine r_aload_n dX12_deal_197 rfl rfl ?_
    refine r_getC (k := 6) cl_12 dX12_deal_198 t_1278 gf_12_6.1 gf_12_6.2 (gc_12_6 _) ?_
    refine r_aload_n dX12_deal_201 rfl rfl ?_
    refine r_getI (k := 1) cl_12 dX12_deal_202 t_1273 (Or.inl rfl) gf_12_1 ?_
    refine r_aload_n dX12_deal_205 rfl rfl ?_
    refine r_getI (k := 36) cl_12 dX12_deal_206 t_1308 (Or.inl rfl) gf_12_36 ?_
    refine r_iast dX12_deal_209 hm.1 ?_
    replace hm := hm.2
    refine r_aload_n dX12_deal_210 rfl rfl ?_
    refine r_dup dX12_deal_211 cv_cat1R ?_
    refine r_getI (k := 1) cl_12 dX12_deal_212 t_1273 (Or.inl rfl) gf_12_1 ?_
    refine r_iconst (v := 1) dX12_deal_215 rfl ?_
    refine r_iadd dX12_deal_216 ?_
    refine r_putI0 (k := 1) cl_12 dX12_deal_217 t_1273 (Or.inl rfl) gf_12_1 pf_12_1.1 (Or.inl pf_12_1.2) ?_
    refine r_aload_n dX12_deal_220 rfl rfl ?_
    refine r_getI (k := 1) cl_12 dX12_deal_221 t_1273 (Or.inl rfl) gf_12_1 ?_
    refine r_iconst (v := 1) dX12_deal_224 rfl ?_
    refine r_isub dX12_deal_225 ?_
    exact r_ireturn dX12_deal_226 rfl ⟨by decide, by decide⟩ ⟨_, rfl, hm⟩
  · replace hm := hm.2 hc
    refine r_iconst (v := (-1)) dX12_deal_146 rfl ?_
    exact r_ireturn dX12_deal_147 rfl ⟨by decide, by decide⟩ ⟨_, rfl, hm⟩
def m_X12_deal_136 (k81 : Int32 → Int32 → Hp → Prop) (k139 : Int32 → Hp → Prop) (Q : Int32 → Hp → Prop) (v2 : Int32) (v3 : Int32) (h : Hp) : Prop := k81 v2 v3 h
set_option maxHeartbeats 4000000 in
set_option maxRecDepth 100000 in
theorem s_X12_deal_136 {l : Launch} {G : Cx} {d : Nat} {h0 : Hp} (hd : 10 ≤ d) {k81 : Int32 → Int32 → Hp → Prop} {k139 : Int32 → Hp → Prop} {Q : Int32 → Hp → Prop} (hk81 : ∀ (v2 : Int32) (v3 : Int32) (hh : Hp), k81 v2 v3 hh → Rn l G d 0 0 MX12_deal h0 (qI Q) 81 [some (tR 12 0 (some 51)), none, some (tI v2), some (tI v3)] [] hh 0 0) (hk139 : ∀ (v2 : Int32) (hh : Hp), k139 v2 hh → Rn l G d 0 0 MX12_deal h0 (qI Q) 139 [some (tR 12 0 (some 51)), none, some (tI v2)] [] hh 0 0) {v2 : Int32} {v3 : Int32} {h : Hp} (hm : m_X12_deal_136 k81 k139 Q v2 v3 h) : Rn l G d 0 0 MX12_deal h0 (qI Q) 136 [some (tR 12 0 (some 51)), none, some (tI v2), some (tI v3)] [] h 0 0 := by
  unfold m_X12_deal_136 at hm
  refine r_goto (tgt := 81) dX12_deal_136 rfl ?_
  refine r_keep (L' := [some (tR 12 0 (some 51)), none, some (tI v2), some (tI v3)]) [true, false, true, true] rfl ?_
  exact hk81 _ _ _ hm
def m_X12_deal_81 : Nat → (Int32 → Hp → Prop) → (Int32 → Hp → Prop) → Int32 → Int32 → Hp → Prop
  | 0, _, _, _, _, _ => False
  | n + 1, k139, Q, v2, v3, h => (v3 = 0 → k139 v2 h) ∧ (¬ v3 = 0 → (¬ (hI h 51 29) = 0 → k139 v2 h) ∧ ((hI h 51 29) = 0 → m_X12_kindHere h (fun (x1 : Int32) (h2 : Hp) => (0 ≤ x1 → (3 < x1 → m_X12_readGroup x1 h2 (fun (h4 : Hp) => m_X12_deal_136 (fun (v2 : Int32) (v3 : Int32) (hh : Hp) => m_X12_deal_81 n k139 Q v2 v3 hh) k139 Q v2 v3 h4)) ∧ (¬ 3 < x1 → m_X12_readLeaf x1 h2 (fun (h6 : Hp) => m_X12_closes h6 (fun (x7 : Int32) (h8 : Hp) => m_X12_deal_136 (fun (v2 : Int32) (v3 : Int32) (hh : Hp) => m_X12_deal_81 n k139 Q v2 v3 hh) k139 Q v2 x7 h8)))) ∧ (¬ 0 ≤ x1 → m_X12_errs h2 (fun (h10 : Hp) => m_X12_deal_136 (fun (v2 : Int32) (v3 : Int32) (hh : Hp) => m_X12_deal_81 n k139 Q v2 v3 hh) k139 Q v2 v3 h10)))))
set_option maxHeartbeats 4000000 in
set_option maxRecDepth 100000 in
theorem s_X12_deal_81 {l : Launch} {G : Cx} {d : Nat} {h0 : Hp} (hd : 10 ≤ d) {k139 : Int32 → Hp → Prop} {Q : Int32 → Hp → Prop} (hk139 : ∀ (v2 : Int32) (hh : Hp), k139 v2 hh → Rn l G d 0 0 MX12_deal h0 (qI Q) 139 [some (tR 12 0 (some 51)), none, some (tI v2)] [] hh 0 0) : ∀ {n : Nat} {v2 : Int32} {v3 : Int32} {h : Hp}, m_X12_deal_81 n k139 Q v2 v3 h → Rn l G d 0 0 MX12_deal h0 (qI Q) 81 [some (tR 12 0 (some 51)), none, some (tI v2), some (tI v3)] [] h 0 0 := by
  intro n
  induction n with
  | zero => intro v2 v3 h hm; exact hm.elim
  | succ n ih =>
    intro v2 v3 h hm
    have hk81 := fun (v2 : Int32) (v3 : Int32) (hh : Hp) (hm : m_X12_deal_81 n k139 Q v2 v3 hh) => ih hm
    rw [m_X12_deal_81] at hm
    refine r_iload_n dX12_deal_81 rfl rfl ?_
    refine r_if_eq (tgt := 139) dX12_deal_82 rfl (fun hc => ?_) (fun hc => ?_)
    · replace hm := hm.1 hc
      refine r_keep (L' := [some (tR 12 0 (some 51)), none, some (tI v2)]) [true, false, true] rfl ?_
      exact hk139 _ _ hm
    · replace hm := hm.2 hc
      refine r_aload_n dX12_deal_85 rfl rfl ?_
      refine r_getI (k := 29) cl_12 dX12_deal_86 t_1301 (Or.inl rfl) gf_12_29 ?_
      refine r_if_ne (tgt := 139) dX12_deal_89 rfl (fun hc => ?_) (fun hc => ?_)
      · replace hm := hm.1 hc
        refine r_keep (L' := [some (tR 12 0 (some 51)), none, some (tI v2)]) [true, false, true] rfl ?_
        exact hk139 _ _ hm
      · replace hm := hm.2 hc
        refine r_aload_n dX12_deal_92 rfl rfl ?_
        refine r_callVI (d' := d - 1) (as := []) (st := []) cl_12 dX12_deal_93 mi_X12_kindHere t_1583 t_1585 ts_60 rfl rfl (Nat.le_of_ble_eq_true rfl) (by omega) ⟨by decide, by decide⟩ ⟨rfl, rfl⟩ (s_X12_kindHere (by omega) hm) (fun x1 h2 hm => ?_)
        refine r_istore (L' := [some (tR 12 0 (some 51)), none, some (tI v2), some (tI v3), some (tI x1)]) dX12_deal_96 (by decide) rfl ?_
        refine r_iload dX12_deal_98 rfl ?_
        refine r_if_ge (tgt := 110) dX12_deal_100 rfl (fun hc => ?_) (fun hc => ?_)
        · replace hm := hm.1 hc
          refine r_iload dX12_deal_110 rfl ?_
          refine r_iconst (v := 3) dX12_deal_112 rfl ?_
          refine r_icmp_gt (tgt := 130) dX12_deal_113 rfl (fun hc => ?_) (fun hc => ?_)
          · replace hm := hm.1 hc
            refine r_aload_n dX12_deal_130 rfl rfl ?_
            refine r_iload dX12_deal_131 rfl ?_
            refine r_callVU (d' := d - 1) (as := [tI x1]) (st := []) cl_12 dX12_deal_133 mi_X12_readGroup t_1652 t_1654 ts_72 rfl rfl (Nat.le_of_ble_eq_true rfl) (by omega) ⟨by decide, by decide⟩ ⟨rfl, rfl⟩ (s_X12_readGroup (by omega) hm) (fun h4 hm => ?_)
            refine r_keep (L' := [some (tR 12 0 (some 51)), none, some (tI v2), some (tI v3)]) [true, false, true, true] rfl ?_
            exact s_X12_deal_136 hd hk81 hk139 hm
          · replace hm := hm.2 hc
            refine r_aload_n dX12_deal_116 rfl rfl ?_
            refine r_iload dX12_deal_117 rfl ?_
            refine r_callVU (d' := d - 1) (as := [tI x1]) (st := []) cl_12 dX12_deal_119 mi_X12_readLeaf t_1599 t_1601 ts_62 rfl rfl (Nat.le_of_ble_eq_true rfl) (by omega) ⟨by decide, by decide⟩ ⟨rfl, rfl⟩ (s_X12_readLeaf (by omega) hm) (fun h6 hm => ?_)
            refine r_aload_n dX12_deal_122 rfl rfl ?_
            refine r_callVI (d' := d - 1) (as := []) (st := []) cl_12 dX12_deal_123 mi_X12_closes t_1642 t_1644 ts_70 rfl rfl (Nat.le_of_ble_eq_true rfl) (by omega) ⟨by decide, by decide⟩ ⟨rfl, rfl⟩ (s_X12_closes (by omega) hm) (fun x7 h8 hm => ?_)
            refine r_istore_n (L' := [some (tR 12 0 (some 51)), none, some (tI v2), some (tI x7), some (tI x1)]) dX12_deal_126 rfl (by decide) rfl ?_
            refine r_goto (tgt := 136) dX12_deal_127 rfl ?_
            refine r_keep (L' := [some (tR 12 0 (some 51)), none, some (tI v2), some (tI x7)]) [true, false, true, true] rfl ?_
            exact s_X12_deal_136 hd hk81 hk139 hm
        · replace hm := hm.2 hc
          refine r_aload_n dX12_deal_103 rfl rfl ?_
          refine r_callVU (d' := d - 1) (as := []) (st := []) cl_12 dX12_deal_104 mi_X12_errs t_1595 t_1597 ts_61 rfl rfl (Nat.le_of_ble_eq_true rfl) (by omega) ⟨by decide, by decide⟩ ⟨rfl, rfl⟩ (s_X12_errs (by omega) hm) (fun h10 hm => ?_)
          refine r_goto (tgt := 136) dX12_deal_107 rfl ?_
          refine r_keep (L' := [some (tR 12 0 (some 51)), none, some (tI v2), some (tI v3)]) [true, false, true, true] rfl ?_
          exact s_X12_deal_136 hd hk81 hk139 hm
def m_X12_deal (v1 : Int32) (v2 : Int32) (h : Hp) (Q : Int32 → Hp → Prop) : Prop := (v1 < 0 → Q (-2) h) ∧ (¬ v1 < 0 → ((hI h 51 21) < v1 → Q (-2) h) ∧ (¬ (hI h 51 21) < v1 → m_X12_within v2 0 399 h (fun (x11 : Int32) (h12 : Hp) => (¬ x11 = 0 → (¬ (hI h12 51 1) = 24 → m_X12_beginsText v1 h12 (fun (h14 : Hp) => ∃ n81, m_X12_deal_81 n81 (m_X12_deal_139 Q) Q v2 1 (wI (wI (wI (wI (wI (wI h14 51 37 (96 * (hI h14 51 1))) 51 33 0) 51 32 0) 51 34 0) 51 35 0) 51 36 0))) ∧ ((hI h12 51 1) = 24 → Q (-3) h12)) ∧ (x11 = 0 → Q (-2) h12))))
set_option maxHeartbeats 4000000 in
set_option maxRecDepth 100000 in
theorem s_X12_deal {l : Launch} {G : Cx} {d : Nat} (hd : 10 ≤ d) {v1 : Int32} {v2 : Int32} {h : Hp} {Q : Int32 → Hp → Prop} (hm : m_X12_deal v1 v2 h Q) : Ct l G d 0 0 yX12_deal MX12_deal [tR 12 0 (some 51), tI v1, tI v2] h (qI Q) := by
  unfold m_X12_deal at hm
  refine Ct.of (L := [some (tR 12 0 (some 51)), some (tI v1), some (tI v2)]) (by decide) rfl rfl (Nat.le_of_ble_eq_true rfl) rfl ?_
  refine r_iload_n dX12_deal_0 rfl rfl ?_
  refine r_if_lt (tgt := 23) dX12_deal_1 rfl (fun hc => ?_) (fun hc => ?_)
  · replace hm := hm.1 hc
    refine r_bipush (v := (-2)) dX12_deal_23 rfl ?_
    exact r_ireturn dX12_deal_25 rfl ⟨by decide, by decide⟩ ⟨_, rfl, hm⟩
  · replace hm := hm.2 hc
    refine r_iload_n dX12_deal_4 rfl rfl ?_
    refine r_aload_n dX12_deal_5 rfl rfl ?_
    refine r_getI (k := 21) cl_12 dX12_deal_6 t_1293 (Or.inl rfl) gf_12_21 ?_
    refine r_icmp_gt (tgt := 23) dX12_deal_9 rfl (fun hc => ?_) (fun hc => ?_)
    · replace hm := hm.1 hc
      refine r_bipush (v := (-2)) dX12_deal_23 rfl ?_
      exact r_ireturn dX12_deal_25 rfl ⟨by decide, by decide⟩ ⟨_, rfl, hm⟩
    · replace hm := hm.2 hc
      refine r_iload_n dX12_deal_12 rfl rfl ?_
      refine r_iconst (v := 0) dX12_deal_13 rfl ?_
      refine r_sipush (v := 399) dX12_deal_14 rfl ?_
      refine r_callSI (d' := d - 1) (as := [tI v2, tI 0, tI 399]) (st := []) dX12_deal_17 mi_X12_within t_1557 t_1558 rfl rfl (Nat.le_of_ble_eq_true rfl) (by omega) ⟨by decide, by decide⟩ ⟨rfl, rfl⟩ (s_X12_within (by omega) hm) (fun x11 h12 hm => ?_)
      refine r_if_ne (tgt := 26) dX12_deal_20 rfl (fun hc => ?_) (fun hc => ?_)
      · replace hm := hm.1 hc
        refine r_aload_n dX12_deal_26 rfl rfl ?_
        refine r_getI (k := 1) cl_12 dX12_deal_27 t_1273 (Or.inl rfl) gf_12_1 ?_
        refine r_bipush (v := 24) dX12_deal_30 rfl ?_
        refine r_icmp_ne (tgt := 38) dX12_deal_32 rfl (fun hc => ?_) (fun hc => ?_)
        · replace hm := hm.1 hc
          refine r_aload_n dX12_deal_38 rfl rfl ?_
          refine r_iload_n dX12_deal_39 rfl rfl ?_
          refine r_callVU (d' := d - 1) (as := [tI v1]) (st := []) cl_12 dX12_deal_40 mi_X12_beginsText t_1568 t_1570 ts_57 rfl rfl (Nat.le_of_ble_eq_true rfl) (by omega) ⟨by decide, by decide⟩ ⟨rfl, rfl⟩ (s_X12_beginsText (by omega) hm) (fun h14 hm => ?_)
          refine r_aload_n dX12_deal_43 rfl rfl ?_
          refine r_bipush (v := 96) dX12_deal_44 rfl ?_
          refine r_aload_n dX12_deal_46 rfl rfl ?_
          refine r_getI (k := 1) cl_12 dX12_deal_47 t_1273 (Or.inl rfl) gf_12_1 ?_
          refine r_imul dX12_deal_50 ?_
          refine r_putI0 (k := 37) cl_12 dX12_deal_51 t_1309 (Or.inl rfl) gf_12_37 pf_12_37.1 (Or.inl pf_12_37.2) ?_
          refine r_aload_n dX12_deal_54 rfl rfl ?_
          refine r_iconst (v := 0) dX12_deal_55 rfl ?_
          refine r_putI0 (k := 33) cl_12 dX12_deal_56 t_1305 (Or.inl rfl) gf_12_33 pf_12_33.1 (Or.inl pf_12_33.2) ?_
          refine r_aload_n dX12_deal_59 rfl rfl ?_
          refine r_iconst (v := 0) dX12_deal_60 rfl ?_
          refine r_putI0 (k := 32) cl_12 dX12_deal_61 t_1304 (Or.inl rfl) gf_12_32 pf_12_32.1 (Or.inl pf_12_32.2) ?_
          refine r_aload_n dX12_deal_64 rfl rfl ?_
          refine r_iconst (v := 0) dX12_deal_65 rfl ?_
          refine r_putI0 (k := 34) cl_12 dX12_deal_66 t_1306 (Or.inl rfl) gf_12_34 pf_12_34.1 (Or.inl pf_12_34.2) ?_
          refine r_aload_n dX12_deal_69 rfl rfl ?_
          refine r_iconst (v := 0) dX12_deal_70 rfl ?_
          refine r_putI0 (k := 35) cl_12 dX12_deal_71 t_1307 (Or.inl rfl) gf_12_35 pf_12_35.1 (Or.inl pf_12_35.2) ?_
          refine r_aload_n dX12_deal_74 rfl rfl ?_
          refine r_iconst (v := 0) dX12_deal_75 rfl ?_
          refine r_putI0 (k := 36) cl_12 dX12_deal_76 t_1308 (Or.inl rfl) gf_12_36 pf_12_36.1 (Or.inl pf_12_36.2) ?_
          refine r_iconst (v := 1) dX12_deal_79 rfl ?_
          refine r_istore_n (L' := [some (tR 12 0 (some 51)), some (tI v1), some (tI v2), some (tI 1)]) dX12_deal_80 rfl (by decide) rfl ?_
          refine r_keep (L' := [some (tR 12 0 (some 51)), none, some (tI v2), some (tI 1)]) [true, false, true, true] rfl ?_
          obtain ⟨n, hm⟩ := hm
          refine s_X12_deal_81 hd ?_ hm
          · exact (fun _ _ hm => s_X12_deal_139 hd hm)
        · replace hm := hm.2 hc
          refine r_bipush (v := (-3)) dX12_deal_35 rfl ?_
          exact r_ireturn dX12_deal_37 rfl ⟨by decide, by decide⟩ ⟨_, rfl, hm⟩
      · replace hm := hm.2 hc
        refine r_bipush (v := (-2)) dX12_deal_23 rfl ?_
        exact r_ireturn dX12_deal_25 rfl ⟨by decide, by decide⟩ ⟨_, rfl, hm⟩
theorem dX12_fault_0 : decode cX12_fault 0 = .ok (.aload_n 0, 1) := rfl
theorem dX12_fault_1 : decode cX12_fault 1 = .ok (.getfield 71, 3) := rfl
theorem dX12_fault_4 : decode cX12_fault 4 = .ok (.ireturn, 1) := rfl
def m_X12_fault  (h : Hp) (Q : Int32 → Hp → Prop) : Prop := Q (hI h 51 22) h
set_option maxHeartbeats 4000000 in
set_option maxRecDepth 100000 in
theorem s_X12_fault {l : Launch} {G : Cx} {d : Nat} (hd : 2 ≤ d) {h : Hp} {Q : Int32 → Hp → Prop} (hm : m_X12_fault h Q) : Ct l G d 0 0 yX12_fault MX12_fault [tR 12 0 (some 51)] h (qI Q) := by
  unfold m_X12_fault at hm
  refine Ct.of (L := [some (tR 12 0 (some 51))]) (by decide) rfl rfl (Nat.le_of_ble_eq_true rfl) rfl ?_
  refine r_aload_n dX12_fault_0 rfl rfl ?_
  refine r_getI (k := 22) cl_12 dX12_fault_1 t_1294 (Or.inl rfl) gf_12_22 ?_
  exact r_ireturn dX12_fault_4 rfl ⟨by decide, by decide⟩ ⟨_, rfl, hm⟩
theorem dX12_isDeal_0 : decode cX12_isDeal 0 = .ok (.iload_n 1, 1) := rfl
theorem dX12_isDeal_1 : decode cX12_isDeal 1 = .ok (.ifCond .lt 15, 3) := by decide +kernel
theorem dX12_isDeal_4 : decode cX12_isDeal 4 = .ok (.iload_n 1, 1) := rfl
theorem dX12_isDeal_5 : decode cX12_isDeal 5 = .ok (.aload_n 0, 1) := rfl
theorem dX12_isDeal_6 : decode cX12_isDeal 6 = .ok (.getfield 332, 3) := rfl
theorem dX12_isDeal_9 : decode cX12_isDeal 9 = .ok (.if_icmp .ge 7, 3) := by decide +kernel
theorem dX12_isDeal_12 : decode cX12_isDeal 12 = .ok (.iconst 1, 1) := rfl
theorem dX12_isDeal_13 : decode cX12_isDeal 13 = .ok (.goto 4, 3) := by decide +kernel
theorem dX12_isDeal_16 : decode cX12_isDeal 16 = .ok (.iconst 0, 1) := rfl
theorem dX12_isDeal_17 : decode cX12_isDeal 17 = .ok (.ireturn, 1) := rfl
def m_X12_isDeal (v1 : Int32) (h : Hp) (Q : Int32 → Hp → Prop) : Prop := (v1 < 0 → Q 0 h) ∧ (¬ v1 < 0 → ((hI h 51 1) ≤ v1 → Q 0 h) ∧ (¬ (hI h 51 1) ≤ v1 → Q 1 h))
set_option maxHeartbeats 4000000 in
set_option maxRecDepth 100000 in
theorem s_X12_isDeal {l : Launch} {G : Cx} {d : Nat} (hd : 2 ≤ d) {v1 : Int32} {h : Hp} {Q : Int32 → Hp → Prop} (hm : m_X12_isDeal v1 h Q) : Ct l G d 0 0 yX12_isDeal MX12_isDeal [tR 12 0 (some 51), tI v1] h (qI Q) := by
  unfold m_X12_isDeal at hm
  refine Ct.of (L := [some (tR 12 0 (some 51)), some (tI v1)]) (by decide) rfl rfl (Nat.le_of_ble_eq_true rfl) rfl ?_
  refine r_iload_n dX12_isDeal_0 rfl rfl ?_
  refine r_if_lt (tgt := 16) dX12_isDeal_1 rfl (fun hc => ?_) (fun hc => ?_)
  · replace hm := hm.1 hc
    refine r_iconst (v := 0) dX12_isDeal_16 rfl ?_
    exact r_bret dX12_isDeal_17 rfl ⟨by decide, by decide⟩ (by unfold bz; decide) ⟨_, rfl, hm⟩
  · replace hm := hm.2 hc
    refine r_iload_n dX12_isDeal_4 rfl rfl ?_
    refine r_aload_n dX12_isDeal_5 rfl rfl ?_
    refine r_getI (k := 1) cl_12 dX12_isDeal_6 t_1273 (Or.inl rfl) gf_12_1 ?_
    refine r_icmp_ge (tgt := 16) dX12_isDeal_9 rfl (fun hc => ?_) (fun hc => ?_)
    · replace hm := hm.1 hc
      refine r_iconst (v := 0) dX12_isDeal_16 rfl ?_
      exact r_bret dX12_isDeal_17 rfl ⟨by decide, by decide⟩ (by unfold bz; decide) ⟨_, rfl, hm⟩
    · replace hm := hm.2 hc
      refine r_iconst (v := 1) dX12_isDeal_12 rfl ?_
      refine r_goto (tgt := 17) dX12_isDeal_13 rfl ?_
      exact r_bret dX12_isDeal_17 rfl ⟨by decide, by decide⟩ (by unfold bz; decide) ⟨_, rfl, hm⟩
theorem dX12_isLeaf_0 : decode cX12_isLeaf 0 = .ok (.aload_n 0, 1) := rfl
theorem dX12_isLeaf_1 : decode cX12_isLeaf 1 = .ok (.getfield 28, 3) := rfl
theorem dX12_isLeaf_4 : decode cX12_isLeaf 4 = .ok (.iload_n 1, 1) := rfl
theorem dX12_isLeaf_5 : decode cX12_isLeaf 5 = .ok (.iaload, 1) := rfl
theorem dX12_isLeaf_6 : decode cX12_isLeaf 6 = .ok (.iconst 3, 1) := rfl
theorem dX12_isLeaf_7 : decode cX12_isLeaf 7 = .ok (.if_icmp .gt 7, 3) := by decide +kernel
theorem dX12_isLeaf_10 : decode cX12_isLeaf 10 = .ok (.iconst 1, 1) := rfl
theorem dX12_isLeaf_11 : decode cX12_isLeaf 11 = .ok (.goto 4, 3) := by decide +kernel
theorem dX12_isLeaf_14 : decode cX12_isLeaf 14 = .ok (.iconst 0, 1) := rfl
theorem dX12_isLeaf_15 : decode cX12_isLeaf 15 = .ok (.ireturn, 1) := rfl
def m_X12_isLeaf (v1 : Int32) (h : Hp) (Q : Int32 → Hp → Prop) : Prop := vp_in v1 2304 ∧ ((3 < (hI h 58 (ix v1)) → Q 0 h) ∧ (¬ 3 < (hI h 58 (ix v1)) → Q 1 h))
set_option maxHeartbeats 4000000 in
set_option maxRecDepth 100000 in
theorem s_X12_isLeaf {l : Launch} {G : Cx} {d : Nat} (hd : 2 ≤ d) {v1 : Int32} {h : Hp} {Q : Int32 → Hp → Prop} (hm : m_X12_isLeaf v1 h Q) : Ct l G d 0 0 yX12_isLeaf MX12_isLeaf [tR 12 0 (some 51), tI v1] h (qI Q) := by
  unfold m_X12_isLeaf at hm
  refine Ct.of (L := [some (tR 12 0 (some 51)), some (tI v1)]) (by decide) rfl rfl (Nat.le_of_ble_eq_true rfl) rfl ?_
  refine r_aload_n dX12_isLeaf_0 rfl rfl ?_
  refine r_getC (k := 7) cl_12 dX12_isLeaf_1 t_1279 gf_12_7.1 gf_12_7.2 (gc_12_7 _) ?_
  refine r_iload_n dX12_isLeaf_4 rfl rfl ?_
  refine r_iald dX12_isLeaf_5 hm.1 ?_
  replace hm := hm.2
  refine r_iconst (v := 3) dX12_isLeaf_6 rfl ?_
  refine r_icmp_gt (tgt := 14) dX12_isLeaf_7 rfl (fun hc => ?_) (fun hc => ?_)
  · replace hm := hm.1 hc
    refine r_iconst (v := 0) dX12_isLeaf_14 rfl ?_
    exact r_bret dX12_isLeaf_15 rfl ⟨by decide, by decide⟩ (by unfold bz; decide) ⟨_, rfl, hm⟩
  · replace hm := hm.2 hc
    refine r_iconst (v := 1) dX12_isLeaf_10 rfl ?_
    refine r_goto (tgt := 15) dX12_isLeaf_11 rfl ?_
    exact r_bret dX12_isLeaf_15 rfl ⟨by decide, by decide⟩ (by unfold bz; decide) ⟨_, rfl, hm⟩
theorem dX12_later_0 : decode cX12_later 0 = .ok (.iconst 0, 1) := rfl
theorem dX12_later_1 : decode cX12_later 1 = .ok (.istore_n 2, 1) := rfl
theorem dX12_later_2 : decode cX12_later 2 = .ok (.aload_n 0, 1) := rfl
theorem dX12_later_3 : decode cX12_later 3 = .ok (.getfield 34, 3) := rfl
theorem dX12_later_6 : decode cX12_later 6 = .ok (.iload_n 1, 1) := rfl
theorem dX12_later_7 : decode cX12_later 7 = .ok (.iaload, 1) := rfl
theorem dX12_later_8 : decode cX12_later 8 = .ok (.istore_n 3, 1) := rfl
theorem dX12_later_9 : decode cX12_later 9 = .ok (.iload_n 3, 1) := rfl
theorem dX12_later_10 : decode cX12_later 10 = .ok (.ifCond .lt 36, 3) := by decide +kernel
theorem dX12_later_13 : decode cX12_later 13 = .ok (.iload_n 2, 1) := rfl
theorem dX12_later_14 : decode cX12_later 14 = .ok (.aload_n 0, 1) := rfl
theorem dX12_later_15 : decode cX12_later 15 = .ok (.getfield 28, 3) := rfl
theorem dX12_later_18 : decode cX12_later 18 = .ok (.iload_n 3, 1) := rfl
theorem dX12_later_19 : decode cX12_later 19 = .ok (.iaload, 1) := rfl
theorem dX12_later_20 : decode cX12_later 20 = .ok (.iconst 4, 1) := rfl
theorem dX12_later_21 : decode cX12_later 21 = .ok (.if_icmp .ne 12, 3) := by decide +kernel
theorem dX12_later_24 : decode cX12_later 24 = .ok (.aload_n 0, 1) := rfl
theorem dX12_later_25 : decode cX12_later 25 = .ok (.getfield 31, 3) := rfl
theorem dX12_later_28 : decode cX12_later 28 = .ok (.iload_n 3, 1) := rfl
theorem dX12_later_29 : decode cX12_later 29 = .ok (.iaload, 1) := rfl
theorem dX12_later_30 : decode cX12_later 30 = .ok (.goto 4, 3) := by decide +kernel
theorem dX12_later_33 : decode cX12_later 33 = .ok (.iconst 0, 1) := rfl
theorem dX12_later_34 : decode cX12_later 34 = .ok (.iadd, 1) := rfl
theorem dX12_later_35 : decode cX12_later 35 = .ok (.istore_n 2, 1) := rfl
theorem dX12_later_36 : decode cX12_later 36 = .ok (.aload_n 0, 1) := rfl
theorem dX12_later_37 : decode cX12_later 37 = .ok (.getfield 34, 3) := rfl
theorem dX12_later_40 : decode cX12_later 40 = .ok (.iload_n 3, 1) := rfl
theorem dX12_later_41 : decode cX12_later 41 = .ok (.iaload, 1) := rfl
theorem dX12_later_42 : decode cX12_later 42 = .ok (.istore_n 3, 1) := rfl
theorem dX12_later_43 : decode cX12_later 43 = .ok (.goto (-34), 3) := by decide +kernel
theorem dX12_later_46 : decode cX12_later 46 = .ok (.iload_n 2, 1) := rfl
theorem dX12_later_47 : decode cX12_later 47 = .ok (.ireturn, 1) := rfl
def m_X12_later_34 (k9 : Int32 → Int32 → Hp → Prop) (Q : Int32 → Hp → Prop) (v3 : Int32) (s0 : Int32) (s1 : Int32) (h : Hp) : Prop := ∀ x1 : Int32, x1 = (s0 + s1) → vp_in v3 2304 ∧ (∀ x2 : Int32, x2 = (hI h 60 (ix v3)) → k9 x1 x2 h)
set_option maxHeartbeats 4000000 in
set_option maxRecDepth 100000 in
theorem s_X12_later_34 {l : Launch} {G : Cx} {d : Nat} {h0 : Hp} (hd : 2 ≤ d) {k9 : Int32 → Int32 → Hp → Prop} {Q : Int32 → Hp → Prop} (hk9 : ∀ (v2 : Int32) (v3 : Int32) (hh : Hp), k9 v2 v3 hh → Rn l G d 0 0 MX12_later h0 (qI Q) 9 [some (tR 12 0 (some 51)), none, some (tI v2), some (tI v3)] [] hh 0 0) {v3 : Int32} {s0 : Int32} {s1 : Int32} {h : Hp} (hm : m_X12_later_34 k9 Q v3 s0 s1 h) : Rn l G d 0 0 MX12_later h0 (qI Q) 34 [some (tR 12 0 (some 51)), none, none, some (tI v3)] [tI s1, tI s0] h 0 0 := by
  unfold m_X12_later_34 at hm
  refine r_iadd dX12_later_34 ?_
  refine r_nmI (fun x1 e_x1 => ?_)
  replace hm := hm x1 e_x1
  refine r_istore_n (L' := [some (tR 12 0 (some 51)), none, some (tI x1), some (tI v3)]) dX12_later_35 rfl (by decide) rfl ?_
  refine r_aload_n dX12_later_36 rfl rfl ?_
  refine r_getC (k := 9) cl_12 dX12_later_37 t_1281 gf_12_9.1 gf_12_9.2 (gc_12_9 _) ?_
  refine r_iload_n dX12_later_40 rfl rfl ?_
  refine r_iald dX12_later_41 hm.1 ?_
  replace hm := hm.2
  refine r_nmI (fun x2 e_x2 => ?_)
  replace hm := hm x2 e_x2
  refine r_istore_n (L' := [some (tR 12 0 (some 51)), none, some (tI x1), some (tI x2)]) dX12_later_42 rfl (by decide) rfl ?_
  refine r_goto (tgt := 9) dX12_later_43 rfl ?_
  refine r_keep (L' := [some (tR 12 0 (some 51)), none, some (tI x1), some (tI x2)]) [true, false, true, true] rfl ?_
  exact hk9 _ _ _ hm
def m_X12_later_9 : Nat → (Int32 → Hp → Prop) → Int32 → Int32 → Hp → Prop
  | 0, _, _, _, _ => False
  | n + 1, Q, v2, v3, h => (v3 < 0 → Q v2 h) ∧ (¬ v3 < 0 → vp_in v3 2304 ∧ ((¬ (hI h 58 (ix v3)) = 4 → m_X12_later_34 (fun (v2 : Int32) (v3 : Int32) (hh : Hp) => m_X12_later_9 n Q v2 v3 hh) Q v3 v2 0 h) ∧ ((hI h 58 (ix v3)) = 4 → vp_in v3 2304 ∧ (m_X12_later_34 (fun (v2 : Int32) (v3 : Int32) (hh : Hp) => m_X12_later_9 n Q v2 v3 hh) Q v3 v2 (hI h 59 (ix v3)) h))))
set_option maxHeartbeats 4000000 in
set_option maxRecDepth 100000 in
theorem s_X12_later_9 {l : Launch} {G : Cx} {d : Nat} {h0 : Hp} (hd : 2 ≤ d) {Q : Int32 → Hp → Prop} : ∀ {n : Nat} {v2 : Int32} {v3 : Int32} {h : Hp}, m_X12_later_9 n Q v2 v3 h → Rn l G d 0 0 MX12_later h0 (qI Q) 9 [some (tR 12 0 (some 51)), none, some (tI v2), some (tI v3)] [] h 0 0 := by
  intro n
  induction n with
  | zero => intro v2 v3 h hm; exact hm.elim
  | succ n ih =>
    intro v2 v3 h hm
    have hk9 := fun (v2 : Int32) (v3 : Int32) (hh : Hp) (hm : m_X12_later_9 n Q v2 v3 hh) => ih hm
    rw [m_X12_later_9] at hm
    refine r_iload_n dX12_later_9 rfl rfl ?_
    refine r_if_lt (tgt := 46) dX12_later_10 rfl (fun hc => ?_) (fun hc => ?_)
    · replace hm := hm.1 hc
      refine r_iload_n dX12_later_46 rfl rfl ?_
      exact r_ireturn dX12_later_47 rfl ⟨by decide, by decide⟩ ⟨_, rfl, hm⟩
    · replace hm := hm.2 hc
      refine r_iload_n dX12_later_13 rfl rfl ?_
      refine r_aload_n dX12_later_14 rfl rfl ?_
      refine r_getC (k := 7) cl_12 dX12_later_15 t_1279 gf_12_7.1 gf_12_7.2 (gc_12_7 _) ?_
      refine r_iload_n dX12_later_18 rfl rfl ?_
      refine r_iald dX12_later_19 hm.1 ?_
      replace hm := hm.2
      refine r_iconst (v := 4) dX12_later_20 rfl ?_
      refine r_icmp_ne (tgt := 33) dX12_later_21 rfl (fun hc => ?_) (fun hc => ?_)
      · replace hm := hm.1 hc
        refine r_iconst (v := 0) dX12_later_33 rfl ?_
        refine r_keep (L' := [some (tR 12 0 (some 51)), none, none, some (tI v3)]) [true, false, false, true] rfl ?_
        exact s_X12_later_34 hd hk9 hm
      · replace hm := hm.2 hc
        refine r_aload_n dX12_later_24 rfl rfl ?_
        refine r_getC (k := 8) cl_12 dX12_later_25 t_1280 gf_12_8.1 gf_12_8.2 (gc_12_8 _) ?_
        refine r_iload_n dX12_later_28 rfl rfl ?_
        refine r_iald dX12_later_29 hm.1 ?_
        replace hm := hm.2
        refine r_goto (tgt := 34) dX12_later_30 rfl ?_
        refine r_keep (L' := [some (tR 12 0 (some 51)), none, none, some (tI v3)]) [true, false, false, true] rfl ?_
        exact s_X12_later_34 hd hk9 hm
def m_X12_later (v1 : Int32) (h : Hp) (Q : Int32 → Hp → Prop) : Prop := vp_in v1 2304 ∧ (∀ x3 : Int32, x3 = (hI h 60 (ix v1)) → ∃ n9, m_X12_later_9 n9 Q 0 x3 h)
set_option maxHeartbeats 4000000 in
set_option maxRecDepth 100000 in
theorem s_X12_later {l : Launch} {G : Cx} {d : Nat} (hd : 2 ≤ d) {v1 : Int32} {h : Hp} {Q : Int32 → Hp → Prop} (hm : m_X12_later v1 h Q) : Ct l G d 0 0 yX12_later MX12_later [tR 12 0 (some 51), tI v1] h (qI Q) := by
  unfold m_X12_later at hm
  refine Ct.of (L := [some (tR 12 0 (some 51)), some (tI v1)]) (by decide) rfl rfl (Nat.le_of_ble_eq_true rfl) rfl ?_
  refine r_iconst (v := 0) dX12_later_0 rfl ?_
  refine r_istore_n (L' := [some (tR 12 0 (some 51)), some (tI v1), some (tI 0)]) dX12_later_1 rfl (by decide) rfl ?_
  refine r_aload_n dX12_later_2 rfl rfl ?_
  refine r_getC (k := 9) cl_12 dX12_later_3 t_1281 gf_12_9.1 gf_12_9.2 (gc_12_9 _) ?_
  refine r_iload_n dX12_later_6 rfl rfl ?_
  refine r_iald dX12_later_7 hm.1 ?_
  replace hm := hm.2
  refine r_nmI (fun x3 e_x3 => ?_)
  replace hm := hm x3 e_x3
  refine r_istore_n (L' := [some (tR 12 0 (some 51)), some (tI v1), some (tI 0), some (tI x3)]) dX12_later_8 rfl (by decide) rfl ?_
  refine r_keep (L' := [some (tR 12 0 (some 51)), none, some (tI 0), some (tI x3)]) [true, false, true, true] rfl ?_
  obtain ⟨n, hm⟩ := hm
  refine s_X12_later_9 hd hm
theorem dX12_size_0 : decode cX12_size 0 = .ok (.aload_n 0, 1) := by decide +kernel
theorem dX12_size_1 : decode cX12_size 1 = .ok (.iload_n 1, 1) := by decide +kernel
theorem dX12_size_2 : decode cX12_size 2 = .ok (.invokevirtual 352, 3) := by decide +kernel
theorem dX12_size_5 : decode cX12_size 5 = .ok (.ifCond .eq 12, 3) := by decide +kernel
theorem dX12_size_8 : decode cX12_size 8 = .ok (.iload_n 2, 1) := by decide +kernel
theorem dX12_size_9 : decode cX12_size 9 = .ok (.iconst 0, 1) := by decide +kernel
theorem dX12_size_10 : decode cX12_size 10 = .ok (.iconst 5, 1) := by decide +kernel
theorem dX12_size_11 : decode cX12_size 11 = .ok (.invokestatic 185, 3) := by decide +kernel
theorem dX12_size_14 : decode cX12_size 14 = .ok (.ifCond .ne 5, 3) := by decide +kernel
theorem dX12_size_17 : decode cX12_size 17 = .ok (.iconst (-1), 1) := by decide +kernel
theorem dX12_size_18 : decode cX12_size 18 = .ok (.ireturn, 1) := by decide +kernel
theorem dX12_size_19 : decode cX12_size 19 = .ok (.iload_n 2, 1) := by decide +kernel
theorem dX12_size_20 : decode cX12_size 20 = .ok (.iconst 4, 1) := by decide +kernel
theorem dX12_size_21 : decode cX12_size 21 = .ok (.if_icmp .ge 51, 3) := by decide +kernel
theorem dX12_size_24 : decode cX12_size 24 = .ok (.iload_n 2, 1) := by decide +kernel
theorem dX12_size_25 : decode cX12_size 25 = .ok (.ifCond .ne 12, 3) := by decide +kernel
theorem dX12_size_28 : decode cX12_size 28 = .ok (.aload_n 0, 1) := by decide +kernel
theorem dX12_size_29 : decode cX12_size 29 = .ok (.getfield 19, 3) := by decide +kernel
theorem dX12_size_32 : decode cX12_size 32 = .ok (.iload_n 1, 1) := by decide +kernel
theorem dX12_size_33 : decode cX12_size 33 = .ok (.iaload, 1) := by decide +kernel
theorem dX12_size_34 : decode cX12_size 34 = .ok (.goto 37, 3) := by decide +kernel
theorem dX12_size_37 : decode cX12_size 37 = .ok (.iload_n 2, 1) := by decide +kernel
theorem dX12_size_38 : decode cX12_size 38 = .ok (.iconst 1, 1) := by decide +kernel
theorem dX12_size_39 : decode cX12_size 39 = .ok (.if_icmp .ne 12, 3) := by decide +kernel
theorem dX12_size_42 : decode cX12_size 42 = .ok (.aload_n 0, 1) := by decide +kernel
theorem dX12_size_43 : decode cX12_size 43 = .ok (.getfield 22, 3) := by decide +kernel
theorem dX12_size_46 : decode cX12_size 46 = .ok (.iload_n 1, 1) := by decide +kernel
theorem dX12_size_47 : decode cX12_size 47 = .ok (.iaload, 1) := by decide +kernel
theorem dX12_size_48 : decode cX12_size 48 = .ok (.goto 23, 3) := by decide +kernel
theorem dX12_size_51 : decode cX12_size 51 = .ok (.iload_n 2, 1) := by decide +kernel
theorem dX12_size_52 : decode cX12_size 52 = .ok (.iconst 2, 1) := by decide +kernel
theorem dX12_size_53 : decode cX12_size 53 = .ok (.if_icmp .ne 12, 3) := by decide +kernel
theorem dX12_size_56 : decode cX12_size 56 = .ok (.aload_n 0, 1) := by decide +kernel
theorem dX12_size_57 : decode cX12_size 57 = .ok (.getfield 25, 3) := by decide +kernel
theorem dX12_size_60 : decode cX12_size 60 = .ok (.iload_n 1, 1) := by decide +kernel
theorem dX12_size_61 : decode cX12_size 61 = .ok (.iaload, 1) := by decide +kernel
theorem dX12_size_62 : decode cX12_size 62 = .ok (.goto 9, 3) := by decide +kernel
theorem dX12_size_65 : decode cX12_size 65 = .ok (.aload_n 0, 1) := by decide +kernel
theorem dX12_size_66 : decode cX12_size 66 = .ok (.getfield 16, 3) := by decide +kernel
theorem dX12_size_69 : decode cX12_size 69 = .ok (.iload_n 1, 1) := by decide +kernel
theorem dX12_size_70 : decode cX12_size 70 = .ok (.iaload, 1) := by decide +kernel
theorem dX12_size_71 : decode cX12_size 71 = .ok (.ireturn, 1) := by decide +kernel
theorem dX12_size_72 : decode cX12_size 72 = .ok (.iconst 0, 1) := by decide +kernel
theorem dX12_size_73 : decode cX12_size 73 = .ok (.istore_n 3, 1) := by decide +kernel
theorem dX12_size_74 : decode cX12_size 74 = .ok (.bipush 96, 2) := by decide +kernel
theorem dX12_size_76 : decode cX12_size 76 = .ok (.iload_n 1, 1) := by decide +kernel
theorem dX12_size_77 : decode cX12_size 77 = .ok (.imul, 1) := by decide +kernel
theorem dX12_size_78 : decode cX12_size 78 = .ok (.istore 4, 2) := by decide +kernel
theorem dX12_size_80 : decode cX12_size 80 = .ok (.iload 4, 2) := by decide +kernel
theorem dX12_size_82 : decode cX12_size 82 = .ok (.bipush 96, 2) := by decide +kernel
theorem dX12_size_84 : decode cX12_size 84 = .ok (.iload_n 1, 1) := by decide +kernel
theorem dX12_size_85 : decode cX12_size 85 = .ok (.imul, 1) := by decide +kernel
theorem dX12_size_86 : decode cX12_size 86 = .ok (.aload_n 0, 1) := by decide +kernel
theorem dX12_size_87 : decode cX12_size 87 = .ok (.getfield 13, 3) := by decide +kernel
theorem dX12_size_90 : decode cX12_size 90 = .ok (.iload_n 1, 1) := by decide +kernel
theorem dX12_size_91 : decode cX12_size 91 = .ok (.iaload, 1) := by decide +kernel
theorem dX12_size_92 : decode cX12_size 92 = .ok (.iadd, 1) := by decide +kernel
theorem dX12_size_93 : decode cX12_size 93 = .ok (.if_icmp .ge 67, 3) := by decide +kernel
theorem dX12_size_96 : decode cX12_size 96 = .ok (.aload_n 0, 1) := by decide +kernel
theorem dX12_size_97 : decode cX12_size 97 = .ok (.iload 4, 2) := by decide +kernel
theorem dX12_size_99 : decode cX12_size 99 = .ok (.invokevirtual 356, 3) := by decide +kernel
theorem dX12_size_102 : decode cX12_size 102 = .ok (.ifCond .eq 52, 3) := by decide +kernel
theorem dX12_size_105 : decode cX12_size 105 = .ok (.iload_n 3, 1) := by decide +kernel
theorem dX12_size_106 : decode cX12_size 106 = .ok (.iload_n 2, 1) := by decide +kernel
theorem dX12_size_107 : decode cX12_size 107 = .ok (.iconst 4, 1) := by decide +kernel
theorem dX12_size_108 : decode cX12_size 108 = .ok (.if_icmp .ne 35, 3) := by decide +kernel
theorem dX12_size_111 : decode cX12_size 111 = .ok (.iconst 1, 1) := by decide +kernel
theorem dX12_size_112 : decode cX12_size 112 = .ok (.aload_n 0, 1) := by decide +kernel
theorem dX12_size_113 : decode cX12_size 113 = .ok (.getfield 7, 3) := by decide +kernel
theorem dX12_size_116 : decode cX12_size 116 = .ok (.aload_n 0, 1) := by decide +kernel
theorem dX12_size_117 : decode cX12_size 117 = .ok (.getfield 46, 3) := by decide +kernel
theorem dX12_size_120 : decode cX12_size 120 = .ok (.iload 4, 2) := by decide +kernel
theorem dX12_size_122 : decode cX12_size 122 = .ok (.iaload, 1) := by decide +kernel
theorem dX12_size_123 : decode cX12_size 123 = .ok (.iaload, 1) := by decide +kernel
theorem dX12_size_124 : decode cX12_size 124 = .ok (.ishl, 1) := by decide +kernel
theorem dX12_size_125 : decode cX12_size 125 = .ok (.iconst 1, 1) := by decide +kernel
theorem dX12_size_126 : decode cX12_size 126 = .ok (.aload_n 0, 1) := by decide +kernel
theorem dX12_size_127 : decode cX12_size 127 = .ok (.getfield 7, 3) := by decide +kernel
theorem dX12_size_130 : decode cX12_size 130 = .ok (.aload_n 0, 1) := by decide +kernel
theorem dX12_size_131 : decode cX12_size 131 = .ok (.getfield 49, 3) := by decide +kernel
theorem dX12_size_134 : decode cX12_size 134 = .ok (.iload 4, 2) := by decide +kernel
theorem dX12_size_136 : decode cX12_size 136 = .ok (.iaload, 1) := by decide +kernel
theorem dX12_size_137 : decode cX12_size 137 = .ok (.iaload, 1) := by decide +kernel
theorem dX12_size_138 : decode cX12_size 138 = .ok (.ishl, 1) := by decide +kernel
theorem dX12_size_139 : decode cX12_size 139 = .ok (.ior, 1) := by decide +kernel
theorem dX12_size_140 : decode cX12_size 140 = .ok (.goto 12, 3) := by decide +kernel
theorem dX12_size_143 : decode cX12_size 143 = .ok (.iconst 1, 1) := by decide +kernel
theorem dX12_size_144 : decode cX12_size 144 = .ok (.aload_n 0, 1) := by decide +kernel
theorem dX12_size_145 : decode cX12_size 145 = .ok (.getfield 52, 3) := by decide +kernel
theorem dX12_size_148 : decode cX12_size 148 = .ok (.iload 4, 2) := by decide +kernel
theorem dX12_size_150 : decode cX12_size 150 = .ok (.iaload, 1) := by decide +kernel
theorem dX12_size_151 : decode cX12_size 151 = .ok (.ishl, 1) := by decide +kernel
theorem dX12_size_152 : decode cX12_size 152 = .ok (.ior, 1) := by decide +kernel
theorem dX12_size_153 : decode cX12_size 153 = .ok (.istore_n 3, 1) := by decide +kernel
theorem dX12_size_154 : decode cX12_size 154 = .ok (.iinc 4 1, 3) := by decide +kernel
theorem dX12_size_157 : decode cX12_size 157 = .ok (.goto (-77), 3) := by decide +kernel
theorem dX12_size_160 : decode cX12_size 160 = .ok (.iload_n 3, 1) := by decide +kernel
theorem dX12_size_161 : decode cX12_size 161 = .ok (.ireturn, 1) := by decide +kernel
def m_X12_size_154 (k80 : Int32 → Int32 → Int32 → Int32 → Hp → Prop) (Q : Int32 → Hp → Prop) (v1 : Int32) (v2 : Int32) (v3 : Int32) (v4 : Int32) (h : Hp) : Prop := ∀ x1 : Int32, x1 = v4 + 1 → k80 v1 v2 v3 x1 h
set_option maxHeartbeats 4000000 in
set_option maxRecDepth 100000 in
theorem s_X12_size_154 {l : Launch} {G : Cx} {d : Nat} {h0 : Hp} (hd : 4 ≤ d) {k80 : Int32 → Int32 → Int32 → Int32 → Hp → Prop} {Q : Int32 → Hp → Prop} (hk80 : ∀ (v1 : Int32) (v2 : Int32) (v3 : Int32) (v4 : Int32) (hh : Hp), k80 v1 v2 v3 v4 hh → Rn l G d 0 0 MX12_size h0 (qI Q) 80 [some (tR 12 0 (some 51)), some (tI v1), some (tI v2), some (tI v3), some (tI v4)] [] hh 0 0) {v1 : Int32} {v2 : Int32} {v3 : Int32} {v4 : Int32} {h : Hp} (hm : m_X12_size_154 k80 Q v1 v2 v3 v4 h) : Rn l G d 0 0 MX12_size h0 (qI Q) 154 [some (tR 12 0 (some 51)), some (tI v1), some (tI v2), some (tI v3), some (tI v4)] [] h 0 0 := by
  unfold m_X12_size_154 at hm
  obtain ⟨x1, e_x1⟩ : ∃ y : Int32, y = v4 + 1 := ⟨_, rfl⟩
  replace hm := hm x1 e_x1
  refine r_iinc (L' := [some (tR 12 0 (some 51)), some (tI v1), some (tI v2), some (tI v3), some (tI x1)]) dX12_size_154 rfl (by rw [e_x1]; rfl) (by decide) rfl ?_
  refine r_goto (tgt := 80) dX12_size_157 rfl ?_
  refine r_keep (L' := [some (tR 12 0 (some 51)), some (tI v1), some (tI v2), some (tI v3), some (tI x1)]) [true, true, true, true, true] rfl ?_
  exact hk80 _ _ _ _ _ hm
def m_X12_size_152 (k80 : Int32 → Int32 → Int32 → Int32 → Hp → Prop) (Q : Int32 → Hp → Prop) (v1 : Int32) (v2 : Int32) (v4 : Int32) (s0 : Int32) (s1 : Int32) (h : Hp) : Prop := ∀ x2 : Int32, x2 = (s0 ||| s1) → m_X12_size_154 k80 Q v1 v2 x2 v4 h
set_option maxHeartbeats 4000000 in
set_option maxRecDepth 100000 in
theorem s_X12_size_152 {l : Launch} {G : Cx} {d : Nat} {h0 : Hp} (hd : 4 ≤ d) {k80 : Int32 → Int32 → Int32 → Int32 → Hp → Prop} {Q : Int32 → Hp → Prop} (hk80 : ∀ (v1 : Int32) (v2 : Int32) (v3 : Int32) (v4 : Int32) (hh : Hp), k80 v1 v2 v3 v4 hh → Rn l G d 0 0 MX12_size h0 (qI Q) 80 [some (tR 12 0 (some 51)), some (tI v1), some (tI v2), some (tI v3), some (tI v4)] [] hh 0 0) {v1 : Int32} {v2 : Int32} {v4 : Int32} {s0 : Int32} {s1 : Int32} {h : Hp} (hm : m_X12_size_152 k80 Q v1 v2 v4 s0 s1 h) : Rn l G d 0 0 MX12_size h0 (qI Q) 152 [some (tR 12 0 (some 51)), some (tI v1), some (tI v2), none, some (tI v4)] [tI s1, tI s0] h 0 0 := by
  unfold m_X12_size_152 at hm
  refine r_ior dX12_size_152 ?_
  refine r_nmI (fun x2 e_x2 => ?_)
  replace hm := hm x2 e_x2
  refine r_istore_n (L' := [some (tR 12 0 (some 51)), some (tI v1), some (tI v2), some (tI x2), some (tI v4)]) dX12_size_153 rfl (by decide) rfl ?_
  refine r_keep (L' := [some (tR 12 0 (some 51)), some (tI v1), some (tI v2), some (tI x2), some (tI v4)]) [true, true, true, true, true] rfl ?_
  exact s_X12_size_154 hd hk80 hm
def m_X12_size_80 : Nat → (Int32 → Hp → Prop) → Int32 → Int32 → Int32 → Int32 → Hp → Prop
  | 0, _, _, _, _, _, _ => False
  | n + 1, Q, v1, v2, v3, v4, h => vp_in v1 24 ∧ ((((96 * v1) + (hI h 53 (ix v1))) ≤ v4 → Q v3 h) ∧ (¬ ((96 * v1) + (hI h 53 (ix v1))) ≤ v4 → m_X12_isLeaf v4 h (fun (x3 : Int32) (h4 : Hp) => (x3 = 0 → m_X12_size_154 (fun (v1 : Int32) (v2 : Int32) (v3 : Int32) (v4 : Int32) (hh : Hp) => m_X12_size_80 n Q v1 v2 v3 v4 hh) Q v1 v2 v3 v4 h4) ∧ (¬ x3 = 0 → (¬ v2 = 4 → vp_in v4 2304 ∧ (m_X12_size_152 (fun (v1 : Int32) (v2 : Int32) (v3 : Int32) (v4 : Int32) (hh : Hp) => m_X12_size_80 n Q v1 v2 v3 v4 hh) Q v1 v2 v4 v3 (1 <<< ((hI h4 66 (ix v4)) &&& 31)) h4)) ∧ (v2 = 4 → vp_in v4 2304 ∧ (vp_in (hI h4 64 (ix v4)) 8 ∧ (vp_in v4 2304 ∧ (vp_in (hI h4 65 (ix v4)) 8 ∧ (m_X12_size_152 (fun (v1 : Int32) (v2 : Int32) (v3 : Int32) (v4 : Int32) (hh : Hp) => m_X12_size_80 n Q v1 v2 v3 v4 hh) Q v1 v2 v4 v3 ((1 <<< ((hI h4 52 (ix (hI h4 64 (ix v4)))) &&& 31)) ||| (1 <<< ((hI h4 52 (ix (hI h4 65 (ix v4)))) &&& 31))) h4)))))))))
set_option maxHeartbeats 4000000 in
set_option maxRecDepth 100000 in
theorem s_X12_size_80 {l : Launch} {G : Cx} {d : Nat} {h0 : Hp} (hd : 4 ≤ d) {Q : Int32 → Hp → Prop} : ∀ {n : Nat} {v1 : Int32} {v2 : Int32} {v3 : Int32} {v4 : Int32} {h : Hp}, m_X12_size_80 n Q v1 v2 v3 v4 h → Rn l G d 0 0 MX12_size h0 (qI Q) 80 [some (tR 12 0 (some 51)), some (tI v1), some (tI v2), some (tI v3), some (tI v4)] [] h 0 0 := by
  intro n
  induction n with
  | zero => intro v1 v2 v3 v4 h hm; exact hm.elim
  | succ n ih =>
    intro v1 v2 v3 v4 h hm
    have hk80 := fun (v1 : Int32) (v2 : Int32) (v3 : Int32) (v4 : Int32) (hh : Hp) (hm : m_X12_size_80 n Q v1 v2 v3 v4 hh) => ih hm
    rw [m_X12_size_80] at hm
    refine r_iload dX12_size_80 rfl ?_
    refine r_bipush (v := 96) dX12_size_82 rfl ?_
    refine r_iload_n dX12_size_84 rfl rfl ?_
    refine r_imul dX12_size_85 ?_
    refine r_aload_n dX12_size_86 rfl rfl ?_
    refine r_getC (k := 2) cl_12 dX12_size_87 t_1274 gf_12_2.1 gf_12_2.2 (gc_12_2 _) ?_
    refine r_iload_n dX12_size_90 rfl rfl ?_
    refine r_iald dX12_size_91 hm.1 ?_
    replace hm := hm.2
    refine r_iadd dX12_size_92 ?_
    refine r_icmp_ge (tgt := 160) dX12_size_93 rfl (fun hc => ?_) (fun hc => ?_)
    · replace hm := hm.1 hc
      refine r_iload_n dX12_size_160 rfl rfl ?_
      exact r_ireturn dX12_size_161 rfl ⟨by decide, by decide⟩ ⟨_, rfl, hm⟩
    · replace hm := hm.2 hc
      refine r_aload_n dX12_size_96 rfl rfl ?_
      refine r_iload dX12_size_97 rfl ?_
      refine r_callVI (d' := d - 1) (as := [tI v4]) (st := []) cl_12 dX12_size_99 mi_X12_isLeaf t_1677 t_1679 ts_75 rfl rfl (Nat.le_of_ble_eq_true rfl) (by omega) ⟨by decide, by decide⟩ ⟨rfl, rfl⟩ (s_X12_isLeaf (by omega) hm) (fun x3 h4 hm => ?_)
      refine r_if_eq (tgt := 154) dX12_size_102 rfl (fun hc => ?_) (fun hc => ?_)
      · replace hm := hm.1 hc
        refine r_keep (L' := [some (tR 12 0 (some 51)), some (tI v1), some (tI v2), some (tI v3), some (tI v4)]) [true, true, true, true, true] rfl ?_
        exact s_X12_size_154 hd hk80 hm
      · replace hm := hm.2 hc
        refine r_iload_n dX12_size_105 rfl rfl ?_
        refine r_iload_n dX12_size_106 rfl rfl ?_
        refine r_iconst (v := 4) dX12_size_107 rfl ?_
        refine r_icmp_ne (tgt := 143) dX12_size_108 rfl (fun hc => ?_) (fun hc => ?_)
        · replace hm := hm.1 hc
          refine r_iconst (v := 1) dX12_size_143 rfl ?_
          refine r_aload_n dX12_size_144 rfl rfl ?_
          refine r_getC (k := 15) cl_12 dX12_size_145 t_1287 gf_12_15.1 gf_12_15.2 (gc_12_15 _) ?_
          refine r_iload dX12_size_148 rfl ?_
          refine r_iald dX12_size_150 hm.1 ?_
          replace hm := hm.2
          refine r_ishl dX12_size_151 ?_
          refine r_keep (L' := [some (tR 12 0 (some 51)), some (tI v1), some (tI v2), none, some (tI v4)]) [true, true, true, false, true] rfl ?_
          exact s_X12_size_152 hd hk80 hm
        · replace hm := hm.2 hc
          refine r_iconst (v := 1) dX12_size_111 rfl ?_
          refine r_aload_n dX12_size_112 rfl rfl ?_
          refine r_getC (k := 0) cl_12 dX12_size_113 t_1272 gf_12_0.1 gf_12_0.2 (gc_12_0 _) ?_
          refine r_aload_n dX12_size_116 rfl rfl ?_
          refine r_getC (k := 13) cl_12 dX12_size_117 t_1285 gf_12_13.1 gf_12_13.2 (gc_12_13 _) ?_
          refine r_iload dX12_size_120 rfl ?_
          refine r_iald dX12_size_122 hm.1 ?_
          replace hm := hm.2
          refine r_iald dX12_size_123 hm.1 ?_
          replace hm := hm.2
          refine r_ishl dX12_size_124 ?_
          refine r_iconst (v := 1) dX12_size_125 rfl ?_
          refine r_aload_n dX12_size_126 rfl rfl ?_
          refine r_getC (k := 0) cl_12 dX12_size_127 t_1272 gf_12_0.1 gf_12_0.2 (gc_12_0 _) ?_
          refine r_aload_n dX12_size_130 rfl rfl ?_
          refine r_getC (k := 14) cl_12 dX12_size_131 t_1286 gf_12_14.1 gf_12_14.2 (gc_12_14 _) ?_
          refine r_iload dX12_size_134 rfl ?_
          refine r_iald dX12_size_136 hm.1 ?_
          replace hm := hm.2
          refine r_iald dX12_size_137 hm.1 ?_
          replace hm := hm.2
          refine r_ishl dX12_size_138 ?_
          refine r_ior dX12_size_139 ?_
          refine r_goto (tgt := 152) dX12_size_140 rfl ?_
          refine r_keep (L' := [some (tR 12 0 (some 51)), some (tI v1), some (tI v2), none, some (tI v4)]) [true, true, true, false, true] rfl ?_
          exact s_X12_size_152 hd hk80 hm
def m_X12_size (v1 : Int32) (v2 : Int32) (h : Hp) (Q : Int32 → Hp → Prop) : Prop := m_X12_isDeal v1 h (fun (x5 : Int32) (h6 : Hp) => (x5 = 0 → Q (-1) h6) ∧ (¬ x5 = 0 → m_X12_within v2 0 5 h6 (fun (x7 : Int32) (h8 : Hp) => (¬ x7 = 0 → (4 ≤ v2 → ∀ x9 : Int32, x9 = (96 * v1) → ∃ n80, m_X12_size_80 n80 Q v1 v2 0 x9 h8) ∧ (¬ 4 ≤ v2 → (¬ v2 = 0 → (¬ v2 = 1 → (¬ v2 = 2 → vp_in v1 24 ∧ (Q (hI h8 54 (ix v1)) h8)) ∧ (v2 = 2 → vp_in v1 24 ∧ (Q (hI h8 57 (ix v1)) h8))) ∧ (v2 = 1 → vp_in v1 24 ∧ (Q (hI h8 56 (ix v1)) h8))) ∧ (v2 = 0 → vp_in v1 24 ∧ (Q (hI h8 55 (ix v1)) h8)))) ∧ (x7 = 0 → Q (-1) h8))))
set_option maxHeartbeats 4000000 in
set_option maxRecDepth 100000 in
theorem s_X12_size {l : Launch} {G : Cx} {d : Nat} (hd : 4 ≤ d) {v1 : Int32} {v2 : Int32} {h : Hp} {Q : Int32 → Hp → Prop} (hm : m_X12_size v1 v2 h Q) : Ct l G d 0 0 yX12_size MX12_size [tR 12 0 (some 51), tI v1, tI v2] h (qI Q) := by
  unfold m_X12_size at hm
  refine Ct.of (L := [some (tR 12 0 (some 51)), some (tI v1), some (tI v2)]) (by decide) rfl rfl (Nat.le_of_ble_eq_true rfl) rfl ?_
  refine r_aload_n dX12_size_0 rfl rfl ?_
  refine r_iload_n dX12_size_1 rfl rfl ?_
  refine r_callVI (d' := d - 1) (as := [tI v1]) (st := []) cl_12 dX12_size_2 mi_X12_isDeal t_1673 t_1675 ts_74 rfl rfl (Nat.le_of_ble_eq_true rfl) (by omega) ⟨by decide, by decide⟩ ⟨rfl, rfl⟩ (s_X12_isDeal (by omega) hm) (fun x5 h6 hm => ?_)
  refine r_if_eq (tgt := 17) dX12_size_5 rfl (fun hc => ?_) (fun hc => ?_)
  · replace hm := hm.1 hc
    refine r_iconst (v := (-1)) dX12_size_17 rfl ?_
    exact r_ireturn dX12_size_18 rfl ⟨by decide, by decide⟩ ⟨_, rfl, hm⟩
  · replace hm := hm.2 hc
    refine r_iload_n dX12_size_8 rfl rfl ?_
    refine r_iconst (v := 0) dX12_size_9 rfl ?_
    refine r_iconst (v := 5) dX12_size_10 rfl ?_
    refine r_callSI (d' := d - 1) (as := [tI v2, tI 0, tI 5]) (st := []) dX12_size_11 mi_X12_within t_1557 t_1558 rfl rfl (Nat.le_of_ble_eq_true rfl) (by omega) ⟨by decide, by decide⟩ ⟨rfl, rfl⟩ (s_X12_within (by omega) hm) (fun x7 h8 hm => ?_)
    refine r_if_ne (tgt := 19) dX12_size_14 rfl (fun hc => ?_) (fun hc => ?_)
    · replace hm := hm.1 hc
      refine r_iload_n dX12_size_19 rfl rfl ?_
      refine r_iconst (v := 4) dX12_size_20 rfl ?_
      refine r_icmp_ge (tgt := 72) dX12_size_21 rfl (fun hc => ?_) (fun hc => ?_)
      · replace hm := hm.1 hc
        refine r_iconst (v := 0) dX12_size_72 rfl ?_
        refine r_istore_n (L' := [some (tR 12 0 (some 51)), some (tI v1), some (tI v2), some (tI 0)]) dX12_size_73 rfl (by decide) rfl ?_
        refine r_bipush (v := 96) dX12_size_74 rfl ?_
        refine r_iload_n dX12_size_76 rfl rfl ?_
        refine r_imul dX12_size_77 ?_
        refine r_nmI (fun x9 e_x9 => ?_)
        replace hm := hm x9 e_x9
        refine r_istore (L' := [some (tR 12 0 (some 51)), some (tI v1), some (tI v2), some (tI 0), some (tI x9)]) dX12_size_78 (by decide) rfl ?_
        refine r_keep (L' := [some (tR 12 0 (some 51)), some (tI v1), some (tI v2), some (tI 0), some (tI x9)]) [true, true, true, true, true] rfl ?_
        obtain ⟨n, hm⟩ := hm
        refine s_X12_size_80 hd hm
      · replace hm := hm.2 hc
        refine r_iload_n dX12_size_24 rfl rfl ?_
        refine r_if_ne (tgt := 37) dX12_size_25 rfl (fun hc => ?_) (fun hc => ?_)
        · replace hm := hm.1 hc
          refine r_iload_n dX12_size_37 rfl rfl ?_
          refine r_iconst (v := 1) dX12_size_38 rfl ?_
          refine r_icmp_ne (tgt := 51) dX12_size_39 rfl (fun hc => ?_) (fun hc => ?_)
          · replace hm := hm.1 hc
            refine r_iload_n dX12_size_51 rfl rfl ?_
            refine r_iconst (v := 2) dX12_size_52 rfl ?_
            refine r_icmp_ne (tgt := 65) dX12_size_53 rfl (fun hc => ?_) (fun hc => ?_)
            · replace hm := hm.1 hc
              refine r_aload_n dX12_size_65 rfl rfl ?_
              refine r_getC (k := 3) cl_12 dX12_size_66 t_1275 gf_12_3.1 gf_12_3.2 (gc_12_3 _) ?_
              refine r_iload_n dX12_size_69 rfl rfl ?_
              refine r_iald dX12_size_70 hm.1 ?_
              replace hm := hm.2
              exact r_ireturn dX12_size_71 rfl ⟨by decide, by decide⟩ ⟨_, rfl, hm⟩
            · replace hm := hm.2 hc
              refine r_aload_n dX12_size_56 rfl rfl ?_
              refine r_getC (k := 6) cl_12 dX12_size_57 t_1278 gf_12_6.1 gf_12_6.2 (gc_12_6 _) ?_
              refine r_iload_n dX12_size_60 rfl rfl ?_
              refine r_iald dX12_size_61 hm.1 ?_
              replace hm := hm.2
              refine r_goto (tgt := 71) dX12_size_62 rfl ?_
              exact r_ireturn dX12_size_71 rfl ⟨by decide, by decide⟩ ⟨_, rfl, hm⟩
          · replace hm := hm.2 hc
            refine r_aload_n dX12_size_42 rfl rfl ?_
            refine r_getC (k := 5) cl_12 dX12_size_43 t_1277 gf_12_5.1 gf_12_5.2 (gc_12_5 _) ?_
            refine r_iload_n dX12_size_46 rfl rfl ?_
            refine r_iald dX12_size_47 hm.1 ?_
            replace hm := hm.2
            refine r_goto (tgt := 71) dX12_size_48 rfl ?_
            exact r_ireturn dX12_size_71 rfl ⟨by decide, by decide⟩ ⟨_, rfl, hm⟩
        · replace hm := hm.2 hc
          refine r_aload_n dX12_size_28 rfl rfl ?_
          refine r_getC (k := 4) cl_12 dX12_size_29 t_1276 gf_12_4.1 gf_12_4.2 (gc_12_4 _) ?_
          refine r_iload_n dX12_size_32 rfl rfl ?_
          refine r_iald dX12_size_33 hm.1 ?_
          replace hm := hm.2
          refine r_goto (tgt := 71) dX12_size_34 rfl ?_
          exact r_ireturn dX12_size_71 rfl ⟨by decide, by decide⟩ ⟨_, rfl, hm⟩
    · replace hm := hm.2 hc
      refine r_iconst (v := (-1)) dX12_size_17 rfl ?_
      exact r_ireturn dX12_size_18 rfl ⟨by decide, by decide⟩ ⟨_, rfl, hm⟩
theorem dX12_told_0 : decode cX12_told 0 = .ok (.iload_n 2, 1) := by decide +kernel
theorem dX12_told_1 : decode cX12_told 1 = .ok (.tableswitch 98 0 6 #[43, 50, 57, 64, 71, 78, 85], 43) := by decide +kernel
theorem dX12_told_44 : decode cX12_told 44 = .ok (.aload_n 0, 1) := by decide +kernel
theorem dX12_told_45 : decode cX12_told 45 = .ok (.getfield 28, 3) := by decide +kernel
theorem dX12_told_48 : decode cX12_told 48 = .ok (.iload_n 1, 1) := by decide +kernel
theorem dX12_told_49 : decode cX12_told 49 = .ok (.iaload, 1) := by decide +kernel
theorem dX12_told_50 : decode cX12_told 50 = .ok (.ireturn, 1) := by decide +kernel
theorem dX12_told_51 : decode cX12_told 51 = .ok (.aload_n 0, 1) := by decide +kernel
theorem dX12_told_52 : decode cX12_told 52 = .ok (.getfield 46, 3) := by decide +kernel
theorem dX12_told_55 : decode cX12_told 55 = .ok (.iload_n 1, 1) := by decide +kernel
theorem dX12_told_56 : decode cX12_told 56 = .ok (.iaload, 1) := by decide +kernel
theorem dX12_told_57 : decode cX12_told 57 = .ok (.ireturn, 1) := by decide +kernel
theorem dX12_told_58 : decode cX12_told 58 = .ok (.aload_n 0, 1) := by decide +kernel
theorem dX12_told_59 : decode cX12_told 59 = .ok (.getfield 49, 3) := by decide +kernel
theorem dX12_told_62 : decode cX12_told 62 = .ok (.iload_n 1, 1) := by decide +kernel
theorem dX12_told_63 : decode cX12_told 63 = .ok (.iaload, 1) := by decide +kernel
theorem dX12_told_64 : decode cX12_told 64 = .ok (.ireturn, 1) := by decide +kernel
theorem dX12_told_65 : decode cX12_told 65 = .ok (.aload_n 0, 1) := by decide +kernel
theorem dX12_told_66 : decode cX12_told 66 = .ok (.getfield 52, 3) := by decide +kernel
theorem dX12_told_69 : decode cX12_told 69 = .ok (.iload_n 1, 1) := by decide +kernel
theorem dX12_told_70 : decode cX12_told 70 = .ok (.iaload, 1) := by decide +kernel
theorem dX12_told_71 : decode cX12_told 71 = .ok (.ireturn, 1) := by decide +kernel
theorem dX12_told_72 : decode cX12_told 72 = .ok (.aload_n 0, 1) := by decide +kernel
theorem dX12_told_73 : decode cX12_told 73 = .ok (.getfield 55, 3) := by decide +kernel
theorem dX12_told_76 : decode cX12_told 76 = .ok (.iload_n 1, 1) := by decide +kernel
theorem dX12_told_77 : decode cX12_told 77 = .ok (.iaload, 1) := by decide +kernel
theorem dX12_told_78 : decode cX12_told 78 = .ok (.ireturn, 1) := by decide +kernel
theorem dX12_told_79 : decode cX12_told 79 = .ok (.aload_n 0, 1) := by decide +kernel
theorem dX12_told_80 : decode cX12_told 80 = .ok (.getfield 58, 3) := by decide +kernel
theorem dX12_told_83 : decode cX12_told 83 = .ok (.iload_n 1, 1) := by decide +kernel
theorem dX12_told_84 : decode cX12_told 84 = .ok (.iaload, 1) := by decide +kernel
theorem dX12_told_85 : decode cX12_told 85 = .ok (.ireturn, 1) := by decide +kernel
theorem dX12_told_86 : decode cX12_told 86 = .ok (.aload_n 0, 1) := by decide +kernel
theorem dX12_told_87 : decode cX12_told 87 = .ok (.getfield 61, 3) := by decide +kernel
theorem dX12_told_90 : decode cX12_told 90 = .ok (.iload_n 1, 1) := by decide +kernel
theorem dX12_told_91 : decode cX12_told 91 = .ok (.iaload, 1) := by decide +kernel
theorem dX12_told_92 : decode cX12_told 92 = .ok (.aload_n 0, 1) := by decide +kernel
theorem dX12_told_93 : decode cX12_told 93 = .ok (.iload_n 1, 1) := by decide +kernel
theorem dX12_told_94 : decode cX12_told 94 = .ok (.invokevirtual 362, 3) := by decide +kernel
theorem dX12_told_97 : decode cX12_told 97 = .ok (.iadd, 1) := by decide +kernel
theorem dX12_told_98 : decode cX12_told 98 = .ok (.ireturn, 1) := by decide +kernel
theorem dX12_told_99 : decode cX12_told 99 = .ok (.aload_n 0, 1) := by decide +kernel
theorem dX12_told_100 : decode cX12_told 100 = .ok (.getfield 64, 3) := by decide +kernel
theorem dX12_told_103 : decode cX12_told 103 = .ok (.iload_n 1, 1) := by decide +kernel
theorem dX12_told_104 : decode cX12_told 104 = .ok (.iaload, 1) := by decide +kernel
theorem dX12_told_105 : decode cX12_told 105 = .ok (.aload_n 0, 1) := by decide +kernel
theorem dX12_told_106 : decode cX12_told 106 = .ok (.iload_n 1, 1) := by decide +kernel
theorem dX12_told_107 : decode cX12_told 107 = .ok (.invokevirtual 362, 3) := by decide +kernel
theorem dX12_told_110 : decode cX12_told 110 = .ok (.iadd, 1) := by decide +kernel
theorem dX12_told_111 : decode cX12_told 111 = .ok (.ireturn, 1) := by decide +kernel
def m_X12_told (v1 : Int32) (v2 : Int32) (h : Hp) (Q : Int32 → Hp → Prop) : Prop := (v2 = 0 → vp_in v1 2304 ∧ (Q (hI h 58 (ix v1)) h)) ∧ (¬ v2 = 0 → (v2 = 1 → vp_in v1 2304 ∧ (Q (hI h 64 (ix v1)) h)) ∧ (¬ v2 = 1 → (v2 = 2 → vp_in v1 2304 ∧ (Q (hI h 65 (ix v1)) h)) ∧ (¬ v2 = 2 → (v2 = 3 → vp_in v1 2304 ∧ (Q (hI h 66 (ix v1)) h)) ∧ (¬ v2 = 3 → (v2 = 4 → vp_in v1 2304 ∧ (Q (hI h 67 (ix v1)) h)) ∧ (¬ v2 = 4 → (v2 = 5 → vp_in v1 2304 ∧ (Q (hI h 68 (ix v1)) h)) ∧ (¬ v2 = 5 → (v2 = 6 → vp_in v1 2304 ∧ (m_X12_later v1 h (fun (x1 : Int32) (h2 : Hp) => Q ((hI h 69 (ix v1)) + x1) h2))) ∧ (¬ v2 = 6 → vp_in v1 2304 ∧ (m_X12_later v1 h (fun (x3 : Int32) (h4 : Hp) => Q ((hI h 70 (ix v1)) + x3) h4)))))))))
set_option maxHeartbeats 4000000 in
set_option maxRecDepth 100000 in
theorem s_X12_told {l : Launch} {G : Cx} {d : Nat} (hd : 4 ≤ d) {v1 : Int32} {v2 : Int32} {h : Hp} {Q : Int32 → Hp → Prop} (hm : m_X12_told v1 v2 h Q) : Ct l G d 0 0 yX12_told MX12_told [tR 12 0 (some 51), tI v1, tI v2] h (qI Q) := by
  unfold m_X12_told at hm
  refine Ct.of (L := [some (tR 12 0 (some 51)), some (tI v1), some (tI v2)]) (by decide) rfl rfl (Nat.le_of_ble_eq_true rfl) rfl ?_
  refine r_iload_n dX12_told_0 rfl rfl ?_
  by_cases hc0 : v2 = 0
  · refine r_tableIn (tgt := 44) (off := 43) dX12_told_1 (by rw [hc0]; decide) (by rw [hc0]; decide) (by rw [hc0]; rfl) rfl ?_
    replace hm := hm.1 hc0
    refine r_aload_n dX12_told_44 rfl rfl ?_
    refine r_getC (k := 7) cl_12 dX12_told_45 t_1279 gf_12_7.1 gf_12_7.2 (gc_12_7 _) ?_
    refine r_iload_n dX12_told_48 rfl rfl ?_
    refine r_iald dX12_told_49 hm.1 ?_
    replace hm := hm.2
    exact r_ireturn dX12_told_50 rfl ⟨by decide, by decide⟩ ⟨_, rfl, hm⟩
  replace hm := hm.2 hc0
  by_cases hc1 : v2 = 1
  · refine r_tableIn (tgt := 51) (off := 50) dX12_told_1 (by rw [hc1]; decide) (by rw [hc1]; decide) (by rw [hc1]; rfl) rfl ?_
    replace hm := hm.1 hc1
    refine r_aload_n dX12_told_51 rfl rfl ?_
    refine r_getC (k := 13) cl_12 dX12_told_52 t_1285 gf_12_13.1 gf_12_13.2 (gc_12_13 _) ?_
    refine r_iload_n dX12_told_55 rfl rfl ?_
    refine r_iald dX12_told_56 hm.1 ?_
    replace hm := hm.2
    exact r_ireturn dX12_told_57 rfl ⟨by decide, by decide⟩ ⟨_, rfl, hm⟩
  replace hm := hm.2 hc1
  by_cases hc2 : v2 = 2
  · refine r_tableIn (tgt := 58) (off := 57) dX12_told_1 (by rw [hc2]; decide) (by rw [hc2]; decide) (by rw [hc2]; rfl) rfl ?_
    replace hm := hm.1 hc2
    refine r_aload_n dX12_told_58 rfl rfl ?_
    refine r_getC (k := 14) cl_12 dX12_told_59 t_1286 gf_12_14.1 gf_12_14.2 (gc_12_14 _) ?_
    refine r_iload_n dX12_told_62 rfl rfl ?_
    refine r_iald dX12_told_63 hm.1 ?_
    replace hm := hm.2
    exact r_ireturn dX12_told_64 rfl ⟨by decide, by decide⟩ ⟨_, rfl, hm⟩
  replace hm := hm.2 hc2
  by_cases hc3 : v2 = 3
  · refine r_tableIn (tgt := 65) (off := 64) dX12_told_1 (by rw [hc3]; decide) (by rw [hc3]; decide) (by rw [hc3]; rfl) rfl ?_
    replace hm := hm.1 hc3
    refine r_aload_n dX12_told_65 rfl rfl ?_
    refine r_getC (k := 15) cl_12 dX12_told_66 t_1287 gf_12_15.1 gf_12_15.2 (gc_12_15 _) ?_
    refine r_iload_n dX12_told_69 rfl rfl ?_
    refine r_iald dX12_told_70 hm.1 ?_
    replace hm := hm.2
    exact r_ireturn dX12_told_71 rfl ⟨by decide, by decide⟩ ⟨_, rfl, hm⟩
  replace hm := hm.2 hc3
  by_cases hc4 : v2 = 4
  · refine r_tableIn (tgt := 72) (off := 71) dX12_told_1 (by rw [hc4]; decide) (by rw [hc4]; decide) (by rw [hc4]; rfl) rfl ?_
    replace hm := hm.1 hc4
    refine r_aload_n dX12_told_72 rfl rfl ?_
    refine r_getC (k := 16) cl_12 dX12_told_73 t_1288 gf_12_16.1 gf_12_16.2 (gc_12_16 _) ?_
    refine r_iload_n dX12_told_76 rfl rfl ?_
    refine r_iald dX12_told_77 hm.1 ?_
    replace hm := hm.2
    exact r_ireturn dX12_told_78 rfl ⟨by decide, by decide⟩ ⟨_, rfl, hm⟩
  replace hm := hm.2 hc4
  by_cases hc5 : v2 = 5
  · refine r_tableIn (tgt := 79) (off := 78) dX12_told_1 (by rw [hc5]; decide) (by rw [hc5]; decide) (by rw [hc5]; rfl) rfl ?_
    replace hm := hm.1 hc5
    refine r_aload_n dX12_told_79 rfl rfl ?_
    refine r_getC (k := 17) cl_12 dX12_told_80 t_1289 gf_12_17.1 gf_12_17.2 (gc_12_17 _) ?_
    refine r_iload_n dX12_told_83 rfl rfl ?_
    refine r_iald dX12_told_84 hm.1 ?_
    replace hm := hm.2
    exact r_ireturn dX12_told_85 rfl ⟨by decide, by decide⟩ ⟨_, rfl, hm⟩
  replace hm := hm.2 hc5
  by_cases hc6 : v2 = 6
  · refine r_tableIn (tgt := 86) (off := 85) dX12_told_1 (by rw [hc6]; decide) (by rw [hc6]; decide) (by rw [hc6]; rfl) rfl ?_
    replace hm := hm.1 hc6
    refine r_aload_n dX12_told_86 rfl rfl ?_
    refine r_getC (k := 18) cl_12 dX12_told_87 t_1290 gf_12_18.1 gf_12_18.2 (gc_12_18 _) ?_
    refine r_iload_n dX12_told_90 rfl rfl ?_
    refine r_iald dX12_told_91 hm.1 ?_
    replace hm := hm.2
    refine r_aload_n dX12_told_92 rfl rfl ?_
    refine r_iload_n dX12_told_93 rfl rfl ?_
    refine r_callVI (d' := d - 1) (as := [tI v1]) (st := [tI (hI h 69 (ix v1))]) cl_12 dX12_told_94 mi_X12_later t_1689 t_1691 ts_77 rfl rfl (Nat.le_of_ble_eq_true rfl) (by omega) ⟨by decide, by decide⟩ ⟨rfl, rfl⟩ (s_X12_later (by omega) hm) (fun x1 h2 hm => ?_)
    refine r_iadd dX12_told_97 ?_
    exact r_ireturn dX12_told_98 rfl ⟨by decide, by decide⟩ ⟨_, rfl, hm⟩
  replace hm := hm.2 hc6
  refine r_tableOut (tgt := 99) dX12_told_1 (sw_out (n := 7) (fun k hk => by rcases (show k = 0 ∨ k = 1 ∨ k = 2 ∨ k = 3 ∨ k = 4 ∨ k = 5 ∨ k = 6 by omega) with rfl | rfl | rfl | rfl | rfl | rfl | rfl <;> first | exact hc0 | exact hc1 | exact hc2 | exact hc3 | exact hc4 | exact hc5 | exact hc6)) rfl ?_
  refine r_aload_n dX12_told_99 rfl rfl ?_
  refine r_getC (k := 19) cl_12 dX12_told_100 t_1291 gf_12_19.1 gf_12_19.2 (gc_12_19 _) ?_
  refine r_iload_n dX12_told_103 rfl rfl ?_
  refine r_iald dX12_told_104 hm.1 ?_
  replace hm := hm.2
  refine r_aload_n dX12_told_105 rfl rfl ?_
  refine r_iload_n dX12_told_106 rfl rfl ?_
  refine r_callVI (d' := d - 1) (as := [tI v1]) (st := [tI (hI h 70 (ix v1))]) cl_12 dX12_told_107 mi_X12_later t_1689 t_1691 ts_77 rfl rfl (Nat.le_of_ble_eq_true rfl) (by omega) ⟨by decide, by decide⟩ ⟨rfl, rfl⟩ (s_X12_later (by omega) hm) (fun x3 h4 hm => ?_)
  refine r_iadd dX12_told_110 ?_
  exact r_ireturn dX12_told_111 rfl ⟨by decide, by decide⟩ ⟨_, rfl, hm⟩
theorem dX12_leaf_0 : decode cX12_leaf 0 = .ok (.aload_n 0, 1) := rfl
theorem dX12_leaf_1 : decode cX12_leaf 1 = .ok (.iload_n 1, 1) := rfl
theorem dX12_leaf_2 : decode cX12_leaf 2 = .ok (.invokevirtual 352, 3) := rfl
theorem dX12_leaf_5 : decode cX12_leaf 5 = .ok (.ifCond .eq 17, 3) := by decide +kernel
theorem dX12_leaf_8 : decode cX12_leaf 8 = .ok (.iload_n 3, 1) := rfl
theorem dX12_leaf_9 : decode cX12_leaf 9 = .ok (.iconst 0, 1) := rfl
theorem dX12_leaf_10 : decode cX12_leaf 10 = .ok (.bipush 7, 2) := by decide +kernel
theorem dX12_leaf_12 : decode cX12_leaf 12 = .ok (.invokestatic 185, 3) := rfl
theorem dX12_leaf_15 : decode cX12_leaf 15 = .ok (.ifCond .eq 7, 3) := by decide +kernel
theorem dX12_leaf_18 : decode cX12_leaf 18 = .ok (.iload_n 2, 1) := rfl
theorem dX12_leaf_19 : decode cX12_leaf 19 = .ok (.ifCond .ge 5, 3) := by decide +kernel
theorem dX12_leaf_22 : decode cX12_leaf 22 = .ok (.iconst (-1), 1) := rfl
theorem dX12_leaf_23 : decode cX12_leaf 23 = .ok (.ireturn, 1) := rfl
theorem dX12_leaf_24 : decode cX12_leaf 24 = .ok (.iload_n 2, 1) := rfl
theorem dX12_leaf_25 : decode cX12_leaf 25 = .ok (.istore 4, 2) := rfl
theorem dX12_leaf_27 : decode cX12_leaf 27 = .ok (.bipush 96, 2) := by decide +kernel
theorem dX12_leaf_29 : decode cX12_leaf 29 = .ok (.iload_n 1, 1) := rfl
theorem dX12_leaf_30 : decode cX12_leaf 30 = .ok (.imul, 1) := rfl
theorem dX12_leaf_31 : decode cX12_leaf 31 = .ok (.istore 5, 2) := rfl
theorem dX12_leaf_33 : decode cX12_leaf 33 = .ok (.iload 5, 2) := rfl
theorem dX12_leaf_35 : decode cX12_leaf 35 = .ok (.bipush 96, 2) := by decide +kernel
theorem dX12_leaf_37 : decode cX12_leaf 37 = .ok (.iload_n 1, 1) := rfl
theorem dX12_leaf_38 : decode cX12_leaf 38 = .ok (.imul, 1) := rfl
theorem dX12_leaf_39 : decode cX12_leaf 39 = .ok (.aload_n 0, 1) := rfl
theorem dX12_leaf_40 : decode cX12_leaf 40 = .ok (.getfield 13, 3) := rfl
theorem dX12_leaf_43 : decode cX12_leaf 43 = .ok (.iload_n 1, 1) := rfl
theorem dX12_leaf_44 : decode cX12_leaf 44 = .ok (.iaload, 1) := rfl
theorem dX12_leaf_45 : decode cX12_leaf 45 = .ok (.iadd, 1) := rfl
theorem dX12_leaf_46 : decode cX12_leaf 46 = .ok (.if_icmp .ge 37, 3) := by decide +kernel
theorem dX12_leaf_49 : decode cX12_leaf 49 = .ok (.aload_n 0, 1) := rfl
theorem dX12_leaf_50 : decode cX12_leaf 50 = .ok (.iload 5, 2) := rfl
theorem dX12_leaf_52 : decode cX12_leaf 52 = .ok (.invokevirtual 356, 3) := rfl
theorem dX12_leaf_55 : decode cX12_leaf 55 = .ok (.ifCond .ne 6, 3) := by decide +kernel
theorem dX12_leaf_58 : decode cX12_leaf 58 = .ok (.goto 19, 3) := by decide +kernel
theorem dX12_leaf_61 : decode cX12_leaf 61 = .ok (.iload 4, 2) := rfl
theorem dX12_leaf_63 : decode cX12_leaf 63 = .ok (.ifCond .ne 11, 3) := by decide +kernel
theorem dX12_leaf_66 : decode cX12_leaf 66 = .ok (.aload_n 0, 1) := rfl
theorem dX12_leaf_67 : decode cX12_leaf 67 = .ok (.iload 5, 2) := rfl
theorem dX12_leaf_69 : decode cX12_leaf 69 = .ok (.iload_n 3, 1) := rfl
theorem dX12_leaf_70 : decode cX12_leaf 70 = .ok (.invokevirtual 359, 3) := rfl
theorem dX12_leaf_73 : decode cX12_leaf 73 = .ok (.ireturn, 1) := rfl
theorem dX12_leaf_74 : decode cX12_leaf 74 = .ok (.iinc 4 (-1), 3) := by decide +kernel
theorem dX12_leaf_77 : decode cX12_leaf 77 = .ok (.iinc 5 1, 3) := by decide +kernel
theorem dX12_leaf_80 : decode cX12_leaf 80 = .ok (.goto (-47), 3) := by decide +kernel
theorem dX12_leaf_83 : decode cX12_leaf 83 = .ok (.iconst (-1), 1) := rfl
theorem dX12_leaf_84 : decode cX12_leaf 84 = .ok (.ireturn, 1) := rfl
def m_X12_leaf_77 (k33 : Int32 → Int32 → Int32 → Int32 → Hp → Prop) (k66 : Int32 → Int32 → Hp → Prop) (Q : Int32 → Hp → Prop) (v1 : Int32) (v3 : Int32) (v4 : Int32) (v5 : Int32) (h : Hp) : Prop := ∀ x1 : Int32, x1 = v5 + 1 → k33 v1 v3 v4 x1 h
set_option maxHeartbeats 4000000 in
set_option maxRecDepth 100000 in
theorem s_X12_leaf_77 {l : Launch} {G : Cx} {d : Nat} {h0 : Hp} (hd : 6 ≤ d) {k33 : Int32 → Int32 → Int32 → Int32 → Hp → Prop} {k66 : Int32 → Int32 → Hp → Prop} {Q : Int32 → Hp → Prop} (hk33 : ∀ (v1 : Int32) (v3 : Int32) (v4 : Int32) (v5 : Int32) (hh : Hp), k33 v1 v3 v4 v5 hh → Rn l G d 0 0 MX12_leaf h0 (qI Q) 33 [some (tR 12 0 (some 51)), some (tI v1), none, some (tI v3), some (tI v4), some (tI v5)] [] hh 0 0) (hk66 : ∀ (v3 : Int32) (v5 : Int32) (hh : Hp), k66 v3 v5 hh → Rn l G d 0 0 MX12_leaf h0 (qI Q) 66 [some (tR 12 0 (some 51)), none, none, some (tI v3), none, some (tI v5)] [] hh 0 0) {v1 : Int32} {v3 : Int32} {v4 : Int32} {v5 : Int32} {h : Hp} (hm : m_X12_leaf_77 k33 k66 Q v1 v3 v4 v5 h) : Rn l G d 0 0 MX12_leaf h0 (qI Q) 77 [some (tR 12 0 (some 51)), some (tI v1), none, some (tI v3), some (tI v4), some (tI v5)] [] h 0 0 := by
  unfold m_X12_leaf_77 at hm
  obtain ⟨x1, e_x1⟩ : ∃ y : Int32, y = v5 + 1 := ⟨_, rfl⟩
  replace hm := hm x1 e_x1
  refine r_iinc (L' := [some (tR 12 0 (some 51)), some (tI v1), none, some (tI v3), some (tI v4), some (tI x1)]) dX12_leaf_77 rfl (by rw [e_x1]; rfl) (by decide) rfl ?_
  refine r_goto (tgt := 33) dX12_leaf_80 rfl ?_
  refine r_keep (L' := [some (tR 12 0 (some 51)), some (tI v1), none, some (tI v3), some (tI v4), some (tI x1)]) [true, true, false, true, true, true] rfl ?_
  exact hk33 _ _ _ _ _ hm
def m_X12_leaf_66  (Q : Int32 → Hp → Prop) (v3 : Int32) (v5 : Int32) (h : Hp) : Prop := m_X12_told v5 v3 h (fun (x2 : Int32) (h3 : Hp) => Q x2 h3)
set_option maxHeartbeats 4000000 in
set_option maxRecDepth 100000 in
theorem s_X12_leaf_66 {l : Launch} {G : Cx} {d : Nat} {h0 : Hp} (hd : 6 ≤ d) {Q : Int32 → Hp → Prop} {v3 : Int32} {v5 : Int32} {h : Hp} (hm : m_X12_leaf_66 Q v3 v5 h) : Rn l G d 0 0 MX12_leaf h0 (qI Q) 66 [some (tR 12 0 (some 51)), none, none, some (tI v3), none, some (tI v5)] [] h 0 0 := by
  unfold m_X12_leaf_66 at hm
  refine r_aload_n dX12_leaf_66 rfl rfl ?_
  refine r_iload dX12_leaf_67 rfl ?_
  refine r_iload_n dX12_leaf_69 rfl rfl ?_
  refine r_callVI (d' := d - 1) (as := [tI v5, tI v3]) (st := []) cl_12 dX12_leaf_70 mi_X12_told t_1685 t_1687 ts_76 rfl rfl (Nat.le_of_ble_eq_true rfl) (by omega) ⟨by decide, by decide⟩ ⟨rfl, rfl⟩ (s_X12_told (by omega) hm) (fun x2 h3 hm => ?_)
  exact r_ireturn dX12_leaf_73 rfl ⟨by decide, by decide⟩ ⟨_, rfl, hm⟩
def m_X12_leaf_33 : Nat → (Int32 → Int32 → Hp → Prop) → (Int32 → Hp → Prop) → Int32 → Int32 → Int32 → Int32 → Hp → Prop
  | 0, _, _, _, _, _, _, _ => False
  | n + 1, k66, Q, v1, v3, v4, v5, h => vp_in v1 24 ∧ ((((96 * v1) + (hI h 53 (ix v1))) ≤ v5 → Q (-1) h) ∧ (¬ ((96 * v1) + (hI h 53 (ix v1))) ≤ v5 → m_X12_isLeaf v5 h (fun (x4 : Int32) (h5 : Hp) => (¬ x4 = 0 → (¬ v4 = 0 → ∀ x6 : Int32, x6 = v4 + (-1) → m_X12_leaf_77 (fun (v1 : Int32) (v3 : Int32) (v4 : Int32) (v5 : Int32) (hh : Hp) => m_X12_leaf_33 n k66 Q v1 v3 v4 v5 hh) k66 Q v1 v3 x6 v5 h5) ∧ (v4 = 0 → k66 v3 v5 h5)) ∧ (x4 = 0 → m_X12_leaf_77 (fun (v1 : Int32) (v3 : Int32) (v4 : Int32) (v5 : Int32) (hh : Hp) => m_X12_leaf_33 n k66 Q v1 v3 v4 v5 hh) k66 Q v1 v3 v4 v5 h5))))
set_option maxHeartbeats 4000000 in
set_option maxRecDepth 100000 in
theorem s_X12_leaf_33 {l : Launch} {G : Cx} {d : Nat} {h0 : Hp} (hd : 6 ≤ d) {k66 : Int32 → Int32 → Hp → Prop} {Q : Int32 → Hp → Prop} (hk66 : ∀ (v3 : Int32) (v5 : Int32) (hh : Hp), k66 v3 v5 hh → Rn l G d 0 0 MX12_leaf h0 (qI Q) 66 [some (tR 12 0 (some 51)), none, none, some (tI v3), none, some (tI v5)] [] hh 0 0) : ∀ {n : Nat} {v1 : Int32} {v3 : Int32} {v4 : Int32} {v5 : Int32} {h : Hp}, m_X12_leaf_33 n k66 Q v1 v3 v4 v5 h → Rn l G d 0 0 MX12_leaf h0 (qI Q) 33 [some (tR 12 0 (some 51)), some (tI v1), none, some (tI v3), some (tI v4), some (tI v5)] [] h 0 0 := by
  intro n
  induction n with
  | zero => intro v1 v3 v4 v5 h hm; exact hm.elim
  | succ n ih =>
    intro v1 v3 v4 v5 h hm
    have hk33 := fun (v1 : Int32) (v3 : Int32) (v4 : Int32) (v5 : Int32) (hh : Hp) (hm : m_X12_leaf_33 n k66 Q v1 v3 v4 v5 hh) => ih hm
    rw [m_X12_leaf_33] at hm
    refine r_iload dX12_leaf_33 rfl ?_
    refine r_bipush (v := 96) dX12_leaf_35 rfl ?_
    refine r_iload_n dX12_leaf_37 rfl rfl ?_
    refine r_imul dX12_leaf_38 ?_
    refine r_aload_n dX12_leaf_39 rfl rfl ?_
    refine r_getC (k := 2) cl_12 dX12_leaf_40 t_1274 gf_12_2.1 gf_12_2.2 (gc_12_2 _) ?_
    refine r_iload_n dX12_leaf_43 rfl rfl ?_
    refine r_iald dX12_leaf_44 hm.1 ?_
    replace hm := hm.2
    refine r_iadd dX12_leaf_45 ?_
    refine r_icmp_ge (tgt := 83) dX12_leaf_46 rfl (fun hc => ?_) (fun hc => ?_)
    · replace hm := hm.1 hc
      refine r_iconst (v := (-1)) dX12_leaf_83 rfl ?_
      exact r_ireturn dX12_leaf_84 rfl ⟨by decide, by decide⟩ ⟨_, rfl, hm⟩
    · replace hm := hm.2 hc
      refine r_aload_n dX12_leaf_49 rfl rfl ?_
      refine r_iload dX12_leaf_50 rfl ?_
      refine r_callVI (d' := d - 1) (as := [tI v5]) (st := []) cl_12 dX12_leaf_52 mi_X12_isLeaf t_1677 t_1679 ts_75 rfl rfl (Nat.le_of_ble_eq_true rfl) (by omega) ⟨by decide, by decide⟩ ⟨rfl, rfl⟩ (s_X12_isLeaf (by omega) hm) (fun x4 h5 hm => ?_)
      refine r_if_ne (tgt := 61) dX12_leaf_55 rfl (fun hc => ?_) (fun hc => ?_)
      · replace hm := hm.1 hc
        refine r_iload dX12_leaf_61 rfl ?_
        refine r_if_ne (tgt := 74) dX12_leaf_63 rfl (fun hc => ?_) (fun hc => ?_)
        · replace hm := hm.1 hc
          obtain ⟨x6, e_x6⟩ : ∃ y : Int32, y = v4 + (-1) := ⟨_, rfl⟩
          replace hm := hm x6 e_x6
          refine r_iinc (L' := [some (tR 12 0 (some 51)), some (tI v1), none, some (tI v3), some (tI x6), some (tI v5)]) dX12_leaf_74 rfl (by rw [e_x6]; rfl) (by decide) rfl ?_
          refine r_keep (L' := [some (tR 12 0 (some 51)), some (tI v1), none, some (tI v3), some (tI x6), some (tI v5)]) [true, true, false, true, true, true] rfl ?_
          exact s_X12_leaf_77 hd hk33 hk66 hm
        · replace hm := hm.2 hc
          refine r_keep (L' := [some (tR 12 0 (some 51)), none, none, some (tI v3), none, some (tI v5)]) [true, false, false, true, false, true] rfl ?_
          exact hk66 _ _ _ hm
      · replace hm := hm.2 hc
        refine r_goto (tgt := 77) dX12_leaf_58 rfl ?_
        refine r_keep (L' := [some (tR 12 0 (some 51)), some (tI v1), none, some (tI v3), some (tI v4), some (tI v5)]) [true, true, false, true, true, true] rfl ?_
        exact s_X12_leaf_77 hd hk33 hk66 hm
def m_X12_leaf (v1 : Int32) (v2 : Int32) (v3 : Int32) (h : Hp) (Q : Int32 → Hp → Prop) : Prop := m_X12_isDeal v1 h (fun (x7 : Int32) (h8 : Hp) => (x7 = 0 → Q (-1) h8) ∧ (¬ x7 = 0 → m_X12_within v3 0 7 h8 (fun (x9 : Int32) (h10 : Hp) => (x9 = 0 → Q (-1) h10) ∧ (¬ x9 = 0 → (0 ≤ v2 → ∀ x11 : Int32, x11 = (96 * v1) → ∃ n33, m_X12_leaf_33 n33 (m_X12_leaf_66 Q) Q v1 v3 v2 x11 h10) ∧ (¬ 0 ≤ v2 → Q (-1) h10)))))
set_option maxHeartbeats 4000000 in
set_option maxRecDepth 100000 in
theorem s_X12_leaf {l : Launch} {G : Cx} {d : Nat} (hd : 6 ≤ d) {v1 : Int32} {v2 : Int32} {v3 : Int32} {h : Hp} {Q : Int32 → Hp → Prop} (hm : m_X12_leaf v1 v2 v3 h Q) : Ct l G d 0 0 yX12_leaf MX12_leaf [tR 12 0 (some 51), tI v1, tI v2, tI v3] h (qI Q) := by
  unfold m_X12_leaf at hm
  refine Ct.of (L := [some (tR 12 0 (some 51)), some (tI v1), some (tI v2), some (tI v3)]) (by decide) rfl rfl (Nat.le_of_ble_eq_true rfl) rfl ?_
  refine r_aload_n dX12_leaf_0 rfl rfl ?_
  refine r_iload_n dX12_leaf_1 rfl rfl ?_
  refine r_callVI (d' := d - 1) (as := [tI v1]) (st := []) cl_12 dX12_leaf_2 mi_X12_isDeal t_1673 t_1675 ts_74 rfl rfl (Nat.le_of_ble_eq_true rfl) (by omega) ⟨by decide, by decide⟩ ⟨rfl, rfl⟩ (s_X12_isDeal (by omega) hm) (fun x7 h8 hm => ?_)
  refine r_if_eq (tgt := 22) dX12_leaf_5 rfl (fun hc => ?_) (fun hc => ?_)
  · replace hm := hm.1 hc
    refine r_iconst (v := (-1)) dX12_leaf_22 rfl ?_
    exact r_ireturn dX12_leaf_23 rfl ⟨by decide, by decide⟩ ⟨_, rfl, hm⟩
  · replace hm := hm.2 hc
    refine r_iload_n dX12_leaf_8 rfl rfl ?_
    refine r_iconst (v := 0) dX12_leaf_9 rfl ?_
    refine r_bipush (v := 7) dX12_leaf_10 rfl ?_
    refine r_callSI (d' := d - 1) (as := [tI v3, tI 0, tI 7]) (st := []) dX12_leaf_12 mi_X12_within t_1557 t_1558 rfl rfl (Nat.le_of_ble_eq_true rfl) (by omega) ⟨by decide, by decide⟩ ⟨rfl, rfl⟩ (s_X12_within (by omega) hm) (fun x9 h10 hm => ?_)
    refine r_if_eq (tgt := 22) dX12_leaf_15 rfl (fun hc => ?_) (fun hc => ?_)
    · replace hm := hm.1 hc
      refine r_iconst (v := (-1)) dX12_leaf_22 rfl ?_
      exact r_ireturn dX12_leaf_23 rfl ⟨by decide, by decide⟩ ⟨_, rfl, hm⟩
    · replace hm := hm.2 hc
      refine r_iload_n dX12_leaf_18 rfl rfl ?_
      refine r_if_ge (tgt := 24) dX12_leaf_19 rfl (fun hc => ?_) (fun hc => ?_)
      · replace hm := hm.1 hc
        refine r_iload_n dX12_leaf_24 rfl rfl ?_
        refine r_istore (L' := [some (tR 12 0 (some 51)), some (tI v1), some (tI v2), some (tI v3), some (tI v2)]) dX12_leaf_25 (by decide) rfl ?_
        refine r_bipush (v := 96) dX12_leaf_27 rfl ?_
        refine r_iload_n dX12_leaf_29 rfl rfl ?_
        refine r_imul dX12_leaf_30 ?_
        refine r_nmI (fun x11 e_x11 => ?_)
        replace hm := hm x11 e_x11
        refine r_istore (L' := [some (tR 12 0 (some 51)), some (tI v1), some (tI v2), some (tI v3), some (tI v2), some (tI x11)]) dX12_leaf_31 (by decide) rfl ?_
        refine r_keep (L' := [some (tR 12 0 (some 51)), some (tI v1), none, some (tI v3), some (tI v2), some (tI x11)]) [true, true, false, true, true, true] rfl ?_
        obtain ⟨n, hm⟩ := hm
        refine s_X12_leaf_33 hd ?_ hm
        · exact (fun _ _ _ hm => s_X12_leaf_66 hd hm)
      · replace hm := hm.2 hc
        refine r_iconst (v := (-1)) dX12_leaf_22 rfl ?_
        exact r_ireturn dX12_leaf_23 rfl ⟨by decide, by decide⟩ ⟨_, rfl, hm⟩
theorem dX12_times_0 : decode cX12_times 0 = .ok (.lconst 1, 1) := by decide +kernel
theorem dX12_times_1 : decode cX12_times 1 = .ok (.lstore 4, 2) := by decide +kernel
theorem dX12_times_3 : decode cX12_times 3 = .ok (.iload_n 1, 1) := by decide +kernel
theorem dX12_times_4 : decode cX12_times 4 = .ok (.istore 6, 2) := by decide +kernel
theorem dX12_times_6 : decode cX12_times 6 = .ok (.lload 4, 2) := by decide +kernel
theorem dX12_times_8 : decode cX12_times 8 = .ok (.lconst 0, 1) := by decide +kernel
theorem dX12_times_9 : decode cX12_times 9 = .ok (.lcmp, 1) := by decide +kernel
theorem dX12_times_10 : decode cX12_times 10 = .ok (.ifCond .le 129, 3) := by decide +kernel
theorem dX12_times_13 : decode cX12_times 13 = .ok (.aload_n 0, 1) := by decide +kernel
theorem dX12_times_14 : decode cX12_times 14 = .ok (.getfield 34, 3) := by decide +kernel
theorem dX12_times_17 : decode cX12_times 17 = .ok (.iload 6, 2) := by decide +kernel
theorem dX12_times_19 : decode cX12_times 19 = .ok (.iaload, 1) := by decide +kernel
theorem dX12_times_20 : decode cX12_times 20 = .ok (.ifCond .lt 119, 3) := by decide +kernel
theorem dX12_times_23 : decode cX12_times 23 = .ok (.aload_n 0, 1) := by decide +kernel
theorem dX12_times_24 : decode cX12_times 24 = .ok (.getfield 34, 3) := by decide +kernel
theorem dX12_times_27 : decode cX12_times 27 = .ok (.iload 6, 2) := by decide +kernel
theorem dX12_times_29 : decode cX12_times 29 = .ok (.iaload, 1) := by decide +kernel
theorem dX12_times_30 : decode cX12_times 30 = .ok (.istore 7, 2) := by decide +kernel
theorem dX12_times_32 : decode cX12_times 32 = .ok (.aload_n 0, 1) := by decide +kernel
theorem dX12_times_33 : decode cX12_times 33 = .ok (.getfield 28, 3) := by decide +kernel
theorem dX12_times_36 : decode cX12_times 36 = .ok (.iload 7, 2) := by decide +kernel
theorem dX12_times_38 : decode cX12_times 38 = .ok (.iaload, 1) := by decide +kernel
theorem dX12_times_39 : decode cX12_times 39 = .ok (.iconst 5, 1) := by decide +kernel
theorem dX12_times_40 : decode cX12_times 40 = .ok (.if_icmp .ne 16, 3) := by decide +kernel
theorem dX12_times_43 : decode cX12_times 43 = .ok (.lload 4, 2) := by decide +kernel
theorem dX12_times_45 : decode cX12_times 45 = .ok (.aload_n 0, 1) := by decide +kernel
theorem dX12_times_46 : decode cX12_times 46 = .ok (.getfield 31, 3) := by decide +kernel
theorem dX12_times_49 : decode cX12_times 49 = .ok (.iload 7, 2) := by decide +kernel
theorem dX12_times_51 : decode cX12_times 51 = .ok (.iaload, 1) := by decide +kernel
theorem dX12_times_52 : decode cX12_times 52 = .ok (.i2l, 1) := by decide +kernel
theorem dX12_times_53 : decode cX12_times 53 = .ok (.lmul, 1) := by decide +kernel
theorem dX12_times_54 : decode cX12_times 54 = .ok (.lstore 4, 2) := by decide +kernel
theorem dX12_times_56 : decode cX12_times 56 = .ok (.aload_n 0, 1) := by decide +kernel
theorem dX12_times_57 : decode cX12_times 57 = .ok (.getfield 28, 3) := by decide +kernel
theorem dX12_times_60 : decode cX12_times 60 = .ok (.iload 7, 2) := by decide +kernel
theorem dX12_times_62 : decode cX12_times 62 = .ok (.iaload, 1) := by decide +kernel
theorem dX12_times_63 : decode cX12_times 63 = .ok (.bipush 6, 2) := by decide +kernel
theorem dX12_times_65 : decode cX12_times 65 = .ok (.if_icmp .ne 29, 3) := by decide +kernel
theorem dX12_times_68 : decode cX12_times 68 = .ok (.iload_n 2, 1) := by decide +kernel
theorem dX12_times_69 : decode cX12_times 69 = .ok (.aload_n 0, 1) := by decide +kernel
theorem dX12_times_70 : decode cX12_times 70 = .ok (.getfield 31, 3) := by decide +kernel
theorem dX12_times_73 : decode cX12_times 73 = .ok (.iload 7, 2) := by decide +kernel
theorem dX12_times_75 : decode cX12_times 75 = .ok (.iaload, 1) := by decide +kernel
theorem dX12_times_76 : decode cX12_times 76 = .ok (.ishr, 1) := by decide +kernel
theorem dX12_times_77 : decode cX12_times 77 = .ok (.iconst 1, 1) := by decide +kernel
theorem dX12_times_78 : decode cX12_times 78 = .ok (.iand, 1) := by decide +kernel
theorem dX12_times_79 : decode cX12_times 79 = .ok (.iconst 1, 1) := by decide +kernel
theorem dX12_times_80 : decode cX12_times 80 = .ok (.aload_n 0, 1) := by decide +kernel
theorem dX12_times_81 : decode cX12_times 81 = .ok (.getfield 37, 3) := by decide +kernel
theorem dX12_times_84 : decode cX12_times 84 = .ok (.iload 6, 2) := by decide +kernel
theorem dX12_times_86 : decode cX12_times 86 = .ok (.iaload, 1) := by decide +kernel
theorem dX12_times_87 : decode cX12_times 87 = .ok (.isub, 1) := by decide +kernel
theorem dX12_times_88 : decode cX12_times 88 = .ok (.if_icmp .eq 6, 3) := by decide +kernel
theorem dX12_times_91 : decode cX12_times 91 = .ok (.lconst 0, 1) := by decide +kernel
theorem dX12_times_92 : decode cX12_times 92 = .ok (.lstore 4, 2) := by decide +kernel
theorem dX12_times_94 : decode cX12_times 94 = .ok (.aload_n 0, 1) := by decide +kernel
theorem dX12_times_95 : decode cX12_times 95 = .ok (.getfield 28, 3) := by decide +kernel
theorem dX12_times_98 : decode cX12_times 98 = .ok (.iload 7, 2) := by decide +kernel
theorem dX12_times_100 : decode cX12_times 100 = .ok (.iaload, 1) := by decide +kernel
theorem dX12_times_101 : decode cX12_times 101 = .ok (.bipush 7, 2) := by decide +kernel
theorem dX12_times_103 : decode cX12_times 103 = .ok (.if_icmp .ne 29, 3) := by decide +kernel
theorem dX12_times_106 : decode cX12_times 106 = .ok (.iload_n 2, 1) := by decide +kernel
theorem dX12_times_107 : decode cX12_times 107 = .ok (.iload_n 3, 1) := by decide +kernel
theorem dX12_times_108 : decode cX12_times 108 = .ok (.aload_n 0, 1) := by decide +kernel
theorem dX12_times_109 : decode cX12_times 109 = .ok (.getfield 31, 3) := by decide +kernel
theorem dX12_times_112 : decode cX12_times 112 = .ok (.iload 7, 2) := by decide +kernel
theorem dX12_times_114 : decode cX12_times 114 = .ok (.iaload, 1) := by decide +kernel
theorem dX12_times_115 : decode cX12_times 115 = .ok (.iadd, 1) := by decide +kernel
theorem dX12_times_116 : decode cX12_times 116 = .ok (.ishr, 1) := by decide +kernel
theorem dX12_times_117 : decode cX12_times 117 = .ok (.iconst 1, 1) := by decide +kernel
theorem dX12_times_118 : decode cX12_times 118 = .ok (.iand, 1) := by decide +kernel
theorem dX12_times_119 : decode cX12_times 119 = .ok (.aload_n 0, 1) := by decide +kernel
theorem dX12_times_120 : decode cX12_times 120 = .ok (.getfield 37, 3) := by decide +kernel
theorem dX12_times_123 : decode cX12_times 123 = .ok (.iload 6, 2) := by decide +kernel
theorem dX12_times_125 : decode cX12_times 125 = .ok (.iaload, 1) := by decide +kernel
theorem dX12_times_126 : decode cX12_times 126 = .ok (.if_icmp .eq 6, 3) := by decide +kernel
theorem dX12_times_129 : decode cX12_times 129 = .ok (.lconst 0, 1) := by decide +kernel
theorem dX12_times_130 : decode cX12_times 130 = .ok (.lstore 4, 2) := by decide +kernel
theorem dX12_times_132 : decode cX12_times 132 = .ok (.iload 7, 2) := by decide +kernel
theorem dX12_times_134 : decode cX12_times 134 = .ok (.istore 6, 2) := by decide +kernel
theorem dX12_times_136 : decode cX12_times 136 = .ok (.goto (-130), 3) := by decide +kernel
theorem dX12_times_139 : decode cX12_times 139 = .ok (.lload 4, 2) := by decide +kernel
theorem dX12_times_141 : decode cX12_times 141 = .ok (.lreturn, 1) := by decide +kernel
def m_X12_times_132 (k6 : Int32 → Int32 → Int64 → Int32 → Hp → Prop) (Q : Int64 → Hp → Prop) (v2 : Int32) (v3 : Int32) (v4 : Int64) (v7 : Int32) (h : Hp) : Prop := k6 v2 v3 v4 v7 h
set_option maxHeartbeats 4000000 in
set_option maxRecDepth 100000 in
theorem s_X12_times_132 {l : Launch} {G : Cx} {d : Nat} {h0 : Hp} (hd : 2 ≤ d) {k6 : Int32 → Int32 → Int64 → Int32 → Hp → Prop} {Q : Int64 → Hp → Prop} (hk6 : ∀ (v2 : Int32) (v3 : Int32) (v4 : Int64) (v6 : Int32) (hh : Hp), k6 v2 v3 v4 v6 hh → Rn l G d 0 0 MX12_times h0 (qJ Q) 6 [some (tR 12 0 (some 51)), none, some (tI v2), some (tI v3), some (tJ v4), none, some (tI v6)] [] hh 0 0) {v2 : Int32} {v3 : Int32} {v4 : Int64} {v7 : Int32} {h : Hp} (hm : m_X12_times_132 k6 Q v2 v3 v4 v7 h) : Rn l G d 0 0 MX12_times h0 (qJ Q) 132 [some (tR 12 0 (some 51)), none, some (tI v2), some (tI v3), some (tJ v4), none, none, some (tI v7)] [] h 0 0 := by
  unfold m_X12_times_132 at hm
  refine r_iload dX12_times_132 rfl ?_
  refine r_istore (L' := [some (tR 12 0 (some 51)), none, some (tI v2), some (tI v3), some (tJ v4), none, some (tI v7), some (tI v7)]) dX12_times_134 (by decide) rfl ?_
  refine r_goto (tgt := 6) dX12_times_136 rfl ?_
  refine r_keep (L' := [some (tR 12 0 (some 51)), none, some (tI v2), some (tI v3), some (tJ v4), none, some (tI v7)]) [true, false, true, true, true, false, true] rfl ?_
  exact hk6 _ _ _ _ _ hm
def m_X12_times_94 (k6 : Int32 → Int32 → Int64 → Int32 → Hp → Prop) (Q : Int64 → Hp → Prop) (v2 : Int32) (v3 : Int32) (v4 : Int64) (v6 : Int32) (v7 : Int32) (h : Hp) : Prop := vp_in v7 2304 ∧ ((¬ (hI h 58 (ix v7)) = 7 → m_X12_times_132 k6 Q v2 v3 v4 v7 h) ∧ ((hI h 58 (ix v7)) = 7 → vp_in v7 2304 ∧ (vp_in v6 2304 ∧ ((((v2 >>> ((v3 + (hI h 59 (ix v7))) &&& 31)) &&& 1) = (hI h 61 (ix v6)) → m_X12_times_132 k6 Q v2 v3 v4 v7 h) ∧ (¬ ((v2 >>> ((v3 + (hI h 59 (ix v7))) &&& 31)) &&& 1) = (hI h 61 (ix v6)) → m_X12_times_132 k6 Q v2 v3 0 v7 h)))))
set_option maxHeartbeats 4000000 in
set_option maxRecDepth 100000 in
theorem s_X12_times_94 {l : Launch} {G : Cx} {d : Nat} {h0 : Hp} (hd : 2 ≤ d) {k6 : Int32 → Int32 → Int64 → Int32 → Hp → Prop} {Q : Int64 → Hp → Prop} (hk6 : ∀ (v2 : Int32) (v3 : Int32) (v4 : Int64) (v6 : Int32) (hh : Hp), k6 v2 v3 v4 v6 hh → Rn l G d 0 0 MX12_times h0 (qJ Q) 6 [some (tR 12 0 (some 51)), none, some (tI v2), some (tI v3), some (tJ v4), none, some (tI v6)] [] hh 0 0) {v2 : Int32} {v3 : Int32} {v4 : Int64} {v6 : Int32} {v7 : Int32} {h : Hp} (hm : m_X12_times_94 k6 Q v2 v3 v4 v6 v7 h) : Rn l G d 0 0 MX12_times h0 (qJ Q) 94 [some (tR 12 0 (some 51)), none, some (tI v2), some (tI v3), some (tJ v4), none, some (tI v6), some (tI v7)] [] h 0 0 := by
  unfold m_X12_times_94 at hm
  refine r_aload_n dX12_times_94 rfl rfl ?_
  refine r_getC (k := 7) cl_12 dX12_times_95 t_1279 gf_12_7.1 gf_12_7.2 (gc_12_7 _) ?_
  refine r_iload dX12_times_98 rfl ?_
  refine r_iald dX12_times_100 hm.1 ?_
  replace hm := hm.2
  refine r_bipush (v := 7) dX12_times_101 rfl ?_
  refine r_icmp_ne (tgt := 132) dX12_times_103 rfl (fun hc => ?_) (fun hc => ?_)
  · replace hm := hm.1 hc
    refine r_keep (L' := [some (tR 12 0 (some 51)), none, some (tI v2), some (tI v3), some (tJ v4), none, none, some (tI v7)]) [true, false, true, true, true, false, false, true] rfl ?_
    exact s_X12_times_132 hd hk6 hm
  · replace hm := hm.2 hc
    refine r_iload_n dX12_times_106 rfl rfl ?_
    refine r_iload_n dX12_times_107 rfl rfl ?_
    refine r_aload_n dX12_times_108 rfl rfl ?_
    refine r_getC (k := 8) cl_12 dX12_times_109 t_1280 gf_12_8.1 gf_12_8.2 (gc_12_8 _) ?_
    refine r_iload dX12_times_112 rfl ?_
    refine r_iald dX12_times_114 hm.1 ?_
    replace hm := hm.2
    refine r_iadd dX12_times_115 ?_
    refine r_ishr dX12_times_116 ?_
    refine r_iconst (v := 1) dX12_times_117 rfl ?_
    refine r_iand dX12_times_118 ?_
    refine r_aload_n dX12_times_119 rfl rfl ?_
    refine r_getC (k := 10) cl_12 dX12_times_120 t_1282 gf_12_10.1 gf_12_10.2 (gc_12_10 _) ?_
    refine r_iload dX12_times_123 rfl ?_
    refine r_iald dX12_times_125 hm.1 ?_
    replace hm := hm.2
    refine r_icmp_eq (tgt := 132) dX12_times_126 rfl (fun hc => ?_) (fun hc => ?_)
    · replace hm := hm.1 hc
      refine r_keep (L' := [some (tR 12 0 (some 51)), none, some (tI v2), some (tI v3), some (tJ v4), none, none, some (tI v7)]) [true, false, true, true, true, false, false, true] rfl ?_
      exact s_X12_times_132 hd hk6 hm
    · replace hm := hm.2 hc
      refine r_lconst (v := 0) dX12_times_129 rfl ?_
      refine r_lstore (L' := [some (tR 12 0 (some 51)), none, some (tI v2), some (tI v3), some (tJ 0), none, some (tI v6), some (tI v7)]) dX12_times_130 (by decide) rfl ?_
      refine r_keep (L' := [some (tR 12 0 (some 51)), none, some (tI v2), some (tI v3), some (tJ 0), none, none, some (tI v7)]) [true, false, true, true, true, false, false, true] rfl ?_
      exact s_X12_times_132 hd hk6 hm
def m_X12_times_56 (k6 : Int32 → Int32 → Int64 → Int32 → Hp → Prop) (Q : Int64 → Hp → Prop) (v2 : Int32) (v3 : Int32) (v4 : Int64) (v6 : Int32) (v7 : Int32) (h : Hp) : Prop := vp_in v7 2304 ∧ ((¬ (hI h 58 (ix v7)) = 6 → m_X12_times_94 k6 Q v2 v3 v4 v6 v7 h) ∧ ((hI h 58 (ix v7)) = 6 → vp_in v7 2304 ∧ (vp_in v6 2304 ∧ ((((v2 >>> ((hI h 59 (ix v7)) &&& 31)) &&& 1) = (1 - (hI h 61 (ix v6))) → m_X12_times_94 k6 Q v2 v3 v4 v6 v7 h) ∧ (¬ ((v2 >>> ((hI h 59 (ix v7)) &&& 31)) &&& 1) = (1 - (hI h 61 (ix v6))) → m_X12_times_94 k6 Q v2 v3 0 v6 v7 h)))))
set_option maxHeartbeats 4000000 in
set_option maxRecDepth 100000 in
theorem s_X12_times_56 {l : Launch} {G : Cx} {d : Nat} {h0 : Hp} (hd : 2 ≤ d) {k6 : Int32 → Int32 → Int64 → Int32 → Hp → Prop} {Q : Int64 → Hp → Prop} (hk6 : ∀ (v2 : Int32) (v3 : Int32) (v4 : Int64) (v6 : Int32) (hh : Hp), k6 v2 v3 v4 v6 hh → Rn l G d 0 0 MX12_times h0 (qJ Q) 6 [some (tR 12 0 (some 51)), none, some (tI v2), some (tI v3), some (tJ v4), none, some (tI v6)] [] hh 0 0) {v2 : Int32} {v3 : Int32} {v4 : Int64} {v6 : Int32} {v7 : Int32} {h : Hp} (hm : m_X12_times_56 k6 Q v2 v3 v4 v6 v7 h) : Rn l G d 0 0 MX12_times h0 (qJ Q) 56 [some (tR 12 0 (some 51)), none, some (tI v2), some (tI v3), some (tJ v4), none, some (tI v6), some (tI v7)] [] h 0 0 := by
  unfold m_X12_times_56 at hm
  refine r_aload_n dX12_times_56 rfl rfl ?_
  refine r_getC (k := 7) cl_12 dX12_times_57 t_1279 gf_12_7.1 gf_12_7.2 (gc_12_7 _) ?_
  refine r_iload dX12_times_60 rfl ?_
  refine r_iald dX12_times_62 hm.1 ?_
  replace hm := hm.2
  refine r_bipush (v := 6) dX12_times_63 rfl ?_
  refine r_icmp_ne (tgt := 94) dX12_times_65 rfl (fun hc => ?_) (fun hc => ?_)
  · replace hm := hm.1 hc
    refine r_keep (L' := [some (tR 12 0 (some 51)), none, some (tI v2), some (tI v3), some (tJ v4), none, some (tI v6), some (tI v7)]) [true, false, true, true, true, false, true, true] rfl ?_
    exact s_X12_times_94 hd hk6 hm
  · replace hm := hm.2 hc
    refine r_iload_n dX12_times_68 rfl rfl ?_
    refine r_aload_n dX12_times_69 rfl rfl ?_
    refine r_getC (k := 8) cl_12 dX12_times_70 t_1280 gf_12_8.1 gf_12_8.2 (gc_12_8 _) ?_
    refine r_iload dX12_times_73 rfl ?_
    refine r_iald dX12_times_75 hm.1 ?_
    replace hm := hm.2
    refine r_ishr dX12_times_76 ?_
    refine r_iconst (v := 1) dX12_times_77 rfl ?_
    refine r_iand dX12_times_78 ?_
    refine r_iconst (v := 1) dX12_times_79 rfl ?_
    refine r_aload_n dX12_times_80 rfl rfl ?_
    refine r_getC (k := 10) cl_12 dX12_times_81 t_1282 gf_12_10.1 gf_12_10.2 (gc_12_10 _) ?_
    refine r_iload dX12_times_84 rfl ?_
    refine r_iald dX12_times_86 hm.1 ?_
    replace hm := hm.2
    refine r_isub dX12_times_87 ?_
    refine r_icmp_eq (tgt := 94) dX12_times_88 rfl (fun hc => ?_) (fun hc => ?_)
    · replace hm := hm.1 hc
      refine r_keep (L' := [some (tR 12 0 (some 51)), none, some (tI v2), some (tI v3), some (tJ v4), none, some (tI v6), some (tI v7)]) [true, false, true, true, true, false, true, true] rfl ?_
      exact s_X12_times_94 hd hk6 hm
    · replace hm := hm.2 hc
      refine r_lconst (v := 0) dX12_times_91 rfl ?_
      refine r_lstore (L' := [some (tR 12 0 (some 51)), none, some (tI v2), some (tI v3), some (tJ 0), none, some (tI v6), some (tI v7)]) dX12_times_92 (by decide) rfl ?_
      refine r_keep (L' := [some (tR 12 0 (some 51)), none, some (tI v2), some (tI v3), some (tJ 0), none, some (tI v6), some (tI v7)]) [true, false, true, true, true, false, true, true] rfl ?_
      exact s_X12_times_94 hd hk6 hm
def m_X12_times_6 : Nat → (Int64 → Hp → Prop) → Int32 → Int32 → Int64 → Int32 → Hp → Prop
  | 0, _, _, _, _, _, _ => False
  | n + 1, Q, v2, v3, v4, v6, h => ((lg_cmp v4 0) ≤ 0 → Q v4 h) ∧ (¬ (lg_cmp v4 0) ≤ 0 → vp_in v6 2304 ∧ (((hI h 60 (ix v6)) < 0 → Q v4 h) ∧ (¬ (hI h 60 (ix v6)) < 0 → vp_in v6 2304 ∧ (∀ x1 : Int32, x1 = (hI h 60 (ix v6)) → vp_in x1 2304 ∧ ((¬ (hI h 58 (ix x1)) = 5 → m_X12_times_56 (fun (v2 : Int32) (v3 : Int32) (v4 : Int64) (v6 : Int32) (hh : Hp) => m_X12_times_6 n Q v2 v3 v4 v6 hh) Q v2 v3 v4 v6 x1 h) ∧ ((hI h 58 (ix x1)) = 5 → vp_in x1 2304 ∧ (∀ x2 : Int64, x2 = (v4 * ((hI h 59 (ix x1)).toInt64)) → m_X12_times_56 (fun (v2 : Int32) (v3 : Int32) (v4 : Int64) (v6 : Int32) (hh : Hp) => m_X12_times_6 n Q v2 v3 v4 v6 hh) Q v2 v3 x2 v6 x1 h)))))))
set_option maxHeartbeats 4000000 in
set_option maxRecDepth 100000 in
theorem s_X12_times_6 {l : Launch} {G : Cx} {d : Nat} {h0 : Hp} (hd : 2 ≤ d) {Q : Int64 → Hp → Prop} : ∀ {n : Nat} {v2 : Int32} {v3 : Int32} {v4 : Int64} {v6 : Int32} {h : Hp}, m_X12_times_6 n Q v2 v3 v4 v6 h → Rn l G d 0 0 MX12_times h0 (qJ Q) 6 [some (tR 12 0 (some 51)), none, some (tI v2), some (tI v3), some (tJ v4), none, some (tI v6)] [] h 0 0 := by
  intro n
  induction n with
  | zero => intro v2 v3 v4 v6 h hm; exact hm.elim
  | succ n ih =>
    intro v2 v3 v4 v6 h hm
    have hk6 := fun (v2 : Int32) (v3 : Int32) (v4 : Int64) (v6 : Int32) (hh : Hp) (hm : m_X12_times_6 n Q v2 v3 v4 v6 hh) => ih hm
    rw [m_X12_times_6] at hm
    refine r_lload dX12_times_6 rfl ?_
    refine r_lconst (v := 0) dX12_times_8 rfl ?_
    refine r_lcmp dX12_times_9 ?_
    refine r_if_le (tgt := 139) dX12_times_10 rfl (fun hc => ?_) (fun hc => ?_)
    · replace hm := hm.1 hc
      refine r_lload dX12_times_139 rfl ?_
      exact r_lreturn dX12_times_141 rfl ⟨by decide, by decide⟩ ⟨_, rfl, hm⟩
    · replace hm := hm.2 hc
      refine r_aload_n dX12_times_13 rfl rfl ?_
      refine r_getC (k := 9) cl_12 dX12_times_14 t_1281 gf_12_9.1 gf_12_9.2 (gc_12_9 _) ?_
      refine r_iload dX12_times_17 rfl ?_
      refine r_iald dX12_times_19 hm.1 ?_
      replace hm := hm.2
      refine r_if_lt (tgt := 139) dX12_times_20 rfl (fun hc => ?_) (fun hc => ?_)
      · replace hm := hm.1 hc
        refine r_lload dX12_times_139 rfl ?_
        exact r_lreturn dX12_times_141 rfl ⟨by decide, by decide⟩ ⟨_, rfl, hm⟩
      · replace hm := hm.2 hc
        refine r_aload_n dX12_times_23 rfl rfl ?_
        refine r_getC (k := 9) cl_12 dX12_times_24 t_1281 gf_12_9.1 gf_12_9.2 (gc_12_9 _) ?_
        refine r_iload dX12_times_27 rfl ?_
        refine r_iald dX12_times_29 hm.1 ?_
        replace hm := hm.2
        refine r_nmI (fun x1 e_x1 => ?_)
        replace hm := hm x1 e_x1
        refine r_istore (L' := [some (tR 12 0 (some 51)), none, some (tI v2), some (tI v3), some (tJ v4), none, some (tI v6), some (tI x1)]) dX12_times_30 (by decide) rfl ?_
        refine r_aload_n dX12_times_32 rfl rfl ?_
        refine r_getC (k := 7) cl_12 dX12_times_33 t_1279 gf_12_7.1 gf_12_7.2 (gc_12_7 _) ?_
        refine r_iload dX12_times_36 rfl ?_
        refine r_iald dX12_times_38 hm.1 ?_
        replace hm := hm.2
        refine r_iconst (v := 5) dX12_times_39 rfl ?_
        refine r_icmp_ne (tgt := 56) dX12_times_40 rfl (fun hc => ?_) (fun hc => ?_)
        · replace hm := hm.1 hc
          refine r_keep (L' := [some (tR 12 0 (some 51)), none, some (tI v2), some (tI v3), some (tJ v4), none, some (tI v6), some (tI x1)]) [true, false, true, true, true, false, true, true] rfl ?_
          exact s_X12_times_56 hd hk6 hm
        · replace hm := hm.2 hc
          refine r_lload dX12_times_43 rfl ?_
          refine r_aload_n dX12_times_45 rfl rfl ?_
          refine r_getC (k := 8) cl_12 dX12_times_46 t_1280 gf_12_8.1 gf_12_8.2 (gc_12_8 _) ?_
          refine r_iload dX12_times_49 rfl ?_
          refine r_iald dX12_times_51 hm.1 ?_
          replace hm := hm.2
          refine r_i2l dX12_times_52 ?_
          refine r_lmul dX12_times_53 ?_
          refine r_nmJ (fun x2 e_x2 => ?_)
          replace hm := hm x2 e_x2
          refine r_lstore (L' := [some (tR 12 0 (some 51)), none, some (tI v2), some (tI v3), some (tJ x2), none, some (tI v6), some (tI x1)]) dX12_times_54 (by decide) rfl ?_
          refine r_keep (L' := [some (tR 12 0 (some 51)), none, some (tI v2), some (tI v3), some (tJ x2), none, some (tI v6), some (tI x1)]) [true, false, true, true, true, false, true, true] rfl ?_
          exact s_X12_times_56 hd hk6 hm
def m_X12_times (v1 : Int32) (v2 : Int32) (v3 : Int32) (h : Hp) (Q : Int64 → Hp → Prop) : Prop := ∃ n6, m_X12_times_6 n6 Q v2 v3 1 v1 h
set_option maxHeartbeats 4000000 in
set_option maxRecDepth 100000 in
theorem s_X12_times {l : Launch} {G : Cx} {d : Nat} (hd : 2 ≤ d) {v1 : Int32} {v2 : Int32} {v3 : Int32} {h : Hp} {Q : Int64 → Hp → Prop} (hm : m_X12_times v1 v2 v3 h Q) : Ct l G d 0 0 yX12_times MX12_times [tR 12 0 (some 51), tI v1, tI v2, tI v3] h (qJ Q) := by
  unfold m_X12_times at hm
  refine Ct.of (L := [some (tR 12 0 (some 51)), some (tI v1), some (tI v2), some (tI v3)]) (by decide) rfl rfl (Nat.le_of_ble_eq_true rfl) rfl ?_
  refine r_lconst (v := 1) dX12_times_0 rfl ?_
  refine r_lstore (L' := [some (tR 12 0 (some 51)), some (tI v1), some (tI v2), some (tI v3), some (tJ 1), none]) dX12_times_1 (by decide) rfl ?_
  refine r_iload_n dX12_times_3 rfl rfl ?_
  refine r_istore (L' := [some (tR 12 0 (some 51)), some (tI v1), some (tI v2), some (tI v3), some (tJ 1), none, some (tI v1)]) dX12_times_4 (by decide) rfl ?_
  refine r_keep (L' := [some (tR 12 0 (some 51)), none, some (tI v2), some (tI v3), some (tJ 1), none, some (tI v1)]) [true, false, true, true, true, false, true] rfl ?_
  obtain ⟨n, hm⟩ := hm
  refine s_X12_times_6 hd hm
theorem dX12_rowsOf_0 : decode cX12_rowsOf 0 = .ok (.aload_n 0, 1) := rfl
theorem dX12_rowsOf_1 : decode cX12_rowsOf 1 = .ok (.getfield 28, 3) := rfl
theorem dX12_rowsOf_4 : decode cX12_rowsOf 4 = .ok (.iload_n 1, 1) := rfl
theorem dX12_rowsOf_5 : decode cX12_rowsOf 5 = .ok (.iaload, 1) := rfl
theorem dX12_rowsOf_6 : decode cX12_rowsOf 6 = .ok (.iconst 2, 1) := rfl
theorem dX12_rowsOf_7 : decode cX12_rowsOf 7 = .ok (.if_icmp .ge 7, 3) := by decide +kernel
theorem dX12_rowsOf_10 : decode cX12_rowsOf 10 = .ok (.iconst 1, 1) := rfl
theorem dX12_rowsOf_11 : decode cX12_rowsOf 11 = .ok (.goto 9, 3) := by decide +kernel
theorem dX12_rowsOf_14 : decode cX12_rowsOf 14 = .ok (.aload_n 0, 1) := rfl
theorem dX12_rowsOf_15 : decode cX12_rowsOf 15 = .ok (.getfield 28, 3) := rfl
theorem dX12_rowsOf_18 : decode cX12_rowsOf 18 = .ok (.iload_n 1, 1) := rfl
theorem dX12_rowsOf_19 : decode cX12_rowsOf 19 = .ok (.iaload, 1) := rfl
theorem dX12_rowsOf_20 : decode cX12_rowsOf 20 = .ok (.ireturn, 1) := rfl
def m_X12_rowsOf (v1 : Int32) (h : Hp) (Q : Int32 → Hp → Prop) : Prop := vp_in v1 2304 ∧ ((2 ≤ (hI h 58 (ix v1)) → vp_in v1 2304 ∧ (Q (hI h 58 (ix v1)) h)) ∧ (¬ 2 ≤ (hI h 58 (ix v1)) → Q 1 h))
set_option maxHeartbeats 4000000 in
set_option maxRecDepth 100000 in
theorem s_X12_rowsOf {l : Launch} {G : Cx} {d : Nat} (hd : 2 ≤ d) {v1 : Int32} {h : Hp} {Q : Int32 → Hp → Prop} (hm : m_X12_rowsOf v1 h Q) : Ct l G d 0 0 yX12_rowsOf MX12_rowsOf [tR 12 0 (some 51), tI v1] h (qI Q) := by
  unfold m_X12_rowsOf at hm
  refine Ct.of (L := [some (tR 12 0 (some 51)), some (tI v1)]) (by decide) rfl rfl (Nat.le_of_ble_eq_true rfl) rfl ?_
  refine r_aload_n dX12_rowsOf_0 rfl rfl ?_
  refine r_getC (k := 7) cl_12 dX12_rowsOf_1 t_1279 gf_12_7.1 gf_12_7.2 (gc_12_7 _) ?_
  refine r_iload_n dX12_rowsOf_4 rfl rfl ?_
  refine r_iald dX12_rowsOf_5 hm.1 ?_
  replace hm := hm.2
  refine r_iconst (v := 2) dX12_rowsOf_6 rfl ?_
  refine r_icmp_ge (tgt := 14) dX12_rowsOf_7 rfl (fun hc => ?_) (fun hc => ?_)
  · replace hm := hm.1 hc
    refine r_aload_n dX12_rowsOf_14 rfl rfl ?_
    refine r_getC (k := 7) cl_12 dX12_rowsOf_15 t_1279 gf_12_7.1 gf_12_7.2 (gc_12_7 _) ?_
    refine r_iload_n dX12_rowsOf_18 rfl rfl ?_
    refine r_iald dX12_rowsOf_19 hm.1 ?_
    replace hm := hm.2
    exact r_ireturn dX12_rowsOf_20 rfl ⟨by decide, by decide⟩ ⟨_, rfl, hm⟩
  · replace hm := hm.2 hc
    refine r_iconst (v := 1) dX12_rowsOf_10 rfl ?_
    refine r_goto (tgt := 20) dX12_rowsOf_11 rfl ?_
    exact r_ireturn dX12_rowsOf_20 rfl ⟨by decide, by decide⟩ ⟨_, rfl, hm⟩
theorem dX12_partsLeft_0 : decode cX12_partsLeft 0 = .ok (.aload_n 0, 1) := by decide +kernel
theorem dX12_partsLeft_1 : decode cX12_partsLeft 1 = .ok (.iconst 0, 1) := by decide +kernel
theorem dX12_partsLeft_2 : decode cX12_partsLeft 2 = .ok (.putfield 365, 3) := by decide +kernel
theorem dX12_partsLeft_5 : decode cX12_partsLeft 5 = .ok (.iload_n 2, 1) := by decide +kernel
theorem dX12_partsLeft_6 : decode cX12_partsLeft 6 = .ok (.istore 4, 2) := by decide +kernel
theorem dX12_partsLeft_8 : decode cX12_partsLeft 8 = .ok (.iload 4, 2) := by decide +kernel
theorem dX12_partsLeft_10 : decode cX12_partsLeft 10 = .ok (.iload_n 3, 1) := by decide +kernel
theorem dX12_partsLeft_11 : decode cX12_partsLeft 11 = .ok (.if_icmp .ge 87, 3) := by decide +kernel
theorem dX12_partsLeft_14 : decode cX12_partsLeft 14 = .ok (.iload 4, 2) := by decide +kernel
theorem dX12_partsLeft_16 : decode cX12_partsLeft 16 = .ok (.bipush 96, 2) := by decide +kernel
theorem dX12_partsLeft_18 : decode cX12_partsLeft 18 = .ok (.iload_n 1, 1) := by decide +kernel
theorem dX12_partsLeft_19 : decode cX12_partsLeft 19 = .ok (.imul, 1) := by decide +kernel
theorem dX12_partsLeft_20 : decode cX12_partsLeft 20 = .ok (.isub, 1) := by decide +kernel
theorem dX12_partsLeft_21 : decode cX12_partsLeft 21 = .ok (.istore 5, 2) := by decide +kernel
theorem dX12_partsLeft_23 : decode cX12_partsLeft 23 = .ok (.aload_n 0, 1) := by decide +kernel
theorem dX12_partsLeft_24 : decode cX12_partsLeft 24 = .ok (.getfield 81, 3) := by decide +kernel
theorem dX12_partsLeft_27 : decode cX12_partsLeft 27 = .ok (.iload 5, 2) := by decide +kernel
theorem dX12_partsLeft_29 : decode cX12_partsLeft 29 = .ok (.baload, 1) := by decide +kernel
theorem dX12_partsLeft_30 : decode cX12_partsLeft 30 = .ok (.ifCond .ne 29, 3) := by decide +kernel
theorem dX12_partsLeft_33 : decode cX12_partsLeft 33 = .ok (.aload_n 0, 1) := by decide +kernel
theorem dX12_partsLeft_34 : decode cX12_partsLeft 34 = .ok (.getfield 85, 3) := by decide +kernel
theorem dX12_partsLeft_37 : decode cX12_partsLeft 37 = .ok (.iload 5, 2) := by decide +kernel
theorem dX12_partsLeft_39 : decode cX12_partsLeft 39 = .ok (.baload, 1) := by decide +kernel
theorem dX12_partsLeft_40 : decode cX12_partsLeft 40 = .ok (.ifCond .ne 19, 3) := by decide +kernel
theorem dX12_partsLeft_43 : decode cX12_partsLeft 43 = .ok (.aload_n 0, 1) := by decide +kernel
theorem dX12_partsLeft_44 : decode cX12_partsLeft 44 = .ok (.dup, 1) := by decide +kernel
theorem dX12_partsLeft_45 : decode cX12_partsLeft 45 = .ok (.getfield 365, 3) := by decide +kernel
theorem dX12_partsLeft_48 : decode cX12_partsLeft 48 = .ok (.iconst 1, 1) := by decide +kernel
theorem dX12_partsLeft_49 : decode cX12_partsLeft 49 = .ok (.iadd, 1) := by decide +kernel
theorem dX12_partsLeft_50 : decode cX12_partsLeft 50 = .ok (.putfield 365, 3) := by decide +kernel
theorem dX12_partsLeft_53 : decode cX12_partsLeft 53 = .ok (.aload_n 0, 1) := by decide +kernel
theorem dX12_partsLeft_54 : decode cX12_partsLeft 54 = .ok (.iload 4, 2) := by decide +kernel
theorem dX12_partsLeft_56 : decode cX12_partsLeft 56 = .ok (.putfield 368, 3) := by decide +kernel
theorem dX12_partsLeft_59 : decode cX12_partsLeft 59 = .ok (.aload_n 0, 1) := by decide +kernel
theorem dX12_partsLeft_60 : decode cX12_partsLeft 60 = .ok (.getfield 81, 3) := by decide +kernel
theorem dX12_partsLeft_63 : decode cX12_partsLeft 63 = .ok (.iload 5, 2) := by decide +kernel
theorem dX12_partsLeft_65 : decode cX12_partsLeft 65 = .ok (.baload, 1) := by decide +kernel
theorem dX12_partsLeft_66 : decode cX12_partsLeft 66 = .ok (.ifCond .ne 13, 3) := by decide +kernel
theorem dX12_partsLeft_69 : decode cX12_partsLeft 69 = .ok (.aload_n 0, 1) := by decide +kernel
theorem dX12_partsLeft_70 : decode cX12_partsLeft 70 = .ok (.getfield 85, 3) := by decide +kernel
theorem dX12_partsLeft_73 : decode cX12_partsLeft 73 = .ok (.iload 5, 2) := by decide +kernel
theorem dX12_partsLeft_75 : decode cX12_partsLeft 75 = .ok (.baload, 1) := by decide +kernel
theorem dX12_partsLeft_76 : decode cX12_partsLeft 76 = .ok (.ifCond .ne 13, 3) := by decide +kernel
theorem dX12_partsLeft_79 : decode cX12_partsLeft 79 = .ok (.aload_n 0, 1) := by decide +kernel
theorem dX12_partsLeft_80 : decode cX12_partsLeft 80 = .ok (.getfield 40, 3) := by decide +kernel
theorem dX12_partsLeft_83 : decode cX12_partsLeft 83 = .ok (.iload 4, 2) := by decide +kernel
theorem dX12_partsLeft_85 : decode cX12_partsLeft 85 = .ok (.iaload, 1) := by decide +kernel
theorem dX12_partsLeft_86 : decode cX12_partsLeft 86 = .ok (.goto 7, 3) := by decide +kernel
theorem dX12_partsLeft_89 : decode cX12_partsLeft 89 = .ok (.iload 4, 2) := by decide +kernel
theorem dX12_partsLeft_91 : decode cX12_partsLeft 91 = .ok (.iconst 1, 1) := by decide +kernel
theorem dX12_partsLeft_92 : decode cX12_partsLeft 92 = .ok (.iadd, 1) := by decide +kernel
theorem dX12_partsLeft_93 : decode cX12_partsLeft 93 = .ok (.istore 4, 2) := by decide +kernel
theorem dX12_partsLeft_95 : decode cX12_partsLeft 95 = .ok (.goto (-87), 3) := by decide +kernel
theorem dX12_partsLeft_98 : decode cX12_partsLeft 98 = .ok (.aload_n 0, 1) := by decide +kernel
theorem dX12_partsLeft_99 : decode cX12_partsLeft 99 = .ok (.getfield 365, 3) := by decide +kernel
theorem dX12_partsLeft_102 : decode cX12_partsLeft 102 = .ok (.ireturn, 1) := by decide +kernel
def m_X12_partsLeft_93 (k8 : Int32 → Int32 → Int32 → Hp → Prop) (Q : Int32 → Hp → Prop) (v1 : Int32) (v3 : Int32) (s0 : Int32) (h : Hp) : Prop := k8 v1 v3 s0 h
set_option maxHeartbeats 4000000 in
set_option maxRecDepth 100000 in
theorem s_X12_partsLeft_93 {l : Launch} {G : Cx} {d : Nat} {h0 : Hp} (hd : 2 ≤ d) {k8 : Int32 → Int32 → Int32 → Hp → Prop} {Q : Int32 → Hp → Prop} (hk8 : ∀ (v1 : Int32) (v3 : Int32) (v4 : Int32) (hh : Hp), k8 v1 v3 v4 hh → Rn l G d 0 0 MX12_partsLeft h0 (qI Q) 8 [some (tR 12 0 (some 51)), some (tI v1), none, some (tI v3), some (tI v4)] [] hh 0 0) {v1 : Int32} {v3 : Int32} {s0 : Int32} {h : Hp} (hm : m_X12_partsLeft_93 k8 Q v1 v3 s0 h) : Rn l G d 0 0 MX12_partsLeft h0 (qI Q) 93 [some (tR 12 0 (some 51)), some (tI v1), none, some (tI v3)] [tI s0] h 0 0 := by
  unfold m_X12_partsLeft_93 at hm
  refine r_istore (L' := [some (tR 12 0 (some 51)), some (tI v1), none, some (tI v3), some (tI s0)]) dX12_partsLeft_93 (by decide) rfl ?_
  refine r_goto (tgt := 8) dX12_partsLeft_95 rfl ?_
  refine r_keep (L' := [some (tR 12 0 (some 51)), some (tI v1), none, some (tI v3), some (tI s0)]) [true, true, false, true, true] rfl ?_
  exact hk8 _ _ _ _ hm
def m_X12_partsLeft_79 (k8 : Int32 → Int32 → Int32 → Hp → Prop) (Q : Int32 → Hp → Prop) (v1 : Int32) (v3 : Int32) (v4 : Int32) (h : Hp) : Prop := vp_in v4 2304 ∧ (m_X12_partsLeft_93 k8 Q v1 v3 (hI h 62 (ix v4)) h)
set_option maxHeartbeats 4000000 in
set_option maxRecDepth 100000 in
theorem s_X12_partsLeft_79 {l : Launch} {G : Cx} {d : Nat} {h0 : Hp} (hd : 2 ≤ d) {k8 : Int32 → Int32 → Int32 → Hp → Prop} {Q : Int32 → Hp → Prop} (hk8 : ∀ (v1 : Int32) (v3 : Int32) (v4 : Int32) (hh : Hp), k8 v1 v3 v4 hh → Rn l G d 0 0 MX12_partsLeft h0 (qI Q) 8 [some (tR 12 0 (some 51)), some (tI v1), none, some (tI v3), some (tI v4)] [] hh 0 0) {v1 : Int32} {v3 : Int32} {v4 : Int32} {h : Hp} (hm : m_X12_partsLeft_79 k8 Q v1 v3 v4 h) : Rn l G d 0 0 MX12_partsLeft h0 (qI Q) 79 [some (tR 12 0 (some 51)), some (tI v1), none, some (tI v3), some (tI v4)] [] h 0 0 := by
  unfold m_X12_partsLeft_79 at hm
  refine r_aload_n dX12_partsLeft_79 rfl rfl ?_
  refine r_getC (k := 11) cl_12 dX12_partsLeft_80 t_1283 gf_12_11.1 gf_12_11.2 (gc_12_11 _) ?_
  refine r_iload dX12_partsLeft_83 rfl ?_
  refine r_iald dX12_partsLeft_85 hm.1 ?_
  replace hm := hm.2
  refine r_goto (tgt := 93) dX12_partsLeft_86 rfl ?_
  refine r_keep (L' := [some (tR 12 0 (some 51)), some (tI v1), none, some (tI v3)]) [true, true, false, true] rfl ?_
  exact s_X12_partsLeft_93 hd hk8 hm
def m_X12_partsLeft_59 (k8 : Int32 → Int32 → Int32 → Hp → Prop) (Q : Int32 → Hp → Prop) (v1 : Int32) (v3 : Int32) (v4 : Int32) (v5 : Int32) (h : Hp) : Prop := vp_in v5 96 ∧ ((¬ (hI h 74 (ix v5)) = 0 → m_X12_partsLeft_79 k8 Q v1 v3 v4 h) ∧ ((hI h 74 (ix v5)) = 0 → vp_in v5 96 ∧ ((¬ (hI h 75 (ix v5)) = 0 → m_X12_partsLeft_93 k8 Q v1 v3 (v4 + 1) h) ∧ ((hI h 75 (ix v5)) = 0 → m_X12_partsLeft_79 k8 Q v1 v3 v4 h))))
set_option maxHeartbeats 4000000 in
set_option maxRecDepth 100000 in
theorem s_X12_partsLeft_59 {l : Launch} {G : Cx} {d : Nat} {h0 : Hp} (hd : 2 ≤ d) {k8 : Int32 → Int32 → Int32 → Hp → Prop} {Q : Int32 → Hp → Prop} (hk8 : ∀ (v1 : Int32) (v3 : Int32) (v4 : Int32) (hh : Hp), k8 v1 v3 v4 hh → Rn l G d 0 0 MX12_partsLeft h0 (qI Q) 8 [some (tR 12 0 (some 51)), some (tI v1), none, some (tI v3), some (tI v4)] [] hh 0 0) {v1 : Int32} {v3 : Int32} {v4 : Int32} {v5 : Int32} {h : Hp} (hm : m_X12_partsLeft_59 k8 Q v1 v3 v4 v5 h) : Rn l G d 0 0 MX12_partsLeft h0 (qI Q) 59 [some (tR 12 0 (some 51)), some (tI v1), none, some (tI v3), some (tI v4), some (tI v5)] [] h 0 0 := by
  unfold m_X12_partsLeft_59 at hm
  refine r_aload_n dX12_partsLeft_59 rfl rfl ?_
  refine r_getC (k := 38) cl_12 dX12_partsLeft_60 t_1310 gf_12_38.1 gf_12_38.2 (gc_12_38 _) ?_
  refine r_iload dX12_partsLeft_63 rfl ?_
  refine r_zald dX12_partsLeft_65 hm.1 ?_
  replace hm := hm.2
  refine r_if_ne (tgt := 79) dX12_partsLeft_66 rfl (fun hc => ?_) (fun hc => ?_)
  · replace hm := hm.1 hc
    refine r_keep (L' := [some (tR 12 0 (some 51)), some (tI v1), none, some (tI v3), some (tI v4)]) [true, true, false, true, true] rfl ?_
    exact s_X12_partsLeft_79 hd hk8 hm
  · replace hm := hm.2 hc
    refine r_aload_n dX12_partsLeft_69 rfl rfl ?_
    refine r_getC (k := 39) cl_12 dX12_partsLeft_70 t_1311 gf_12_39.1 gf_12_39.2 (gc_12_39 _) ?_
    refine r_iload dX12_partsLeft_73 rfl ?_
    refine r_zald dX12_partsLeft_75 hm.1 ?_
    replace hm := hm.2
    refine r_if_ne (tgt := 89) dX12_partsLeft_76 rfl (fun hc => ?_) (fun hc => ?_)
    · replace hm := hm.1 hc
      refine r_iload dX12_partsLeft_89 rfl ?_
      refine r_iconst (v := 1) dX12_partsLeft_91 rfl ?_
      refine r_iadd dX12_partsLeft_92 ?_
      refine r_keep (L' := [some (tR 12 0 (some 51)), some (tI v1), none, some (tI v3)]) [true, true, false, true] rfl ?_
      exact s_X12_partsLeft_93 hd hk8 hm
    · replace hm := hm.2 hc
      refine r_keep (L' := [some (tR 12 0 (some 51)), some (tI v1), none, some (tI v3), some (tI v4)]) [true, true, false, true, true] rfl ?_
      exact s_X12_partsLeft_79 hd hk8 hm
def m_X12_partsLeft_8 : Nat → (Int32 → Hp → Prop) → Int32 → Int32 → Int32 → Hp → Prop
  | 0, _, _, _, _, _ => False
  | n + 1, Q, v1, v3, v4, h => (v3 ≤ v4 → Q (hI h 51 42) h) ∧ (¬ v3 ≤ v4 → ∀ x1 : Int32, x1 = (v4 - (96 * v1)) → vp_in x1 96 ∧ ((¬ (hI h 74 (ix x1)) = 0 → m_X12_partsLeft_59 (fun (v1 : Int32) (v3 : Int32) (v4 : Int32) (hh : Hp) => m_X12_partsLeft_8 n Q v1 v3 v4 hh) Q v1 v3 v4 x1 h) ∧ ((hI h 74 (ix x1)) = 0 → vp_in x1 96 ∧ ((¬ (hI h 75 (ix x1)) = 0 → m_X12_partsLeft_59 (fun (v1 : Int32) (v3 : Int32) (v4 : Int32) (hh : Hp) => m_X12_partsLeft_8 n Q v1 v3 v4 hh) Q v1 v3 v4 x1 h) ∧ ((hI h 75 (ix x1)) = 0 → m_X12_partsLeft_59 (fun (v1 : Int32) (v3 : Int32) (v4 : Int32) (hh : Hp) => m_X12_partsLeft_8 n Q v1 v3 v4 hh) Q v1 v3 v4 x1 (wI (wI h 51 42 ((hI h 51 42) + 1)) 51 43 v4))))))
set_option maxHeartbeats 4000000 in
set_option maxRecDepth 100000 in
theorem s_X12_partsLeft_8 {l : Launch} {G : Cx} {d : Nat} {h0 : Hp} (hd : 2 ≤ d) {Q : Int32 → Hp → Prop} : ∀ {n : Nat} {v1 : Int32} {v3 : Int32} {v4 : Int32} {h : Hp}, m_X12_partsLeft_8 n Q v1 v3 v4 h → Rn l G d 0 0 MX12_partsLeft h0 (qI Q) 8 [some (tR 12 0 (some 51)), some (tI v1), none, some (tI v3), some (tI v4)] [] h 0 0 := by
  intro n
  induction n with
  | zero => intro v1 v3 v4 h hm; exact hm.elim
  | succ n ih =>
    intro v1 v3 v4 h hm
    have hk8 := fun (v1 : Int32) (v3 : Int32) (v4 : Int32) (hh : Hp) (hm : m_X12_partsLeft_8 n Q v1 v3 v4 hh) => ih hm
    rw [m_X12_partsLeft_8] at hm
    refine r_iload dX12_partsLeft_8 rfl ?_
    refine r_iload_n dX12_partsLeft_10 rfl rfl ?_
    refine r_icmp_ge (tgt := 98) dX12_partsLeft_11 rfl (fun hc => ?_) (fun hc => ?_)
    · replace hm := hm.1 hc
      refine r_aload_n dX12_partsLeft_98 rfl rfl ?_
      refine r_getI (k := 42) cl_12 dX12_partsLeft_99 t_1314 (Or.inl rfl) gf_12_42 ?_
      exact r_ireturn dX12_partsLeft_102 rfl ⟨by decide, by decide⟩ ⟨_, rfl, hm⟩
    · replace hm := hm.2 hc
      refine r_iload dX12_partsLeft_14 rfl ?_
      refine r_bipush (v := 96) dX12_partsLeft_16 rfl ?_
      refine r_iload_n dX12_partsLeft_18 rfl rfl ?_
      refine r_imul dX12_partsLeft_19 ?_
      refine r_isub dX12_partsLeft_20 ?_
      refine r_nmI (fun x1 e_x1 => ?_)
      replace hm := hm x1 e_x1
      refine r_istore (L' := [some (tR 12 0 (some 51)), some (tI v1), none, some (tI v3), some (tI v4), some (tI x1)]) dX12_partsLeft_21 (by decide) rfl ?_
      refine r_aload_n dX12_partsLeft_23 rfl rfl ?_
      refine r_getC (k := 38) cl_12 dX12_partsLeft_24 t_1310 gf_12_38.1 gf_12_38.2 (gc_12_38 _) ?_
      refine r_iload dX12_partsLeft_27 rfl ?_
      refine r_zald dX12_partsLeft_29 hm.1 ?_
      replace hm := hm.2
      refine r_if_ne (tgt := 59) dX12_partsLeft_30 rfl (fun hc => ?_) (fun hc => ?_)
      · replace hm := hm.1 hc
        refine r_keep (L' := [some (tR 12 0 (some 51)), some (tI v1), none, some (tI v3), some (tI v4), some (tI x1)]) [true, true, false, true, true, true] rfl ?_
        exact s_X12_partsLeft_59 hd hk8 hm
      · replace hm := hm.2 hc
        refine r_aload_n dX12_partsLeft_33 rfl rfl ?_
        refine r_getC (k := 39) cl_12 dX12_partsLeft_34 t_1311 gf_12_39.1 gf_12_39.2 (gc_12_39 _) ?_
        refine r_iload dX12_partsLeft_37 rfl ?_
        refine r_zald dX12_partsLeft_39 hm.1 ?_
        replace hm := hm.2
        refine r_if_ne (tgt := 59) dX12_partsLeft_40 rfl (fun hc => ?_) (fun hc => ?_)
        · replace hm := hm.1 hc
          refine r_keep (L' := [some (tR 12 0 (some 51)), some (tI v1), none, some (tI v3), some (tI v4), some (tI x1)]) [true, true, false, true, true, true] rfl ?_
          exact s_X12_partsLeft_59 hd hk8 hm
        · replace hm := hm.2 hc
          refine r_aload_n dX12_partsLeft_43 rfl rfl ?_
          refine r_dup dX12_partsLeft_44 cv_cat1R ?_
          refine r_getI (k := 42) cl_12 dX12_partsLeft_45 t_1314 (Or.inl rfl) gf_12_42 ?_
          refine r_iconst (v := 1) dX12_partsLeft_48 rfl ?_
          refine r_iadd dX12_partsLeft_49 ?_
          refine r_putI0 (k := 42) cl_12 dX12_partsLeft_50 t_1314 (Or.inl rfl) gf_12_42 pf_12_42.1 (Or.inl pf_12_42.2) ?_
          refine r_aload_n dX12_partsLeft_53 rfl rfl ?_
          refine r_iload dX12_partsLeft_54 rfl ?_
          refine r_putI0 (k := 43) cl_12 dX12_partsLeft_56 t_1315 (Or.inl rfl) gf_12_43 pf_12_43.1 (Or.inl pf_12_43.2) ?_
          refine r_keep (L' := [some (tR 12 0 (some 51)), some (tI v1), none, some (tI v3), some (tI v4), some (tI x1)]) [true, true, false, true, true, true] rfl ?_
          exact s_X12_partsLeft_59 hd hk8 hm
def m_X12_partsLeft (v1 : Int32) (v2 : Int32) (v3 : Int32) (h : Hp) (Q : Int32 → Hp → Prop) : Prop := ∃ n8, m_X12_partsLeft_8 n8 Q v1 v3 v2 (wI h 51 42 0)
set_option maxHeartbeats 4000000 in
set_option maxRecDepth 100000 in
theorem s_X12_partsLeft {l : Launch} {G : Cx} {d : Nat} (hd : 2 ≤ d) {v1 : Int32} {v2 : Int32} {v3 : Int32} {h : Hp} {Q : Int32 → Hp → Prop} (hm : m_X12_partsLeft v1 v2 v3 h Q) : Ct l G d 0 0 yX12_partsLeft MX12_partsLeft [tR 12 0 (some 51), tI v1, tI v2, tI v3] h (qI Q) := by
  unfold m_X12_partsLeft at hm
  refine Ct.of (L := [some (tR 12 0 (some 51)), some (tI v1), some (tI v2), some (tI v3)]) (by decide) rfl rfl (Nat.le_of_ble_eq_true rfl) rfl ?_
  refine r_aload_n dX12_partsLeft_0 rfl rfl ?_
  refine r_iconst (v := 0) dX12_partsLeft_1 rfl ?_
  refine r_putI0 (k := 42) cl_12 dX12_partsLeft_2 t_1314 (Or.inl rfl) gf_12_42 pf_12_42.1 (Or.inl pf_12_42.2) ?_
  refine r_iload_n dX12_partsLeft_5 rfl rfl ?_
  refine r_istore (L' := [some (tR 12 0 (some 51)), some (tI v1), some (tI v2), some (tI v3), some (tI v2)]) dX12_partsLeft_6 (by decide) rfl ?_
  refine r_keep (L' := [some (tR 12 0 (some 51)), some (tI v1), none, some (tI v3), some (tI v2)]) [true, true, false, true, true] rfl ?_
  obtain ⟨n, hm⟩ := hm
  refine s_X12_partsLeft_8 hd hm
theorem dX12_sign_0 : decode cX12_sign 0 = .ok (.aload_n 0, 1) := rfl
theorem dX12_sign_1 : decode cX12_sign 1 = .ok (.getfield 91, 3) := rfl
theorem dX12_sign_4 : decode cX12_sign 4 = .ok (.iload_n 1, 1) := rfl
theorem dX12_sign_5 : decode cX12_sign 5 = .ok (.aload_n 0, 1) := rfl
theorem dX12_sign_6 : decode cX12_sign 6 = .ok (.getfield 371, 3) := rfl
theorem dX12_sign_9 : decode cX12_sign 9 = .ok (.iadd, 1) := rfl
theorem dX12_sign_10 : decode cX12_sign 10 = .ok (.iload_n 2, 1) := rfl
theorem dX12_sign_11 : decode cX12_sign 11 = .ok (.iastore, 1) := rfl
theorem dX12_sign_12 : decode cX12_sign 12 = .ok (.aload_n 0, 1) := rfl
theorem dX12_sign_13 : decode cX12_sign 13 = .ok (.dup, 1) := rfl
theorem dX12_sign_14 : decode cX12_sign 14 = .ok (.getfield 371, 3) := rfl
theorem dX12_sign_17 : decode cX12_sign 17 = .ok (.iconst 1, 1) := rfl
theorem dX12_sign_18 : decode cX12_sign 18 = .ok (.iadd, 1) := rfl
theorem dX12_sign_19 : decode cX12_sign 19 = .ok (.putfield 371, 3) := rfl
theorem dX12_sign_22 : decode cX12_sign 22 = .ok (.return_, 1) := rfl
def m_X12_sign (v1 : Int32) (v2 : Int32) (h : Hp) (Q : Hp → Prop) : Prop := vp_in (v1 + (hI h 51 45)) 1600 ∧ (Q (wI (wI h 77 (ix (v1 + (hI h 51 45))) v2) 51 45 ((hI (wI h 77 (ix (v1 + (hI h 51 45))) v2) 51 45) + 1)))
set_option maxHeartbeats 4000000 in
set_option maxRecDepth 100000 in
theorem s_X12_sign {l : Launch} {G : Cx} {d : Nat} (hd : 2 ≤ d) {v1 : Int32} {v2 : Int32} {h : Hp} {Q : Hp → Prop} (hm : m_X12_sign v1 v2 h Q) : Ct l G d 0 0 yX12_sign MX12_sign [tR 12 0 (some 51), tI v1, tI v2] h (qV Q) := by
  unfold m_X12_sign at hm
  refine Ct.of (L := [some (tR 12 0 (some 51)), some (tI v1), some (tI v2)]) (by decide) rfl rfl (Nat.le_of_ble_eq_true rfl) rfl ?_
  refine r_aload_n dX12_sign_0 rfl rfl ?_
  refine r_getC (k := 44) cl_12 dX12_sign_1 t_1316 gf_12_44.1 gf_12_44.2 (gc_12_44 _) ?_
  refine r_iload_n dX12_sign_4 rfl rfl ?_
  refine r_aload_n dX12_sign_5 rfl rfl ?_
  refine r_getI (k := 45) cl_12 dX12_sign_6 t_1317 (Or.inl rfl) gf_12_45 ?_
  refine r_iadd dX12_sign_9 ?_
  refine r_iload_n dX12_sign_10 rfl rfl ?_
  refine r_iast dX12_sign_11 hm.1 ?_
  replace hm := hm.2
  refine r_aload_n dX12_sign_12 rfl rfl ?_
  refine r_dup dX12_sign_13 cv_cat1R ?_
  refine r_getI (k := 45) cl_12 dX12_sign_14 t_1317 (Or.inl rfl) gf_12_45 ?_
  refine r_iconst (v := 1) dX12_sign_17 rfl ?_
  refine r_iadd dX12_sign_18 ?_
  refine r_putI0 (k := 45) cl_12 dX12_sign_19 t_1317 (Or.inl rfl) gf_12_45 pf_12_45.1 (Or.inl pf_12_45.2) ?_
  exact r_return dX12_sign_22 rfl ⟨by decide, by decide⟩ ⟨rfl, hm⟩
theorem dX12_partLeft_0 : decode cX12_partLeft 0 = .ok (.iload_n 2, 1) := rfl
theorem dX12_partLeft_1 : decode cX12_partLeft 1 = .ok (.istore 4, 2) := rfl
theorem dX12_partLeft_3 : decode cX12_partLeft 3 = .ok (.aload_n 0, 1) := rfl
theorem dX12_partLeft_4 : decode cX12_partLeft 4 = .ok (.getfield 34, 3) := rfl
theorem dX12_partLeft_7 : decode cX12_partLeft 7 = .ok (.iload_n 2, 1) := rfl
theorem dX12_partLeft_8 : decode cX12_partLeft 8 = .ok (.iaload, 1) := rfl
theorem dX12_partLeft_9 : decode cX12_partLeft 9 = .ok (.istore 5, 2) := rfl
theorem dX12_partLeft_11 : decode cX12_partLeft 11 = .ok (.iload 5, 2) := rfl
theorem dX12_partLeft_13 : decode cX12_partLeft 13 = .ok (.iload_n 3, 1) := rfl
theorem dX12_partLeft_14 : decode cX12_partLeft 14 = .ok (.if_icmp .lt 34, 3) := by decide +kernel
theorem dX12_partLeft_17 : decode cX12_partLeft 17 = .ok (.aload_n 0, 1) := rfl
theorem dX12_partLeft_18 : decode cX12_partLeft 18 = .ok (.getfield 85, 3) := rfl
theorem dX12_partLeft_21 : decode cX12_partLeft 21 = .ok (.iload 5, 2) := rfl
theorem dX12_partLeft_23 : decode cX12_partLeft 23 = .ok (.bipush 96, 2) := by decide +kernel
theorem dX12_partLeft_25 : decode cX12_partLeft 25 = .ok (.iload_n 1, 1) := rfl
theorem dX12_partLeft_26 : decode cX12_partLeft 26 = .ok (.imul, 1) := rfl
theorem dX12_partLeft_27 : decode cX12_partLeft 27 = .ok (.isub, 1) := rfl
theorem dX12_partLeft_28 : decode cX12_partLeft 28 = .ok (.baload, 1) := rfl
theorem dX12_partLeft_29 : decode cX12_partLeft 29 = .ok (.ifCond .eq 19, 3) := by decide +kernel
theorem dX12_partLeft_32 : decode cX12_partLeft 32 = .ok (.iload 5, 2) := rfl
theorem dX12_partLeft_34 : decode cX12_partLeft 34 = .ok (.istore 4, 2) := rfl
theorem dX12_partLeft_36 : decode cX12_partLeft 36 = .ok (.aload_n 0, 1) := rfl
theorem dX12_partLeft_37 : decode cX12_partLeft 37 = .ok (.getfield 34, 3) := rfl
theorem dX12_partLeft_40 : decode cX12_partLeft 40 = .ok (.iload 5, 2) := rfl
theorem dX12_partLeft_42 : decode cX12_partLeft 42 = .ok (.iaload, 1) := rfl
theorem dX12_partLeft_43 : decode cX12_partLeft 43 = .ok (.istore 5, 2) := rfl
theorem dX12_partLeft_45 : decode cX12_partLeft 45 = .ok (.goto (-34), 3) := by decide +kernel
theorem dX12_partLeft_48 : decode cX12_partLeft 48 = .ok (.iload 5, 2) := rfl
theorem dX12_partLeft_50 : decode cX12_partLeft 50 = .ok (.iload_n 3, 1) := rfl
theorem dX12_partLeft_51 : decode cX12_partLeft 51 = .ok (.if_icmp .lt 25, 3) := by decide +kernel
theorem dX12_partLeft_54 : decode cX12_partLeft 54 = .ok (.aload_n 0, 1) := rfl
theorem dX12_partLeft_55 : decode cX12_partLeft 55 = .ok (.getfield 28, 3) := rfl
theorem dX12_partLeft_58 : decode cX12_partLeft 58 = .ok (.iload 5, 2) := rfl
theorem dX12_partLeft_60 : decode cX12_partLeft 60 = .ok (.iaload, 1) := rfl
theorem dX12_partLeft_61 : decode cX12_partLeft 61 = .ok (.bipush 6, 2) := by decide +kernel
theorem dX12_partLeft_63 : decode cX12_partLeft 63 = .ok (.if_icmp .ne 13, 3) := by decide +kernel
theorem dX12_partLeft_66 : decode cX12_partLeft 66 = .ok (.aload_n 0, 1) := rfl
theorem dX12_partLeft_67 : decode cX12_partLeft 67 = .ok (.getfield 37, 3) := rfl
theorem dX12_partLeft_70 : decode cX12_partLeft 70 = .ok (.iload 4, 2) := rfl
theorem dX12_partLeft_72 : decode cX12_partLeft 72 = .ok (.iaload, 1) := rfl
theorem dX12_partLeft_73 : decode cX12_partLeft 73 = .ok (.goto 4, 3) := by decide +kernel
theorem dX12_partLeft_76 : decode cX12_partLeft 76 = .ok (.iconst 0, 1) := rfl
theorem dX12_partLeft_77 : decode cX12_partLeft 77 = .ok (.ireturn, 1) := rfl
def m_X12_partLeft_48  (Q : Int32 → Hp → Prop) (v3 : Int32) (v4 : Int32) (v5 : Int32) (h : Hp) : Prop := (v5 < v3 → Q 0 h) ∧ (¬ v5 < v3 → vp_in v5 2304 ∧ ((¬ (hI h 58 (ix v5)) = 6 → Q 0 h) ∧ ((hI h 58 (ix v5)) = 6 → vp_in v4 2304 ∧ (Q (hI h 61 (ix v4)) h))))
set_option maxHeartbeats 4000000 in
set_option maxRecDepth 100000 in
theorem s_X12_partLeft_48 {l : Launch} {G : Cx} {d : Nat} {h0 : Hp} (hd : 2 ≤ d) {Q : Int32 → Hp → Prop} {v3 : Int32} {v4 : Int32} {v5 : Int32} {h : Hp} (hm : m_X12_partLeft_48 Q v3 v4 v5 h) : Rn l G d 0 0 MX12_partLeft h0 (qI Q) 48 [some (tR 12 0 (some 51)), none, none, some (tI v3), some (tI v4), some (tI v5)] [] h 0 0 := by
  unfold m_X12_partLeft_48 at hm
  refine r_iload dX12_partLeft_48 rfl ?_
  refine r_iload_n dX12_partLeft_50 rfl rfl ?_
  refine r_icmp_lt (tgt := 76) dX12_partLeft_51 rfl (fun hc => ?_) (fun hc => ?_)
  · replace hm := hm.1 hc
    refine r_iconst (v := 0) dX12_partLeft_76 rfl ?_
    exact r_ireturn dX12_partLeft_77 rfl ⟨by decide, by decide⟩ ⟨_, rfl, hm⟩
  · replace hm := hm.2 hc
    refine r_aload_n dX12_partLeft_54 rfl rfl ?_
    refine r_getC (k := 7) cl_12 dX12_partLeft_55 t_1279 gf_12_7.1 gf_12_7.2 (gc_12_7 _) ?_
    refine r_iload dX12_partLeft_58 rfl ?_
    refine r_iald dX12_partLeft_60 hm.1 ?_
    replace hm := hm.2
    refine r_bipush (v := 6) dX12_partLeft_61 rfl ?_
    refine r_icmp_ne (tgt := 76) dX12_partLeft_63 rfl (fun hc => ?_) (fun hc => ?_)
    · replace hm := hm.1 hc
      refine r_iconst (v := 0) dX12_partLeft_76 rfl ?_
      exact r_ireturn dX12_partLeft_77 rfl ⟨by decide, by decide⟩ ⟨_, rfl, hm⟩
    · replace hm := hm.2 hc
      refine r_aload_n dX12_partLeft_66 rfl rfl ?_
      refine r_getC (k := 10) cl_12 dX12_partLeft_67 t_1282 gf_12_10.1 gf_12_10.2 (gc_12_10 _) ?_
      refine r_iload dX12_partLeft_70 rfl ?_
      refine r_iald dX12_partLeft_72 hm.1 ?_
      replace hm := hm.2
      refine r_goto (tgt := 77) dX12_partLeft_73 rfl ?_
      exact r_ireturn dX12_partLeft_77 rfl ⟨by decide, by decide⟩ ⟨_, rfl, hm⟩
def m_X12_partLeft_11 : Nat → (Int32 → Int32 → Int32 → Hp → Prop) → (Int32 → Hp → Prop) → Int32 → Int32 → Int32 → Int32 → Hp → Prop
  | 0, _, _, _, _, _, _, _ => False
  | n + 1, k48, Q, v1, v3, v4, v5, h => (v5 < v3 → k48 v3 v4 v5 h) ∧ (¬ v5 < v3 → vp_in (v5 - (96 * v1)) 96 ∧ (((hI h 75 (ix (v5 - (96 * v1)))) = 0 → k48 v3 v4 v5 h) ∧ (¬ (hI h 75 (ix (v5 - (96 * v1)))) = 0 → vp_in v5 2304 ∧ (∀ x1 : Int32, x1 = (hI h 60 (ix v5)) → m_X12_partLeft_11 n k48 Q v1 v3 v5 x1 h))))
set_option maxHeartbeats 4000000 in
set_option maxRecDepth 100000 in
theorem s_X12_partLeft_11 {l : Launch} {G : Cx} {d : Nat} {h0 : Hp} (hd : 2 ≤ d) {k48 : Int32 → Int32 → Int32 → Hp → Prop} {Q : Int32 → Hp → Prop} (hk48 : ∀ (v3 : Int32) (v4 : Int32) (v5 : Int32) (hh : Hp), k48 v3 v4 v5 hh → Rn l G d 0 0 MX12_partLeft h0 (qI Q) 48 [some (tR 12 0 (some 51)), none, none, some (tI v3), some (tI v4), some (tI v5)] [] hh 0 0) : ∀ {n : Nat} {v1 : Int32} {v3 : Int32} {v4 : Int32} {v5 : Int32} {h : Hp}, m_X12_partLeft_11 n k48 Q v1 v3 v4 v5 h → Rn l G d 0 0 MX12_partLeft h0 (qI Q) 11 [some (tR 12 0 (some 51)), some (tI v1), none, some (tI v3), some (tI v4), some (tI v5)] [] h 0 0 := by
  intro n
  induction n with
  | zero => intro v1 v3 v4 v5 h hm; exact hm.elim
  | succ n ih =>
    intro v1 v3 v4 v5 h hm
    have hk11 := fun (v1 : Int32) (v3 : Int32) (v4 : Int32) (v5 : Int32) (hh : Hp) (hm : m_X12_partLeft_11 n k48 Q v1 v3 v4 v5 hh) => ih hm
    rw [m_X12_partLeft_11] at hm
    refine r_iload dX12_partLeft_11 rfl ?_
    refine r_iload_n dX12_partLeft_13 rfl rfl ?_
    refine r_icmp_lt (tgt := 48) dX12_partLeft_14 rfl (fun hc => ?_) (fun hc => ?_)
    · replace hm := hm.1 hc
      refine r_keep (L' := [some (tR 12 0 (some 51)), none, none, some (tI v3), some (tI v4), some (tI v5)]) [true, false, false, true, true, true] rfl ?_
      exact hk48 _ _ _ _ hm
    · replace hm := hm.2 hc
      refine r_aload_n dX12_partLeft_17 rfl rfl ?_
      refine r_getC (k := 39) cl_12 dX12_partLeft_18 t_1311 gf_12_39.1 gf_12_39.2 (gc_12_39 _) ?_
      refine r_iload dX12_partLeft_21 rfl ?_
      refine r_bipush (v := 96) dX12_partLeft_23 rfl ?_
      refine r_iload_n dX12_partLeft_25 rfl rfl ?_
      refine r_imul dX12_partLeft_26 ?_
      refine r_isub dX12_partLeft_27 ?_
      refine r_zald dX12_partLeft_28 hm.1 ?_
      replace hm := hm.2
      refine r_if_eq (tgt := 48) dX12_partLeft_29 rfl (fun hc => ?_) (fun hc => ?_)
      · replace hm := hm.1 hc
        refine r_keep (L' := [some (tR 12 0 (some 51)), none, none, some (tI v3), some (tI v4), some (tI v5)]) [true, false, false, true, true, true] rfl ?_
        exact hk48 _ _ _ _ hm
      · replace hm := hm.2 hc
        refine r_iload dX12_partLeft_32 rfl ?_
        refine r_istore (L' := [some (tR 12 0 (some 51)), some (tI v1), none, some (tI v3), some (tI v5), some (tI v5)]) dX12_partLeft_34 (by decide) rfl ?_
        refine r_aload_n dX12_partLeft_36 rfl rfl ?_
        refine r_getC (k := 9) cl_12 dX12_partLeft_37 t_1281 gf_12_9.1 gf_12_9.2 (gc_12_9 _) ?_
        refine r_iload dX12_partLeft_40 rfl ?_
        refine r_iald dX12_partLeft_42 hm.1 ?_
        replace hm := hm.2
        refine r_nmI (fun x1 e_x1 => ?_)
        replace hm := hm x1 e_x1
        refine r_istore (L' := [some (tR 12 0 (some 51)), some (tI v1), none, some (tI v3), some (tI v5), some (tI x1)]) dX12_partLeft_43 (by decide) rfl ?_
        refine r_goto (tgt := 11) dX12_partLeft_45 rfl ?_
        refine r_keep (L' := [some (tR 12 0 (some 51)), some (tI v1), none, some (tI v3), some (tI v5), some (tI x1)]) [true, true, false, true, true, true] rfl ?_
        exact hk11 _ _ _ _ _ hm
def m_X12_partLeft (v1 : Int32) (v2 : Int32) (v3 : Int32) (h : Hp) (Q : Int32 → Hp → Prop) : Prop := vp_in v2 2304 ∧ (∀ x2 : Int32, x2 = (hI h 60 (ix v2)) → ∃ n11, m_X12_partLeft_11 n11 (m_X12_partLeft_48 Q) Q v1 v3 v2 x2 h)
set_option maxHeartbeats 4000000 in
set_option maxRecDepth 100000 in
theorem s_X12_partLeft {l : Launch} {G : Cx} {d : Nat} (hd : 2 ≤ d) {v1 : Int32} {v2 : Int32} {v3 : Int32} {h : Hp} {Q : Int32 → Hp → Prop} (hm : m_X12_partLeft v1 v2 v3 h Q) : Ct l G d 0 0 yX12_partLeft MX12_partLeft [tR 12 0 (some 51), tI v1, tI v2, tI v3] h (qI Q) := by
  unfold m_X12_partLeft at hm
  refine Ct.of (L := [some (tR 12 0 (some 51)), some (tI v1), some (tI v2), some (tI v3)]) (by decide) rfl rfl (Nat.le_of_ble_eq_true rfl) rfl ?_
  refine r_iload_n dX12_partLeft_0 rfl rfl ?_
  refine r_istore (L' := [some (tR 12 0 (some 51)), some (tI v1), some (tI v2), some (tI v3), some (tI v2)]) dX12_partLeft_1 (by decide) rfl ?_
  refine r_aload_n dX12_partLeft_3 rfl rfl ?_
  refine r_getC (k := 9) cl_12 dX12_partLeft_4 t_1281 gf_12_9.1 gf_12_9.2 (gc_12_9 _) ?_
  refine r_iload_n dX12_partLeft_7 rfl rfl ?_
  refine r_iald dX12_partLeft_8 hm.1 ?_
  replace hm := hm.2
  refine r_nmI (fun x2 e_x2 => ?_)
  replace hm := hm x2 e_x2
  refine r_istore (L' := [some (tR 12 0 (some 51)), some (tI v1), some (tI v2), some (tI v3), some (tI v2), some (tI x2)]) dX12_partLeft_9 (by decide) rfl ?_
  refine r_keep (L' := [some (tR 12 0 (some 51)), some (tI v1), none, some (tI v3), some (tI v2), some (tI x2)]) [true, true, false, true, true, true] rfl ?_
  obtain ⟨n, hm⟩ := hm
  refine s_X12_partLeft_11 hd ?_ hm
  · exact (fun _ _ _ _ hm => s_X12_partLeft_48 hd hm)
