theorem dX11_honest_0 : decode cX11_honest 0 = .ok (.aload_n 0, 1) := rfl
theorem dX11_honest_1 : decode cX11_honest 1 = .ok (.getfield 273, 3) := rfl
theorem dX11_honest_4 : decode cX11_honest 4 = .ok (.bipush 6, 2) := by decide +kernel
theorem dX11_honest_6 : decode cX11_honest 6 = .ok (.if_icmp .ge 13, 3) := by decide +kernel
theorem dX11_honest_9 : decode cX11_honest 9 = .ok (.aload_n 0, 1) := rfl
theorem dX11_honest_10 : decode cX11_honest 10 = .ok (.getfield 51, 3) := rfl
theorem dX11_honest_13 : decode cX11_honest 13 = .ok (.getfield 181, 3) := rfl
theorem dX11_honest_16 : decode cX11_honest 16 = .ok (.ifCond .ne 5, 3) := by decide +kernel
theorem dX11_honest_19 : decode cX11_honest 19 = .ok (.iconst (-1), 1) := rfl
theorem dX11_honest_20 : decode cX11_honest 20 = .ok (.ireturn, 1) := rfl
theorem dX11_honest_21 : decode cX11_honest 21 = .ok (.new 48, 3) := rfl
theorem dX11_honest_24 : decode cX11_honest 24 = .ok (.dup, 1) := rfl
theorem dX11_honest_25 : decode cX11_honest 25 = .ok (.invokespecial 50, 3) := rfl
theorem dX11_honest_28 : decode cX11_honest 28 = .ok (.astore_n 1, 1) := rfl
theorem dX11_honest_29 : decode cX11_honest 29 = .ok (.aload_n 1, 1) := rfl
theorem dX11_honest_30 : decode cX11_honest 30 = .ok (.aload_n 0, 1) := rfl
theorem dX11_honest_31 : decode cX11_honest 31 = .ok (.getfield 51, 3) := rfl
theorem dX11_honest_34 : decode cX11_honest 34 = .ok (.invokevirtual 276, 3) := rfl
theorem dX11_honest_37 : decode cX11_honest 37 = .ok (.aload_n 0, 1) := rfl
theorem dX11_honest_38 : decode cX11_honest 38 = .ok (.getfield 55, 3) := rfl
theorem dX11_honest_41 : decode cX11_honest 41 = .ok (.aload_n 0, 1) := rfl
theorem dX11_honest_42 : decode cX11_honest 42 = .ok (.getfield 273, 3) := rfl
theorem dX11_honest_45 : decode cX11_honest 45 = .ok (.aload_n 1, 1) := rfl
theorem dX11_honest_46 : decode cX11_honest 46 = .ok (.aastore, 1) := rfl
theorem dX11_honest_47 : decode cX11_honest 47 = .ok (.aload_n 0, 1) := rfl
theorem dX11_honest_48 : decode cX11_honest 48 = .ok (.dup, 1) := rfl
theorem dX11_honest_49 : decode cX11_honest 49 = .ok (.getfield 273, 3) := rfl
theorem dX11_honest_52 : decode cX11_honest 52 = .ok (.iconst 1, 1) := rfl
theorem dX11_honest_53 : decode cX11_honest 53 = .ok (.iadd, 1) := rfl
theorem dX11_honest_54 : decode cX11_honest 54 = .ok (.putfield 273, 3) := rfl
theorem dX11_honest_57 : decode cX11_honest 57 = .ok (.aload_n 0, 1) := rfl
theorem dX11_honest_58 : decode cX11_honest 58 = .ok (.getfield 273, 3) := rfl
theorem dX11_honest_61 : decode cX11_honest 61 = .ok (.iconst 1, 1) := rfl
theorem dX11_honest_62 : decode cX11_honest 62 = .ok (.isub, 1) := rfl
theorem dX11_honest_63 : decode cX11_honest 63 = .ok (.ireturn, 1) := rfl
def m_X11_honest  (h : Hp) (Q : Int32 → Hp → Prop) : Prop := (6 ≤ (hI h 0 12) → Q (-1) h) ∧ (¬ 6 ≤ (hI h 0 12) → (¬ (hI h 11 1) = 0 → ∀ a1 : Nat, a1 = hN h → ∀ h2 : Hp, h2 = nw h (20, 0) → m_X0_init a1 h2 (fun h4 => hN h ≤ a1 ∧ sealOK h4 a1 0 ∧ ∀ h5 : Hp, h5 = wT h4 a1 (0, 0) → m_X0_copyFrom a1 11 h5 (fun (h7 : Hp) => vp_in (hI h7 0 12) 6 ∧ (Q ((hI (wI (wR h7 13 (ix (hI h7 0 12)) (some a1)) 0 12 ((hI (wR h7 13 (ix (hI h7 0 12)) (some a1)) 0 12) + 1)) 0 12) - 1) (wI (wR h7 13 (ix (hI h7 0 12)) (some a1)) 0 12 ((hI (wR h7 13 (ix (hI h7 0 12)) (some a1)) 0 12) + 1)))))) ∧ ((hI h 11 1) = 0 → Q (-1) h))
set_option maxHeartbeats 4000000 in
set_option maxRecDepth 100000 in
theorem s_X11_honest {l : Launch} {G : Cx} {d : Nat} (hd : 6 ≤ d) {h : Hp} {Q : Int32 → Hp → Prop} (hm : m_X11_honest h Q) : Ct l G d 2 8 yX11_honest MX11_honest [tR 11 0 (some 0)] h (qI Q) := by
  unfold m_X11_honest at hm
  refine Ct.of (L := [some (tR 11 0 (some 0))]) (by decide) rfl rfl (Nat.le_of_ble_eq_true rfl) rfl ?_
  refine r_aload_n dX11_honest_0 rfl rfl ?_
  refine r_getI (k := 12) cl_11 dX11_honest_1 t_358 (Or.inl rfl) gf_11_12 ?_
  refine r_bipush (v := 6) dX11_honest_4 rfl ?_
  refine r_icmp_ge (tgt := 19) dX11_honest_6 rfl (fun hc => ?_) (fun hc => ?_)
  · replace hm := hm.1 hc
    refine r_iconst (v := (-1)) dX11_honest_19 rfl ?_
    exact r_ireturn dX11_honest_20 rfl ⟨by decide, by decide⟩ ⟨_, rfl, hm⟩
  · replace hm := hm.2 hc
    refine r_aload_n dX11_honest_9 rfl rfl ?_
    refine r_getC (k := 10) cl_11 dX11_honest_10 t_356 gf_11_10.1 gf_11_10.2 (gc_11_10 _) ?_
    refine r_getI (k := 1) cl_0 dX11_honest_13 t_130 (Or.inl rfl) gf_0_1 ?_
    refine r_if_ne (tgt := 21) dX11_honest_16 rfl (fun hc => ?_) (fun hc => ?_)
    · replace hm := hm.1 hc
      refine r_new cl_0 dX11_honest_21 t_114 (N := 2) rfl t_115 t_5 ⟨by decide, by decide⟩ ?_
      refine r_nmA (fun a1 e_a1 h2 e_h2 => ?_)
      replace hm := hm a1 e_a1 h2 e_h2
      refine r_dup dX11_honest_24 cv_cat1R ?_
      refine r_callINU (d' := d - 1) (ci := 0) (host := RX11) (as := []) (st := [tR 20 0 (some a1)]) (mc' := 1) (ms' := 6) dX11_honest_25 mi_X0_init rfl (by decide) t_117 rfl rfl rfl (Nat.le_of_ble_eq_true rfl) (by omega) ⟨by decide, by decide⟩ ⟨rfl, rfl⟩ (s_X0_init (by omega) hm) (fun h4 hm => ?_)
      obtain ⟨hz, hs, hm⟩ := hm
      refine r_seal (by decide) hz hs (by simp [noK]) (by simp) ?_
      refine r_nmH (fun h5 e_h5 => ?_)
      replace hm := hm h5 e_h5
      refine r_astore_n (L' := [some (tR 11 0 (some 0)), some (tR 0 0 (some a1))]) dX11_honest_28 rfl (by decide) rfl ?_
      refine r_aload_n dX11_honest_29 rfl rfl ?_
      refine r_aload_n dX11_honest_30 rfl rfl ?_
      refine r_getC (k := 10) cl_11 dX11_honest_31 t_356 gf_11_10.1 gf_11_10.2 (gc_11_10 _) ?_
      refine r_callVU (d' := d - 1) (as := [tR 0 0 (some 11)]) (st := []) cl_0 dX11_honest_34 mi_X0_copyFrom t_1176 t_1177 t_1178 rfl rfl (Nat.le_of_ble_eq_true rfl) (by omega) ⟨by decide, by decide⟩ ⟨rfl, rfl⟩ (s_X0_copyFrom (by omega) hm) (fun h7 hm => ?_)
      refine r_aload_n dX11_honest_37 rfl rfl ?_
      refine r_getC (k := 11) cl_11 dX11_honest_38 t_357 gf_11_11.1 gf_11_11.2 (gc_11_11 _) ?_
      refine r_aload_n dX11_honest_41 rfl rfl ?_
      refine r_getI (k := 12) cl_11 dX11_honest_42 t_358 (Or.inl rfl) gf_11_12 ?_
      refine r_aload_n dX11_honest_45 rfl rfl ?_
      refine r_aast (kd := 0) (ti := 4) cl_0 dX11_honest_46 rfl hm.1 ?_
      replace hm := hm.2
      refine r_aload_n dX11_honest_47 rfl rfl ?_
      refine r_dup dX11_honest_48 cv_cat1R ?_
      refine r_getI (k := 12) cl_11 dX11_honest_49 t_358 (Or.inl rfl) gf_11_12 ?_
      refine r_iconst (v := 1) dX11_honest_52 rfl ?_
      refine r_iadd dX11_honest_53 ?_
      refine r_putI0 (k := 12) cl_11 dX11_honest_54 t_358 (Or.inl rfl) gf_11_12 pf_11_12.1 (Or.inl pf_11_12.2) ?_
      refine r_aload_n dX11_honest_57 rfl rfl ?_
      refine r_getI (k := 12) cl_11 dX11_honest_58 t_358 (Or.inl rfl) gf_11_12 ?_
      refine r_iconst (v := 1) dX11_honest_61 rfl ?_
      refine r_isub dX11_honest_62 ?_
      exact r_ireturn dX11_honest_63 rfl ⟨by decide, by decide⟩ ⟨_, rfl, hm⟩
    · replace hm := hm.2 hc
      refine r_iconst (v := (-1)) dX11_honest_19 rfl ?_
      exact r_ireturn dX11_honest_20 rfl ⟨by decide, by decide⟩ ⟨_, rfl, hm⟩
theorem dX11_isLet_0 : decode cX11_isLet 0 = .ok (.aload_n 0, 1) := rfl
theorem dX11_isLet_1 : decode cX11_isLet 1 = .ok (.invokevirtual 239, 3) := rfl
theorem dX11_isLet_4 : decode cX11_isLet 4 = .ok (.astore_n 2, 1) := rfl
theorem dX11_isLet_5 : decode cX11_isLet 5 = .ok (.aload_n 2, 1) := rfl
theorem dX11_isLet_6 : decode cX11_isLet 6 = .ok (.ifnonnull 5, 3) := by decide +kernel
theorem dX11_isLet_9 : decode cX11_isLet 9 = .ok (.iconst 1, 1) := rfl
theorem dX11_isLet_10 : decode cX11_isLet 10 = .ok (.ireturn, 1) := rfl
theorem dX11_isLet_11 : decode cX11_isLet 11 = .ok (.aload_n 0, 1) := rfl
theorem dX11_isLet_12 : decode cX11_isLet 12 = .ok (.getfield 78, 3) := rfl
theorem dX11_isLet_15 : decode cX11_isLet 15 = .ok (.aload_n 1, 1) := rfl
theorem dX11_isLet_16 : decode cX11_isLet 16 = .ok (.invokevirtual 243, 3) := rfl
theorem dX11_isLet_19 : decode cX11_isLet 19 = .ok (.aload_n 0, 1) := rfl
theorem dX11_isLet_20 : decode cX11_isLet 20 = .ok (.getfield 78, 3) := rfl
theorem dX11_isLet_23 : decode cX11_isLet 23 = .ok (.aload_n 2, 1) := rfl
theorem dX11_isLet_24 : decode cX11_isLet 24 = .ok (.invokevirtual 247, 3) := rfl
theorem dX11_isLet_27 : decode cX11_isLet 27 = .ok (.iconst (-1), 1) := rfl
theorem dX11_isLet_28 : decode cX11_isLet 28 = .ok (.if_icmp .ne 7, 3) := by decide +kernel
theorem dX11_isLet_31 : decode cX11_isLet 31 = .ok (.iconst 1, 1) := rfl
theorem dX11_isLet_32 : decode cX11_isLet 32 = .ok (.goto 4, 3) := by decide +kernel
theorem dX11_isLet_35 : decode cX11_isLet 35 = .ok (.iconst 0, 1) := rfl
theorem dX11_isLet_36 : decode cX11_isLet 36 = .ok (.ireturn, 1) := rfl
def m_X11_isLet (v1 : Nat) (h : Hp) (Q : Int32 → Hp → Prop) : Prop := m_X11_lawInForce h (fun (x1 : Option Nat) (h2 : Hp) => (∀ b3 : Nat, x1 = some b3 → m_X3_hear v1 h2 (fun (h5 : Hp) => m_X3_firstThatBars b3 h5 (fun (x6 : Int32) (h7 : Hp) => (¬ x6 = (-1) → Q 0 h7) ∧ (x6 = (-1) → Q 1 h7)))) ∧ (x1 = none → Q 1 h2))
set_option maxHeartbeats 4000000 in
set_option maxRecDepth 100000 in
theorem s_X11_isLet {l : Launch} {G : Cx} {d : Nat} (hd : 10 ≤ d) {v1 : Nat} {h : Hp} {Q : Int32 → Hp → Prop} (hm : m_X11_isLet v1 h Q) : Ct l G d 0 0 yX11_isLet MX11_isLet [tR 11 0 (some 0), tR 0 0 (some v1)] h (qI Q) := by
  unfold m_X11_isLet at hm
  refine Ct.of (L := [some (tR 11 0 (some 0)), some (tR 0 0 (some v1))]) (by decide) rfl rfl (Nat.le_of_ble_eq_true rfl) rfl ?_
  refine r_aload_n dX11_isLet_0 rfl rfl ?_
  refine r_callVR (d' := d - 1) (as := []) (st := []) cl_11 dX11_isLet_1 mi_X11_lawInForce t_1061 t_1063 ts_39 rfl rfl (Nat.le_of_ble_eq_true rfl) (by omega) ⟨by decide, by decide⟩ ⟨rfl, rfl⟩ (s_X11_lawInForce (by omega) hm) (fun x1 h2 hm => ?_)
  refine r_astore_n (L' := [some (tR 11 0 (some 0)), some (tR 0 0 (some v1)), some (tR 6 0 x1)]) dX11_isLet_4 rfl (by decide) rfl ?_
  refine r_aload_n dX11_isLet_5 rfl rfl ?_
  refine r_ifnonnull (tgt := 11) dX11_isLet_6 rfl (fun hc => ?_) (fun hc => ?_)
  · obtain ⟨b3, hc⟩ := Option.ne_none_iff_exists'.mp hc
    replace hm := hm.1 b3 hc
    subst hc
    refine r_aload_n dX11_isLet_11 rfl rfl ?_
    refine r_getC (k := 15) cl_11 dX11_isLet_12 t_361 gf_11_15.1 gf_11_15.2 (gc_11_15 _) ?_
    refine r_aload_n dX11_isLet_15 rfl rfl ?_
    refine r_callVU (d' := d - 1) (as := [tR 0 0 (some v1)]) (st := []) cl_3 dX11_isLet_16 mi_X3_hear t_1065 t_1066 t_1067 rfl rfl (Nat.le_of_ble_eq_true rfl) (by omega) ⟨by decide, by decide⟩ ⟨rfl, rfl⟩ (s_X3_hear (by omega) hm) (fun h5 hm => ?_)
    refine r_aload_n dX11_isLet_19 rfl rfl ?_
    refine r_getC (k := 15) cl_11 dX11_isLet_20 t_361 gf_11_15.1 gf_11_15.2 (gc_11_15 _) ?_
    refine r_aload_n dX11_isLet_23 rfl rfl ?_
    refine r_callVI (d' := d - 1) (as := [tR 6 0 (some b3)]) (st := []) cl_3 dX11_isLet_24 mi_X3_firstThatBars t_1074 t_1075 t_1076 rfl rfl (Nat.le_of_ble_eq_true rfl) (by omega) ⟨by decide, by decide⟩ ⟨rfl, rfl⟩ (s_X3_firstThatBars (by omega) hm) (fun x6 h7 hm => ?_)
    refine r_iconst (v := (-1)) dX11_isLet_27 rfl ?_
    refine r_icmp_ne (tgt := 35) dX11_isLet_28 rfl (fun hc => ?_) (fun hc => ?_)
    · replace hm := hm.1 hc
      refine r_iconst (v := 0) dX11_isLet_35 rfl ?_
      exact r_bret dX11_isLet_36 rfl ⟨by decide, by decide⟩ (by unfold bz; decide) ⟨_, rfl, hm⟩
    · replace hm := hm.2 hc
      refine r_iconst (v := 1) dX11_isLet_31 rfl ?_
      refine r_goto (tgt := 36) dX11_isLet_32 rfl ?_
      exact r_bret dX11_isLet_36 rfl ⟨by decide, by decide⟩ (by unfold bz; decide) ⟨_, rfl, hm⟩
  · replace hm := hm.2 hc
    subst hc
    refine r_iconst (v := 1) dX11_isLet_9 rfl ?_
    exact r_bret dX11_isLet_10 rfl ⟨by decide, by decide⟩ (by unfold bz; decide) ⟨_, rfl, hm⟩
theorem dX11_innocent_0 : decode cX11_innocent 0 = .ok (.iload_n 1, 1) := by decide +kernel
theorem dX11_innocent_1 : decode cX11_innocent 1 = .ok (.aload_n 0, 1) := by decide +kernel
theorem dX11_innocent_2 : decode cX11_innocent 2 = .ok (.getfield 273, 3) := by decide +kernel
theorem dX11_innocent_5 : decode cX11_innocent 5 = .ok (.invokestatic 98, 3) := by decide +kernel
theorem dX11_innocent_8 : decode cX11_innocent 8 = .ok (.ifCond .ne 5, 3) := by decide +kernel
theorem dX11_innocent_11 : decode cX11_innocent 11 = .ok (.iconst (-1), 1) := by decide +kernel
theorem dX11_innocent_12 : decode cX11_innocent 12 = .ok (.ireturn, 1) := by decide +kernel
theorem dX11_innocent_13 : decode cX11_innocent 13 = .ok (.aload_n 0, 1) := by decide +kernel
theorem dX11_innocent_14 : decode cX11_innocent 14 = .ok (.getfield 55, 3) := by decide +kernel
theorem dX11_innocent_17 : decode cX11_innocent 17 = .ok (.iload_n 1, 1) := by decide +kernel
theorem dX11_innocent_18 : decode cX11_innocent 18 = .ok (.aaload, 1) := by decide +kernel
theorem dX11_innocent_19 : decode cX11_innocent 19 = .ok (.astore_n 3, 1) := by decide +kernel
theorem dX11_innocent_20 : decode cX11_innocent 20 = .ok (.iload_n 2, 1) := by decide +kernel
theorem dX11_innocent_21 : decode cX11_innocent 21 = .ok (.ifCond .ne 17, 3) := by decide +kernel
theorem dX11_innocent_24 : decode cX11_innocent 24 = .ok (.aload_n 0, 1) := by decide +kernel
theorem dX11_innocent_25 : decode cX11_innocent 25 = .ok (.aload_n 3, 1) := by decide +kernel
theorem dX11_innocent_26 : decode cX11_innocent 26 = .ok (.invokevirtual 279, 3) := by decide +kernel
theorem dX11_innocent_29 : decode cX11_innocent 29 = .ok (.ifCond .eq 7, 3) := by decide +kernel
theorem dX11_innocent_32 : decode cX11_innocent 32 = .ok (.iconst 1, 1) := by decide +kernel
theorem dX11_innocent_33 : decode cX11_innocent 33 = .ok (.goto 4, 3) := by decide +kernel
theorem dX11_innocent_36 : decode cX11_innocent 36 = .ok (.iconst 0, 1) := by decide +kernel
theorem dX11_innocent_37 : decode cX11_innocent 37 = .ok (.ireturn, 1) := by decide +kernel
theorem dX11_innocent_38 : decode cX11_innocent 38 = .ok (.iload_n 2, 1) := by decide +kernel
theorem dX11_innocent_39 : decode cX11_innocent 39 = .ok (.iconst 1, 1) := by decide +kernel
theorem dX11_innocent_40 : decode cX11_innocent 40 = .ok (.if_icmp .ne 12, 3) := by decide +kernel
theorem dX11_innocent_43 : decode cX11_innocent 43 = .ok (.aload_n 0, 1) := by decide +kernel
theorem dX11_innocent_44 : decode cX11_innocent 44 = .ok (.getfield 64, 3) := by decide +kernel
theorem dX11_innocent_47 : decode cX11_innocent 47 = .ok (.aload_n 3, 1) := by decide +kernel
theorem dX11_innocent_48 : decode cX11_innocent 48 = .ok (.invokevirtual 283, 3) := by decide +kernel
theorem dX11_innocent_51 : decode cX11_innocent 51 = .ok (.ireturn, 1) := by decide +kernel
theorem dX11_innocent_52 : decode cX11_innocent 52 = .ok (.iload_n 2, 1) := by decide +kernel
theorem dX11_innocent_53 : decode cX11_innocent 53 = .ok (.bipush 10, 2) := by decide +kernel
theorem dX11_innocent_55 : decode cX11_innocent 55 = .ok (.if_icmp .lt 29, 3) := by decide +kernel
theorem dX11_innocent_58 : decode cX11_innocent 58 = .ok (.iload_n 2, 1) := by decide +kernel
theorem dX11_innocent_59 : decode cX11_innocent 59 = .ok (.bipush 10, 2) := by decide +kernel
theorem dX11_innocent_61 : decode cX11_innocent 61 = .ok (.isub, 1) := by decide +kernel
theorem dX11_innocent_62 : decode cX11_innocent 62 = .ok (.aload_n 3, 1) := by decide +kernel
theorem dX11_innocent_63 : decode cX11_innocent 63 = .ok (.getfield 181, 3) := by decide +kernel
theorem dX11_innocent_66 : decode cX11_innocent 66 = .ok (.if_icmp .ge 18, 3) := by decide +kernel
theorem dX11_innocent_69 : decode cX11_innocent 69 = .ok (.aload_n 3, 1) := by decide +kernel
theorem dX11_innocent_70 : decode cX11_innocent 70 = .ok (.getfield 287, 3) := by decide +kernel
theorem dX11_innocent_73 : decode cX11_innocent 73 = .ok (.iload_n 2, 1) := by decide +kernel
theorem dX11_innocent_74 : decode cX11_innocent 74 = .ok (.bipush 10, 2) := by decide +kernel
theorem dX11_innocent_76 : decode cX11_innocent 76 = .ok (.isub, 1) := by decide +kernel
theorem dX11_innocent_77 : decode cX11_innocent 77 = .ok (.aaload, 1) := by decide +kernel
theorem dX11_innocent_78 : decode cX11_innocent 78 = .ok (.getfield 288, 3) := by decide +kernel
theorem dX11_innocent_81 : decode cX11_innocent 81 = .ok (.goto 4, 3) := by decide +kernel
theorem dX11_innocent_84 : decode cX11_innocent 84 = .ok (.iconst (-1), 1) := by decide +kernel
theorem dX11_innocent_85 : decode cX11_innocent 85 = .ok (.ireturn, 1) := by decide +kernel
def m_X11_innocent (v1 : Int32) (v2 : Int32) (h : Hp) (Q : Int32 → Hp → Prop) : Prop := m_X11_isWithin v1 (hI h 0 12) h (fun (x1 : Int32) (h2 : Hp) => (¬ x1 = 0 → vp_in v1 6 ∧ ∃ b3 : Nat, hR h2 13 (ix v1) = some b3 ∧ ((¬ v2 = 0 → (¬ v2 = 1 → (v2 < 10 → Q (-1) h2) ∧ (¬ v2 < 10 → ((hI h2 b3 1) ≤ (v2 - 10) → Q (-1) h2) ∧ (¬ (hI h2 b3 1) ≤ (v2 - 10) → vp_in (v2 - 10) 6 ∧ ∃ b4 : Nat, hR h2 (b3 + 1) (ix (v2 - 10)) = some b4 ∧ (Q (hI h2 b4 0) h2)))) ∧ (v2 = 1 → m_X5_findLoan b3 h2 (fun (x5 : Int32) (h6 : Hp) => Q x5 h6))) ∧ (v2 = 0 → m_X11_isLet b3 h2 (fun (x7 : Int32) (h8 : Hp) => (x7 = 0 → Q 0 h8) ∧ (¬ x7 = 0 → Q 1 h8))))) ∧ (x1 = 0 → Q (-1) h2))
set_option maxHeartbeats 4000000 in
set_option maxRecDepth 100000 in
theorem s_X11_innocent {l : Launch} {G : Cx} {d : Nat} (hd : 12 ≤ d) {v1 : Int32} {v2 : Int32} {h : Hp} {Q : Int32 → Hp → Prop} (hm : m_X11_innocent v1 v2 h Q) : Ct l G d 0 0 yX11_innocent MX11_innocent [tR 11 0 (some 0), tI v1, tI v2] h (qI Q) := by
  unfold m_X11_innocent at hm
  refine Ct.of (L := [some (tR 11 0 (some 0)), some (tI v1), some (tI v2)]) (by decide) rfl rfl (Nat.le_of_ble_eq_true rfl) rfl ?_
  refine r_iload_n dX11_innocent_0 rfl rfl ?_
  refine r_aload_n dX11_innocent_1 rfl rfl ?_
  refine r_getI (k := 12) cl_11 dX11_innocent_2 t_358 (Or.inl rfl) gf_11_12 ?_
  refine r_callSI (d' := d - 1) (as := [tI v1, tI (hI h 0 12)]) (st := []) dX11_innocent_5 mi_X11_isWithin t_405 t_406 rfl rfl (Nat.le_of_ble_eq_true rfl) (by omega) ⟨by decide, by decide⟩ ⟨rfl, rfl⟩ (s_X11_isWithin (by omega) hm) (fun x1 h2 hm => ?_)
  refine r_if_ne (tgt := 13) dX11_innocent_8 rfl (fun hc => ?_) (fun hc => ?_)
  · replace hm := hm.1 hc
    refine r_aload_n dX11_innocent_13 rfl rfl ?_
    refine r_getC (k := 11) cl_11 dX11_innocent_14 t_357 gf_11_11.1 gf_11_11.2 (gc_11_11 _) ?_
    refine r_iload_n dX11_innocent_17 rfl rfl ?_
    obtain ⟨hi_b3, b3, hb_b3, hm⟩ := hm
    refine r_aaldS (kd := 0) (ti := 4) (cn := RX0) dX11_innocent_18 rfl hi_b3 hb_b3 ?_
    refine r_astore_n (L' := [some (tR 11 0 (some 0)), some (tI v1), some (tI v2), some (tR 0 0 (some b3))]) dX11_innocent_19 rfl (by decide) rfl ?_
    refine r_iload_n dX11_innocent_20 rfl rfl ?_
    refine r_if_ne (tgt := 38) dX11_innocent_21 rfl (fun hc => ?_) (fun hc => ?_)
    · replace hm := hm.1 hc
      refine r_iload_n dX11_innocent_38 rfl rfl ?_
      refine r_iconst (v := 1) dX11_innocent_39 rfl ?_
      refine r_icmp_ne (tgt := 52) dX11_innocent_40 rfl (fun hc => ?_) (fun hc => ?_)
      · replace hm := hm.1 hc
        refine r_iload_n dX11_innocent_52 rfl rfl ?_
        refine r_bipush (v := 10) dX11_innocent_53 rfl ?_
        refine r_icmp_lt (tgt := 84) dX11_innocent_55 rfl (fun hc => ?_) (fun hc => ?_)
        · replace hm := hm.1 hc
          refine r_iconst (v := (-1)) dX11_innocent_84 rfl ?_
          exact r_ireturn dX11_innocent_85 rfl ⟨by decide, by decide⟩ ⟨_, rfl, hm⟩
        · replace hm := hm.2 hc
          refine r_iload_n dX11_innocent_58 rfl rfl ?_
          refine r_bipush (v := 10) dX11_innocent_59 rfl ?_
          refine r_isub dX11_innocent_61 ?_
          refine r_aload_n dX11_innocent_62 rfl rfl ?_
          refine r_getI (k := 1) cl_0 dX11_innocent_63 t_130 (Or.inl rfl) gf_0_1 ?_
          refine r_icmp_ge (tgt := 84) dX11_innocent_66 rfl (fun hc => ?_) (fun hc => ?_)
          · replace hm := hm.1 hc
            refine r_iconst (v := (-1)) dX11_innocent_84 rfl ?_
            exact r_ireturn dX11_innocent_85 rfl ⟨by decide, by decide⟩ ⟨_, rfl, hm⟩
          · replace hm := hm.2 hc
            refine r_aload_n dX11_innocent_69 rfl rfl ?_
            refine r_getC (k := 0) cl_0 dX11_innocent_70 t_124 gf_0_0.1 gf_0_0.2 (gc_0_0 _) ?_
            refine r_iload_n dX11_innocent_73 rfl rfl ?_
            refine r_bipush (v := 10) dX11_innocent_74 rfl ?_
            refine r_isub dX11_innocent_76 ?_
            obtain ⟨hi_b4, b4, hb_b4, hm⟩ := hm
            refine r_aaldS (kd := 1) (ti := 5) (cn := RX1) dX11_innocent_77 rfl hi_b4 hb_b4 ?_
            refine r_getI (k := 0) cl_1 dX11_innocent_78 t_438 (Or.inl rfl) gf_1_0 ?_
            refine r_goto (tgt := 85) dX11_innocent_81 rfl ?_
            exact r_ireturn dX11_innocent_85 rfl ⟨by decide, by decide⟩ ⟨_, rfl, hm⟩
      · replace hm := hm.2 hc
        refine r_aload_n dX11_innocent_43 rfl rfl ?_
        refine r_getC (k := 13) cl_11 dX11_innocent_44 t_359 gf_11_13.1 gf_11_13.2 (gc_11_13 _) ?_
        refine r_aload_n dX11_innocent_47 rfl rfl ?_
        refine r_callVI (d' := d - 1) (as := [tR 0 0 (some b3)]) (st := []) cl_5 dX11_innocent_48 mi_X5_findLoan t_1189 t_1148 t_1149 rfl rfl (Nat.le_of_ble_eq_true rfl) (by omega) ⟨by decide, by decide⟩ ⟨rfl, rfl⟩ (s_X5_findLoan (by omega) hm) (fun x5 h6 hm => ?_)
        exact r_ireturn dX11_innocent_51 rfl ⟨by decide, by decide⟩ ⟨_, rfl, hm⟩
    · replace hm := hm.2 hc
      refine r_aload_n dX11_innocent_24 rfl rfl ?_
      refine r_aload_n dX11_innocent_25 rfl rfl ?_
      refine r_callVI (d' := d - 1) (as := [tR 0 0 (some b3)]) (st := []) cl_11 dX11_innocent_26 mi_X11_isLet t_1185 t_1187 ts_50 rfl rfl (Nat.le_of_ble_eq_true rfl) (by omega) ⟨by decide, by decide⟩ ⟨rfl, rfl⟩ (s_X11_isLet (by omega) hm) (fun x7 h8 hm => ?_)
      refine r_if_eq (tgt := 36) dX11_innocent_29 rfl (fun hc => ?_) (fun hc => ?_)
      · replace hm := hm.1 hc
        refine r_iconst (v := 0) dX11_innocent_36 rfl ?_
        exact r_ireturn dX11_innocent_37 rfl ⟨by decide, by decide⟩ ⟨_, rfl, hm⟩
      · replace hm := hm.2 hc
        refine r_iconst (v := 1) dX11_innocent_32 rfl ?_
        refine r_goto (tgt := 37) dX11_innocent_33 rfl ?_
        exact r_ireturn dX11_innocent_37 rfl ⟨by decide, by decide⟩ ⟨_, rfl, hm⟩
  · replace hm := hm.2 hc
    refine r_iconst (v := (-1)) dX11_innocent_11 rfl ?_
    exact r_ireturn dX11_innocent_12 rfl ⟨by decide, by decide⟩ ⟨_, rfl, hm⟩
theorem dX11_parts_0 : decode cX11_parts 0 = .ok (.iload_n 1, 1) := by decide +kernel
theorem dX11_parts_1 : decode cX11_parts 1 = .ok (.aload_n 0, 1) := by decide +kernel
theorem dX11_parts_2 : decode cX11_parts 2 = .ok (.getfield 273, 3) := by decide +kernel
theorem dX11_parts_5 : decode cX11_parts 5 = .ok (.invokestatic 98, 3) := by decide +kernel
theorem dX11_parts_8 : decode cX11_parts 8 = .ok (.ifCond .eq 25, 3) := by decide +kernel
theorem dX11_parts_11 : decode cX11_parts 11 = .ok (.aload_n 0, 1) := by decide +kernel
theorem dX11_parts_12 : decode cX11_parts 12 = .ok (.getfield 51, 3) := by decide +kernel
theorem dX11_parts_15 : decode cX11_parts 15 = .ok (.invokevirtual 211, 3) := by decide +kernel
theorem dX11_parts_18 : decode cX11_parts 18 = .ok (.ifCond .eq 15, 3) := by decide +kernel
theorem dX11_parts_21 : decode cX11_parts 21 = .ok (.aload_n 0, 1) := by decide +kernel
theorem dX11_parts_22 : decode cX11_parts 22 = .ok (.getfield 55, 3) := by decide +kernel
theorem dX11_parts_25 : decode cX11_parts 25 = .ok (.iload_n 1, 1) := by decide +kernel
theorem dX11_parts_26 : decode cX11_parts 26 = .ok (.aaload, 1) := by decide +kernel
theorem dX11_parts_27 : decode cX11_parts 27 = .ok (.invokevirtual 211, 3) := by decide +kernel
theorem dX11_parts_30 : decode cX11_parts 30 = .ok (.ifCond .ne 5, 3) := by decide +kernel
theorem dX11_parts_33 : decode cX11_parts 33 = .ok (.iconst (-1), 1) := by decide +kernel
theorem dX11_parts_34 : decode cX11_parts 34 = .ok (.ireturn, 1) := by decide +kernel
theorem dX11_parts_35 : decode cX11_parts 35 = .ok (.aload_n 0, 1) := by decide +kernel
theorem dX11_parts_36 : decode cX11_parts 36 = .ok (.getfield 55, 3) := by decide +kernel
theorem dX11_parts_39 : decode cX11_parts 39 = .ok (.iload_n 1, 1) := by decide +kernel
theorem dX11_parts_40 : decode cX11_parts 40 = .ok (.aaload, 1) := by decide +kernel
theorem dX11_parts_41 : decode cX11_parts 41 = .ok (.astore_n 2, 1) := by decide +kernel
theorem dX11_parts_42 : decode cX11_parts 42 = .ok (.aload_n 0, 1) := by decide +kernel
theorem dX11_parts_43 : decode cX11_parts 43 = .ok (.getfield 64, 3) := by decide +kernel
theorem dX11_parts_46 : decode cX11_parts 46 = .ok (.aload_n 2, 1) := by decide +kernel
theorem dX11_parts_47 : decode cX11_parts 47 = .ok (.aload_n 0, 1) := by decide +kernel
theorem dX11_parts_48 : decode cX11_parts 48 = .ok (.getfield 51, 3) := by decide +kernel
theorem dX11_parts_51 : decode cX11_parts 51 = .ok (.iconst 0, 1) := by decide +kernel
theorem dX11_parts_52 : decode cX11_parts 52 = .ok (.invokevirtual 291, 3) := by decide +kernel
theorem dX11_parts_55 : decode cX11_parts 55 = .ok (.ifCond .ne 6, 3) := by decide +kernel
theorem dX11_parts_58 : decode cX11_parts 58 = .ok (.bipush (-2), 2) := by decide +kernel
theorem dX11_parts_60 : decode cX11_parts 60 = .ok (.ireturn, 1) := by decide +kernel
theorem dX11_parts_61 : decode cX11_parts 61 = .ok (.iconst 0, 1) := by decide +kernel
theorem dX11_parts_62 : decode cX11_parts 62 = .ok (.istore_n 3, 1) := by decide +kernel
theorem dX11_parts_63 : decode cX11_parts 63 = .ok (.iload_n 3, 1) := by decide +kernel
theorem dX11_parts_64 : decode cX11_parts 64 = .ok (.iconst 5, 1) := by decide +kernel
theorem dX11_parts_65 : decode cX11_parts 65 = .ok (.if_icmp .ge 29, 3) := by decide +kernel
theorem dX11_parts_68 : decode cX11_parts 68 = .ok (.aload_n 0, 1) := by decide +kernel
theorem dX11_parts_69 : decode cX11_parts 69 = .ok (.getfield 64, 3) := by decide +kernel
theorem dX11_parts_72 : decode cX11_parts 72 = .ok (.aload_n 2, 1) := by decide +kernel
theorem dX11_parts_73 : decode cX11_parts 73 = .ok (.aload_n 0, 1) := by decide +kernel
theorem dX11_parts_74 : decode cX11_parts 74 = .ok (.getfield 51, 3) := by decide +kernel
theorem dX11_parts_77 : decode cX11_parts 77 = .ok (.iconst 1, 1) := by decide +kernel
theorem dX11_parts_78 : decode cX11_parts 78 = .ok (.iload_n 3, 1) := by decide +kernel
theorem dX11_parts_79 : decode cX11_parts 79 = .ok (.ishl, 1) := by decide +kernel
theorem dX11_parts_80 : decode cX11_parts 80 = .ok (.invokevirtual 291, 3) := by decide +kernel
theorem dX11_parts_83 : decode cX11_parts 83 = .ok (.ifCond .ne 5, 3) := by decide +kernel
theorem dX11_parts_86 : decode cX11_parts 86 = .ok (.iload_n 3, 1) := by decide +kernel
theorem dX11_parts_87 : decode cX11_parts 87 = .ok (.ireturn, 1) := by decide +kernel
theorem dX11_parts_88 : decode cX11_parts 88 = .ok (.iinc 3 1, 3) := by decide +kernel
theorem dX11_parts_91 : decode cX11_parts 91 = .ok (.goto (-28), 3) := by decide +kernel
theorem dX11_parts_94 : decode cX11_parts 94 = .ok (.iconst (-1), 1) := by decide +kernel
theorem dX11_parts_95 : decode cX11_parts 95 = .ok (.ireturn, 1) := by decide +kernel
def m_X11_parts_63 : Nat → (Int32 → Hp → Prop) → Nat → Int32 → Hp → Prop
  | 0, _, _, _, _ => False
  | n + 1, Q, v2, v3, h => (5 ≤ v3 → Q (-1) h) ∧ (¬ 5 ≤ v3 → m_X5_isEven v2 11 (1 <<< (v3 &&& 31)) h (fun (x1 : Int32) (h2 : Hp) => (¬ x1 = 0 → ∀ x3 : Int32, x3 = v3 + 1 → m_X11_parts_63 n Q v2 x3 h2) ∧ (x1 = 0 → Q v3 h2)))
set_option maxHeartbeats 4000000 in
set_option maxRecDepth 100000 in
theorem s_X11_parts_63 {l : Launch} {G : Cx} {d : Nat} {h0 : Hp} (hd : 10 ≤ d) {Q : Int32 → Hp → Prop} : ∀ {n : Nat} {v2 : Nat} {v3 : Int32} {h : Hp}, m_X11_parts_63 n Q v2 v3 h → Rn l G d 0 0 MX11_parts h0 (qI Q) 63 [some (tR 11 0 (some 0)), none, some (tR 0 0 (some v2)), some (tI v3)] [] h 0 0 := by
  intro n
  induction n with
  | zero => intro v2 v3 h hm; exact hm.elim
  | succ n ih =>
    intro v2 v3 h hm
    have hk63 := fun (v2 : Nat) (v3 : Int32) (hh : Hp) (hm : m_X11_parts_63 n Q v2 v3 hh) => ih hm
    rw [m_X11_parts_63] at hm
    refine r_iload_n dX11_parts_63 rfl rfl ?_
    refine r_iconst (v := 5) dX11_parts_64 rfl ?_
    refine r_icmp_ge (tgt := 94) dX11_parts_65 rfl (fun hc => ?_) (fun hc => ?_)
    · replace hm := hm.1 hc
      refine r_iconst (v := (-1)) dX11_parts_94 rfl ?_
      exact r_ireturn dX11_parts_95 rfl ⟨by decide, by decide⟩ ⟨_, rfl, hm⟩
    · replace hm := hm.2 hc
      refine r_aload_n dX11_parts_68 rfl rfl ?_
      refine r_getC (k := 13) cl_11 dX11_parts_69 t_359 gf_11_13.1 gf_11_13.2 (gc_11_13 _) ?_
      refine r_aload_n dX11_parts_72 rfl rfl ?_
      refine r_aload_n dX11_parts_73 rfl rfl ?_
      refine r_getC (k := 10) cl_11 dX11_parts_74 t_356 gf_11_10.1 gf_11_10.2 (gc_11_10 _) ?_
      refine r_iconst (v := 1) dX11_parts_77 rfl ?_
      refine r_iload_n dX11_parts_78 rfl rfl ?_
      refine r_ishl dX11_parts_79 ?_
      refine r_callVI (d' := d - 1) (as := [tR 0 0 (some v2), tR 0 0 (some 11), tI (1 <<< (v3 &&& 31))]) (st := []) cl_5 dX11_parts_80 mi_X5_isEven t_1194 t_1195 t_1196 rfl rfl (Nat.le_of_ble_eq_true rfl) (by omega) ⟨by decide, by decide⟩ ⟨rfl, rfl⟩ (s_X5_isEven (by omega) hm) (fun x1 h2 hm => ?_)
      refine r_if_ne (tgt := 88) dX11_parts_83 rfl (fun hc => ?_) (fun hc => ?_)
      · replace hm := hm.1 hc
        obtain ⟨x3, e_x3⟩ : ∃ y : Int32, y = v3 + 1 := ⟨_, rfl⟩
        replace hm := hm x3 e_x3
        refine r_iinc (L' := [some (tR 11 0 (some 0)), none, some (tR 0 0 (some v2)), some (tI x3)]) dX11_parts_88 rfl (by rw [e_x3]; rfl) (by decide) rfl ?_
        refine r_goto (tgt := 63) dX11_parts_91 rfl ?_
        refine r_keep (L' := [some (tR 11 0 (some 0)), none, some (tR 0 0 (some v2)), some (tI x3)]) [true, false, true, true] rfl ?_
        exact hk63 _ _ _ hm
      · replace hm := hm.2 hc
        refine r_iload_n dX11_parts_86 rfl rfl ?_
        exact r_ireturn dX11_parts_87 rfl ⟨by decide, by decide⟩ ⟨_, rfl, hm⟩
def m_X11_parts (v1 : Int32) (h : Hp) (Q : Int32 → Hp → Prop) : Prop := m_X11_isWithin v1 (hI h 0 12) h (fun (x4 : Int32) (h5 : Hp) => (x4 = 0 → Q (-1) h5) ∧ (¬ x4 = 0 → m_X0_isLooked 11 h5 (fun (x6 : Int32) (h7 : Hp) => (x6 = 0 → Q (-1) h7) ∧ (¬ x6 = 0 → vp_in v1 6 ∧ ∃ b8 : Nat, hR h7 13 (ix v1) = some b8 ∧ (m_X0_isLooked b8 h7 (fun (x9 : Int32) (h10 : Hp) => (¬ x9 = 0 → vp_in v1 6 ∧ ∃ b11 : Nat, hR h10 13 (ix v1) = some b11 ∧ (m_X5_isEven b11 11 0 h10 (fun (x12 : Int32) (h13 : Hp) => (¬ x12 = 0 → ∃ n63, m_X11_parts_63 n63 Q b11 0 h13) ∧ (x12 = 0 → Q (-2) h13)))) ∧ (x9 = 0 → Q (-1) h10)))))))
set_option maxHeartbeats 4000000 in
set_option maxRecDepth 100000 in
theorem s_X11_parts {l : Launch} {G : Cx} {d : Nat} (hd : 10 ≤ d) {v1 : Int32} {h : Hp} {Q : Int32 → Hp → Prop} (hm : m_X11_parts v1 h Q) : Ct l G d 0 0 yX11_parts MX11_parts [tR 11 0 (some 0), tI v1] h (qI Q) := by
  unfold m_X11_parts at hm
  refine Ct.of (L := [some (tR 11 0 (some 0)), some (tI v1)]) (by decide) rfl rfl (Nat.le_of_ble_eq_true rfl) rfl ?_
  refine r_iload_n dX11_parts_0 rfl rfl ?_
  refine r_aload_n dX11_parts_1 rfl rfl ?_
  refine r_getI (k := 12) cl_11 dX11_parts_2 t_358 (Or.inl rfl) gf_11_12 ?_
  refine r_callSI (d' := d - 1) (as := [tI v1, tI (hI h 0 12)]) (st := []) dX11_parts_5 mi_X11_isWithin t_405 t_406 rfl rfl (Nat.le_of_ble_eq_true rfl) (by omega) ⟨by decide, by decide⟩ ⟨rfl, rfl⟩ (s_X11_isWithin (by omega) hm) (fun x4 h5 hm => ?_)
  refine r_if_eq (tgt := 33) dX11_parts_8 rfl (fun hc => ?_) (fun hc => ?_)
  · replace hm := hm.1 hc
    refine r_iconst (v := (-1)) dX11_parts_33 rfl ?_
    exact r_ireturn dX11_parts_34 rfl ⟨by decide, by decide⟩ ⟨_, rfl, hm⟩
  · replace hm := hm.2 hc
    refine r_aload_n dX11_parts_11 rfl rfl ?_
    refine r_getC (k := 10) cl_11 dX11_parts_12 t_356 gf_11_10.1 gf_11_10.2 (gc_11_10 _) ?_
    refine r_callVI (d' := d - 1) (as := []) (st := []) cl_0 dX11_parts_15 mi_X0_isLooked t_948 t_949 t_950 rfl rfl (Nat.le_of_ble_eq_true rfl) (by omega) ⟨by decide, by decide⟩ ⟨rfl, rfl⟩ (s_X0_isLooked (by omega) hm) (fun x6 h7 hm => ?_)
    refine r_if_eq (tgt := 33) dX11_parts_18 rfl (fun hc => ?_) (fun hc => ?_)
    · replace hm := hm.1 hc
      refine r_iconst (v := (-1)) dX11_parts_33 rfl ?_
      exact r_ireturn dX11_parts_34 rfl ⟨by decide, by decide⟩ ⟨_, rfl, hm⟩
    · replace hm := hm.2 hc
      refine r_aload_n dX11_parts_21 rfl rfl ?_
      refine r_getC (k := 11) cl_11 dX11_parts_22 t_357 gf_11_11.1 gf_11_11.2 (gc_11_11 _) ?_
      refine r_iload_n dX11_parts_25 rfl rfl ?_
      obtain ⟨hi_b8, b8, hb_b8, hm⟩ := hm
      refine r_aaldS (kd := 0) (ti := 4) (cn := RX0) dX11_parts_26 rfl hi_b8 hb_b8 ?_
      refine r_callVI (d' := d - 1) (as := []) (st := []) cl_0 dX11_parts_27 mi_X0_isLooked t_948 t_949 t_950 rfl rfl (Nat.le_of_ble_eq_true rfl) (by omega) ⟨by decide, by decide⟩ ⟨rfl, rfl⟩ (s_X0_isLooked (by omega) hm) (fun x9 h10 hm => ?_)
      refine r_if_ne (tgt := 35) dX11_parts_30 rfl (fun hc => ?_) (fun hc => ?_)
      · replace hm := hm.1 hc
        refine r_aload_n dX11_parts_35 rfl rfl ?_
        refine r_getC (k := 11) cl_11 dX11_parts_36 t_357 gf_11_11.1 gf_11_11.2 (gc_11_11 _) ?_
        refine r_iload_n dX11_parts_39 rfl rfl ?_
        obtain ⟨hi_b11, b11, hb_b11, hm⟩ := hm
        refine r_aaldS (kd := 0) (ti := 4) (cn := RX0) dX11_parts_40 rfl hi_b11 hb_b11 ?_
        refine r_astore_n (L' := [some (tR 11 0 (some 0)), some (tI v1), some (tR 0 0 (some b11))]) dX11_parts_41 rfl (by decide) rfl ?_
        refine r_aload_n dX11_parts_42 rfl rfl ?_
        refine r_getC (k := 13) cl_11 dX11_parts_43 t_359 gf_11_13.1 gf_11_13.2 (gc_11_13 _) ?_
        refine r_aload_n dX11_parts_46 rfl rfl ?_
        refine r_aload_n dX11_parts_47 rfl rfl ?_
        refine r_getC (k := 10) cl_11 dX11_parts_48 t_356 gf_11_10.1 gf_11_10.2 (gc_11_10 _) ?_
        refine r_iconst (v := 0) dX11_parts_51 rfl ?_
        refine r_callVI (d' := d - 1) (as := [tR 0 0 (some b11), tR 0 0 (some 11), tI 0]) (st := []) cl_5 dX11_parts_52 mi_X5_isEven t_1194 t_1195 t_1196 rfl rfl (Nat.le_of_ble_eq_true rfl) (by omega) ⟨by decide, by decide⟩ ⟨rfl, rfl⟩ (s_X5_isEven (by omega) hm) (fun x12 h13 hm => ?_)
        refine r_if_ne (tgt := 61) dX11_parts_55 rfl (fun hc => ?_) (fun hc => ?_)
        · replace hm := hm.1 hc
          refine r_iconst (v := 0) dX11_parts_61 rfl ?_
          refine r_istore_n (L' := [some (tR 11 0 (some 0)), some (tI v1), some (tR 0 0 (some b11)), some (tI 0)]) dX11_parts_62 rfl (by decide) rfl ?_
          refine r_keep (L' := [some (tR 11 0 (some 0)), none, some (tR 0 0 (some b11)), some (tI 0)]) [true, false, true, true] rfl ?_
          obtain ⟨n, hm⟩ := hm
          refine s_X11_parts_63 hd hm
        · replace hm := hm.2 hc
          refine r_bipush (v := (-2)) dX11_parts_58 rfl ?_
          exact r_ireturn dX11_parts_60 rfl ⟨by decide, by decide⟩ ⟨_, rfl, hm⟩
      · replace hm := hm.2 hc
        refine r_iconst (v := (-1)) dX11_parts_33 rfl ?_
        exact r_ireturn dX11_parts_34 rfl ⟨by decide, by decide⟩ ⟨_, rfl, hm⟩
theorem dX11_sparesHonest_0 : decode cX11_sparesHonest 0 = .ok (.iconst 0, 1) := rfl
theorem dX11_sparesHonest_1 : decode cX11_sparesHonest 1 = .ok (.istore_n 2, 1) := rfl
theorem dX11_sparesHonest_2 : decode cX11_sparesHonest 2 = .ok (.iload_n 2, 1) := rfl
theorem dX11_sparesHonest_3 : decode cX11_sparesHonest 3 = .ok (.aload_n 0, 1) := rfl
theorem dX11_sparesHonest_4 : decode cX11_sparesHonest 4 = .ok (.getfield 273, 3) := rfl
theorem dX11_sparesHonest_7 : decode cX11_sparesHonest 7 = .ok (.if_icmp .ge 36, 3) := by decide +kernel
theorem dX11_sparesHonest_10 : decode cX11_sparesHonest 10 = .ok (.aload_n 0, 1) := rfl
theorem dX11_sparesHonest_11 : decode cX11_sparesHonest 11 = .ok (.getfield 78, 3) := rfl
theorem dX11_sparesHonest_14 : decode cX11_sparesHonest 14 = .ok (.aload_n 0, 1) := rfl
theorem dX11_sparesHonest_15 : decode cX11_sparesHonest 15 = .ok (.getfield 55, 3) := rfl
theorem dX11_sparesHonest_18 : decode cX11_sparesHonest 18 = .ok (.iload_n 2, 1) := rfl
theorem dX11_sparesHonest_19 : decode cX11_sparesHonest 19 = .ok (.aaload, 1) := rfl
theorem dX11_sparesHonest_20 : decode cX11_sparesHonest 20 = .ok (.invokevirtual 243, 3) := rfl
theorem dX11_sparesHonest_23 : decode cX11_sparesHonest 23 = .ok (.aload_n 0, 1) := rfl
theorem dX11_sparesHonest_24 : decode cX11_sparesHonest 24 = .ok (.getfield 78, 3) := rfl
theorem dX11_sparesHonest_27 : decode cX11_sparesHonest 27 = .ok (.aload_n 1, 1) := rfl
theorem dX11_sparesHonest_28 : decode cX11_sparesHonest 28 = .ok (.invokevirtual 247, 3) := rfl
theorem dX11_sparesHonest_31 : decode cX11_sparesHonest 31 = .ok (.iconst (-1), 1) := rfl
theorem dX11_sparesHonest_32 : decode cX11_sparesHonest 32 = .ok (.if_icmp .eq 5, 3) := by decide +kernel
theorem dX11_sparesHonest_35 : decode cX11_sparesHonest 35 = .ok (.iconst 0, 1) := rfl
theorem dX11_sparesHonest_36 : decode cX11_sparesHonest 36 = .ok (.ireturn, 1) := rfl
theorem dX11_sparesHonest_37 : decode cX11_sparesHonest 37 = .ok (.iinc 2 1, 3) := by decide +kernel
theorem dX11_sparesHonest_40 : decode cX11_sparesHonest 40 = .ok (.goto (-38), 3) := by decide +kernel
theorem dX11_sparesHonest_43 : decode cX11_sparesHonest 43 = .ok (.iconst 1, 1) := rfl
theorem dX11_sparesHonest_44 : decode cX11_sparesHonest 44 = .ok (.ireturn, 1) := rfl
def m_X11_sparesHonest_2 : Nat → (Int32 → Hp → Prop) → Nat → Int32 → Hp → Prop
  | 0, _, _, _, _ => False
  | n + 1, Q, v1, v2, h => ((hI h 0 12) ≤ v2 → Q 1 h) ∧ (¬ (hI h 0 12) ≤ v2 → vp_in v2 6 ∧ ∃ b1 : Nat, hR h 13 (ix v2) = some b1 ∧ (m_X3_hear b1 h (fun (h3 : Hp) => m_X3_firstThatBars v1 h3 (fun (x4 : Int32) (h5 : Hp) => (x4 = (-1) → ∀ x6 : Int32, x6 = v2 + 1 → m_X11_sparesHonest_2 n Q v1 x6 h5) ∧ (¬ x4 = (-1) → Q 0 h5)))))
set_option maxHeartbeats 4000000 in
set_option maxRecDepth 100000 in
theorem s_X11_sparesHonest_2 {l : Launch} {G : Cx} {d : Nat} {h0 : Hp} (hd : 10 ≤ d) {Q : Int32 → Hp → Prop} : ∀ {n : Nat} {v1 : Nat} {v2 : Int32} {h : Hp}, m_X11_sparesHonest_2 n Q v1 v2 h → Rn l G d 0 0 MX11_sparesHonest h0 (qI Q) 2 [some (tR 11 0 (some 0)), some (tR 6 0 (some v1)), some (tI v2)] [] h 0 0 := by
  intro n
  induction n with
  | zero => intro v1 v2 h hm; exact hm.elim
  | succ n ih =>
    intro v1 v2 h hm
    have hk2 := fun (v1 : Nat) (v2 : Int32) (hh : Hp) (hm : m_X11_sparesHonest_2 n Q v1 v2 hh) => ih hm
    rw [m_X11_sparesHonest_2] at hm
    refine r_iload_n dX11_sparesHonest_2 rfl rfl ?_
    refine r_aload_n dX11_sparesHonest_3 rfl rfl ?_
    refine r_getI (k := 12) cl_11 dX11_sparesHonest_4 t_358 (Or.inl rfl) gf_11_12 ?_
    refine r_icmp_ge (tgt := 43) dX11_sparesHonest_7 rfl (fun hc => ?_) (fun hc => ?_)
    · replace hm := hm.1 hc
      refine r_iconst (v := 1) dX11_sparesHonest_43 rfl ?_
      exact r_bret dX11_sparesHonest_44 rfl ⟨by decide, by decide⟩ (by unfold bz; decide) ⟨_, rfl, hm⟩
    · replace hm := hm.2 hc
      refine r_aload_n dX11_sparesHonest_10 rfl rfl ?_
      refine r_getC (k := 15) cl_11 dX11_sparesHonest_11 t_361 gf_11_15.1 gf_11_15.2 (gc_11_15 _) ?_
      refine r_aload_n dX11_sparesHonest_14 rfl rfl ?_
      refine r_getC (k := 11) cl_11 dX11_sparesHonest_15 t_357 gf_11_11.1 gf_11_11.2 (gc_11_11 _) ?_
      refine r_iload_n dX11_sparesHonest_18 rfl rfl ?_
      obtain ⟨hi_b1, b1, hb_b1, hm⟩ := hm
      refine r_aaldS (kd := 0) (ti := 4) (cn := RX0) dX11_sparesHonest_19 rfl hi_b1 hb_b1 ?_
      refine r_callVU (d' := d - 1) (as := [tR 0 0 (some b1)]) (st := []) cl_3 dX11_sparesHonest_20 mi_X3_hear t_1065 t_1066 t_1067 rfl rfl (Nat.le_of_ble_eq_true rfl) (by omega) ⟨by decide, by decide⟩ ⟨rfl, rfl⟩ (s_X3_hear (by omega) hm) (fun h3 hm => ?_)
      refine r_aload_n dX11_sparesHonest_23 rfl rfl ?_
      refine r_getC (k := 15) cl_11 dX11_sparesHonest_24 t_361 gf_11_15.1 gf_11_15.2 (gc_11_15 _) ?_
      refine r_aload_n dX11_sparesHonest_27 rfl rfl ?_
      refine r_callVI (d' := d - 1) (as := [tR 6 0 (some v1)]) (st := []) cl_3 dX11_sparesHonest_28 mi_X3_firstThatBars t_1074 t_1075 t_1076 rfl rfl (Nat.le_of_ble_eq_true rfl) (by omega) ⟨by decide, by decide⟩ ⟨rfl, rfl⟩ (s_X3_firstThatBars (by omega) hm) (fun x4 h5 hm => ?_)
      refine r_iconst (v := (-1)) dX11_sparesHonest_31 rfl ?_
      refine r_icmp_eq (tgt := 37) dX11_sparesHonest_32 rfl (fun hc => ?_) (fun hc => ?_)
      · replace hm := hm.1 hc
        obtain ⟨x6, e_x6⟩ : ∃ y : Int32, y = v2 + 1 := ⟨_, rfl⟩
        replace hm := hm x6 e_x6
        refine r_iinc (L' := [some (tR 11 0 (some 0)), some (tR 6 0 (some v1)), some (tI x6)]) dX11_sparesHonest_37 rfl (by rw [e_x6]; rfl) (by decide) rfl ?_
        refine r_goto (tgt := 2) dX11_sparesHonest_40 rfl ?_
        refine r_keep (L' := [some (tR 11 0 (some 0)), some (tR 6 0 (some v1)), some (tI x6)]) [true, true, true] rfl ?_
        exact hk2 _ _ _ hm
      · replace hm := hm.2 hc
        refine r_iconst (v := 0) dX11_sparesHonest_35 rfl ?_
        exact r_bret dX11_sparesHonest_36 rfl ⟨by decide, by decide⟩ (by unfold bz; decide) ⟨_, rfl, hm⟩
def m_X11_sparesHonest (v1 : Nat) (h : Hp) (Q : Int32 → Hp → Prop) : Prop := ∃ n2, m_X11_sparesHonest_2 n2 Q v1 0 h
set_option maxHeartbeats 4000000 in
set_option maxRecDepth 100000 in
theorem s_X11_sparesHonest {l : Launch} {G : Cx} {d : Nat} (hd : 10 ≤ d) {v1 : Nat} {h : Hp} {Q : Int32 → Hp → Prop} (hm : m_X11_sparesHonest v1 h Q) : Ct l G d 0 0 yX11_sparesHonest MX11_sparesHonest [tR 11 0 (some 0), tR 6 0 (some v1)] h (qI Q) := by
  unfold m_X11_sparesHonest at hm
  refine Ct.of (L := [some (tR 11 0 (some 0)), some (tR 6 0 (some v1))]) (by decide) rfl rfl (Nat.le_of_ble_eq_true rfl) rfl ?_
  refine r_iconst (v := 0) dX11_sparesHonest_0 rfl ?_
  refine r_istore_n (L' := [some (tR 11 0 (some 0)), some (tR 6 0 (some v1)), some (tI 0)]) dX11_sparesHonest_1 rfl (by decide) rfl ?_
  refine r_keep (L' := [some (tR 11 0 (some 0)), some (tR 6 0 (some v1)), some (tI 0)]) [true, true, true] rfl ?_
  obtain ⟨n, hm⟩ := hm
  refine s_X11_sparesHonest_2 hd hm
theorem dX11_stop_0 : decode cX11_stop 0 = .ok (.iload_n 1, 1) := rfl
theorem dX11_stop_1 : decode cX11_stop 1 = .ok (.iconst 1, 1) := rfl
theorem dX11_stop_2 : decode cX11_stop 2 = .ok (.if_icmp .lt 9, 3) := by decide +kernel
theorem dX11_stop_5 : decode cX11_stop 5 = .ok (.iload_n 1, 1) := rfl
theorem dX11_stop_6 : decode cX11_stop 6 = .ok (.bipush 6, 2) := by decide +kernel
theorem dX11_stop_8 : decode cX11_stop 8 = .ok (.if_icmp .le 5, 3) := by decide +kernel
theorem dX11_stop_11 : decode cX11_stop 11 = .ok (.iconst (-1), 1) := rfl
theorem dX11_stop_12 : decode cX11_stop 12 = .ok (.ireturn, 1) := rfl
theorem dX11_stop_13 : decode cX11_stop 13 = .ok (.aload_n 0, 1) := rfl
theorem dX11_stop_14 : decode cX11_stop 14 = .ok (.getfield 87, 3) := rfl
theorem dX11_stop_17 : decode cX11_stop 17 = .ok (.iload_n 1, 1) := rfl
theorem dX11_stop_18 : decode cX11_stop 18 = .ok (.aload_n 0, 1) := rfl
theorem dX11_stop_19 : decode cX11_stop 19 = .ok (.invokevirtual 239, 3) := rfl
theorem dX11_stop_22 : decode cX11_stop 22 = .ok (.invokevirtual 263, 3) := rfl
theorem dX11_stop_25 : decode cX11_stop 25 = .ok (.iconst 0, 1) := rfl
theorem dX11_stop_26 : decode cX11_stop 26 = .ok (.istore_n 2, 1) := rfl
theorem dX11_stop_27 : decode cX11_stop 27 = .ok (.iconst 0, 1) := rfl
theorem dX11_stop_28 : decode cX11_stop 28 = .ok (.istore_n 3, 1) := rfl
theorem dX11_stop_29 : decode cX11_stop 29 = .ok (.iload_n 3, 1) := rfl
theorem dX11_stop_30 : decode cX11_stop 30 = .ok (.aload_n 0, 1) := rfl
theorem dX11_stop_31 : decode cX11_stop 31 = .ok (.getfield 149, 3) := rfl
theorem dX11_stop_34 : decode cX11_stop 34 = .ok (.if_icmp .ge 28, 3) := by decide +kernel
theorem dX11_stop_37 : decode cX11_stop 37 = .ok (.aload_n 0, 1) := rfl
theorem dX11_stop_38 : decode cX11_stop 38 = .ok (.aload_n 0, 1) := rfl
theorem dX11_stop_39 : decode cX11_stop 39 = .ok (.getfield 41, 3) := rfl
theorem dX11_stop_42 : decode cX11_stop 42 = .ok (.iload_n 3, 1) := rfl
theorem dX11_stop_43 : decode cX11_stop 43 = .ok (.aaload, 1) := rfl
theorem dX11_stop_44 : decode cX11_stop 44 = .ok (.invokevirtual 295, 3) := rfl
theorem dX11_stop_47 : decode cX11_stop 47 = .ok (.ifCond .eq 9, 3) := by decide +kernel
theorem dX11_stop_50 : decode cX11_stop 50 = .ok (.iload_n 2, 1) := rfl
theorem dX11_stop_51 : decode cX11_stop 51 = .ok (.iconst 1, 1) := rfl
theorem dX11_stop_52 : decode cX11_stop 52 = .ok (.iload_n 3, 1) := rfl
theorem dX11_stop_53 : decode cX11_stop 53 = .ok (.ishl, 1) := rfl
theorem dX11_stop_54 : decode cX11_stop 54 = .ok (.ior, 1) := rfl
theorem dX11_stop_55 : decode cX11_stop 55 = .ok (.istore_n 2, 1) := rfl
theorem dX11_stop_56 : decode cX11_stop 56 = .ok (.iinc 3 1, 3) := by decide +kernel
theorem dX11_stop_59 : decode cX11_stop 59 = .ok (.goto (-30), 3) := by decide +kernel
theorem dX11_stop_62 : decode cX11_stop 62 = .ok (.aload_n 0, 1) := rfl
theorem dX11_stop_63 : decode cX11_stop 63 = .ok (.getfield 87, 3) := rfl
theorem dX11_stop_66 : decode cX11_stop 66 = .ok (.iload_n 1, 1) := rfl
theorem dX11_stop_67 : decode cX11_stop 67 = .ok (.aload_n 0, 1) := rfl
theorem dX11_stop_68 : decode cX11_stop 68 = .ok (.getfield 41, 3) := rfl
theorem dX11_stop_71 : decode cX11_stop 71 = .ok (.iload_n 2, 1) := rfl
theorem dX11_stop_72 : decode cX11_stop 72 = .ok (.invokevirtual 299, 3) := rfl
theorem dX11_stop_75 : decode cX11_stop 75 = .ok (.ireturn, 1) := rfl
def m_X11_stop_62  (Q : Int32 → Hp → Prop) (v1 : Int32) (v2 : Int32) (h : Hp) : Prop := m_X7_fewestWords v1 10 12 v2 h (fun (x1 : Int32) (h2 : Hp) => Q x1 h2)
set_option maxHeartbeats 4000000 in
set_option maxRecDepth 100000 in
theorem s_X11_stop_62 {l : Launch} {G : Cx} {d : Nat} {h0 : Hp} (hd : 116 ≤ d) {Q : Int32 → Hp → Prop} {v1 : Int32} {v2 : Int32} {h : Hp} (hm : m_X11_stop_62 Q v1 v2 h) : Rn l G d 0 0 MX11_stop h0 (qI Q) 62 [some (tR 11 0 (some 0)), some (tI v1), some (tI v2)] [] h 0 0 := by
  unfold m_X11_stop_62 at hm
  refine r_aload_n dX11_stop_62 rfl rfl ?_
  refine r_getC (k := 16) cl_11 dX11_stop_63 t_362 gf_11_16.1 gf_11_16.2 (gc_11_16 _) ?_
  refine r_iload_n dX11_stop_66 rfl rfl ?_
  refine r_aload_n dX11_stop_67 rfl rfl ?_
  refine r_getC (k := 7) cl_11 dX11_stop_68 t_353 gf_11_7.1 gf_11_7.2 (gc_11_7 _) ?_
  refine r_iload_n dX11_stop_71 rfl rfl ?_
  refine r_callVI (d' := d - 1) (as := [tI v1, tR 56 12 (some 10), tI v2]) (st := []) cl_7 dX11_stop_72 mi_X7_fewestWords t_1207 t_1208 t_1209 rfl rfl (Nat.le_of_ble_eq_true rfl) (by omega) ⟨by decide, by decide⟩ ⟨rfl, rfl⟩ (s_X7_fewestWords (by omega) hm) (fun x1 h2 hm => ?_)
  exact r_ireturn dX11_stop_75 rfl ⟨by decide, by decide⟩ ⟨_, rfl, hm⟩
def m_X11_stop_56 (k29 : Int32 → Int32 → Int32 → Hp → Prop) (k62 : Int32 → Int32 → Hp → Prop) (Q : Int32 → Hp → Prop) (v1 : Int32) (v2 : Int32) (v3 : Int32) (h : Hp) : Prop := ∀ x3 : Int32, x3 = v3 + 1 → k29 v1 v2 x3 h
set_option maxHeartbeats 4000000 in
set_option maxRecDepth 100000 in
theorem s_X11_stop_56 {l : Launch} {G : Cx} {d : Nat} {h0 : Hp} (hd : 116 ≤ d) {k29 : Int32 → Int32 → Int32 → Hp → Prop} {k62 : Int32 → Int32 → Hp → Prop} {Q : Int32 → Hp → Prop} (hk29 : ∀ (v1 : Int32) (v2 : Int32) (v3 : Int32) (hh : Hp), k29 v1 v2 v3 hh → Rn l G d 0 0 MX11_stop h0 (qI Q) 29 [some (tR 11 0 (some 0)), some (tI v1), some (tI v2), some (tI v3)] [] hh 0 0) (hk62 : ∀ (v1 : Int32) (v2 : Int32) (hh : Hp), k62 v1 v2 hh → Rn l G d 0 0 MX11_stop h0 (qI Q) 62 [some (tR 11 0 (some 0)), some (tI v1), some (tI v2)] [] hh 0 0) {v1 : Int32} {v2 : Int32} {v3 : Int32} {h : Hp} (hm : m_X11_stop_56 k29 k62 Q v1 v2 v3 h) : Rn l G d 0 0 MX11_stop h0 (qI Q) 56 [some (tR 11 0 (some 0)), some (tI v1), some (tI v2), some (tI v3)] [] h 0 0 := by
  unfold m_X11_stop_56 at hm
  obtain ⟨x3, e_x3⟩ : ∃ y : Int32, y = v3 + 1 := ⟨_, rfl⟩
  replace hm := hm x3 e_x3
  refine r_iinc (L' := [some (tR 11 0 (some 0)), some (tI v1), some (tI v2), some (tI x3)]) dX11_stop_56 rfl (by rw [e_x3]; rfl) (by decide) rfl ?_
  refine r_goto (tgt := 29) dX11_stop_59 rfl ?_
  refine r_keep (L' := [some (tR 11 0 (some 0)), some (tI v1), some (tI v2), some (tI x3)]) [true, true, true, true] rfl ?_
  exact hk29 _ _ _ _ hm
def m_X11_stop_29 : Nat → (Int32 → Int32 → Hp → Prop) → (Int32 → Hp → Prop) → Int32 → Int32 → Int32 → Hp → Prop
  | 0, _, _, _, _, _, _ => False
  | n + 1, k62, Q, v1, v2, v3, h => ((hI h 0 8) ≤ v3 → k62 v1 v2 h) ∧ (¬ (hI h 0 8) ≤ v3 → vp_in v3 12 ∧ ∃ b4 : Nat, hR h 10 (ix v3) = some b4 ∧ (m_X11_sparesHonest b4 h (fun (x5 : Int32) (h6 : Hp) => (x5 = 0 → m_X11_stop_56 (fun (v1 : Int32) (v2 : Int32) (v3 : Int32) (hh : Hp) => m_X11_stop_29 n k62 Q v1 v2 v3 hh) k62 Q v1 v2 v3 h6) ∧ (¬ x5 = 0 → ∀ x7 : Int32, x7 = (v2 ||| (1 <<< (v3 &&& 31))) → m_X11_stop_56 (fun (v1 : Int32) (v2 : Int32) (v3 : Int32) (hh : Hp) => m_X11_stop_29 n k62 Q v1 v2 v3 hh) k62 Q v1 x7 v3 h6))))
set_option maxHeartbeats 4000000 in
set_option maxRecDepth 100000 in
theorem s_X11_stop_29 {l : Launch} {G : Cx} {d : Nat} {h0 : Hp} (hd : 116 ≤ d) {k62 : Int32 → Int32 → Hp → Prop} {Q : Int32 → Hp → Prop} (hk62 : ∀ (v1 : Int32) (v2 : Int32) (hh : Hp), k62 v1 v2 hh → Rn l G d 0 0 MX11_stop h0 (qI Q) 62 [some (tR 11 0 (some 0)), some (tI v1), some (tI v2)] [] hh 0 0) : ∀ {n : Nat} {v1 : Int32} {v2 : Int32} {v3 : Int32} {h : Hp}, m_X11_stop_29 n k62 Q v1 v2 v3 h → Rn l G d 0 0 MX11_stop h0 (qI Q) 29 [some (tR 11 0 (some 0)), some (tI v1), some (tI v2), some (tI v3)] [] h 0 0 := by
  intro n
  induction n with
  | zero => intro v1 v2 v3 h hm; exact hm.elim
  | succ n ih =>
    intro v1 v2 v3 h hm
    have hk29 := fun (v1 : Int32) (v2 : Int32) (v3 : Int32) (hh : Hp) (hm : m_X11_stop_29 n k62 Q v1 v2 v3 hh) => ih hm
    rw [m_X11_stop_29] at hm
    refine r_iload_n dX11_stop_29 rfl rfl ?_
    refine r_aload_n dX11_stop_30 rfl rfl ?_
    refine r_getI (k := 8) cl_11 dX11_stop_31 t_354 (Or.inl rfl) gf_11_8 ?_
    refine r_icmp_ge (tgt := 62) dX11_stop_34 rfl (fun hc => ?_) (fun hc => ?_)
    · replace hm := hm.1 hc
      refine r_keep (L' := [some (tR 11 0 (some 0)), some (tI v1), some (tI v2)]) [true, true, true] rfl ?_
      exact hk62 _ _ _ hm
    · replace hm := hm.2 hc
      refine r_aload_n dX11_stop_37 rfl rfl ?_
      refine r_aload_n dX11_stop_38 rfl rfl ?_
      refine r_getC (k := 7) cl_11 dX11_stop_39 t_353 gf_11_7.1 gf_11_7.2 (gc_11_7 _) ?_
      refine r_iload_n dX11_stop_42 rfl rfl ?_
      obtain ⟨hi_b4, b4, hb_b4, hm⟩ := hm
      refine r_aaldS (kd := 6) (ti := 6) (cn := RX6) dX11_stop_43 rfl hi_b4 hb_b4 ?_
      refine r_callVI (d' := d - 1) (as := [tR 6 0 (some b4)]) (st := []) cl_11 dX11_stop_44 mi_X11_sparesHonest t_1203 t_1205 ts_51 rfl rfl (Nat.le_of_ble_eq_true rfl) (by omega) ⟨by decide, by decide⟩ ⟨rfl, rfl⟩ (s_X11_sparesHonest (by omega) hm) (fun x5 h6 hm => ?_)
      refine r_if_eq (tgt := 56) dX11_stop_47 rfl (fun hc => ?_) (fun hc => ?_)
      · replace hm := hm.1 hc
        refine r_keep (L' := [some (tR 11 0 (some 0)), some (tI v1), some (tI v2), some (tI v3)]) [true, true, true, true] rfl ?_
        exact s_X11_stop_56 hd hk29 hk62 hm
      · replace hm := hm.2 hc
        refine r_iload_n dX11_stop_50 rfl rfl ?_
        refine r_iconst (v := 1) dX11_stop_51 rfl ?_
        refine r_iload_n dX11_stop_52 rfl rfl ?_
        refine r_ishl dX11_stop_53 ?_
        refine r_ior dX11_stop_54 ?_
        refine r_nmI (fun x7 e_x7 => ?_)
        replace hm := hm x7 e_x7
        refine r_istore_n (L' := [some (tR 11 0 (some 0)), some (tI v1), some (tI x7), some (tI v3)]) dX11_stop_55 rfl (by decide) rfl ?_
        refine r_keep (L' := [some (tR 11 0 (some 0)), some (tI v1), some (tI x7), some (tI v3)]) [true, true, true, true] rfl ?_
        exact s_X11_stop_56 hd hk29 hk62 hm
def m_X11_stop (v1 : Int32) (h : Hp) (Q : Int32 → Hp → Prop) : Prop := (v1 < 1 → Q (-1) h) ∧ (¬ v1 < 1 → (v1 ≤ 6 → m_X11_lawInForce h (fun (x8 : Option Nat) (h9 : Hp) => m_X7_look v1 x8 h9 (fun (h11 : Hp) => ∃ n29, m_X11_stop_29 n29 (m_X11_stop_62 Q) Q v1 0 0 h11))) ∧ (¬ v1 ≤ 6 → Q (-1) h))
set_option maxHeartbeats 4000000 in
set_option maxRecDepth 100000 in
theorem s_X11_stop {l : Launch} {G : Cx} {d : Nat} (hd : 116 ≤ d) {v1 : Int32} {h : Hp} {Q : Int32 → Hp → Prop} (hm : m_X11_stop v1 h Q) : Ct l G d 0 0 yX11_stop MX11_stop [tR 11 0 (some 0), tI v1] h (qI Q) := by
  unfold m_X11_stop at hm
  refine Ct.of (L := [some (tR 11 0 (some 0)), some (tI v1)]) (by decide) rfl rfl (Nat.le_of_ble_eq_true rfl) rfl ?_
  refine r_iload_n dX11_stop_0 rfl rfl ?_
  refine r_iconst (v := 1) dX11_stop_1 rfl ?_
  refine r_icmp_lt (tgt := 11) dX11_stop_2 rfl (fun hc => ?_) (fun hc => ?_)
  · replace hm := hm.1 hc
    refine r_iconst (v := (-1)) dX11_stop_11 rfl ?_
    exact r_ireturn dX11_stop_12 rfl ⟨by decide, by decide⟩ ⟨_, rfl, hm⟩
  · replace hm := hm.2 hc
    refine r_iload_n dX11_stop_5 rfl rfl ?_
    refine r_bipush (v := 6) dX11_stop_6 rfl ?_
    refine r_icmp_le (tgt := 13) dX11_stop_8 rfl (fun hc => ?_) (fun hc => ?_)
    · replace hm := hm.1 hc
      refine r_aload_n dX11_stop_13 rfl rfl ?_
      refine r_getC (k := 16) cl_11 dX11_stop_14 t_362 gf_11_16.1 gf_11_16.2 (gc_11_16 _) ?_
      refine r_iload_n dX11_stop_17 rfl rfl ?_
      refine r_aload_n dX11_stop_18 rfl rfl ?_
      refine r_callVR (d' := d - 1) (as := []) (st := [tI v1, tR 7 0 (some 32)]) cl_11 dX11_stop_19 mi_X11_lawInForce t_1061 t_1063 ts_39 rfl rfl (Nat.le_of_ble_eq_true rfl) (by omega) ⟨by decide, by decide⟩ ⟨rfl, rfl⟩ (s_X11_lawInForce (by omega) hm) (fun x8 h9 hm => ?_)
      refine r_callVU (d' := d - 1) (as := [tI v1, tR 6 0 x8]) (st := []) cl_7 dX11_stop_22 mi_X7_look t_1115 t_1116 t_1117 rfl rfl (Nat.le_of_ble_eq_true rfl) (by omega) ⟨by decide, by decide⟩ ⟨rfl, rfl⟩ (s_X7_look (by omega) hm) (fun h11 hm => ?_)
      refine r_iconst (v := 0) dX11_stop_25 rfl ?_
      refine r_istore_n (L' := [some (tR 11 0 (some 0)), some (tI v1), some (tI 0)]) dX11_stop_26 rfl (by decide) rfl ?_
      refine r_iconst (v := 0) dX11_stop_27 rfl ?_
      refine r_istore_n (L' := [some (tR 11 0 (some 0)), some (tI v1), some (tI 0), some (tI 0)]) dX11_stop_28 rfl (by decide) rfl ?_
      refine r_keep (L' := [some (tR 11 0 (some 0)), some (tI v1), some (tI 0), some (tI 0)]) [true, true, true, true] rfl ?_
      obtain ⟨n, hm⟩ := hm
      refine s_X11_stop_29 hd ?_ hm
      · exact (fun _ _ _ hm => s_X11_stop_62 hd hm)
    · replace hm := hm.2 hc
      refine r_iconst (v := (-1)) dX11_stop_11 rfl ?_
      exact r_ireturn dX11_stop_12 rfl ⟨by decide, by decide⟩ ⟨_, rfl, hm⟩
theorem dX11_heap_0 : decode cX11_heap 0 = .ok (.iload_n 1, 1) := rfl
theorem dX11_heap_1 : decode cX11_heap 1 = .ok (.ifCond .lt 19, 3) := by decide +kernel
theorem dX11_heap_4 : decode cX11_heap 4 = .ok (.iload_n 2, 1) := rfl
theorem dX11_heap_5 : decode cX11_heap 5 = .ok (.iconst (-1), 1) := rfl
theorem dX11_heap_6 : decode cX11_heap 6 = .ok (.if_icmp .eq 16, 3) := by decide +kernel
theorem dX11_heap_9 : decode cX11_heap 9 = .ok (.iload_n 2, 1) := rfl
theorem dX11_heap_10 : decode cX11_heap 10 = .ok (.aload_n 0, 1) := rfl
theorem dX11_heap_11 : decode cX11_heap 11 = .ok (.getfield 116, 3) := rfl
theorem dX11_heap_14 : decode cX11_heap 14 = .ok (.invokestatic 98, 3) := rfl
theorem dX11_heap_17 : decode cX11_heap 17 = .ok (.ifCond .ne 5, 3) := by decide +kernel
theorem dX11_heap_20 : decode cX11_heap 20 = .ok (.iconst (-1), 1) := rfl
theorem dX11_heap_21 : decode cX11_heap 21 = .ok (.ireturn, 1) := rfl
theorem dX11_heap_22 : decode cX11_heap 22 = .ok (.aload_n 0, 1) := rfl
theorem dX11_heap_23 : decode cX11_heap 23 = .ok (.getfield 94, 3) := rfl
theorem dX11_heap_26 : decode cX11_heap 26 = .ok (.aload_n 0, 1) := rfl
theorem dX11_heap_27 : decode cX11_heap 27 = .ok (.getfield 31, 3) := rfl
theorem dX11_heap_30 : decode cX11_heap 30 = .ok (.aload_n 0, 1) := rfl
theorem dX11_heap_31 : decode cX11_heap 31 = .ok (.getfield 116, 3) := rfl
theorem dX11_heap_34 : decode cX11_heap 34 = .ok (.iload_n 1, 1) := rfl
theorem dX11_heap_35 : decode cX11_heap 35 = .ok (.aload_n 0, 1) := rfl
theorem dX11_heap_36 : decode cX11_heap 36 = .ok (.getfield 9, 3) := rfl
theorem dX11_heap_39 : decode cX11_heap 39 = .ok (.invokevirtual 303, 3) := rfl
theorem dX11_heap_42 : decode cX11_heap 42 = .ok (.iload_n 2, 1) := rfl
theorem dX11_heap_43 : decode cX11_heap 43 = .ok (.iconst (-1), 1) := rfl
theorem dX11_heap_44 : decode cX11_heap 44 = .ok (.if_icmp .ne 17, 3) := by decide +kernel
theorem dX11_heap_47 : decode cX11_heap 47 = .ok (.aload_n 0, 1) := rfl
theorem dX11_heap_48 : decode cX11_heap 48 = .ok (.getfield 94, 3) := rfl
theorem dX11_heap_51 : decode cX11_heap 51 = .ok (.aload_n 0, 1) := rfl
theorem dX11_heap_52 : decode cX11_heap 52 = .ok (.getfield 116, 3) := rfl
theorem dX11_heap_55 : decode cX11_heap 55 = .ok (.invokevirtual 307, 3) := rfl
theorem dX11_heap_58 : decode cX11_heap 58 = .ok (.goto 12, 3) := by decide +kernel
theorem dX11_heap_61 : decode cX11_heap 61 = .ok (.aload_n 0, 1) := rfl
theorem dX11_heap_62 : decode cX11_heap 62 = .ok (.getfield 94, 3) := rfl
theorem dX11_heap_65 : decode cX11_heap 65 = .ok (.getfield 310, 3) := rfl
theorem dX11_heap_68 : decode cX11_heap 68 = .ok (.iload_n 2, 1) := rfl
theorem dX11_heap_69 : decode cX11_heap 69 = .ok (.iaload, 1) := rfl
theorem dX11_heap_70 : decode cX11_heap 70 = .ok (.ireturn, 1) := rfl
def m_X11_heap_22  (Q : Int32 → Hp → Prop) (v1 : Int32) (v2 : Int32) (h : Hp) : Prop := m_X4_gather 8 24 (hI h 0 4) v1 1 8 h (fun (h2 : Hp) => (¬ v2 = (-1) → vp_in v2 24 ∧ (Q (hI h2 47 (ix v2)) h2)) ∧ (v2 = (-1) → m_X4_heaps (hI h2 0 4) h2 (fun (x3 : Int32) (h4 : Hp) => Q x3 h4)))
set_option maxHeartbeats 4000000 in
set_option maxRecDepth 100000 in
theorem s_X11_heap_22 {l : Launch} {G : Cx} {d : Nat} {h0 : Hp} (hd : 6 ≤ d) {Q : Int32 → Hp → Prop} {v1 : Int32} {v2 : Int32} {h : Hp} (hm : m_X11_heap_22 Q v1 v2 h) : Rn l G d 0 0 MX11_heap h0 (qI Q) 22 [some (tR 11 0 (some 0)), some (tI v1), some (tI v2)] [] h 0 0 := by
  unfold m_X11_heap_22 at hm
  refine r_aload_n dX11_heap_22 rfl rfl ?_
  refine r_getC (k := 17) cl_11 dX11_heap_23 t_363 gf_11_17.1 gf_11_17.2 (gc_11_17 _) ?_
  refine r_aload_n dX11_heap_26 rfl rfl ?_
  refine r_getC (k := 3) cl_11 dX11_heap_27 t_349 gf_11_3.1 gf_11_3.2 (gc_11_3 _) ?_
  refine r_aload_n dX11_heap_30 rfl rfl ?_
  refine r_getI (k := 4) cl_11 dX11_heap_31 t_350 (Or.inl rfl) gf_11_4 ?_
  refine r_iload_n dX11_heap_34 rfl rfl ?_
  refine r_aload_n dX11_heap_35 rfl rfl ?_
  refine r_getC (k := 0) cl_11 dX11_heap_36 t_346 gf_11_0.1 gf_11_0.2 (gc_11_0 _) ?_
  refine r_callVU (d' := d - 1) (as := [tR 51 24 (some 8), tI (hI h 0 4), tI v1, tR 40 8 (some 1)]) (st := []) cl_4 dX11_heap_39 mi_X4_gather t_1227 t_1228 t_1229 rfl rfl (Nat.le_of_ble_eq_true rfl) (by omega) ⟨by decide, by decide⟩ ⟨rfl, rfl⟩ (s_X4_gather (by omega) hm) (fun h2 hm => ?_)
  refine r_iload_n dX11_heap_42 rfl rfl ?_
  refine r_iconst (v := (-1)) dX11_heap_43 rfl ?_
  refine r_icmp_ne (tgt := 61) dX11_heap_44 rfl (fun hc => ?_) (fun hc => ?_)
  · replace hm := hm.1 hc
    refine r_aload_n dX11_heap_61 rfl rfl ?_
    refine r_getC (k := 17) cl_11 dX11_heap_62 t_363 gf_11_17.1 gf_11_17.2 (gc_11_17 _) ?_
    refine r_getC (k := 4) cl_4 dX11_heap_65 t_327 gf_4_4.1 gf_4_4.2 (gc_4_4 _) ?_
    refine r_iload_n dX11_heap_68 rfl rfl ?_
    refine r_iald dX11_heap_69 hm.1 ?_
    replace hm := hm.2
    exact r_ireturn dX11_heap_70 rfl ⟨by decide, by decide⟩ ⟨_, rfl, hm⟩
  · replace hm := hm.2 hc
    refine r_aload_n dX11_heap_47 rfl rfl ?_
    refine r_getC (k := 17) cl_11 dX11_heap_48 t_363 gf_11_17.1 gf_11_17.2 (gc_11_17 _) ?_
    refine r_aload_n dX11_heap_51 rfl rfl ?_
    refine r_getI (k := 4) cl_11 dX11_heap_52 t_350 (Or.inl rfl) gf_11_4 ?_
    refine r_callVI (d' := d - 1) (as := [tI (hI h2 0 4)]) (st := []) cl_4 dX11_heap_55 mi_X4_heaps t_1244 t_1245 t_1246 rfl rfl (Nat.le_of_ble_eq_true rfl) (by omega) ⟨by decide, by decide⟩ ⟨rfl, rfl⟩ (s_X4_heaps (by omega) hm) (fun x3 h4 hm => ?_)
    refine r_goto (tgt := 70) dX11_heap_58 rfl ?_
    exact r_ireturn dX11_heap_70 rfl ⟨by decide, by decide⟩ ⟨_, rfl, hm⟩
def m_X11_heap (v1 : Int32) (v2 : Int32) (h : Hp) (Q : Int32 → Hp → Prop) : Prop := (v1 < 0 → Q (-1) h) ∧ (¬ v1 < 0 → (v2 = (-1) → m_X11_heap_22 Q v1 v2 h) ∧ (¬ v2 = (-1) → m_X11_isWithin v2 (hI h 0 4) h (fun (x5 : Int32) (h6 : Hp) => (¬ x5 = 0 → m_X11_heap_22 Q v1 v2 h6) ∧ (x5 = 0 → Q (-1) h6))))
set_option maxHeartbeats 4000000 in
set_option maxRecDepth 100000 in
theorem s_X11_heap {l : Launch} {G : Cx} {d : Nat} (hd : 6 ≤ d) {v1 : Int32} {v2 : Int32} {h : Hp} {Q : Int32 → Hp → Prop} (hm : m_X11_heap v1 v2 h Q) : Ct l G d 0 0 yX11_heap MX11_heap [tR 11 0 (some 0), tI v1, tI v2] h (qI Q) := by
  unfold m_X11_heap at hm
  refine Ct.of (L := [some (tR 11 0 (some 0)), some (tI v1), some (tI v2)]) (by decide) rfl rfl (Nat.le_of_ble_eq_true rfl) rfl ?_
  refine r_iload_n dX11_heap_0 rfl rfl ?_
  refine r_if_lt (tgt := 20) dX11_heap_1 rfl (fun hc => ?_) (fun hc => ?_)
  · replace hm := hm.1 hc
    refine r_iconst (v := (-1)) dX11_heap_20 rfl ?_
    exact r_ireturn dX11_heap_21 rfl ⟨by decide, by decide⟩ ⟨_, rfl, hm⟩
  · replace hm := hm.2 hc
    refine r_iload_n dX11_heap_4 rfl rfl ?_
    refine r_iconst (v := (-1)) dX11_heap_5 rfl ?_
    refine r_icmp_eq (tgt := 22) dX11_heap_6 rfl (fun hc => ?_) (fun hc => ?_)
    · replace hm := hm.1 hc
      refine r_keep (L' := [some (tR 11 0 (some 0)), some (tI v1), some (tI v2)]) [true, true, true] rfl ?_
      exact s_X11_heap_22 hd hm
    · replace hm := hm.2 hc
      refine r_iload_n dX11_heap_9 rfl rfl ?_
      refine r_aload_n dX11_heap_10 rfl rfl ?_
      refine r_getI (k := 4) cl_11 dX11_heap_11 t_350 (Or.inl rfl) gf_11_4 ?_
      refine r_callSI (d' := d - 1) (as := [tI v2, tI (hI h 0 4)]) (st := []) dX11_heap_14 mi_X11_isWithin t_405 t_406 rfl rfl (Nat.le_of_ble_eq_true rfl) (by omega) ⟨by decide, by decide⟩ ⟨rfl, rfl⟩ (s_X11_isWithin (by omega) hm) (fun x5 h6 hm => ?_)
      refine r_if_ne (tgt := 22) dX11_heap_17 rfl (fun hc => ?_) (fun hc => ?_)
      · replace hm := hm.1 hc
        refine r_keep (L' := [some (tR 11 0 (some 0)), some (tI v1), some (tI v2)]) [true, true, true] rfl ?_
        exact s_X11_heap_22 hd hm
      · replace hm := hm.2 hc
        refine r_iconst (v := (-1)) dX11_heap_20 rfl ?_
        exact r_ireturn dX11_heap_21 rfl ⟨by decide, by decide⟩ ⟨_, rfl, hm⟩
theorem dX11_group_0 : decode cX11_group 0 = .ok (.iload_n 1, 1) := rfl
theorem dX11_group_1 : decode cX11_group 1 = .ok (.ifCond .lt 14, 3) := by decide +kernel
theorem dX11_group_4 : decode cX11_group 4 = .ok (.iload_n 2, 1) := rfl
theorem dX11_group_5 : decode cX11_group 5 = .ok (.aload_n 0, 1) := rfl
theorem dX11_group_6 : decode cX11_group 6 = .ok (.getfield 116, 3) := rfl
theorem dX11_group_9 : decode cX11_group 9 = .ok (.invokestatic 98, 3) := rfl
theorem dX11_group_12 : decode cX11_group 12 = .ok (.ifCond .ne 5, 3) := by decide +kernel
theorem dX11_group_15 : decode cX11_group 15 = .ok (.iconst (-1), 1) := rfl
theorem dX11_group_16 : decode cX11_group 16 = .ok (.ireturn, 1) := rfl
theorem dX11_group_17 : decode cX11_group 17 = .ok (.aload_n 0, 1) := rfl
theorem dX11_group_18 : decode cX11_group 18 = .ok (.getfield 94, 3) := rfl
theorem dX11_group_21 : decode cX11_group 21 = .ok (.aload_n 0, 1) := rfl
theorem dX11_group_22 : decode cX11_group 22 = .ok (.getfield 31, 3) := rfl
theorem dX11_group_25 : decode cX11_group 25 = .ok (.aload_n 0, 1) := rfl
theorem dX11_group_26 : decode cX11_group 26 = .ok (.getfield 116, 3) := rfl
theorem dX11_group_29 : decode cX11_group 29 = .ok (.iload_n 1, 1) := rfl
theorem dX11_group_30 : decode cX11_group 30 = .ok (.aload_n 0, 1) := rfl
theorem dX11_group_31 : decode cX11_group 31 = .ok (.getfield 9, 3) := rfl
theorem dX11_group_34 : decode cX11_group 34 = .ok (.invokevirtual 303, 3) := rfl
theorem dX11_group_37 : decode cX11_group 37 = .ok (.aload_n 0, 1) := rfl
theorem dX11_group_38 : decode cX11_group 38 = .ok (.getfield 94, 3) := rfl
theorem dX11_group_41 : decode cX11_group 41 = .ok (.aload_n 0, 1) := rfl
theorem dX11_group_42 : decode cX11_group 42 = .ok (.getfield 31, 3) := rfl
theorem dX11_group_45 : decode cX11_group 45 = .ok (.aload_n 0, 1) := rfl
theorem dX11_group_46 : decode cX11_group 46 = .ok (.getfield 116, 3) := rfl
theorem dX11_group_49 : decode cX11_group 49 = .ok (.iload_n 2, 1) := rfl
theorem dX11_group_50 : decode cX11_group 50 = .ok (.invokevirtual 313, 3) := rfl
theorem dX11_group_53 : decode cX11_group 53 = .ok (.ifCond .eq 20, 3) := by decide +kernel
theorem dX11_group_56 : decode cX11_group 56 = .ok (.aload_n 0, 1) := rfl
theorem dX11_group_57 : decode cX11_group 57 = .ok (.getfield 64, 3) := rfl
theorem dX11_group_60 : decode cX11_group 60 = .ok (.aload_n 0, 1) := rfl
theorem dX11_group_61 : decode cX11_group 61 = .ok (.getfield 94, 3) := rfl
theorem dX11_group_64 : decode cX11_group 64 = .ok (.getfield 317, 3) := rfl
theorem dX11_group_67 : decode cX11_group 67 = .ok (.invokevirtual 283, 3) := rfl
theorem dX11_group_70 : decode cX11_group 70 = .ok (.goto 4, 3) := by decide +kernel
theorem dX11_group_73 : decode cX11_group 73 = .ok (.iconst (-1), 1) := rfl
theorem dX11_group_74 : decode cX11_group 74 = .ok (.ireturn, 1) := rfl
def m_X11_group (v1 : Int32) (v2 : Int32) (h : Hp) (Q : Int32 → Hp → Prop) : Prop := (v1 < 0 → Q (-1) h) ∧ (¬ v1 < 0 → m_X11_isWithin v2 (hI h 0 4) h (fun (x1 : Int32) (h2 : Hp) => (¬ x1 = 0 → m_X4_gather 8 24 (hI h2 0 4) v1 1 8 h2 (fun (h4 : Hp) => m_X4_fillBundle 8 24 (hI h4 0 4) v2 h4 (fun (x5 : Int32) (h6 : Hp) => (x5 = 0 → Q (-1) h6) ∧ (¬ x5 = 0 → m_X5_findLoan 48 h6 (fun (x7 : Int32) (h8 : Hp) => Q x7 h8))))) ∧ (x1 = 0 → Q (-1) h2)))
set_option maxHeartbeats 4000000 in
set_option maxRecDepth 100000 in
theorem s_X11_group {l : Launch} {G : Cx} {d : Nat} (hd : 12 ≤ d) {v1 : Int32} {v2 : Int32} {h : Hp} {Q : Int32 → Hp → Prop} (hm : m_X11_group v1 v2 h Q) : Ct l G d 0 0 yX11_group MX11_group [tR 11 0 (some 0), tI v1, tI v2] h (qI Q) := by
  unfold m_X11_group at hm
  refine Ct.of (L := [some (tR 11 0 (some 0)), some (tI v1), some (tI v2)]) (by decide) rfl rfl (Nat.le_of_ble_eq_true rfl) rfl ?_
  refine r_iload_n dX11_group_0 rfl rfl ?_
  refine r_if_lt (tgt := 15) dX11_group_1 rfl (fun hc => ?_) (fun hc => ?_)
  · replace hm := hm.1 hc
    refine r_iconst (v := (-1)) dX11_group_15 rfl ?_
    exact r_ireturn dX11_group_16 rfl ⟨by decide, by decide⟩ ⟨_, rfl, hm⟩
  · replace hm := hm.2 hc
    refine r_iload_n dX11_group_4 rfl rfl ?_
    refine r_aload_n dX11_group_5 rfl rfl ?_
    refine r_getI (k := 4) cl_11 dX11_group_6 t_350 (Or.inl rfl) gf_11_4 ?_
    refine r_callSI (d' := d - 1) (as := [tI v2, tI (hI h 0 4)]) (st := []) dX11_group_9 mi_X11_isWithin t_405 t_406 rfl rfl (Nat.le_of_ble_eq_true rfl) (by omega) ⟨by decide, by decide⟩ ⟨rfl, rfl⟩ (s_X11_isWithin (by omega) hm) (fun x1 h2 hm => ?_)
    refine r_if_ne (tgt := 17) dX11_group_12 rfl (fun hc => ?_) (fun hc => ?_)
    · replace hm := hm.1 hc
      refine r_aload_n dX11_group_17 rfl rfl ?_
      refine r_getC (k := 17) cl_11 dX11_group_18 t_363 gf_11_17.1 gf_11_17.2 (gc_11_17 _) ?_
      refine r_aload_n dX11_group_21 rfl rfl ?_
      refine r_getC (k := 3) cl_11 dX11_group_22 t_349 gf_11_3.1 gf_11_3.2 (gc_11_3 _) ?_
      refine r_aload_n dX11_group_25 rfl rfl ?_
      refine r_getI (k := 4) cl_11 dX11_group_26 t_350 (Or.inl rfl) gf_11_4 ?_
      refine r_iload_n dX11_group_29 rfl rfl ?_
      refine r_aload_n dX11_group_30 rfl rfl ?_
      refine r_getC (k := 0) cl_11 dX11_group_31 t_346 gf_11_0.1 gf_11_0.2 (gc_11_0 _) ?_
      refine r_callVU (d' := d - 1) (as := [tR 51 24 (some 8), tI (hI h2 0 4), tI v1, tR 40 8 (some 1)]) (st := []) cl_4 dX11_group_34 mi_X4_gather t_1227 t_1228 t_1229 rfl rfl (Nat.le_of_ble_eq_true rfl) (by omega) ⟨by decide, by decide⟩ ⟨rfl, rfl⟩ (s_X4_gather (by omega) hm) (fun h4 hm => ?_)
      refine r_aload_n dX11_group_37 rfl rfl ?_
      refine r_getC (k := 17) cl_11 dX11_group_38 t_363 gf_11_17.1 gf_11_17.2 (gc_11_17 _) ?_
      refine r_aload_n dX11_group_41 rfl rfl ?_
      refine r_getC (k := 3) cl_11 dX11_group_42 t_349 gf_11_3.1 gf_11_3.2 (gc_11_3 _) ?_
      refine r_aload_n dX11_group_45 rfl rfl ?_
      refine r_getI (k := 4) cl_11 dX11_group_46 t_350 (Or.inl rfl) gf_11_4 ?_
      refine r_iload_n dX11_group_49 rfl rfl ?_
      refine r_callVI (d' := d - 1) (as := [tR 51 24 (some 8), tI (hI h4 0 4), tI v2]) (st := []) cl_4 dX11_group_50 mi_X4_fillBundle t_1252 t_1253 t_1254 rfl rfl (Nat.le_of_ble_eq_true rfl) (by omega) ⟨by decide, by decide⟩ ⟨rfl, rfl⟩ (s_X4_fillBundle (by omega) hm) (fun x5 h6 hm => ?_)
      refine r_if_eq (tgt := 73) dX11_group_53 rfl (fun hc => ?_) (fun hc => ?_)
      · replace hm := hm.1 hc
        refine r_iconst (v := (-1)) dX11_group_73 rfl ?_
        exact r_ireturn dX11_group_74 rfl ⟨by decide, by decide⟩ ⟨_, rfl, hm⟩
      · replace hm := hm.2 hc
        refine r_aload_n dX11_group_56 rfl rfl ?_
        refine r_getC (k := 13) cl_11 dX11_group_57 t_359 gf_11_13.1 gf_11_13.2 (gc_11_13 _) ?_
        refine r_aload_n dX11_group_60 rfl rfl ?_
        refine r_getC (k := 17) cl_11 dX11_group_61 t_363 gf_11_17.1 gf_11_17.2 (gc_11_17 _) ?_
        refine r_getC (k := 5) cl_4 dX11_group_64 t_329 gf_4_5.1 gf_4_5.2 (gc_4_5 _) ?_
        refine r_callVI (d' := d - 1) (as := [tR 0 0 (some 48)]) (st := []) cl_5 dX11_group_67 mi_X5_findLoan t_1189 t_1148 t_1149 rfl rfl (Nat.le_of_ble_eq_true rfl) (by omega) ⟨by decide, by decide⟩ ⟨rfl, rfl⟩ (s_X5_findLoan (by omega) hm) (fun x7 h8 hm => ?_)
        refine r_goto (tgt := 74) dX11_group_70 rfl ?_
        exact r_ireturn dX11_group_74 rfl ⟨by decide, by decide⟩ ⟨_, rfl, hm⟩
    · replace hm := hm.2 hc
      refine r_iconst (v := (-1)) dX11_group_15 rfl ?_
      exact r_ireturn dX11_group_16 rfl ⟨by decide, by decide⟩ ⟨_, rfl, hm⟩
theorem dX11_count_0 : decode cX11_count 0 = .ok (.iload_n 1, 1) := by decide +kernel
theorem dX11_count_1 : decode cX11_count 1 = .ok (.tableswitch 141 0 9 #[55, 60, 65, 91, 96, 104, 112, 117, 125, 133], 55) := by decide +kernel
theorem dX11_count_56 : decode cX11_count 56 = .ok (.aload_n 0, 1) := by decide +kernel
theorem dX11_count_57 : decode cX11_count 57 = .ok (.getfield 116, 3) := by decide +kernel
theorem dX11_count_60 : decode cX11_count 60 = .ok (.ireturn, 1) := by decide +kernel
theorem dX11_count_61 : decode cX11_count 61 = .ok (.aload_n 0, 1) := by decide +kernel
theorem dX11_count_62 : decode cX11_count 62 = .ok (.getfield 139, 3) := by decide +kernel
theorem dX11_count_65 : decode cX11_count 65 = .ok (.ireturn, 1) := by decide +kernel
theorem dX11_count_66 : decode cX11_count 66 = .ok (.aload_n 0, 1) := by decide +kernel
theorem dX11_count_67 : decode cX11_count 67 = .ok (.getfield 139, 3) := by decide +kernel
theorem dX11_count_70 : decode cX11_count 70 = .ok (.ifCond .ne 7, 3) := by decide +kernel
theorem dX11_count_73 : decode cX11_count 73 = .ok (.iconst 0, 1) := by decide +kernel
theorem dX11_count_74 : decode cX11_count 74 = .ok (.goto 17, 3) := by decide +kernel
theorem dX11_count_77 : decode cX11_count 77 = .ok (.aload_n 0, 1) := by decide +kernel
theorem dX11_count_78 : decode cX11_count 78 = .ok (.getfield 37, 3) := by decide +kernel
theorem dX11_count_81 : decode cX11_count 81 = .ok (.aload_n 0, 1) := by decide +kernel
theorem dX11_count_82 : decode cX11_count 82 = .ok (.getfield 139, 3) := by decide +kernel
theorem dX11_count_85 : decode cX11_count 85 = .ok (.iconst 1, 1) := by decide +kernel
theorem dX11_count_86 : decode cX11_count 86 = .ok (.isub, 1) := by decide +kernel
theorem dX11_count_87 : decode cX11_count 87 = .ok (.aaload, 1) := by decide +kernel
theorem dX11_count_88 : decode cX11_count 88 = .ok (.getfield 320, 3) := by decide +kernel
theorem dX11_count_91 : decode cX11_count 91 = .ok (.ireturn, 1) := by decide +kernel
theorem dX11_count_92 : decode cX11_count 92 = .ok (.aload_n 0, 1) := by decide +kernel
theorem dX11_count_93 : decode cX11_count 93 = .ok (.getfield 149, 3) := by decide +kernel
theorem dX11_count_96 : decode cX11_count 96 = .ok (.ireturn, 1) := by decide +kernel
theorem dX11_count_97 : decode cX11_count 97 = .ok (.aload_n 0, 1) := by decide +kernel
theorem dX11_count_98 : decode cX11_count 98 = .ok (.getfield 51, 3) := by decide +kernel
theorem dX11_count_101 : decode cX11_count 101 = .ok (.getfield 181, 3) := by decide +kernel
theorem dX11_count_104 : decode cX11_count 104 = .ok (.ireturn, 1) := by decide +kernel
theorem dX11_count_105 : decode cX11_count 105 = .ok (.aload_n 0, 1) := by decide +kernel
theorem dX11_count_106 : decode cX11_count 106 = .ok (.getfield 87, 3) := by decide +kernel
theorem dX11_count_109 : decode cX11_count 109 = .ok (.getfield 260, 3) := by decide +kernel
theorem dX11_count_112 : decode cX11_count 112 = .ok (.ireturn, 1) := by decide +kernel
theorem dX11_count_113 : decode cX11_count 113 = .ok (.aload_n 0, 1) := by decide +kernel
theorem dX11_count_114 : decode cX11_count 114 = .ok (.getfield 273, 3) := by decide +kernel
theorem dX11_count_117 : decode cX11_count 117 = .ok (.ireturn, 1) := by decide +kernel
theorem dX11_count_118 : decode cX11_count 118 = .ok (.aload_n 0, 1) := by decide +kernel
theorem dX11_count_119 : decode cX11_count 119 = .ok (.getfield 51, 3) := by decide +kernel
theorem dX11_count_122 : decode cX11_count 122 = .ok (.invokevirtual 321, 3) := by decide +kernel
theorem dX11_count_125 : decode cX11_count 125 = .ok (.ireturn, 1) := by decide +kernel
theorem dX11_count_126 : decode cX11_count 126 = .ok (.aload_n 0, 1) := by decide +kernel
theorem dX11_count_127 : decode cX11_count 127 = .ok (.getfield 51, 3) := by decide +kernel
theorem dX11_count_130 : decode cX11_count 130 = .ok (.invokevirtual 324, 3) := by decide +kernel
theorem dX11_count_133 : decode cX11_count 133 = .ok (.ireturn, 1) := by decide +kernel
theorem dX11_count_134 : decode cX11_count 134 = .ok (.aload_n 0, 1) := by decide +kernel
theorem dX11_count_135 : decode cX11_count 135 = .ok (.getfield 16, 3) := by decide +kernel
theorem dX11_count_138 : decode cX11_count 138 = .ok (.getfield 109, 3) := by decide +kernel
theorem dX11_count_141 : decode cX11_count 141 = .ok (.ireturn, 1) := by decide +kernel
theorem dX11_count_142 : decode cX11_count 142 = .ok (.iconst (-1), 1) := by decide +kernel
theorem dX11_count_143 : decode cX11_count 143 = .ok (.ireturn, 1) := by decide +kernel
def m_X11_count (v1 : Int32) (h : Hp) (Q : Int32 → Hp → Prop) : Prop := (v1 = 0 → Q (hI h 0 4) h) ∧ (¬ v1 = 0 → (v1 = 1 → Q (hI h 0 6) h) ∧ (¬ v1 = 1 → (v1 = 2 → (¬ (hI h 0 6) = 0 → vp_in ((hI h 0 6) - 1) 6 ∧ ∃ b1 : Nat, hR h 9 (ix ((hI h 0 6) - 1)) = some b1 ∧ (Q (hI h b1 1) h)) ∧ ((hI h 0 6) = 0 → Q 0 h)) ∧ (¬ v1 = 2 → (v1 = 3 → Q (hI h 0 8) h) ∧ (¬ v1 = 3 → (v1 = 4 → Q (hI h 11 1) h) ∧ (¬ v1 = 4 → (v1 = 5 → Q (hI h 32 3) h) ∧ (¬ v1 = 5 → (v1 = 6 → Q (hI h 0 12) h) ∧ (¬ v1 = 6 → (v1 = 7 → m_X0_allLeaves 11 h (fun (x2 : Int32) (h3 : Hp) => Q x2 h3)) ∧ (¬ v1 = 7 → (v1 = 8 → m_X0_allChoices 11 h (fun (x4 : Int32) (h5 : Hp) => Q x4 h5)) ∧ (¬ v1 = 8 → (v1 = 9 → Q (hI h 2 1) h) ∧ (¬ v1 = 9 → Q (-1) h))))))))))
set_option maxHeartbeats 4000000 in
set_option maxRecDepth 100000 in
theorem s_X11_count {l : Launch} {G : Cx} {d : Nat} (hd : 6 ≤ d) {v1 : Int32} {h : Hp} {Q : Int32 → Hp → Prop} (hm : m_X11_count v1 h Q) : Ct l G d 0 0 yX11_count MX11_count [tR 11 0 (some 0), tI v1] h (qI Q) := by
  unfold m_X11_count at hm
  refine Ct.of (L := [some (tR 11 0 (some 0)), some (tI v1)]) (by decide) rfl rfl (Nat.le_of_ble_eq_true rfl) rfl ?_
  refine r_iload_n dX11_count_0 rfl rfl ?_
  by_cases hc0 : v1 = 0
  · refine r_tableIn (tgt := 56) (off := 55) dX11_count_1 (by rw [hc0]; decide) (by rw [hc0]; decide) (by rw [hc0]; rfl) rfl ?_
    replace hm := hm.1 hc0
    refine r_aload_n dX11_count_56 rfl rfl ?_
    refine r_getI (k := 4) cl_11 dX11_count_57 t_350 (Or.inl rfl) gf_11_4 ?_
    exact r_ireturn dX11_count_60 rfl ⟨by decide, by decide⟩ ⟨_, rfl, hm⟩
  replace hm := hm.2 hc0
  by_cases hc1 : v1 = 1
  · refine r_tableIn (tgt := 61) (off := 60) dX11_count_1 (by rw [hc1]; decide) (by rw [hc1]; decide) (by rw [hc1]; rfl) rfl ?_
    replace hm := hm.1 hc1
    refine r_aload_n dX11_count_61 rfl rfl ?_
    refine r_getI (k := 6) cl_11 dX11_count_62 t_352 (Or.inl rfl) gf_11_6 ?_
    exact r_ireturn dX11_count_65 rfl ⟨by decide, by decide⟩ ⟨_, rfl, hm⟩
  replace hm := hm.2 hc1
  by_cases hc2 : v1 = 2
  · refine r_tableIn (tgt := 66) (off := 65) dX11_count_1 (by rw [hc2]; decide) (by rw [hc2]; decide) (by rw [hc2]; rfl) rfl ?_
    replace hm := hm.1 hc2
    refine r_aload_n dX11_count_66 rfl rfl ?_
    refine r_getI (k := 6) cl_11 dX11_count_67 t_352 (Or.inl rfl) gf_11_6 ?_
    refine r_if_ne (tgt := 77) dX11_count_70 rfl (fun hc => ?_) (fun hc => ?_)
    · replace hm := hm.1 hc
      refine r_aload_n dX11_count_77 rfl rfl ?_
      refine r_getC (k := 5) cl_11 dX11_count_78 t_351 gf_11_5.1 gf_11_5.2 (gc_11_5 _) ?_
      refine r_aload_n dX11_count_81 rfl rfl ?_
      refine r_getI (k := 6) cl_11 dX11_count_82 t_352 (Or.inl rfl) gf_11_6 ?_
      refine r_iconst (v := 1) dX11_count_85 rfl ?_
      refine r_isub dX11_count_86 ?_
      obtain ⟨hi_b1, b1, hb_b1, hm⟩ := hm
      refine r_aaldS (kd := 6) (ti := 6) (cn := RX6) dX11_count_87 rfl hi_b1 hb_b1 ?_
      refine r_getI (k := 1) cl_6 dX11_count_88 t_776 (Or.inl rfl) gf_6_1 ?_
      exact r_ireturn dX11_count_91 rfl ⟨by decide, by decide⟩ ⟨_, rfl, hm⟩
    · replace hm := hm.2 hc
      refine r_iconst (v := 0) dX11_count_73 rfl ?_
      refine r_goto (tgt := 91) dX11_count_74 rfl ?_
      exact r_ireturn dX11_count_91 rfl ⟨by decide, by decide⟩ ⟨_, rfl, hm⟩
  replace hm := hm.2 hc2
  by_cases hc3 : v1 = 3
  · refine r_tableIn (tgt := 92) (off := 91) dX11_count_1 (by rw [hc3]; decide) (by rw [hc3]; decide) (by rw [hc3]; rfl) rfl ?_
    replace hm := hm.1 hc3
    refine r_aload_n dX11_count_92 rfl rfl ?_
    refine r_getI (k := 8) cl_11 dX11_count_93 t_354 (Or.inl rfl) gf_11_8 ?_
    exact r_ireturn dX11_count_96 rfl ⟨by decide, by decide⟩ ⟨_, rfl, hm⟩
  replace hm := hm.2 hc3
  by_cases hc4 : v1 = 4
  · refine r_tableIn (tgt := 97) (off := 96) dX11_count_1 (by rw [hc4]; decide) (by rw [hc4]; decide) (by rw [hc4]; rfl) rfl ?_
    replace hm := hm.1 hc4
    refine r_aload_n dX11_count_97 rfl rfl ?_
    refine r_getC (k := 10) cl_11 dX11_count_98 t_356 gf_11_10.1 gf_11_10.2 (gc_11_10 _) ?_
    refine r_getI (k := 1) cl_0 dX11_count_101 t_130 (Or.inl rfl) gf_0_1 ?_
    exact r_ireturn dX11_count_104 rfl ⟨by decide, by decide⟩ ⟨_, rfl, hm⟩
  replace hm := hm.2 hc4
  by_cases hc5 : v1 = 5
  · refine r_tableIn (tgt := 105) (off := 104) dX11_count_1 (by rw [hc5]; decide) (by rw [hc5]; decide) (by rw [hc5]; rfl) rfl ?_
    replace hm := hm.1 hc5
    refine r_aload_n dX11_count_105 rfl rfl ?_
    refine r_getC (k := 16) cl_11 dX11_count_106 t_362 gf_11_16.1 gf_11_16.2 (gc_11_16 _) ?_
    refine r_getI (k := 3) cl_7 dX11_count_109 t_271 (Or.inl rfl) gf_7_3 ?_
    exact r_ireturn dX11_count_112 rfl ⟨by decide, by decide⟩ ⟨_, rfl, hm⟩
  replace hm := hm.2 hc5
  by_cases hc6 : v1 = 6
  · refine r_tableIn (tgt := 113) (off := 112) dX11_count_1 (by rw [hc6]; decide) (by rw [hc6]; decide) (by rw [hc6]; rfl) rfl ?_
    replace hm := hm.1 hc6
    refine r_aload_n dX11_count_113 rfl rfl ?_
    refine r_getI (k := 12) cl_11 dX11_count_114 t_358 (Or.inl rfl) gf_11_12 ?_
    exact r_ireturn dX11_count_117 rfl ⟨by decide, by decide⟩ ⟨_, rfl, hm⟩
  replace hm := hm.2 hc6
  by_cases hc7 : v1 = 7
  · refine r_tableIn (tgt := 118) (off := 117) dX11_count_1 (by rw [hc7]; decide) (by rw [hc7]; decide) (by rw [hc7]; rfl) rfl ?_
    replace hm := hm.1 hc7
    refine r_aload_n dX11_count_118 rfl rfl ?_
    refine r_getC (k := 10) cl_11 dX11_count_119 t_356 gf_11_10.1 gf_11_10.2 (gc_11_10 _) ?_
    refine r_callVI (d' := d - 1) (as := []) (st := []) cl_0 dX11_count_122 mi_X0_allLeaves t_1261 t_1262 t_1263 rfl rfl (Nat.le_of_ble_eq_true rfl) (by omega) ⟨by decide, by decide⟩ ⟨rfl, rfl⟩ (s_X0_allLeaves (by omega) hm) (fun x2 h3 hm => ?_)
    exact r_ireturn dX11_count_125 rfl ⟨by decide, by decide⟩ ⟨_, rfl, hm⟩
  replace hm := hm.2 hc7
  by_cases hc8 : v1 = 8
  · refine r_tableIn (tgt := 126) (off := 125) dX11_count_1 (by rw [hc8]; decide) (by rw [hc8]; decide) (by rw [hc8]; rfl) rfl ?_
    replace hm := hm.1 hc8
    refine r_aload_n dX11_count_126 rfl rfl ?_
    refine r_getC (k := 10) cl_11 dX11_count_127 t_356 gf_11_10.1 gf_11_10.2 (gc_11_10 _) ?_
    refine r_callVI (d' := d - 1) (as := []) (st := []) cl_0 dX11_count_130 mi_X0_allChoices t_1265 t_907 t_908 rfl rfl (Nat.le_of_ble_eq_true rfl) (by omega) ⟨by decide, by decide⟩ ⟨rfl, rfl⟩ (s_X0_allChoices (by omega) hm) (fun x4 h5 hm => ?_)
    exact r_ireturn dX11_count_133 rfl ⟨by decide, by decide⟩ ⟨_, rfl, hm⟩
  replace hm := hm.2 hc8
  by_cases hc9 : v1 = 9
  · refine r_tableIn (tgt := 134) (off := 133) dX11_count_1 (by rw [hc9]; decide) (by rw [hc9]; decide) (by rw [hc9]; rfl) rfl ?_
    replace hm := hm.1 hc9
    refine r_aload_n dX11_count_134 rfl rfl ?_
    refine r_getC (k := 1) cl_11 dX11_count_135 t_347 gf_11_1.1 gf_11_1.2 (gc_11_1 _) ?_
    refine r_getI (k := 1) cl_10 dX11_count_138 t_39 (Or.inl rfl) gf_10_1 ?_
    exact r_ireturn dX11_count_141 rfl ⟨by decide, by decide⟩ ⟨_, rfl, hm⟩
  replace hm := hm.2 hc9
  refine r_tableOut (tgt := 142) dX11_count_1 (sw_out (n := 10) (fun k hk => by rcases (show k = 0 ∨ k = 1 ∨ k = 2 ∨ k = 3 ∨ k = 4 ∨ k = 5 ∨ k = 6 ∨ k = 7 ∨ k = 8 ∨ k = 9 by omega) with rfl | rfl | rfl | rfl | rfl | rfl | rfl | rfl | rfl | rfl <;> first | exact hc0 | exact hc1 | exact hc2 | exact hc3 | exact hc4 | exact hc5 | exact hc6 | exact hc7 | exact hc8 | exact hc9)) rfl ?_
  refine r_iconst (v := (-1)) dX11_count_142 rfl ?_
  exact r_ireturn dX11_count_143 rfl ⟨by decide, by decide⟩ ⟨_, rfl, hm⟩
theorem dX12_init_0 : decode cX12_init 0 = .ok (.aload_n 0, 1) := by decide +kernel
theorem dX12_init_1 : decode cX12_init 1 = .ok (.invokespecial 1, 3) := by decide +kernel
theorem dX12_init_4 : decode cX12_init 4 = .ok (.aload_n 0, 1) := by decide +kernel
theorem dX12_init_5 : decode cX12_init 5 = .ok (.bipush 8, 2) := by decide +kernel
theorem dX12_init_7 : decode cX12_init 7 = .ok (.newarray .int, 2) := by decide +kernel
theorem dX12_init_9 : decode cX12_init 9 = .ok (.putfield 7, 3) := by decide +kernel
theorem dX12_init_12 : decode cX12_init 12 = .ok (.aload_n 0, 1) := by decide +kernel
theorem dX12_init_13 : decode cX12_init 13 = .ok (.bipush 24, 2) := by decide +kernel
theorem dX12_init_15 : decode cX12_init 15 = .ok (.newarray .int, 2) := by decide +kernel
theorem dX12_init_17 : decode cX12_init 17 = .ok (.putfield 13, 3) := by decide +kernel
theorem dX12_init_20 : decode cX12_init 20 = .ok (.aload_n 0, 1) := by decide +kernel
theorem dX12_init_21 : decode cX12_init 21 = .ok (.bipush 24, 2) := by decide +kernel
theorem dX12_init_23 : decode cX12_init 23 = .ok (.newarray .int, 2) := by decide +kernel
theorem dX12_init_25 : decode cX12_init 25 = .ok (.putfield 16, 3) := by decide +kernel
theorem dX12_init_28 : decode cX12_init 28 = .ok (.aload_n 0, 1) := by decide +kernel
theorem dX12_init_29 : decode cX12_init 29 = .ok (.bipush 24, 2) := by decide +kernel
theorem dX12_init_31 : decode cX12_init 31 = .ok (.newarray .int, 2) := by decide +kernel
theorem dX12_init_33 : decode cX12_init 33 = .ok (.putfield 19, 3) := by decide +kernel
theorem dX12_init_36 : decode cX12_init 36 = .ok (.aload_n 0, 1) := by decide +kernel
theorem dX12_init_37 : decode cX12_init 37 = .ok (.bipush 24, 2) := by decide +kernel
theorem dX12_init_39 : decode cX12_init 39 = .ok (.newarray .int, 2) := by decide +kernel
theorem dX12_init_41 : decode cX12_init 41 = .ok (.putfield 22, 3) := by decide +kernel
theorem dX12_init_44 : decode cX12_init 44 = .ok (.aload_n 0, 1) := by decide +kernel
theorem dX12_init_45 : decode cX12_init 45 = .ok (.bipush 24, 2) := by decide +kernel
theorem dX12_init_47 : decode cX12_init 47 = .ok (.newarray .int, 2) := by decide +kernel
theorem dX12_init_49 : decode cX12_init 49 = .ok (.putfield 25, 3) := by decide +kernel
theorem dX12_init_52 : decode cX12_init 52 = .ok (.aload_n 0, 1) := by decide +kernel
theorem dX12_init_53 : decode cX12_init 53 = .ok (.sipush 2304, 3) := by decide +kernel
theorem dX12_init_56 : decode cX12_init 56 = .ok (.newarray .int, 2) := by decide +kernel
theorem dX12_init_58 : decode cX12_init 58 = .ok (.putfield 28, 3) := by decide +kernel
theorem dX12_init_61 : decode cX12_init 61 = .ok (.aload_n 0, 1) := by decide +kernel
theorem dX12_init_62 : decode cX12_init 62 = .ok (.sipush 2304, 3) := by decide +kernel
theorem dX12_init_65 : decode cX12_init 65 = .ok (.newarray .int, 2) := by decide +kernel
theorem dX12_init_67 : decode cX12_init 67 = .ok (.putfield 31, 3) := by decide +kernel
theorem dX12_init_70 : decode cX12_init 70 = .ok (.aload_n 0, 1) := by decide +kernel
theorem dX12_init_71 : decode cX12_init 71 = .ok (.sipush 2304, 3) := by decide +kernel
theorem dX12_init_74 : decode cX12_init 74 = .ok (.newarray .int, 2) := by decide +kernel
theorem dX12_init_76 : decode cX12_init 76 = .ok (.putfield 34, 3) := by decide +kernel
theorem dX12_init_79 : decode cX12_init 79 = .ok (.aload_n 0, 1) := by decide +kernel
theorem dX12_init_80 : decode cX12_init 80 = .ok (.sipush 2304, 3) := by decide +kernel
theorem dX12_init_83 : decode cX12_init 83 = .ok (.newarray .int, 2) := by decide +kernel
theorem dX12_init_85 : decode cX12_init 85 = .ok (.putfield 37, 3) := by decide +kernel
theorem dX12_init_88 : decode cX12_init 88 = .ok (.aload_n 0, 1) := by decide +kernel
theorem dX12_init_89 : decode cX12_init 89 = .ok (.sipush 2304, 3) := by decide +kernel
theorem dX12_init_92 : decode cX12_init 92 = .ok (.newarray .int, 2) := by decide +kernel
theorem dX12_init_94 : decode cX12_init 94 = .ok (.putfield 40, 3) := by decide +kernel
theorem dX12_init_97 : decode cX12_init 97 = .ok (.aload_n 0, 1) := by decide +kernel
theorem dX12_init_98 : decode cX12_init 98 = .ok (.sipush 2304, 3) := by decide +kernel
theorem dX12_init_101 : decode cX12_init 101 = .ok (.newarray .int, 2) := by decide +kernel
theorem dX12_init_103 : decode cX12_init 103 = .ok (.putfield 43, 3) := by decide +kernel
theorem dX12_init_106 : decode cX12_init 106 = .ok (.aload_n 0, 1) := by decide +kernel
theorem dX12_init_107 : decode cX12_init 107 = .ok (.sipush 2304, 3) := by decide +kernel
theorem dX12_init_110 : decode cX12_init 110 = .ok (.newarray .int, 2) := by decide +kernel
theorem dX12_init_112 : decode cX12_init 112 = .ok (.putfield 46, 3) := by decide +kernel
theorem dX12_init_115 : decode cX12_init 115 = .ok (.aload_n 0, 1) := by decide +kernel
theorem dX12_init_116 : decode cX12_init 116 = .ok (.sipush 2304, 3) := by decide +kernel
theorem dX12_init_119 : decode cX12_init 119 = .ok (.newarray .int, 2) := by decide +kernel
theorem dX12_init_121 : decode cX12_init 121 = .ok (.putfield 49, 3) := by decide +kernel
theorem dX12_init_124 : decode cX12_init 124 = .ok (.aload_n 0, 1) := by decide +kernel
theorem dX12_init_125 : decode cX12_init 125 = .ok (.sipush 2304, 3) := by decide +kernel
theorem dX12_init_128 : decode cX12_init 128 = .ok (.newarray .int, 2) := by decide +kernel
theorem dX12_init_130 : decode cX12_init 130 = .ok (.putfield 52, 3) := by decide +kernel
theorem dX12_init_133 : decode cX12_init 133 = .ok (.aload_n 0, 1) := by decide +kernel
theorem dX12_init_134 : decode cX12_init 134 = .ok (.sipush 2304, 3) := by decide +kernel
theorem dX12_init_137 : decode cX12_init 137 = .ok (.newarray .int, 2) := by decide +kernel
theorem dX12_init_139 : decode cX12_init 139 = .ok (.putfield 55, 3) := by decide +kernel
theorem dX12_init_142 : decode cX12_init 142 = .ok (.aload_n 0, 1) := by decide +kernel
theorem dX12_init_143 : decode cX12_init 143 = .ok (.sipush 2304, 3) := by decide +kernel
theorem dX12_init_146 : decode cX12_init 146 = .ok (.newarray .int, 2) := by decide +kernel
theorem dX12_init_148 : decode cX12_init 148 = .ok (.putfield 58, 3) := by decide +kernel
theorem dX12_init_151 : decode cX12_init 151 = .ok (.aload_n 0, 1) := by decide +kernel
theorem dX12_init_152 : decode cX12_init 152 = .ok (.sipush 2304, 3) := by decide +kernel
theorem dX12_init_155 : decode cX12_init 155 = .ok (.newarray .int, 2) := by decide +kernel
theorem dX12_init_157 : decode cX12_init 157 = .ok (.putfield 61, 3) := by decide +kernel
theorem dX12_init_160 : decode cX12_init 160 = .ok (.aload_n 0, 1) := by decide +kernel
theorem dX12_init_161 : decode cX12_init 161 = .ok (.sipush 2304, 3) := by decide +kernel
theorem dX12_init_164 : decode cX12_init 164 = .ok (.newarray .int, 2) := by decide +kernel
theorem dX12_init_166 : decode cX12_init 166 = .ok (.putfield 64, 3) := by decide +kernel
theorem dX12_init_169 : decode cX12_init 169 = .ok (.aload_n 0, 1) := by decide +kernel
theorem dX12_init_170 : decode cX12_init 170 = .ok (.sipush 600, 3) := by decide +kernel
theorem dX12_init_173 : decode cX12_init 173 = .ok (.newarray .byte, 2) := by decide +kernel
theorem dX12_init_175 : decode cX12_init 175 = .ok (.putfield 67, 3) := by decide +kernel
theorem dX12_init_178 : decode cX12_init 178 = .ok (.aload_n 0, 1) := by decide +kernel
theorem dX12_init_179 : decode cX12_init 179 = .ok (.iconst (-1), 1) := by decide +kernel
theorem dX12_init_180 : decode cX12_init 180 = .ok (.putfield 71, 3) := by decide +kernel
theorem dX12_init_183 : decode cX12_init 183 = .ok (.aload_n 0, 1) := by decide +kernel
theorem dX12_init_184 : decode cX12_init 184 = .ok (.bipush 6, 2) := by decide +kernel
theorem dX12_init_186 : decode cX12_init 186 = .ok (.newarray .int, 2) := by decide +kernel
theorem dX12_init_188 : decode cX12_init 188 = .ok (.putfield 75, 3) := by decide +kernel
theorem dX12_init_191 : decode cX12_init 191 = .ok (.aload_n 0, 1) := by decide +kernel
theorem dX12_init_192 : decode cX12_init 192 = .ok (.bipush 6, 2) := by decide +kernel
theorem dX12_init_194 : decode cX12_init 194 = .ok (.newarray .int, 2) := by decide +kernel
theorem dX12_init_196 : decode cX12_init 196 = .ok (.putfield 78, 3) := by decide +kernel
theorem dX12_init_199 : decode cX12_init 199 = .ok (.aload_n 0, 1) := by decide +kernel
theorem dX12_init_200 : decode cX12_init 200 = .ok (.bipush 96, 2) := by decide +kernel
theorem dX12_init_202 : decode cX12_init 202 = .ok (.newarray .boolean, 2) := by decide +kernel
theorem dX12_init_204 : decode cX12_init 204 = .ok (.putfield 81, 3) := by decide +kernel
theorem dX12_init_207 : decode cX12_init 207 = .ok (.aload_n 0, 1) := by decide +kernel
theorem dX12_init_208 : decode cX12_init 208 = .ok (.bipush 96, 2) := by decide +kernel
theorem dX12_init_210 : decode cX12_init 210 = .ok (.newarray .boolean, 2) := by decide +kernel
theorem dX12_init_212 : decode cX12_init 212 = .ok (.putfield 85, 3) := by decide +kernel
theorem dX12_init_215 : decode cX12_init 215 = .ok (.aload_n 0, 1) := by decide +kernel
theorem dX12_init_216 : decode cX12_init 216 = .ok (.bipush 96, 2) := by decide +kernel
theorem dX12_init_218 : decode cX12_init 218 = .ok (.newarray .int, 2) := by decide +kernel
theorem dX12_init_220 : decode cX12_init 220 = .ok (.putfield 88, 3) := by decide +kernel
theorem dX12_init_223 : decode cX12_init 223 = .ok (.aload_n 0, 1) := by decide +kernel
theorem dX12_init_224 : decode cX12_init 224 = .ok (.sipush 1600, 3) := by decide +kernel
theorem dX12_init_227 : decode cX12_init 227 = .ok (.newarray .int, 2) := by decide +kernel
theorem dX12_init_229 : decode cX12_init 229 = .ok (.putfield 91, 3) := by decide +kernel
theorem dX12_init_232 : decode cX12_init 232 = .ok (.aload_n 0, 1) := by decide +kernel
theorem dX12_init_233 : decode cX12_init 233 = .ok (.bipush 8, 2) := by decide +kernel
theorem dX12_init_235 : decode cX12_init 235 = .ok (.newarray .int, 2) := by decide +kernel
theorem dX12_init_237 : decode cX12_init 237 = .ok (.putfield 94, 3) := by decide +kernel
theorem dX12_init_240 : decode cX12_init 240 = .ok (.aload_n 0, 1) := by decide +kernel
theorem dX12_init_241 : decode cX12_init 241 = .ok (.sipush 256, 3) := by decide +kernel
theorem dX12_init_244 : decode cX12_init 244 = .ok (.newarray .int, 2) := by decide +kernel
theorem dX12_init_246 : decode cX12_init 246 = .ok (.putfield 97, 3) := by decide +kernel
theorem dX12_init_249 : decode cX12_init 249 = .ok (.aload_n 0, 1) := by decide +kernel
theorem dX12_init_250 : decode cX12_init 250 = .ok (.sipush 256, 3) := by decide +kernel
theorem dX12_init_253 : decode cX12_init 253 = .ok (.newarray .int, 2) := by decide +kernel
theorem dX12_init_255 : decode cX12_init 255 = .ok (.putfield 100, 3) := by decide +kernel
theorem dX12_init_258 : decode cX12_init 258 = .ok (.aload_n 0, 1) := by decide +kernel
theorem dX12_init_259 : decode cX12_init 259 = .ok (.sipush 256, 3) := by decide +kernel
theorem dX12_init_262 : decode cX12_init 262 = .ok (.newarray .int, 2) := by decide +kernel
theorem dX12_init_264 : decode cX12_init 264 = .ok (.putfield 103, 3) := by decide +kernel
theorem dX12_init_267 : decode cX12_init 267 = .ok (.aload_n 0, 1) := by decide +kernel
theorem dX12_init_268 : decode cX12_init 268 = .ok (.sipush 256, 3) := by decide +kernel
theorem dX12_init_271 : decode cX12_init 271 = .ok (.newarray .int, 2) := by decide +kernel
theorem dX12_init_273 : decode cX12_init 273 = .ok (.putfield 106, 3) := by decide +kernel
theorem dX12_init_276 : decode cX12_init 276 = .ok (.aload_n 0, 1) := by decide +kernel
theorem dX12_init_277 : decode cX12_init 277 = .ok (.sipush 256, 3) := by decide +kernel
theorem dX12_init_280 : decode cX12_init 280 = .ok (.newarray .long, 2) := by decide +kernel
theorem dX12_init_282 : decode cX12_init 282 = .ok (.putfield 109, 3) := by decide +kernel
theorem dX12_init_285 : decode cX12_init 285 = .ok (.aload_n 0, 1) := by decide +kernel
theorem dX12_init_286 : decode cX12_init 286 = .ok (.bipush 6, 2) := by decide +kernel
theorem dX12_init_288 : decode cX12_init 288 = .ok (.newarray .int, 2) := by decide +kernel
theorem dX12_init_290 : decode cX12_init 290 = .ok (.putfield 113, 3) := by decide +kernel
theorem dX12_init_293 : decode cX12_init 293 = .ok (.aload_n 0, 1) := by decide +kernel
theorem dX12_init_294 : decode cX12_init 294 = .ok (.bipush 6, 2) := by decide +kernel
theorem dX12_init_296 : decode cX12_init 296 = .ok (.newarray .int, 2) := by decide +kernel
theorem dX12_init_298 : decode cX12_init 298 = .ok (.putfield 116, 3) := by decide +kernel
theorem dX12_init_301 : decode cX12_init 301 = .ok (.aload_n 0, 1) := by decide +kernel
theorem dX12_init_302 : decode cX12_init 302 = .ok (.sipush 256, 3) := by decide +kernel
theorem dX12_init_305 : decode cX12_init 305 = .ok (.newarray .int, 2) := by decide +kernel
theorem dX12_init_307 : decode cX12_init 307 = .ok (.putfield 119, 3) := by decide +kernel
theorem dX12_init_310 : decode cX12_init 310 = .ok (.aload_n 0, 1) := by decide +kernel
theorem dX12_init_311 : decode cX12_init 311 = .ok (.bipush 8, 2) := by decide +kernel
theorem dX12_init_313 : decode cX12_init 313 = .ok (.newarray .boolean, 2) := by decide +kernel
theorem dX12_init_315 : decode cX12_init 315 = .ok (.putfield 122, 3) := by decide +kernel
theorem dX12_init_318 : decode cX12_init 318 = .ok (.aload_n 0, 1) := by decide +kernel
theorem dX12_init_319 : decode cX12_init 319 = .ok (.bipush 8, 2) := by decide +kernel
theorem dX12_init_321 : decode cX12_init 321 = .ok (.newarray .long, 2) := by decide +kernel
theorem dX12_init_323 : decode cX12_init 323 = .ok (.putfield 125, 3) := by decide +kernel
theorem dX12_init_326 : decode cX12_init 326 = .ok (.aload_n 0, 1) := by decide +kernel
theorem dX12_init_327 : decode cX12_init 327 = .ok (.bipush 8, 2) := by decide +kernel
theorem dX12_init_329 : decode cX12_init 329 = .ok (.newarray .int, 2) := by decide +kernel
theorem dX12_init_331 : decode cX12_init 331 = .ok (.putfield 128, 3) := by decide +kernel
theorem dX12_init_334 : decode cX12_init 334 = .ok (.aload_n 0, 1) := by decide +kernel
theorem dX12_init_335 : decode cX12_init 335 = .ok (.bipush 8, 2) := by decide +kernel
theorem dX12_init_337 : decode cX12_init 337 = .ok (.newarray .int, 2) := by decide +kernel
theorem dX12_init_339 : decode cX12_init 339 = .ok (.putfield 131, 3) := by decide +kernel
theorem dX12_init_342 : decode cX12_init 342 = .ok (.aload_n 0, 1) := by decide +kernel
theorem dX12_init_343 : decode cX12_init 343 = .ok (.bipush 6, 2) := by decide +kernel
theorem dX12_init_345 : decode cX12_init 345 = .ok (.newarray .int, 2) := by decide +kernel
theorem dX12_init_347 : decode cX12_init 347 = .ok (.putfield 134, 3) := by decide +kernel
theorem dX12_init_350 : decode cX12_init 350 = .ok (.aload_n 0, 1) := by decide +kernel
theorem dX12_init_351 : decode cX12_init 351 = .ok (.bipush 12, 2) := by decide +kernel
theorem dX12_init_353 : decode cX12_init 353 = .ok (.newarray .int, 2) := by decide +kernel
theorem dX12_init_355 : decode cX12_init 355 = .ok (.putfield 137, 3) := by decide +kernel
theorem dX12_init_358 : decode cX12_init 358 = .ok (.aload_n 0, 1) := by decide +kernel
theorem dX12_init_359 : decode cX12_init 359 = .ok (.sipush 240, 3) := by decide +kernel
theorem dX12_init_362 : decode cX12_init 362 = .ok (.newarray .int, 2) := by decide +kernel
theorem dX12_init_364 : decode cX12_init 364 = .ok (.putfield 140, 3) := by decide +kernel
theorem dX12_init_367 : decode cX12_init 367 = .ok (.aload_n 0, 1) := by decide +kernel
theorem dX12_init_368 : decode cX12_init 368 = .ok (.sipush 240, 3) := by decide +kernel
theorem dX12_init_371 : decode cX12_init 371 = .ok (.newarray .int, 2) := by decide +kernel
theorem dX12_init_373 : decode cX12_init 373 = .ok (.putfield 143, 3) := by decide +kernel
theorem dX12_init_376 : decode cX12_init 376 = .ok (.aload_n 0, 1) := by decide +kernel
theorem dX12_init_377 : decode cX12_init 377 = .ok (.sipush 240, 3) := by decide +kernel
theorem dX12_init_380 : decode cX12_init 380 = .ok (.newarray .int, 2) := by decide +kernel
theorem dX12_init_382 : decode cX12_init 382 = .ok (.putfield 146, 3) := by decide +kernel
theorem dX12_init_385 : decode cX12_init 385 = .ok (.aload_n 0, 1) := by decide +kernel
theorem dX12_init_386 : decode cX12_init 386 = .ok (.sipush 240, 3) := by decide +kernel
theorem dX12_init_389 : decode cX12_init 389 = .ok (.newarray .int, 2) := by decide +kernel
theorem dX12_init_391 : decode cX12_init 391 = .ok (.putfield 149, 3) := by decide +kernel
theorem dX12_init_394 : decode cX12_init 394 = .ok (.aload_n 0, 1) := by decide +kernel
theorem dX12_init_395 : decode cX12_init 395 = .ok (.sipush 240, 3) := by decide +kernel
theorem dX12_init_398 : decode cX12_init 398 = .ok (.newarray .int, 2) := by decide +kernel
theorem dX12_init_400 : decode cX12_init 400 = .ok (.putfield 152, 3) := by decide +kernel
theorem dX12_init_403 : decode cX12_init 403 = .ok (.aload_n 0, 1) := by decide +kernel
theorem dX12_init_404 : decode cX12_init 404 = .ok (.sipush 240, 3) := by decide +kernel
theorem dX12_init_407 : decode cX12_init 407 = .ok (.newarray .int, 2) := by decide +kernel
theorem dX12_init_409 : decode cX12_init 409 = .ok (.putfield 155, 3) := by decide +kernel
theorem dX12_init_412 : decode cX12_init 412 = .ok (.aload_n 0, 1) := by decide +kernel
theorem dX12_init_413 : decode cX12_init 413 = .ok (.sipush 240, 3) := by decide +kernel
theorem dX12_init_416 : decode cX12_init 416 = .ok (.newarray .boolean, 2) := by decide +kernel
theorem dX12_init_418 : decode cX12_init 418 = .ok (.putfield 158, 3) := by decide +kernel
theorem dX12_init_421 : decode cX12_init 421 = .ok (.aload_n 0, 1) := by decide +kernel
theorem dX12_init_422 : decode cX12_init 422 = .ok (.bipush 72, 2) := by decide +kernel
theorem dX12_init_424 : decode cX12_init 424 = .ok (.newarray .int, 2) := by decide +kernel
theorem dX12_init_426 : decode cX12_init 426 = .ok (.putfield 161, 3) := by decide +kernel
theorem dX12_init_429 : decode cX12_init 429 = .ok (.aload_n 0, 1) := by decide +kernel
theorem dX12_init_430 : decode cX12_init 430 = .ok (.bipush 72, 2) := by decide +kernel
theorem dX12_init_432 : decode cX12_init 432 = .ok (.newarray .int, 2) := by decide +kernel
theorem dX12_init_434 : decode cX12_init 434 = .ok (.putfield 164, 3) := by decide +kernel
theorem dX12_init_437 : decode cX12_init 437 = .ok (.aload_n 0, 1) := by decide +kernel
theorem dX12_init_438 : decode cX12_init 438 = .ok (.bipush 10, 2) := by decide +kernel
theorem dX12_init_440 : decode cX12_init 440 = .ok (.newarray .int, 2) := by decide +kernel
theorem dX12_init_442 : decode cX12_init 442 = .ok (.putfield 167, 3) := by decide +kernel
theorem dX12_init_445 : decode cX12_init 445 = .ok (.aload_n 0, 1) := by decide +kernel
theorem dX12_init_446 : decode cX12_init 446 = .ok (.sipush 1024, 3) := by decide +kernel
theorem dX12_init_449 : decode cX12_init 449 = .ok (.newarray .int, 2) := by decide +kernel
theorem dX12_init_451 : decode cX12_init 451 = .ok (.putfield 170, 3) := by decide +kernel
theorem dX12_init_454 : decode cX12_init 454 = .ok (.aload_n 0, 1) := by decide +kernel
theorem dX12_init_455 : decode cX12_init 455 = .ok (.bipush 6, 2) := by decide +kernel
theorem dX12_init_457 : decode cX12_init 457 = .ok (.newarray .int, 2) := by decide +kernel
theorem dX12_init_459 : decode cX12_init 459 = .ok (.putfield 173, 3) := by decide +kernel
theorem dX12_init_462 : decode cX12_init 462 = .ok (.aload_n 0, 1) := by decide +kernel
theorem dX12_init_463 : decode cX12_init 463 = .ok (.bipush 36, 2) := by decide +kernel
theorem dX12_init_465 : decode cX12_init 465 = .ok (.newarray .int, 2) := by decide +kernel
theorem dX12_init_467 : decode cX12_init 467 = .ok (.putfield 176, 3) := by decide +kernel
theorem dX12_init_470 : decode cX12_init 470 = .ok (.aload_n 0, 1) := by decide +kernel
theorem dX12_init_471 : decode cX12_init 471 = .ok (.bipush 48, 2) := by decide +kernel
theorem dX12_init_473 : decode cX12_init 473 = .ok (.newarray .long, 2) := by decide +kernel
theorem dX12_init_475 : decode cX12_init 475 = .ok (.putfield 179, 3) := by decide +kernel
theorem dX12_init_478 : decode cX12_init 478 = .ok (.aload_n 0, 1) := by decide +kernel
theorem dX12_init_479 : decode cX12_init 479 = .ok (.bipush 24, 2) := by decide +kernel
theorem dX12_init_481 : decode cX12_init 481 = .ok (.newarray .int, 2) := by decide +kernel
theorem dX12_init_483 : decode cX12_init 483 = .ok (.putfield 182, 3) := by decide +kernel
theorem dX12_init_486 : decode cX12_init 486 = .ok (.iconst 0, 1) := by decide +kernel
theorem dX12_init_487 : decode cX12_init 487 = .ok (.istore_n 1, 1) := by decide +kernel
theorem dX12_init_488 : decode cX12_init 488 = .ok (.iload_n 1, 1) := by decide +kernel
theorem dX12_init_489 : decode cX12_init 489 = .ok (.bipush 8, 2) := by decide +kernel
theorem dX12_init_491 : decode cX12_init 491 = .ok (.if_icmp .ge 16, 3) := by decide +kernel
theorem dX12_init_494 : decode cX12_init 494 = .ok (.aload_n 0, 1) := by decide +kernel
theorem dX12_init_495 : decode cX12_init 495 = .ok (.getfield 7, 3) := by decide +kernel
theorem dX12_init_498 : decode cX12_init 498 = .ok (.iload_n 1, 1) := by decide +kernel
theorem dX12_init_499 : decode cX12_init 499 = .ok (.iload_n 1, 1) := by decide +kernel
theorem dX12_init_500 : decode cX12_init 500 = .ok (.iastore, 1) := by decide +kernel
theorem dX12_init_501 : decode cX12_init 501 = .ok (.iinc 1 1, 3) := by decide +kernel
theorem dX12_init_504 : decode cX12_init 504 = .ok (.goto (-16), 3) := by decide +kernel
theorem dX12_init_507 : decode cX12_init 507 = .ok (.return_, 1) := by decide +kernel
def m_X12_init_488 : Nat → (Hp → Prop) → Nat → Int32 → Hp → Prop
  | 0, _, _, _, _ => False
  | n + 1, Q, v0, v1, h => (8 ≤ v1 → Q h) ∧ (¬ 8 ≤ v1 → hR h v0 0 = some 52 ∧ hT h 52 = (40, 8) ∧ (vp_in v1 8 ∧ (∀ x1 : Int32, x1 = v1 + 1 → m_X12_init_488 n Q v0 x1 (wI h 52 (ix v1) v1))))
set_option maxHeartbeats 4000000 in
set_option maxRecDepth 100000 in
theorem s_X12_init_488 {l : Launch} {G : Cx} {d : Nat} {h0 : Hp} (hd : 2 ≤ d) {Q : Hp → Prop} : ∀ {n : Nat} {v0 : Nat} {v1 : Int32} {h : Hp}, m_X12_init_488 n Q v0 v1 h → Rn l G d 56 37158 MX12_init h0 (qV Q) 488 [some (tR 32 0 (some v0)), some (tI v1)] [] h 56 37158 := by
  intro n
  induction n with
  | zero => intro v0 v1 h hm; exact hm.elim
  | succ n ih =>
    intro v0 v1 h hm
    have hk488 := fun (v0 : Nat) (v1 : Int32) (hh : Hp) (hm : m_X12_init_488 n Q v0 v1 hh) => ih hm
    rw [m_X12_init_488] at hm
    refine r_iload_n dX12_init_488 rfl rfl ?_
    refine r_bipush (v := 8) dX12_init_489 rfl ?_
    refine r_icmp_ge (tgt := 507) dX12_init_491 rfl (fun hc => ?_) (fun hc => ?_)
    · replace hm := hm.1 hc
      exact r_return dX12_init_507 rfl ⟨by decide, by decide⟩ ⟨rfl, hm⟩
    · replace hm := hm.2 hc
      refine r_aload_n dX12_init_494 rfl rfl ?_
      obtain ⟨hb_, ht_, hm⟩ := hm
      refine r_getW (k := 0) cl_12 dX12_init_495 t_1272 (Or.inr rfl) gf_12_0.1 hb_ ht_ ?_
      refine r_iload_n dX12_init_498 rfl rfl ?_
      refine r_iload_n dX12_init_499 rfl rfl ?_
      refine r_iast dX12_init_500 hm.1 ?_
      replace hm := hm.2
      obtain ⟨x1, e_x1⟩ : ∃ y : Int32, y = v1 + 1 := ⟨_, rfl⟩
      replace hm := hm x1 e_x1
      refine r_iinc (L' := [some (tR 32 0 (some v0)), some (tI x1)]) dX12_init_501 rfl (by rw [e_x1]; rfl) (by decide) rfl ?_
      refine r_goto (tgt := 488) dX12_init_504 rfl ?_
      refine r_keep (L' := [some (tR 32 0 (some v0)), some (tI x1)]) [true, true] rfl ?_
      exact hk488 _ _ _ hm
def m_X12_init (v0 : Nat) (h : Hp) (Q : Hp → Prop) : Prop := ∀ a2 : Nat, a2 = hN h → ∀ h3 : Hp, h3 = nw h (40, 8) → ∀ a4 : Nat, a4 = hN (wR h3 v0 0 (some a2)) → ∀ h5 : Hp, h5 = nw (wR h3 v0 0 (some a2)) (40, 24) → ∀ a6 : Nat, a6 = hN (wR h5 v0 2 (some a4)) → ∀ h7 : Hp, h7 = nw (wR h5 v0 2 (some a4)) (40, 24) → ∀ a8 : Nat, a8 = hN (wR h7 v0 3 (some a6)) → ∀ h9 : Hp, h9 = nw (wR h7 v0 3 (some a6)) (40, 24) → ∀ a10 : Nat, a10 = hN (wR h9 v0 4 (some a8)) → ∀ h11 : Hp, h11 = nw (wR h9 v0 4 (some a8)) (40, 24) → ∀ a12 : Nat, a12 = hN (wR h11 v0 5 (some a10)) → ∀ h13 : Hp, h13 = nw (wR h11 v0 5 (some a10)) (40, 24) → ∀ a14 : Nat, a14 = hN (wR h13 v0 6 (some a12)) → ∀ h15 : Hp, h15 = nw (wR h13 v0 6 (some a12)) (40, 2304) → ∀ a16 : Nat, a16 = hN (wR h15 v0 7 (some a14)) → ∀ h17 : Hp, h17 = nw (wR h15 v0 7 (some a14)) (40, 2304) → ∀ a18 : Nat, a18 = hN (wR h17 v0 8 (some a16)) → ∀ h19 : Hp, h19 = nw (wR h17 v0 8 (some a16)) (40, 2304) → ∀ a20 : Nat, a20 = hN (wR h19 v0 9 (some a18)) → ∀ h21 : Hp, h21 = nw (wR h19 v0 9 (some a18)) (40, 2304) → ∀ a22 : Nat, a22 = hN (wR h21 v0 10 (some a20)) → ∀ h23 : Hp, h23 = nw (wR h21 v0 10 (some a20)) (40, 2304) → ∀ a24 : Nat, a24 = hN (wR h23 v0 11 (some a22)) → ∀ h25 : Hp, h25 = nw (wR h23 v0 11 (some a22)) (40, 2304) → ∀ a26 : Nat, a26 = hN (wR h25 v0 12 (some a24)) → ∀ h27 : Hp, h27 = nw (wR h25 v0 12 (some a24)) (40, 2304) → ∀ a28 : Nat, a28 = hN (wR h27 v0 13 (some a26)) → ∀ h29 : Hp, h29 = nw (wR h27 v0 13 (some a26)) (40, 2304) → ∀ a30 : Nat, a30 = hN (wR h29 v0 14 (some a28)) → ∀ h31 : Hp, h31 = nw (wR h29 v0 14 (some a28)) (40, 2304) → ∀ a32 : Nat, a32 = hN (wR h31 v0 15 (some a30)) → ∀ h33 : Hp, h33 = nw (wR h31 v0 15 (some a30)) (40, 2304) → ∀ a34 : Nat, a34 = hN (wR h33 v0 16 (some a32)) → ∀ h35 : Hp, h35 = nw (wR h33 v0 16 (some a32)) (40, 2304) → ∀ a36 : Nat, a36 = hN (wR h35 v0 17 (some a34)) → ∀ h37 : Hp, h37 = nw (wR h35 v0 17 (some a34)) (40, 2304) → ∀ a38 : Nat, a38 = hN (wR h37 v0 18 (some a36)) → ∀ h39 : Hp, h39 = nw (wR h37 v0 18 (some a36)) (40, 2304) → ∀ a40 : Nat, a40 = hN (wR h39 v0 19 (some a38)) → ∀ h41 : Hp, h41 = nw (wR h39 v0 19 (some a38)) (41, 600) → ∀ a42 : Nat, a42 = hN (wI (wR h41 v0 20 (some a40)) v0 22 (-1)) → ∀ h43 : Hp, h43 = nw (wI (wR h41 v0 20 (some a40)) v0 22 (-1)) (40, 6) → ∀ a44 : Nat, a44 = hN (wR h43 v0 30 (some a42)) → ∀ h45 : Hp, h45 = nw (wR h43 v0 30 (some a42)) (40, 6) → ∀ a46 : Nat, a46 = hN (wR h45 v0 31 (some a44)) → ∀ h47 : Hp, h47 = nw (wR h45 v0 31 (some a44)) (42, 96) → ∀ a48 : Nat, a48 = hN (wR h47 v0 38 (some a46)) → ∀ h49 : Hp, h49 = nw (wR h47 v0 38 (some a46)) (42, 96) → ∀ a50 : Nat, a50 = hN (wR h49 v0 39 (some a48)) → ∀ h51 : Hp, h51 = nw (wR h49 v0 39 (some a48)) (40, 96) → ∀ a52 : Nat, a52 = hN (wR h51 v0 40 (some a50)) → ∀ h53 : Hp, h53 = nw (wR h51 v0 40 (some a50)) (40, 1600) → ∀ a54 : Nat, a54 = hN (wR h53 v0 44 (some a52)) → ∀ h55 : Hp, h55 = nw (wR h53 v0 44 (some a52)) (40, 8) → ∀ a56 : Nat, a56 = hN (wR h55 v0 46 (some a54)) → ∀ h57 : Hp, h57 = nw (wR h55 v0 46 (some a54)) (40, 256) → ∀ a58 : Nat, a58 = hN (wR h57 v0 49 (some a56)) → ∀ h59 : Hp, h59 = nw (wR h57 v0 49 (some a56)) (40, 256) → ∀ a60 : Nat, a60 = hN (wR h59 v0 50 (some a58)) → ∀ h61 : Hp, h61 = nw (wR h59 v0 50 (some a58)) (40, 256) → ∀ a62 : Nat, a62 = hN (wR h61 v0 51 (some a60)) → ∀ h63 : Hp, h63 = nw (wR h61 v0 51 (some a60)) (40, 256) → ∀ a64 : Nat, a64 = hN (wR h63 v0 52 (some a62)) → ∀ h65 : Hp, h65 = nw (wR h63 v0 52 (some a62)) (43, 256) → ∀ a66 : Nat, a66 = hN (wR h65 v0 53 (some a64)) → ∀ h67 : Hp, h67 = nw (wR h65 v0 53 (some a64)) (40, 6) → ∀ a68 : Nat, a68 = hN (wR h67 v0 56 (some a66)) → ∀ h69 : Hp, h69 = nw (wR h67 v0 56 (some a66)) (40, 6) → ∀ a70 : Nat, a70 = hN (wR h69 v0 57 (some a68)) → ∀ h71 : Hp, h71 = nw (wR h69 v0 57 (some a68)) (40, 256) → ∀ a72 : Nat, a72 = hN (wR h71 v0 62 (some a70)) → ∀ h73 : Hp, h73 = nw (wR h71 v0 62 (some a70)) (42, 8) → ∀ a74 : Nat, a74 = hN (wR h73 v0 63 (some a72)) → ∀ h75 : Hp, h75 = nw (wR h73 v0 63 (some a72)) (43, 8) → ∀ a76 : Nat, a76 = hN (wR h75 v0 64 (some a74)) → ∀ h77 : Hp, h77 = nw (wR h75 v0 64 (some a74)) (40, 8) → ∀ a78 : Nat, a78 = hN (wR h77 v0 65 (some a76)) → ∀ h79 : Hp, h79 = nw (wR h77 v0 65 (some a76)) (40, 8) → ∀ a80 : Nat, a80 = hN (wR h79 v0 66 (some a78)) → ∀ h81 : Hp, h81 = nw (wR h79 v0 66 (some a78)) (40, 6) → ∀ a82 : Nat, a82 = hN (wR h81 v0 69 (some a80)) → ∀ h83 : Hp, h83 = nw (wR h81 v0 69 (some a80)) (40, 12) → ∀ a84 : Nat, a84 = hN (wR h83 v0 70 (some a82)) → ∀ h85 : Hp, h85 = nw (wR h83 v0 70 (some a82)) (40, 240) → ∀ a86 : Nat, a86 = hN (wR h85 v0 71 (some a84)) → ∀ h87 : Hp, h87 = nw (wR h85 v0 71 (some a84)) (40, 240) → ∀ a88 : Nat, a88 = hN (wR h87 v0 72 (some a86)) → ∀ h89 : Hp, h89 = nw (wR h87 v0 72 (some a86)) (40, 240) → ∀ a90 : Nat, a90 = hN (wR h89 v0 73 (some a88)) → ∀ h91 : Hp, h91 = nw (wR h89 v0 73 (some a88)) (40, 240) → ∀ a92 : Nat, a92 = hN (wR h91 v0 74 (some a90)) → ∀ h93 : Hp, h93 = nw (wR h91 v0 74 (some a90)) (40, 240) → ∀ a94 : Nat, a94 = hN (wR h93 v0 75 (some a92)) → ∀ h95 : Hp, h95 = nw (wR h93 v0 75 (some a92)) (40, 240) → ∀ a96 : Nat, a96 = hN (wR h95 v0 76 (some a94)) → ∀ h97 : Hp, h97 = nw (wR h95 v0 76 (some a94)) (42, 240) → ∀ a98 : Nat, a98 = hN (wR h97 v0 77 (some a96)) → ∀ h99 : Hp, h99 = nw (wR h97 v0 77 (some a96)) (40, 72) → ∀ a100 : Nat, a100 = hN (wR h99 v0 81 (some a98)) → ∀ h101 : Hp, h101 = nw (wR h99 v0 81 (some a98)) (40, 72) → ∀ a102 : Nat, a102 = hN (wR h101 v0 82 (some a100)) → ∀ h103 : Hp, h103 = nw (wR h101 v0 82 (some a100)) (40, 10) → ∀ a104 : Nat, a104 = hN (wR h103 v0 86 (some a102)) → ∀ h105 : Hp, h105 = nw (wR h103 v0 86 (some a102)) (40, 1024) → ∀ a106 : Nat, a106 = hN (wR h105 v0 87 (some a104)) → ∀ h107 : Hp, h107 = nw (wR h105 v0 87 (some a104)) (40, 6) → ∀ a108 : Nat, a108 = hN (wR h107 v0 89 (some a106)) → ∀ h109 : Hp, h109 = nw (wR h107 v0 89 (some a106)) (40, 36) → ∀ a110 : Nat, a110 = hN (wR h109 v0 90 (some a108)) → ∀ h111 : Hp, h111 = nw (wR h109 v0 90 (some a108)) (43, 48) → ∀ a112 : Nat, a112 = hN (wR h111 v0 91 (some a110)) → ∀ h113 : Hp, h113 = nw (wR h111 v0 91 (some a110)) (40, 24) → ∃ n488, m_X12_init_488 n488 Q v0 0 (wR h113 v0 92 (some a112))
set_option maxHeartbeats 4000000 in
set_option maxRecDepth 100000 in
theorem s_X12_init {l : Launch} {G : Cx} {d : Nat} (hd : 2 ≤ d) {v0 : Nat} {h : Hp} {Q : Hp → Prop} (hm : m_X12_init v0 h Q) : Ct l G d 56 37158 yX12_init MX12_init [tR 32 0 (some v0)] h (qV Q) := by
  unfold m_X12_init at hm
  refine Ct.of (L := [some (tR 32 0 (some v0))]) (by decide) rfl rfl (Nat.le_of_ble_eq_true rfl) rfl ?_
  refine r_aload_n dX12_init_0 rfl rfl ?_
  refine r_objInit dX12_init_1 t_1271 t_29 t_30 (by omega) (Nat.le_of_ble_eq_true rfl) ?_
  refine r_aload_n dX12_init_4 rfl rfl ?_
  refine r_bipush (v := 8) dX12_init_5 rfl ?_
  refine r_newI (N := 8) dX12_init_7 t_61 (by decide) rfl (by decide) ⟨by decide, by decide⟩ ?_
  refine r_nmA (fun a2 e_a2 h3 e_h3 => ?_)
  replace hm := hm a2 e_a2 h3 e_h3
  refine r_putR0 (k := 0) cl_12 dX12_init_9 t_1272 (Or.inr rfl) gf_12_0.1 gf_12_0.2 (fun z => absurd z (by decide)) pf_12_0.1 (Or.inr ⟨pf_12_0.2, rfl, rfl⟩) ?_
  refine r_aload_n dX12_init_12 rfl rfl ?_
  refine r_bipush (v := 24) dX12_init_13 rfl ?_
  refine r_newI (N := 24) dX12_init_15 t_61 (by decide) rfl (by decide) ⟨by decide, by decide⟩ ?_
  refine r_nmA (fun a4 e_a4 h5 e_h5 => ?_)
  replace hm := hm a4 e_a4 h5 e_h5
  refine r_putR0 (k := 2) cl_12 dX12_init_17 t_1274 (Or.inr rfl) gf_12_2.1 gf_12_2.2 (fun z => absurd z (by decide)) pf_12_2.1 (Or.inr ⟨pf_12_2.2, rfl, rfl⟩) ?_
  refine r_aload_n dX12_init_20 rfl rfl ?_
  refine r_bipush (v := 24) dX12_init_21 rfl ?_
  refine r_newI (N := 24) dX12_init_23 t_61 (by decide) rfl (by decide) ⟨by decide, by decide⟩ ?_
  refine r_nmA (fun a6 e_a6 h7 e_h7 => ?_)
  replace hm := hm a6 e_a6 h7 e_h7
  refine r_putR0 (k := 3) cl_12 dX12_init_25 t_1275 (Or.inr rfl) gf_12_3.1 gf_12_3.2 (fun z => absurd z (by decide)) pf_12_3.1 (Or.inr ⟨pf_12_3.2, rfl, rfl⟩) ?_
  refine r_aload_n dX12_init_28 rfl rfl ?_
  refine r_bipush (v := 24) dX12_init_29 rfl ?_
  refine r_newI (N := 24) dX12_init_31 t_61 (by decide) rfl (by decide) ⟨by decide, by decide⟩ ?_
  refine r_nmA (fun a8 e_a8 h9 e_h9 => ?_)
  replace hm := hm a8 e_a8 h9 e_h9
  refine r_putR0 (k := 4) cl_12 dX12_init_33 t_1276 (Or.inr rfl) gf_12_4.1 gf_12_4.2 (fun z => absurd z (by decide)) pf_12_4.1 (Or.inr ⟨pf_12_4.2, rfl, rfl⟩) ?_
  refine r_aload_n dX12_init_36 rfl rfl ?_
  refine r_bipush (v := 24) dX12_init_37 rfl ?_
  refine r_newI (N := 24) dX12_init_39 t_61 (by decide) rfl (by decide) ⟨by decide, by decide⟩ ?_
  refine r_nmA (fun a10 e_a10 h11 e_h11 => ?_)
  replace hm := hm a10 e_a10 h11 e_h11
  refine r_putR0 (k := 5) cl_12 dX12_init_41 t_1277 (Or.inr rfl) gf_12_5.1 gf_12_5.2 (fun z => absurd z (by decide)) pf_12_5.1 (Or.inr ⟨pf_12_5.2, rfl, rfl⟩) ?_
  refine r_aload_n dX12_init_44 rfl rfl ?_
  refine r_bipush (v := 24) dX12_init_45 rfl ?_
  refine r_newI (N := 24) dX12_init_47 t_61 (by decide) rfl (by decide) ⟨by decide, by decide⟩ ?_
  refine r_nmA (fun a12 e_a12 h13 e_h13 => ?_)
  replace hm := hm a12 e_a12 h13 e_h13
  refine r_putR0 (k := 6) cl_12 dX12_init_49 t_1278 (Or.inr rfl) gf_12_6.1 gf_12_6.2 (fun z => absurd z (by decide)) pf_12_6.1 (Or.inr ⟨pf_12_6.2, rfl, rfl⟩) ?_
  refine r_aload_n dX12_init_52 rfl rfl ?_
  refine r_sipush (v := 2304) dX12_init_53 rfl ?_
  refine r_newI (N := 2304) dX12_init_56 t_61 (by decide) rfl (by decide) ⟨by decide, by decide⟩ ?_
  refine r_nmA (fun a14 e_a14 h15 e_h15 => ?_)
  replace hm := hm a14 e_a14 h15 e_h15
  refine r_putR0 (k := 7) cl_12 dX12_init_58 t_1279 (Or.inr rfl) gf_12_7.1 gf_12_7.2 (fun z => absurd z (by decide)) pf_12_7.1 (Or.inr ⟨pf_12_7.2, rfl, rfl⟩) ?_
  refine r_aload_n dX12_init_61 rfl rfl ?_
  refine r_sipush (v := 2304) dX12_init_62 rfl ?_
  refine r_newI (N := 2304) dX12_init_65 t_61 (by decide) rfl (by decide) ⟨by decide, by decide⟩ ?_
  refine r_nmA (fun a16 e_a16 h17 e_h17 => ?_)
  replace hm := hm a16 e_a16 h17 e_h17
  refine r_putR0 (k := 8) cl_12 dX12_init_67 t_1280 (Or.inr rfl) gf_12_8.1 gf_12_8.2 (fun z => absurd z (by decide)) pf_12_8.1 (Or.inr ⟨pf_12_8.2, rfl, rfl⟩) ?_
  refine r_aload_n dX12_init_70 rfl rfl ?_
  refine r_sipush (v := 2304) dX12_init_71 rfl ?_
  refine r_newI (N := 2304) dX12_init_74 t_61 (by decide) rfl (by decide) ⟨by decide, by decide⟩ ?_
  refine r_nmA (fun a18 e_a18 h19 e_h19 => ?_)
  replace hm := hm a18 e_a18 h19 e_h19
  refine r_putR0 (k := 9) cl_12 dX12_init_76 t_1281 (Or.inr rfl) gf_12_9.1 gf_12_9.2 (fun z => absurd z (by decide)) pf_12_9.1 (Or.inr ⟨pf_12_9.2, rfl, rfl⟩) ?_
  refine r_aload_n dX12_init_79 rfl rfl ?_
  refine r_sipush (v := 2304) dX12_init_80 rfl ?_
  refine r_newI (N := 2304) dX12_init_83 t_61 (by decide) rfl (by decide) ⟨by decide, by decide⟩ ?_
  refine r_nmA (fun a20 e_a20 h21 e_h21 => ?_)
  replace hm := hm a20 e_a20 h21 e_h21
  refine r_putR0 (k := 10) cl_12 dX12_init_85 t_1282 (Or.inr rfl) gf_12_10.1 gf_12_10.2 (fun z => absurd z (by decide)) pf_12_10.1 (Or.inr ⟨pf_12_10.2, rfl, rfl⟩) ?_
  refine r_aload_n dX12_init_88 rfl rfl ?_
  refine r_sipush (v := 2304) dX12_init_89 rfl ?_
  refine r_newI (N := 2304) dX12_init_92 t_61 (by decide) rfl (by decide) ⟨by decide, by decide⟩ ?_
  refine r_nmA (fun a22 e_a22 h23 e_h23 => ?_)
  replace hm := hm a22 e_a22 h23 e_h23
  refine r_putR0 (k := 11) cl_12 dX12_init_94 t_1283 (Or.inr rfl) gf_12_11.1 gf_12_11.2 (fun z => absurd z (by decide)) pf_12_11.1 (Or.inr ⟨pf_12_11.2, rfl, rfl⟩) ?_
  refine r_aload_n dX12_init_97 rfl rfl ?_
  refine r_sipush (v := 2304) dX12_init_98 rfl ?_
  refine r_newI (N := 2304) dX12_init_101 t_61 (by decide) rfl (by decide) ⟨by decide, by decide⟩ ?_
  refine r_nmA (fun a24 e_a24 h25 e_h25 => ?_)
  replace hm := hm a24 e_a24 h25 e_h25
  refine r_putR0 (k := 12) cl_12 dX12_init_103 t_1284 (Or.inr rfl) gf_12_12.1 gf_12_12.2 (fun z => absurd z (by decide)) pf_12_12.1 (Or.inr ⟨pf_12_12.2, rfl, rfl⟩) ?_
  refine r_aload_n dX12_init_106 rfl rfl ?_
  refine r_sipush (v := 2304) dX12_init_107 rfl ?_
  refine r_newI (N := 2304) dX12_init_110 t_61 (by decide) rfl (by decide) ⟨by decide, by decide⟩ ?_
  refine r_nmA (fun a26 e_a26 h27 e_h27 => ?_)
  replace hm := hm a26 e_a26 h27 e_h27
  refine r_putR0 (k := 13) cl_12 dX12_init_112 t_1285 (Or.inr rfl) gf_12_13.1 gf_12_13.2 (fun z => absurd z (by decide)) pf_12_13.1 (Or.inr ⟨pf_12_13.2, rfl, rfl⟩) ?_
  refine r_aload_n dX12_init_115 rfl rfl ?_
  refine r_sipush (v := 2304) dX12_init_116 rfl ?_
  refine r_newI (N := 2304) dX12_init_119 t_61 (by decide) rfl (by decide) ⟨by decide, by decide⟩ ?_
  refine r_nmA (fun a28 e_a28 h29 e_h29 => ?_)
  replace hm := hm a28 e_a28 h29 e_h29
  refine r_putR0 (k := 14) cl_12 dX12_init_121 t_1286 (Or.inr rfl) gf_12_14.1 gf_12_14.2 (fun z => absurd z (by decide)) pf_12_14.1 (Or.inr ⟨pf_12_14.2, rfl, rfl⟩) ?_
  refine r_aload_n dX12_init_124 rfl rfl ?_
  refine r_sipush (v := 2304) dX12_init_125 rfl ?_
  refine r_newI (N := 2304) dX12_init_128 t_61 (by decide) rfl (by decide) ⟨by decide, by decide⟩ ?_
  refine r_nmA (fun a30 e_a30 h31 e_h31 => ?_)
  replace hm := hm a30 e_a30 h31 e_h31
  refine r_putR0 (k := 15) cl_12 dX12_init_130 t_1287 (Or.inr rfl) gf_12_15.1 gf_12_15.2 (fun z => absurd z (by decide)) pf_12_15.1 (Or.inr ⟨pf_12_15.2, rfl, rfl⟩) ?_
  refine r_aload_n dX12_init_133 rfl rfl ?_
  refine r_sipush (v := 2304) dX12_init_134 rfl ?_
  refine r_newI (N := 2304) dX12_init_137 t_61 (by decide) rfl (by decide) ⟨by decide, by decide⟩ ?_
  refine r_nmA (fun a32 e_a32 h33 e_h33 => ?_)
  replace hm := hm a32 e_a32 h33 e_h33
  refine r_putR0 (k := 16) cl_12 dX12_init_139 t_1288 (Or.inr rfl) gf_12_16.1 gf_12_16.2 (fun z => absurd z (by decide)) pf_12_16.1 (Or.inr ⟨pf_12_16.2, rfl, rfl⟩) ?_
  refine r_aload_n dX12_init_142 rfl rfl ?_
  refine r_sipush (v := 2304) dX12_init_143 rfl ?_
  refine r_newI (N := 2304) dX12_init_146 t_61 (by decide) rfl (by decide) ⟨by decide, by decide⟩ ?_
  refine r_nmA (fun a34 e_a34 h35 e_h35 => ?_)
  replace hm := hm a34 e_a34 h35 e_h35
  refine r_putR0 (k := 17) cl_12 dX12_init_148 t_1289 (Or.inr rfl) gf_12_17.1 gf_12_17.2 (fun z => absurd z (by decide)) pf_12_17.1 (Or.inr ⟨pf_12_17.2, rfl, rfl⟩) ?_
  refine r_aload_n dX12_init_151 rfl rfl ?_
  refine r_sipush (v := 2304) dX12_init_152 rfl ?_
  refine r_newI (N := 2304) dX12_init_155 t_61 (by decide) rfl (by decide) ⟨by decide, by decide⟩ ?_
  refine r_nmA (fun a36 e_a36 h37 e_h37 => ?_)
  replace hm := hm a36 e_a36 h37 e_h37
  refine r_putR0 (k := 18) cl_12 dX12_init_157 t_1290 (Or.inr rfl) gf_12_18.1 gf_12_18.2 (fun z => absurd z (by decide)) pf_12_18.1 (Or.inr ⟨pf_12_18.2, rfl, rfl⟩) ?_
  refine r_aload_n dX12_init_160 rfl rfl ?_
  refine r_sipush (v := 2304) dX12_init_161 rfl ?_
  refine r_newI (N := 2304) dX12_init_164 t_61 (by decide) rfl (by decide) ⟨by decide, by decide⟩ ?_
  refine r_nmA (fun a38 e_a38 h39 e_h39 => ?_)
  replace hm := hm a38 e_a38 h39 e_h39
  refine r_putR0 (k := 19) cl_12 dX12_init_166 t_1291 (Or.inr rfl) gf_12_19.1 gf_12_19.2 (fun z => absurd z (by decide)) pf_12_19.1 (Or.inr ⟨pf_12_19.2, rfl, rfl⟩) ?_
  refine r_aload_n dX12_init_169 rfl rfl ?_
  refine r_sipush (v := 600) dX12_init_170 rfl ?_
  refine r_newB (N := 600) dX12_init_173 t_758 (by decide) rfl (by decide) ⟨by decide, by decide⟩ ?_
  refine r_nmA (fun a40 e_a40 h41 e_h41 => ?_)
  replace hm := hm a40 e_a40 h41 e_h41
  refine r_putR0 (k := 20) cl_12 dX12_init_175 t_1292 (Or.inr rfl) gf_12_20.1 gf_12_20.2 (fun z => absurd z (by decide)) pf_12_20.1 (Or.inr ⟨pf_12_20.2, rfl, rfl⟩) ?_
  refine r_aload_n dX12_init_178 rfl rfl ?_
  refine r_iconst (v := (-1)) dX12_init_179 rfl ?_
  refine r_putI0 (k := 22) cl_12 dX12_init_180 t_1294 (Or.inr rfl) gf_12_22 pf_12_22.1 (Or.inl pf_12_22.2) ?_
  refine r_aload_n dX12_init_183 rfl rfl ?_
  refine r_bipush (v := 6) dX12_init_184 rfl ?_
  refine r_newI (N := 6) dX12_init_186 t_61 (by decide) rfl (by decide) ⟨by decide, by decide⟩ ?_
  refine r_nmA (fun a42 e_a42 h43 e_h43 => ?_)
  replace hm := hm a42 e_a42 h43 e_h43
  refine r_putR0 (k := 30) cl_12 dX12_init_188 t_1302 (Or.inr rfl) gf_12_30.1 gf_12_30.2 (fun z => absurd z (by decide)) pf_12_30.1 (Or.inr ⟨pf_12_30.2, rfl, rfl⟩) ?_
  refine r_aload_n dX12_init_191 rfl rfl ?_
  refine r_bipush (v := 6) dX12_init_192 rfl ?_
  refine r_newI (N := 6) dX12_init_194 t_61 (by decide) rfl (by decide) ⟨by decide, by decide⟩ ?_
  refine r_nmA (fun a44 e_a44 h45 e_h45 => ?_)
  replace hm := hm a44 e_a44 h45 e_h45
  refine r_putR0 (k := 31) cl_12 dX12_init_196 t_1303 (Or.inr rfl) gf_12_31.1 gf_12_31.2 (fun z => absurd z (by decide)) pf_12_31.1 (Or.inr ⟨pf_12_31.2, rfl, rfl⟩) ?_
  refine r_aload_n dX12_init_199 rfl rfl ?_
  refine r_bipush (v := 96) dX12_init_200 rfl ?_
  refine r_newZ (N := 96) dX12_init_202 t_1552 (by decide) rfl (by decide) ⟨by decide, by decide⟩ ?_
  refine r_nmA (fun a46 e_a46 h47 e_h47 => ?_)
  replace hm := hm a46 e_a46 h47 e_h47
  refine r_putR0 (k := 38) cl_12 dX12_init_204 t_1310 (Or.inr rfl) gf_12_38.1 gf_12_38.2 (fun z => absurd z (by decide)) pf_12_38.1 (Or.inr ⟨pf_12_38.2, rfl, rfl⟩) ?_
  refine r_aload_n dX12_init_207 rfl rfl ?_
  refine r_bipush (v := 96) dX12_init_208 rfl ?_
  refine r_newZ (N := 96) dX12_init_210 t_1552 (by decide) rfl (by decide) ⟨by decide, by decide⟩ ?_
  refine r_nmA (fun a48 e_a48 h49 e_h49 => ?_)
  replace hm := hm a48 e_a48 h49 e_h49
  refine r_putR0 (k := 39) cl_12 dX12_init_212 t_1311 (Or.inr rfl) gf_12_39.1 gf_12_39.2 (fun z => absurd z (by decide)) pf_12_39.1 (Or.inr ⟨pf_12_39.2, rfl, rfl⟩) ?_
  refine r_aload_n dX12_init_215 rfl rfl ?_
  refine r_bipush (v := 96) dX12_init_216 rfl ?_
  refine r_newI (N := 96) dX12_init_218 t_61 (by decide) rfl (by decide) ⟨by decide, by decide⟩ ?_
  refine r_nmA (fun a50 e_a50 h51 e_h51 => ?_)
  replace hm := hm a50 e_a50 h51 e_h51
  refine r_putR0 (k := 40) cl_12 dX12_init_220 t_1312 (Or.inr rfl) gf_12_40.1 gf_12_40.2 (fun z => absurd z (by decide)) pf_12_40.1 (Or.inr ⟨pf_12_40.2, rfl, rfl⟩) ?_
  refine r_aload_n dX12_init_223 rfl rfl ?_
  refine r_sipush (v := 1600) dX12_init_224 rfl ?_
  refine r_newI (N := 1600) dX12_init_227 t_61 (by decide) rfl (by decide) ⟨by decide, by decide⟩ ?_
  refine r_nmA (fun a52 e_a52 h53 e_h53 => ?_)
  replace hm := hm a52 e_a52 h53 e_h53
  refine r_putR0 (k := 44) cl_12 dX12_init_229 t_1316 (Or.inr rfl) gf_12_44.1 gf_12_44.2 (fun z => absurd z (by decide)) pf_12_44.1 (Or.inr ⟨pf_12_44.2, rfl, rfl⟩) ?_
  refine r_aload_n dX12_init_232 rfl rfl ?_
  refine r_bipush (v := 8) dX12_init_233 rfl ?_
  refine r_newI (N := 8) dX12_init_235 t_61 (by decide) rfl (by decide) ⟨by decide, by decide⟩ ?_
  refine r_nmA (fun a54 e_a54 h55 e_h55 => ?_)
  replace hm := hm a54 e_a54 h55 e_h55
  refine r_putR0 (k := 46) cl_12 dX12_init_237 t_1318 (Or.inr rfl) gf_12_46.1 gf_12_46.2 (fun z => absurd z (by decide)) pf_12_46.1 (Or.inr ⟨pf_12_46.2, rfl, rfl⟩) ?_
  refine r_aload_n dX12_init_240 rfl rfl ?_
  refine r_sipush (v := 256) dX12_init_241 rfl ?_
  refine r_newI (N := 256) dX12_init_244 t_61 (by decide) rfl (by decide) ⟨by decide, by decide⟩ ?_
  refine r_nmA (fun a56 e_a56 h57 e_h57 => ?_)
  replace hm := hm a56 e_a56 h57 e_h57
  refine r_putR0 (k := 49) cl_12 dX12_init_246 t_1321 (Or.inr rfl) gf_12_49.1 gf_12_49.2 (fun z => absurd z (by decide)) pf_12_49.1 (Or.inr ⟨pf_12_49.2, rfl, rfl⟩) ?_
  refine r_aload_n dX12_init_249 rfl rfl ?_
  refine r_sipush (v := 256) dX12_init_250 rfl ?_
  refine r_newI (N := 256) dX12_init_253 t_61 (by decide) rfl (by decide) ⟨by decide, by decide⟩ ?_
  refine r_nmA (fun a58 e_a58 h59 e_h59 => ?_)
  replace hm := hm a58 e_a58 h59 e_h59
  refine r_putR0 (k := 50) cl_12 dX12_init_255 t_1322 (Or.inr rfl) gf_12_50.1 gf_12_50.2 (fun z => absurd z (by decide)) pf_12_50.1 (Or.inr ⟨pf_12_50.2, rfl, rfl⟩) ?_
  refine r_aload_n dX12_init_258 rfl rfl ?_
  refine r_sipush (v := 256) dX12_init_259 rfl ?_
  refine r_newI (N := 256) dX12_init_262 t_61 (by decide) rfl (by decide) ⟨by decide, by decide⟩ ?_
  refine r_nmA (fun a60 e_a60 h61 e_h61 => ?_)
  replace hm := hm a60 e_a60 h61 e_h61
  refine r_putR0 (k := 51) cl_12 dX12_init_264 t_1323 (Or.inr rfl) gf_12_51.1 gf_12_51.2 (fun z => absurd z (by decide)) pf_12_51.1 (Or.inr ⟨pf_12_51.2, rfl, rfl⟩) ?_
  refine r_aload_n dX12_init_267 rfl rfl ?_
  refine r_sipush (v := 256) dX12_init_268 rfl ?_
  refine r_newI (N := 256) dX12_init_271 t_61 (by decide) rfl (by decide) ⟨by decide, by decide⟩ ?_
  refine r_nmA (fun a62 e_a62 h63 e_h63 => ?_)
  replace hm := hm a62 e_a62 h63 e_h63
  refine r_putR0 (k := 52) cl_12 dX12_init_273 t_1324 (Or.inr rfl) gf_12_52.1 gf_12_52.2 (fun z => absurd z (by decide)) pf_12_52.1 (Or.inr ⟨pf_12_52.2, rfl, rfl⟩) ?_
  refine r_aload_n dX12_init_276 rfl rfl ?_
  refine r_sipush (v := 256) dX12_init_277 rfl ?_
  refine r_newJ (N := 256) dX12_init_280 t_206 (by decide) rfl (by decide) ⟨by decide, by decide⟩ ?_
  refine r_nmA (fun a64 e_a64 h65 e_h65 => ?_)
  replace hm := hm a64 e_a64 h65 e_h65
  refine r_putR0 (k := 53) cl_12 dX12_init_282 t_1325 (Or.inr rfl) gf_12_53.1 gf_12_53.2 (fun z => absurd z (by decide)) pf_12_53.1 (Or.inr ⟨pf_12_53.2, rfl, rfl⟩) ?_
  refine r_aload_n dX12_init_285 rfl rfl ?_
  refine r_bipush (v := 6) dX12_init_286 rfl ?_
  refine r_newI (N := 6) dX12_init_288 t_61 (by decide) rfl (by decide) ⟨by decide, by decide⟩ ?_
  refine r_nmA (fun a66 e_a66 h67 e_h67 => ?_)
  replace hm := hm a66 e_a66 h67 e_h67
  refine r_putR0 (k := 56) cl_12 dX12_init_290 t_1328 (Or.inr rfl) gf_12_56.1 gf_12_56.2 (fun z => absurd z (by decide)) pf_12_56.1 (Or.inr ⟨pf_12_56.2, rfl, rfl⟩) ?_
  refine r_aload_n dX12_init_293 rfl rfl ?_
  refine r_bipush (v := 6) dX12_init_294 rfl ?_
  refine r_newI (N := 6) dX12_init_296 t_61 (by decide) rfl (by decide) ⟨by decide, by decide⟩ ?_
  refine r_nmA (fun a68 e_a68 h69 e_h69 => ?_)
  replace hm := hm a68 e_a68 h69 e_h69
  refine r_putR0 (k := 57) cl_12 dX12_init_298 t_1329 (Or.inr rfl) gf_12_57.1 gf_12_57.2 (fun z => absurd z (by decide)) pf_12_57.1 (Or.inr ⟨pf_12_57.2, rfl, rfl⟩) ?_
  refine r_aload_n dX12_init_301 rfl rfl ?_
  refine r_sipush (v := 256) dX12_init_302 rfl ?_
  refine r_newI (N := 256) dX12_init_305 t_61 (by decide) rfl (by decide) ⟨by decide, by decide⟩ ?_
  refine r_nmA (fun a70 e_a70 h71 e_h71 => ?_)
  replace hm := hm a70 e_a70 h71 e_h71
  refine r_putR0 (k := 62) cl_12 dX12_init_307 t_1334 (Or.inr rfl) gf_12_62.1 gf_12_62.2 (fun z => absurd z (by decide)) pf_12_62.1 (Or.inr ⟨pf_12_62.2, rfl, rfl⟩) ?_
  refine r_aload_n dX12_init_310 rfl rfl ?_
  refine r_bipush (v := 8) dX12_init_311 rfl ?_
  refine r_newZ (N := 8) dX12_init_313 t_1552 (by decide) rfl (by decide) ⟨by decide, by decide⟩ ?_
  refine r_nmA (fun a72 e_a72 h73 e_h73 => ?_)
  replace hm := hm a72 e_a72 h73 e_h73
  refine r_putR0 (k := 63) cl_12 dX12_init_315 t_1335 (Or.inr rfl) gf_12_63.1 gf_12_63.2 (fun z => absurd z (by decide)) pf_12_63.1 (Or.inr ⟨pf_12_63.2, rfl, rfl⟩) ?_
  refine r_aload_n dX12_init_318 rfl rfl ?_
  refine r_bipush (v := 8) dX12_init_319 rfl ?_
  refine r_newJ (N := 8) dX12_init_321 t_206 (by decide) rfl (by decide) ⟨by decide, by decide⟩ ?_
  refine r_nmA (fun a74 e_a74 h75 e_h75 => ?_)
  replace hm := hm a74 e_a74 h75 e_h75
  refine r_putR0 (k := 64) cl_12 dX12_init_323 t_1336 (Or.inr rfl) gf_12_64.1 gf_12_64.2 (fun z => absurd z (by decide)) pf_12_64.1 (Or.inr ⟨pf_12_64.2, rfl, rfl⟩) ?_
  refine r_aload_n dX12_init_326 rfl rfl ?_
  refine r_bipush (v := 8) dX12_init_327 rfl ?_
  refine r_newI (N := 8) dX12_init_329 t_61 (by decide) rfl (by decide) ⟨by decide, by decide⟩ ?_
  refine r_nmA (fun a76 e_a76 h77 e_h77 => ?_)
  replace hm := hm a76 e_a76 h77 e_h77
  refine r_putR0 (k := 65) cl_12 dX12_init_331 t_1337 (Or.inr rfl) gf_12_65.1 gf_12_65.2 (fun z => absurd z (by decide)) pf_12_65.1 (Or.inr ⟨pf_12_65.2, rfl, rfl⟩) ?_
  refine r_aload_n dX12_init_334 rfl rfl ?_
  refine r_bipush (v := 8) dX12_init_335 rfl ?_
  refine r_newI (N := 8) dX12_init_337 t_61 (by decide) rfl (by decide) ⟨by decide, by decide⟩ ?_
  refine r_nmA (fun a78 e_a78 h79 e_h79 => ?_)
  replace hm := hm a78 e_a78 h79 e_h79
  refine r_putR0 (k := 66) cl_12 dX12_init_339 t_1338 (Or.inr rfl) gf_12_66.1 gf_12_66.2 (fun z => absurd z (by decide)) pf_12_66.1 (Or.inr ⟨pf_12_66.2, rfl, rfl⟩) ?_
  refine r_aload_n dX12_init_342 rfl rfl ?_
  refine r_bipush (v := 6) dX12_init_343 rfl ?_
  refine r_newI (N := 6) dX12_init_345 t_61 (by decide) rfl (by decide) ⟨by decide, by decide⟩ ?_
  refine r_nmA (fun a80 e_a80 h81 e_h81 => ?_)
  replace hm := hm a80 e_a80 h81 e_h81
  refine r_putR0 (k := 69) cl_12 dX12_init_347 t_1341 (Or.inr rfl) gf_12_69.1 gf_12_69.2 (fun z => absurd z (by decide)) pf_12_69.1 (Or.inr ⟨pf_12_69.2, rfl, rfl⟩) ?_
  refine r_aload_n dX12_init_350 rfl rfl ?_
  refine r_bipush (v := 12) dX12_init_351 rfl ?_
  refine r_newI (N := 12) dX12_init_353 t_61 (by decide) rfl (by decide) ⟨by decide, by decide⟩ ?_
  refine r_nmA (fun a82 e_a82 h83 e_h83 => ?_)
  replace hm := hm a82 e_a82 h83 e_h83
  refine r_putR0 (k := 70) cl_12 dX12_init_355 t_1342 (Or.inr rfl) gf_12_70.1 gf_12_70.2 (fun z => absurd z (by decide)) pf_12_70.1 (Or.inr ⟨pf_12_70.2, rfl, rfl⟩) ?_
  refine r_aload_n dX12_init_358 rfl rfl ?_
  refine r_sipush (v := 240) dX12_init_359 rfl ?_
  refine r_newI (N := 240) dX12_init_362 t_61 (by decide) rfl (by decide) ⟨by decide, by decide⟩ ?_
  refine r_nmA (fun a84 e_a84 h85 e_h85 => ?_)
  replace hm := hm a84 e_a84 h85 e_h85
  refine r_putR0 (k := 71) cl_12 dX12_init_364 t_1343 (Or.inr rfl) gf_12_71.1 gf_12_71.2 (fun z => absurd z (by decide)) pf_12_71.1 (Or.inr ⟨pf_12_71.2, rfl, rfl⟩) ?_
  refine r_aload_n dX12_init_367 rfl rfl ?_
  refine r_sipush (v := 240) dX12_init_368 rfl ?_
  refine r_newI (N := 240) dX12_init_371 t_61 (by decide) rfl (by decide) ⟨by decide, by decide⟩ ?_
  refine r_nmA (fun a86 e_a86 h87 e_h87 => ?_)
  replace hm := hm a86 e_a86 h87 e_h87
  refine r_putR0 (k := 72) cl_12 dX12_init_373 t_1344 (Or.inr rfl) gf_12_72.1 gf_12_72.2 (fun z => absurd z (by decide)) pf_12_72.1 (Or.inr ⟨pf_12_72.2, rfl, rfl⟩) ?_
  refine r_aload_n dX12_init_376 rfl rfl ?_
  refine r_sipush (v := 240) dX12_init_377 rfl ?_
  refine r_newI (N := 240) dX12_init_380 t_61 (by decide) rfl (by decide) ⟨by decide, by decide⟩ ?_
  refine r_nmA (fun a88 e_a88 h89 e_h89 => ?_)
  replace hm := hm a88 e_a88 h89 e_h89
  refine r_putR0 (k := 73) cl_12 dX12_init_382 t_1345 (Or.inr rfl) gf_12_73.1 gf_12_73.2 (fun z => absurd z (by decide)) pf_12_73.1 (Or.inr ⟨pf_12_73.2, rfl, rfl⟩) ?_
  refine r_aload_n dX12_init_385 rfl rfl ?_
  refine r_sipush (v := 240) dX12_init_386 rfl ?_
  refine r_newI (N := 240) dX12_init_389 t_61 (by decide) rfl (by decide) ⟨by decide, by decide⟩ ?_
  refine r_nmA (fun a90 e_a90 h91 e_h91 => ?_)
  replace hm := hm a90 e_a90 h91 e_h91
  refine r_putR0 (k := 74) cl_12 dX12_init_391 t_1346 (Or.inr rfl) gf_12_74.1 gf_12_74.2 (fun z => absurd z (by decide)) pf_12_74.1 (Or.inr ⟨pf_12_74.2, rfl, rfl⟩) ?_
  refine r_aload_n dX12_init_394 rfl rfl ?_
  refine r_sipush (v := 240) dX12_init_395 rfl ?_
  refine r_newI (N := 240) dX12_init_398 t_61 (by decide) rfl (by decide) ⟨by decide, by decide⟩ ?_
  refine r_nmA (fun a92 e_a92 h93 e_h93 => ?_)
  replace hm := hm a92 e_a92 h93 e_h93
  refine r_putR0 (k := 75) cl_12 dX12_init_400 t_1347 (Or.inr rfl) gf_12_75.1 gf_12_75.2 (fun z => absurd z (by decide)) pf_12_75.1 (Or.inr ⟨pf_12_75.2, rfl, rfl⟩) ?_
  refine r_aload_n dX12_init_403 rfl rfl ?_
  refine r_sipush (v := 240) dX12_init_404 rfl ?_
  refine r_newI (N := 240) dX12_init_407 t_61 (by decide) rfl (by decide) ⟨by decide, by decide⟩ ?_
  refine r_nmA (fun a94 e_a94 h95 e_h95 => ?_)
  replace hm := hm a94 e_a94 h95 e_h95
  refine r_putR0 (k := 76) cl_12 dX12_init_409 t_1348 (Or.inr rfl) gf_12_76.1 gf_12_76.2 (fun z => absurd z (by decide)) pf_12_76.1 (Or.inr ⟨pf_12_76.2, rfl, rfl⟩) ?_
  refine r_aload_n dX12_init_412 rfl rfl ?_
  refine r_sipush (v := 240) dX12_init_413 rfl ?_
  refine r_newZ (N := 240) dX12_init_416 t_1552 (by decide) rfl (by decide) ⟨by decide, by decide⟩ ?_
  refine r_nmA (fun a96 e_a96 h97 e_h97 => ?_)
  replace hm := hm a96 e_a96 h97 e_h97
  refine r_putR0 (k := 77) cl_12 dX12_init_418 t_1349 (Or.inr rfl) gf_12_77.1 gf_12_77.2 (fun z => absurd z (by decide)) pf_12_77.1 (Or.inr ⟨pf_12_77.2, rfl, rfl⟩) ?_
  refine r_aload_n dX12_init_421 rfl rfl ?_
  refine r_bipush (v := 72) dX12_init_422 rfl ?_
  refine r_newI (N := 72) dX12_init_424 t_61 (by decide) rfl (by decide) ⟨by decide, by decide⟩ ?_
  refine r_nmA (fun a98 e_a98 h99 e_h99 => ?_)
  replace hm := hm a98 e_a98 h99 e_h99
  refine r_putR0 (k := 81) cl_12 dX12_init_426 t_1353 (Or.inr rfl) gf_12_81.1 gf_12_81.2 (fun z => absurd z (by decide)) pf_12_81.1 (Or.inr ⟨pf_12_81.2, rfl, rfl⟩) ?_
  refine r_aload_n dX12_init_429 rfl rfl ?_
  refine r_bipush (v := 72) dX12_init_430 rfl ?_
  refine r_newI (N := 72) dX12_init_432 t_61 (by decide) rfl (by decide) ⟨by decide, by decide⟩ ?_
  refine r_nmA (fun a100 e_a100 h101 e_h101 => ?_)
  replace hm := hm a100 e_a100 h101 e_h101
  refine r_putR0 (k := 82) cl_12 dX12_init_434 t_1354 (Or.inr rfl) gf_12_82.1 gf_12_82.2 (fun z => absurd z (by decide)) pf_12_82.1 (Or.inr ⟨pf_12_82.2, rfl, rfl⟩) ?_
  refine r_aload_n dX12_init_437 rfl rfl ?_
  refine r_bipush (v := 10) dX12_init_438 rfl ?_
  refine r_newI (N := 10) dX12_init_440 t_61 (by decide) rfl (by decide) ⟨by decide, by decide⟩ ?_
  refine r_nmA (fun a102 e_a102 h103 e_h103 => ?_)
  replace hm := hm a102 e_a102 h103 e_h103
  refine r_putR0 (k := 86) cl_12 dX12_init_442 t_1358 (Or.inr rfl) gf_12_86.1 gf_12_86.2 (fun z => absurd z (by decide)) pf_12_86.1 (Or.inr ⟨pf_12_86.2, rfl, rfl⟩) ?_
  refine r_aload_n dX12_init_445 rfl rfl ?_
  refine r_sipush (v := 1024) dX12_init_446 rfl ?_
  refine r_newI (N := 1024) dX12_init_449 t_61 (by decide) rfl (by decide) ⟨by decide, by decide⟩ ?_
  refine r_nmA (fun a104 e_a104 h105 e_h105 => ?_)
  replace hm := hm a104 e_a104 h105 e_h105
  refine r_putR0 (k := 87) cl_12 dX12_init_451 t_1359 (Or.inr rfl) gf_12_87.1 gf_12_87.2 (fun z => absurd z (by decide)) pf_12_87.1 (Or.inr ⟨pf_12_87.2, rfl, rfl⟩) ?_
  refine r_aload_n dX12_init_454 rfl rfl ?_
  refine r_bipush (v := 6) dX12_init_455 rfl ?_
  refine r_newI (N := 6) dX12_init_457 t_61 (by decide) rfl (by decide) ⟨by decide, by decide⟩ ?_
  refine r_nmA (fun a106 e_a106 h107 e_h107 => ?_)
  replace hm := hm a106 e_a106 h107 e_h107
  refine r_putR0 (k := 89) cl_12 dX12_init_459 t_1361 (Or.inr rfl) gf_12_89.1 gf_12_89.2 (fun z => absurd z (by decide)) pf_12_89.1 (Or.inr ⟨pf_12_89.2, rfl, rfl⟩) ?_
  refine r_aload_n dX12_init_462 rfl rfl ?_
  refine r_bipush (v := 36) dX12_init_463 rfl ?_
  refine r_newI (N := 36) dX12_init_465 t_61 (by decide) rfl (by decide) ⟨by decide, by decide⟩ ?_
  refine r_nmA (fun a108 e_a108 h109 e_h109 => ?_)
  replace hm := hm a108 e_a108 h109 e_h109
  refine r_putR0 (k := 90) cl_12 dX12_init_467 t_1362 (Or.inr rfl) gf_12_90.1 gf_12_90.2 (fun z => absurd z (by decide)) pf_12_90.1 (Or.inr ⟨pf_12_90.2, rfl, rfl⟩) ?_
  refine r_aload_n dX12_init_470 rfl rfl ?_
  refine r_bipush (v := 48) dX12_init_471 rfl ?_
  refine r_newJ (N := 48) dX12_init_473 t_206 (by decide) rfl (by decide) ⟨by decide, by decide⟩ ?_
  refine r_nmA (fun a110 e_a110 h111 e_h111 => ?_)
  replace hm := hm a110 e_a110 h111 e_h111
  refine r_putR0 (k := 91) cl_12 dX12_init_475 t_1363 (Or.inr rfl) gf_12_91.1 gf_12_91.2 (fun z => absurd z (by decide)) pf_12_91.1 (Or.inr ⟨pf_12_91.2, rfl, rfl⟩) ?_
  refine r_aload_n dX12_init_478 rfl rfl ?_
  refine r_bipush (v := 24) dX12_init_479 rfl ?_
  refine r_newI (N := 24) dX12_init_481 t_61 (by decide) rfl (by decide) ⟨by decide, by decide⟩ ?_
  refine r_nmA (fun a112 e_a112 h113 e_h113 => ?_)
  replace hm := hm a112 e_a112 h113 e_h113
  refine r_putR0 (k := 92) cl_12 dX12_init_483 t_1364 (Or.inr rfl) gf_12_92.1 gf_12_92.2 (fun z => absurd z (by decide)) pf_12_92.1 (Or.inr ⟨pf_12_92.2, rfl, rfl⟩) ?_
  refine r_iconst (v := 0) dX12_init_486 rfl ?_
  refine r_istore_n (L' := [some (tR 32 0 (some v0)), some (tI 0)]) dX12_init_487 rfl (by decide) rfl ?_
  refine r_keep (L' := [some (tR 32 0 (some v0)), some (tI 0)]) [true, true] rfl ?_
  obtain ⟨n, hm⟩ := hm
  refine s_X12_init_488 hd hm
theorem dX12_within_0 : decode cX12_within 0 = .ok (.iload_n 0, 1) := rfl
theorem dX12_within_1 : decode cX12_within 1 = .ok (.iload_n 1, 1) := rfl
theorem dX12_within_2 : decode cX12_within 2 = .ok (.if_icmp .lt 12, 3) := by decide +kernel
theorem dX12_within_5 : decode cX12_within 5 = .ok (.iload_n 0, 1) := rfl
theorem dX12_within_6 : decode cX12_within 6 = .ok (.iload_n 2, 1) := rfl
theorem dX12_within_7 : decode cX12_within 7 = .ok (.if_icmp .gt 7, 3) := by decide +kernel
theorem dX12_within_10 : decode cX12_within 10 = .ok (.iconst 1, 1) := rfl
theorem dX12_within_11 : decode cX12_within 11 = .ok (.goto 4, 3) := by decide +kernel
theorem dX12_within_14 : decode cX12_within 14 = .ok (.iconst 0, 1) := rfl
theorem dX12_within_15 : decode cX12_within 15 = .ok (.ireturn, 1) := rfl
def m_X12_within (v0 : Int32) (v1 : Int32) (v2 : Int32) (h : Hp) (Q : Int32 → Hp → Prop) : Prop := (v0 < v1 → Q 0 h) ∧ (¬ v0 < v1 → (v2 < v0 → Q 0 h) ∧ (¬ v2 < v0 → Q 1 h))
set_option maxHeartbeats 4000000 in
set_option maxRecDepth 100000 in
theorem s_X12_within {l : Launch} {G : Cx} {d : Nat} (hd : 2 ≤ d) {v0 : Int32} {v1 : Int32} {v2 : Int32} {h : Hp} {Q : Int32 → Hp → Prop} (hm : m_X12_within v0 v1 v2 h Q) : Ct l G d 0 0 yX12_within MX12_within [tI v0, tI v1, tI v2] h (qI Q) := by
  unfold m_X12_within at hm
  refine Ct.of (L := [some (tI v0), some (tI v1), some (tI v2)]) (by decide) rfl rfl (Nat.le_of_ble_eq_true rfl) rfl ?_
  refine r_iload_n dX12_within_0 rfl rfl ?_
  refine r_iload_n dX12_within_1 rfl rfl ?_
  refine r_icmp_lt (tgt := 14) dX12_within_2 rfl (fun hc => ?_) (fun hc => ?_)
  · replace hm := hm.1 hc
    refine r_iconst (v := 0) dX12_within_14 rfl ?_
    exact r_bret dX12_within_15 rfl ⟨by decide, by decide⟩ (by unfold bz; decide) ⟨_, rfl, hm⟩
  · replace hm := hm.2 hc
    refine r_iload_n dX12_within_5 rfl rfl ?_
    refine r_iload_n dX12_within_6 rfl rfl ?_
    refine r_icmp_gt (tgt := 14) dX12_within_7 rfl (fun hc => ?_) (fun hc => ?_)
    · replace hm := hm.1 hc
      refine r_iconst (v := 0) dX12_within_14 rfl ?_
      exact r_bret dX12_within_15 rfl ⟨by decide, by decide⟩ (by unfold bz; decide) ⟨_, rfl, hm⟩
    · replace hm := hm.2 hc
      refine r_iconst (v := 1) dX12_within_10 rfl ?_
      refine r_goto (tgt := 15) dX12_within_11 rfl ?_
      exact r_bret dX12_within_15 rfl ⟨by decide, by decide⟩ (by unfold bz; decide) ⟨_, rfl, hm⟩
theorem dX12_family_0 : decode cX12_family 0 = .ok (.iload_n 1, 1) := rfl
theorem dX12_family_1 : decode cX12_family 1 = .ok (.iconst 0, 1) := rfl
theorem dX12_family_2 : decode cX12_family 2 = .ok (.bipush 7, 2) := by decide +kernel
theorem dX12_family_4 : decode cX12_family 4 = .ok (.invokestatic 185, 3) := rfl
theorem dX12_family_7 : decode cX12_family 7 = .ok (.ifCond .eq 13, 3) := by decide +kernel
theorem dX12_family_10 : decode cX12_family 10 = .ok (.iload_n 2, 1) := rfl
theorem dX12_family_11 : decode cX12_family 11 = .ok (.iconst 0, 1) := rfl
theorem dX12_family_12 : decode cX12_family 12 = .ok (.bipush 7, 2) := by decide +kernel
theorem dX12_family_14 : decode cX12_family 14 = .ok (.invokestatic 185, 3) := rfl
theorem dX12_family_17 : decode cX12_family 17 = .ok (.ifCond .ne 5, 3) := by decide +kernel
theorem dX12_family_20 : decode cX12_family 20 = .ok (.iconst 0, 1) := rfl
theorem dX12_family_21 : decode cX12_family 21 = .ok (.ireturn, 1) := rfl
theorem dX12_family_22 : decode cX12_family 22 = .ok (.aload_n 0, 1) := rfl
theorem dX12_family_23 : decode cX12_family 23 = .ok (.getfield 7, 3) := rfl
theorem dX12_family_26 : decode cX12_family 26 = .ok (.iload_n 1, 1) := rfl
theorem dX12_family_27 : decode cX12_family 27 = .ok (.iload_n 2, 1) := rfl
theorem dX12_family_28 : decode cX12_family 28 = .ok (.iastore, 1) := rfl
theorem dX12_family_29 : decode cX12_family 29 = .ok (.iconst 1, 1) := rfl
theorem dX12_family_30 : decode cX12_family 30 = .ok (.ireturn, 1) := rfl
def m_X12_family (v1 : Int32) (v2 : Int32) (h : Hp) (Q : Int32 → Hp → Prop) : Prop := m_X12_within v1 0 7 h (fun (x1 : Int32) (h2 : Hp) => (x1 = 0 → Q 0 h2) ∧ (¬ x1 = 0 → m_X12_within v2 0 7 h2 (fun (x3 : Int32) (h4 : Hp) => (¬ x3 = 0 → vp_in v1 8 ∧ (Q 1 (wI h4 52 (ix v1) v2))) ∧ (x3 = 0 → Q 0 h4))))
set_option maxHeartbeats 4000000 in
set_option maxRecDepth 100000 in
theorem s_X12_family {l : Launch} {G : Cx} {d : Nat} (hd : 4 ≤ d) {v1 : Int32} {v2 : Int32} {h : Hp} {Q : Int32 → Hp → Prop} (hm : m_X12_family v1 v2 h Q) : Ct l G d 0 0 yX12_family MX12_family [tR 12 0 (some 51), tI v1, tI v2] h (qI Q) := by
  unfold m_X12_family at hm
  refine Ct.of (L := [some (tR 12 0 (some 51)), some (tI v1), some (tI v2)]) (by decide) rfl rfl (Nat.le_of_ble_eq_true rfl) rfl ?_
  refine r_iload_n dX12_family_0 rfl rfl ?_
  refine r_iconst (v := 0) dX12_family_1 rfl ?_
  refine r_bipush (v := 7) dX12_family_2 rfl ?_
  refine r_callSI (d' := d - 1) (as := [tI v1, tI 0, tI 7]) (st := []) dX12_family_4 mi_X12_within t_1557 t_1558 rfl rfl (Nat.le_of_ble_eq_true rfl) (by omega) ⟨by decide, by decide⟩ ⟨rfl, rfl⟩ (s_X12_within (by omega) hm) (fun x1 h2 hm => ?_)
  refine r_if_eq (tgt := 20) dX12_family_7 rfl (fun hc => ?_) (fun hc => ?_)
  · replace hm := hm.1 hc
    refine r_iconst (v := 0) dX12_family_20 rfl ?_
    exact r_bret dX12_family_21 rfl ⟨by decide, by decide⟩ (by unfold bz; decide) ⟨_, rfl, hm⟩
  · replace hm := hm.2 hc
    refine r_iload_n dX12_family_10 rfl rfl ?_
    refine r_iconst (v := 0) dX12_family_11 rfl ?_
    refine r_bipush (v := 7) dX12_family_12 rfl ?_
    refine r_callSI (d' := d - 1) (as := [tI v2, tI 0, tI 7]) (st := []) dX12_family_14 mi_X12_within t_1557 t_1558 rfl rfl (Nat.le_of_ble_eq_true rfl) (by omega) ⟨by decide, by decide⟩ ⟨rfl, rfl⟩ (s_X12_within (by omega) hm) (fun x3 h4 hm => ?_)
    refine r_if_ne (tgt := 22) dX12_family_17 rfl (fun hc => ?_) (fun hc => ?_)
    · replace hm := hm.1 hc
      refine r_aload_n dX12_family_22 rfl rfl ?_
      refine r_getC (k := 0) cl_12 dX12_family_23 t_1272 gf_12_0.1 gf_12_0.2 (gc_12_0 _) ?_
      refine r_iload_n dX12_family_26 rfl rfl ?_
      refine r_iload_n dX12_family_27 rfl rfl ?_
      refine r_iast dX12_family_28 hm.1 ?_
      replace hm := hm.2
      refine r_iconst (v := 1) dX12_family_29 rfl ?_
      exact r_bret dX12_family_30 rfl ⟨by decide, by decide⟩ (by unfold bz; decide) ⟨_, rfl, hm⟩
    · replace hm := hm.2 hc
      refine r_iconst (v := 0) dX12_family_20 rfl ?_
      exact r_bret dX12_family_21 rfl ⟨by decide, by decide⟩ (by unfold bz; decide) ⟨_, rfl, hm⟩
theorem dX12_feed_0 : decode cX12_feed 0 = .ok (.aload_n 0, 1) := by decide +kernel
theorem dX12_feed_1 : decode cX12_feed 1 = .ok (.getfield 189, 3) := by decide +kernel
theorem dX12_feed_4 : decode cX12_feed 4 = .ok (.bipush 20, 2) := by decide +kernel
theorem dX12_feed_6 : decode cX12_feed 6 = .ok (.iadd, 1) := by decide +kernel
theorem dX12_feed_7 : decode cX12_feed 7 = .ok (.sipush 600, 3) := by decide +kernel
theorem dX12_feed_10 : decode cX12_feed 10 = .ok (.if_icmp .le 5, 3) := by decide +kernel
theorem dX12_feed_13 : decode cX12_feed 13 = .ok (.iconst (-1), 1) := by decide +kernel
theorem dX12_feed_14 : decode cX12_feed 14 = .ok (.ireturn, 1) := by decide +kernel
theorem dX12_feed_15 : decode cX12_feed 15 = .ok (.iconst 0, 1) := by decide +kernel
theorem dX12_feed_16 : decode cX12_feed 16 = .ok (.istore 6, 2) := by decide +kernel
theorem dX12_feed_18 : decode cX12_feed 18 = .ok (.iload 6, 2) := by decide +kernel
theorem dX12_feed_20 : decode cX12_feed 20 = .ok (.bipush 20, 2) := by decide +kernel
theorem dX12_feed_22 : decode cX12_feed 22 = .ok (.if_icmp .ge 90, 3) := by decide +kernel
theorem dX12_feed_25 : decode cX12_feed 25 = .ok (.iload 6, 2) := by decide +kernel
theorem dX12_feed_27 : decode cX12_feed 27 = .ok (.iconst 4, 1) := by decide +kernel
theorem dX12_feed_28 : decode cX12_feed 28 = .ok (.if_icmp .ge 7, 3) := by decide +kernel
theorem dX12_feed_31 : decode cX12_feed 31 = .ok (.iload_n 1, 1) := by decide +kernel
theorem dX12_feed_32 : decode cX12_feed 32 = .ok (.goto 39, 3) := by decide +kernel
theorem dX12_feed_35 : decode cX12_feed 35 = .ok (.iload 6, 2) := by decide +kernel
theorem dX12_feed_37 : decode cX12_feed 37 = .ok (.bipush 8, 2) := by decide +kernel
theorem dX12_feed_39 : decode cX12_feed 39 = .ok (.if_icmp .ge 7, 3) := by decide +kernel
theorem dX12_feed_42 : decode cX12_feed 42 = .ok (.iload_n 2, 1) := by decide +kernel
theorem dX12_feed_43 : decode cX12_feed 43 = .ok (.goto 28, 3) := by decide +kernel
theorem dX12_feed_46 : decode cX12_feed 46 = .ok (.iload 6, 2) := by decide +kernel
theorem dX12_feed_48 : decode cX12_feed 48 = .ok (.bipush 12, 2) := by decide +kernel
theorem dX12_feed_50 : decode cX12_feed 50 = .ok (.if_icmp .ge 7, 3) := by decide +kernel
theorem dX12_feed_53 : decode cX12_feed 53 = .ok (.iload_n 3, 1) := by decide +kernel
theorem dX12_feed_54 : decode cX12_feed 54 = .ok (.goto 17, 3) := by decide +kernel
theorem dX12_feed_57 : decode cX12_feed 57 = .ok (.iload 6, 2) := by decide +kernel
theorem dX12_feed_59 : decode cX12_feed 59 = .ok (.bipush 16, 2) := by decide +kernel
theorem dX12_feed_61 : decode cX12_feed 61 = .ok (.if_icmp .ge 8, 3) := by decide +kernel
theorem dX12_feed_64 : decode cX12_feed 64 = .ok (.iload 4, 2) := by decide +kernel
theorem dX12_feed_66 : decode cX12_feed 66 = .ok (.goto 5, 3) := by decide +kernel
theorem dX12_feed_69 : decode cX12_feed 69 = .ok (.iload 5, 2) := by decide +kernel
theorem dX12_feed_71 : decode cX12_feed 71 = .ok (.istore 7, 2) := by decide +kernel
theorem dX12_feed_73 : decode cX12_feed 73 = .ok (.aload_n 0, 1) := by decide +kernel
theorem dX12_feed_74 : decode cX12_feed 74 = .ok (.getfield 67, 3) := by decide +kernel
theorem dX12_feed_77 : decode cX12_feed 77 = .ok (.aload_n 0, 1) := by decide +kernel
theorem dX12_feed_78 : decode cX12_feed 78 = .ok (.getfield 189, 3) := by decide +kernel
theorem dX12_feed_81 : decode cX12_feed 81 = .ok (.iload 7, 2) := by decide +kernel
theorem dX12_feed_83 : decode cX12_feed 83 = .ok (.bipush 24, 2) := by decide +kernel
theorem dX12_feed_85 : decode cX12_feed 85 = .ok (.bipush 8, 2) := by decide +kernel
theorem dX12_feed_87 : decode cX12_feed 87 = .ok (.iload 6, 2) := by decide +kernel
theorem dX12_feed_89 : decode cX12_feed 89 = .ok (.iconst 4, 1) := by decide +kernel
theorem dX12_feed_90 : decode cX12_feed 90 = .ok (.irem, 1) := by decide +kernel
theorem dX12_feed_91 : decode cX12_feed 91 = .ok (.imul, 1) := by decide +kernel
theorem dX12_feed_92 : decode cX12_feed 92 = .ok (.isub, 1) := by decide +kernel
theorem dX12_feed_93 : decode cX12_feed 93 = .ok (.ishr, 1) := by decide +kernel
theorem dX12_feed_94 : decode cX12_feed 94 = .ok (.i2b, 1) := by decide +kernel
theorem dX12_feed_95 : decode cX12_feed 95 = .ok (.bastore, 1) := by decide +kernel
theorem dX12_feed_96 : decode cX12_feed 96 = .ok (.aload_n 0, 1) := by decide +kernel
theorem dX12_feed_97 : decode cX12_feed 97 = .ok (.dup, 1) := by decide +kernel
theorem dX12_feed_98 : decode cX12_feed 98 = .ok (.getfield 189, 3) := by decide +kernel
theorem dX12_feed_101 : decode cX12_feed 101 = .ok (.iconst 1, 1) := by decide +kernel
theorem dX12_feed_102 : decode cX12_feed 102 = .ok (.iadd, 1) := by decide +kernel
theorem dX12_feed_103 : decode cX12_feed 103 = .ok (.putfield 189, 3) := by decide +kernel
theorem dX12_feed_106 : decode cX12_feed 106 = .ok (.iinc 6 1, 3) := by decide +kernel
theorem dX12_feed_109 : decode cX12_feed 109 = .ok (.goto (-91), 3) := by decide +kernel
theorem dX12_feed_112 : decode cX12_feed 112 = .ok (.aload_n 0, 1) := by decide +kernel
theorem dX12_feed_113 : decode cX12_feed 113 = .ok (.getfield 189, 3) := by decide +kernel
theorem dX12_feed_116 : decode cX12_feed 116 = .ok (.ireturn, 1) := by decide +kernel
def m_X12_feed_71 (k18 : Int32 → Int32 → Int32 → Int32 → Int32 → Int32 → Hp → Prop) (Q : Int32 → Hp → Prop) (v1 : Int32) (v2 : Int32) (v3 : Int32) (v4 : Int32) (v5 : Int32) (v6 : Int32) (s0 : Int32) (h : Hp) : Prop := vp_in (hI h 51 21) 600 ∧ (∀ x1 : Int32, x1 = v6 + 1 → k18 v1 v2 v3 v4 v5 x1 (wI (wI h 71 (ix (hI h 51 21)) (((s0 >>> ((24 - (8 * (v6 - v6 / 4 * 4))) &&& 31)).toInt8.toInt32)).toInt8.toInt32) 51 21 ((hI (wI h 71 (ix (hI h 51 21)) (((s0 >>> ((24 - (8 * (v6 - v6 / 4 * 4))) &&& 31)).toInt8.toInt32)).toInt8.toInt32) 51 21) + 1)))
set_option maxHeartbeats 4000000 in
set_option maxRecDepth 100000 in
theorem s_X12_feed_71 {l : Launch} {G : Cx} {d : Nat} {h0 : Hp} (hd : 2 ≤ d) {k18 : Int32 → Int32 → Int32 → Int32 → Int32 → Int32 → Hp → Prop} {Q : Int32 → Hp → Prop} (hk18 : ∀ (v1 : Int32) (v2 : Int32) (v3 : Int32) (v4 : Int32) (v5 : Int32) (v6 : Int32) (hh : Hp), k18 v1 v2 v3 v4 v5 v6 hh → Rn l G d 0 0 MX12_feed h0 (qI Q) 18 [some (tR 12 0 (some 51)), some (tI v1), some (tI v2), some (tI v3), some (tI v4), some (tI v5), some (tI v6)] [] hh 0 0) {v1 : Int32} {v2 : Int32} {v3 : Int32} {v4 : Int32} {v5 : Int32} {v6 : Int32} {s0 : Int32} {h : Hp} (hm : m_X12_feed_71 k18 Q v1 v2 v3 v4 v5 v6 s0 h) : Rn l G d 0 0 MX12_feed h0 (qI Q) 71 [some (tR 12 0 (some 51)), some (tI v1), some (tI v2), some (tI v3), some (tI v4), some (tI v5), some (tI v6)] [tI s0] h 0 0 := by
  unfold m_X12_feed_71 at hm
  refine r_istore (L' := [some (tR 12 0 (some 51)), some (tI v1), some (tI v2), some (tI v3), some (tI v4), some (tI v5), some (tI v6), some (tI s0)]) dX12_feed_71 (by decide) rfl ?_
  refine r_aload_n dX12_feed_73 rfl rfl ?_
  refine r_getC (k := 20) cl_12 dX12_feed_74 t_1292 gf_12_20.1 gf_12_20.2 (gc_12_20 _) ?_
  refine r_aload_n dX12_feed_77 rfl rfl ?_
  refine r_getI (k := 21) cl_12 dX12_feed_78 t_1293 (Or.inl rfl) gf_12_21 ?_
  refine r_iload dX12_feed_81 rfl ?_
  refine r_bipush (v := 24) dX12_feed_83 rfl ?_
  refine r_bipush (v := 8) dX12_feed_85 rfl ?_
  refine r_iload dX12_feed_87 rfl ?_
  refine r_iconst (v := 4) dX12_feed_89 rfl ?_
  refine r_irem dX12_feed_90 (by decide) ?_
  refine r_imul dX12_feed_91 ?_
  refine r_isub dX12_feed_92 ?_
  refine r_ishr dX12_feed_93 ?_
  refine r_i2b dX12_feed_94 ?_
  refine r_bast dX12_feed_95 hm.1 ?_
  replace hm := hm.2
  refine r_aload_n dX12_feed_96 rfl rfl ?_
  refine r_dup dX12_feed_97 cv_cat1R ?_
  refine r_getI (k := 21) cl_12 dX12_feed_98 t_1293 (Or.inl rfl) gf_12_21 ?_
  refine r_iconst (v := 1) dX12_feed_101 rfl ?_
  refine r_iadd dX12_feed_102 ?_
  refine r_putI0 (k := 21) cl_12 dX12_feed_103 t_1293 (Or.inl rfl) gf_12_21 pf_12_21.1 (Or.inl pf_12_21.2) ?_
  obtain ⟨x1, e_x1⟩ : ∃ y : Int32, y = v6 + 1 := ⟨_, rfl⟩
  replace hm := hm x1 e_x1
  refine r_iinc (L' := [some (tR 12 0 (some 51)), some (tI v1), some (tI v2), some (tI v3), some (tI v4), some (tI v5), some (tI x1), some (tI s0)]) dX12_feed_106 rfl (by rw [e_x1]; rfl) (by decide) rfl ?_
  refine r_goto (tgt := 18) dX12_feed_109 rfl ?_
  refine r_keep (L' := [some (tR 12 0 (some 51)), some (tI v1), some (tI v2), some (tI v3), some (tI v4), some (tI v5), some (tI x1)]) [true, true, true, true, true, true, true] rfl ?_
  exact hk18 _ _ _ _ _ _ _ hm
def m_X12_feed_18 : Nat → (Int32 → Hp → Prop) → Int32 → Int32 → Int32 → Int32 → Int32 → Int32 → Hp → Prop
  | 0, _, _, _, _, _, _, _, _ => False
  | n + 1, Q, v1, v2, v3, v4, v5, v6, h => (20 ≤ v6 → Q (hI h 51 21) h) ∧ (¬ 20 ≤ v6 → (4 ≤ v6 → (8 ≤ v6 → (12 ≤ v6 → (16 ≤ v6 → m_X12_feed_71 (fun (v1 : Int32) (v2 : Int32) (v3 : Int32) (v4 : Int32) (v5 : Int32) (v6 : Int32) (hh : Hp) => m_X12_feed_18 n Q v1 v2 v3 v4 v5 v6 hh) Q v1 v2 v3 v4 v5 v6 v5 h) ∧ (¬ 16 ≤ v6 → m_X12_feed_71 (fun (v1 : Int32) (v2 : Int32) (v3 : Int32) (v4 : Int32) (v5 : Int32) (v6 : Int32) (hh : Hp) => m_X12_feed_18 n Q v1 v2 v3 v4 v5 v6 hh) Q v1 v2 v3 v4 v5 v6 v4 h)) ∧ (¬ 12 ≤ v6 → m_X12_feed_71 (fun (v1 : Int32) (v2 : Int32) (v3 : Int32) (v4 : Int32) (v5 : Int32) (v6 : Int32) (hh : Hp) => m_X12_feed_18 n Q v1 v2 v3 v4 v5 v6 hh) Q v1 v2 v3 v4 v5 v6 v3 h)) ∧ (¬ 8 ≤ v6 → m_X12_feed_71 (fun (v1 : Int32) (v2 : Int32) (v3 : Int32) (v4 : Int32) (v5 : Int32) (v6 : Int32) (hh : Hp) => m_X12_feed_18 n Q v1 v2 v3 v4 v5 v6 hh) Q v1 v2 v3 v4 v5 v6 v2 h)) ∧ (¬ 4 ≤ v6 → m_X12_feed_71 (fun (v1 : Int32) (v2 : Int32) (v3 : Int32) (v4 : Int32) (v5 : Int32) (v6 : Int32) (hh : Hp) => m_X12_feed_18 n Q v1 v2 v3 v4 v5 v6 hh) Q v1 v2 v3 v4 v5 v6 v1 h))
set_option maxHeartbeats 4000000 in
set_option maxRecDepth 100000 in
theorem s_X12_feed_18 {l : Launch} {G : Cx} {d : Nat} {h0 : Hp} (hd : 2 ≤ d) {Q : Int32 → Hp → Prop} : ∀ {n : Nat} {v1 : Int32} {v2 : Int32} {v3 : Int32} {v4 : Int32} {v5 : Int32} {v6 : Int32} {h : Hp}, m_X12_feed_18 n Q v1 v2 v3 v4 v5 v6 h → Rn l G d 0 0 MX12_feed h0 (qI Q) 18 [some (tR 12 0 (some 51)), some (tI v1), some (tI v2), some (tI v3), some (tI v4), some (tI v5), some (tI v6)] [] h 0 0 := by
  intro n
  induction n with
  | zero => intro v1 v2 v3 v4 v5 v6 h hm; exact hm.elim
  | succ n ih =>
    intro v1 v2 v3 v4 v5 v6 h hm
    have hk18 := fun (v1 : Int32) (v2 : Int32) (v3 : Int32) (v4 : Int32) (v5 : Int32) (v6 : Int32) (hh : Hp) (hm : m_X12_feed_18 n Q v1 v2 v3 v4 v5 v6 hh) => ih hm
    rw [m_X12_feed_18] at hm
    refine r_iload dX12_feed_18 rfl ?_
    refine r_bipush (v := 20) dX12_feed_20 rfl ?_
    refine r_icmp_ge (tgt := 112) dX12_feed_22 rfl (fun hc => ?_) (fun hc => ?_)
    · replace hm := hm.1 hc
      refine r_aload_n dX12_feed_112 rfl rfl ?_
      refine r_getI (k := 21) cl_12 dX12_feed_113 t_1293 (Or.inl rfl) gf_12_21 ?_
      exact r_ireturn dX12_feed_116 rfl ⟨by decide, by decide⟩ ⟨_, rfl, hm⟩
    · replace hm := hm.2 hc
      refine r_iload dX12_feed_25 rfl ?_
      refine r_iconst (v := 4) dX12_feed_27 rfl ?_
      refine r_icmp_ge (tgt := 35) dX12_feed_28 rfl (fun hc => ?_) (fun hc => ?_)
      · replace hm := hm.1 hc
        refine r_iload dX12_feed_35 rfl ?_
        refine r_bipush (v := 8) dX12_feed_37 rfl ?_
        refine r_icmp_ge (tgt := 46) dX12_feed_39 rfl (fun hc => ?_) (fun hc => ?_)
        · replace hm := hm.1 hc
          refine r_iload dX12_feed_46 rfl ?_
          refine r_bipush (v := 12) dX12_feed_48 rfl ?_
          refine r_icmp_ge (tgt := 57) dX12_feed_50 rfl (fun hc => ?_) (fun hc => ?_)
          · replace hm := hm.1 hc
            refine r_iload dX12_feed_57 rfl ?_
            refine r_bipush (v := 16) dX12_feed_59 rfl ?_
            refine r_icmp_ge (tgt := 69) dX12_feed_61 rfl (fun hc => ?_) (fun hc => ?_)
            · replace hm := hm.1 hc
              refine r_iload dX12_feed_69 rfl ?_
              refine r_keep (L' := [some (tR 12 0 (some 51)), some (tI v1), some (tI v2), some (tI v3), some (tI v4), some (tI v5), some (tI v6)]) [true, true, true, true, true, true, true] rfl ?_
              exact s_X12_feed_71 hd hk18 hm
            · replace hm := hm.2 hc
              refine r_iload dX12_feed_64 rfl ?_
              refine r_goto (tgt := 71) dX12_feed_66 rfl ?_
              refine r_keep (L' := [some (tR 12 0 (some 51)), some (tI v1), some (tI v2), some (tI v3), some (tI v4), some (tI v5), some (tI v6)]) [true, true, true, true, true, true, true] rfl ?_
              exact s_X12_feed_71 hd hk18 hm
          · replace hm := hm.2 hc
            refine r_iload_n dX12_feed_53 rfl rfl ?_
            refine r_goto (tgt := 71) dX12_feed_54 rfl ?_
            refine r_keep (L' := [some (tR 12 0 (some 51)), some (tI v1), some (tI v2), some (tI v3), some (tI v4), some (tI v5), some (tI v6)]) [true, true, true, true, true, true, true] rfl ?_
            exact s_X12_feed_71 hd hk18 hm
        · replace hm := hm.2 hc
          refine r_iload_n dX12_feed_42 rfl rfl ?_
          refine r_goto (tgt := 71) dX12_feed_43 rfl ?_
          refine r_keep (L' := [some (tR 12 0 (some 51)), some (tI v1), some (tI v2), some (tI v3), some (tI v4), some (tI v5), some (tI v6)]) [true, true, true, true, true, true, true] rfl ?_
          exact s_X12_feed_71 hd hk18 hm
      · replace hm := hm.2 hc
        refine r_iload_n dX12_feed_31 rfl rfl ?_
        refine r_goto (tgt := 71) dX12_feed_32 rfl ?_
        refine r_keep (L' := [some (tR 12 0 (some 51)), some (tI v1), some (tI v2), some (tI v3), some (tI v4), some (tI v5), some (tI v6)]) [true, true, true, true, true, true, true] rfl ?_
        exact s_X12_feed_71 hd hk18 hm
def m_X12_feed (v1 : Int32) (v2 : Int32) (v3 : Int32) (v4 : Int32) (v5 : Int32) (h : Hp) (Q : Int32 → Hp → Prop) : Prop := (((hI h 51 21) + 20) ≤ 600 → ∃ n18, m_X12_feed_18 n18 Q v1 v2 v3 v4 v5 0 h) ∧ (¬ ((hI h 51 21) + 20) ≤ 600 → Q (-1) h)
set_option maxHeartbeats 4000000 in
set_option maxRecDepth 100000 in
theorem s_X12_feed {l : Launch} {G : Cx} {d : Nat} (hd : 2 ≤ d) {v1 : Int32} {v2 : Int32} {v3 : Int32} {v4 : Int32} {v5 : Int32} {h : Hp} {Q : Int32 → Hp → Prop} (hm : m_X12_feed v1 v2 v3 v4 v5 h Q) : Ct l G d 0 0 yX12_feed MX12_feed [tR 12 0 (some 51), tI v1, tI v2, tI v3, tI v4, tI v5] h (qI Q) := by
  unfold m_X12_feed at hm
  refine Ct.of (L := [some (tR 12 0 (some 51)), some (tI v1), some (tI v2), some (tI v3), some (tI v4), some (tI v5)]) (by decide) rfl rfl (Nat.le_of_ble_eq_true rfl) rfl ?_
  refine r_aload_n dX12_feed_0 rfl rfl ?_
  refine r_getI (k := 21) cl_12 dX12_feed_1 t_1293 (Or.inl rfl) gf_12_21 ?_
  refine r_bipush (v := 20) dX12_feed_4 rfl ?_
  refine r_iadd dX12_feed_6 ?_
  refine r_sipush (v := 600) dX12_feed_7 rfl ?_
  refine r_icmp_le (tgt := 15) dX12_feed_10 rfl (fun hc => ?_) (fun hc => ?_)
  · replace hm := hm.1 hc
    refine r_iconst (v := 0) dX12_feed_15 rfl ?_
    refine r_istore (L' := [some (tR 12 0 (some 51)), some (tI v1), some (tI v2), some (tI v3), some (tI v4), some (tI v5), some (tI 0)]) dX12_feed_16 (by decide) rfl ?_
    refine r_keep (L' := [some (tR 12 0 (some 51)), some (tI v1), some (tI v2), some (tI v3), some (tI v4), some (tI v5), some (tI 0)]) [true, true, true, true, true, true, true] rfl ?_
    obtain ⟨n, hm⟩ := hm
    refine s_X12_feed_18 hd hm
  · replace hm := hm.2 hc
    refine r_iconst (v := (-1)) dX12_feed_13 rfl ?_
    exact r_ireturn dX12_feed_14 rfl ⟨by decide, by decide⟩ ⟨_, rfl, hm⟩
theorem dX12_here_0 : decode cX12_here 0 = .ok (.aload_n 0, 1) := rfl
theorem dX12_here_1 : decode cX12_here 1 = .ok (.getfield 192, 3) := rfl
theorem dX12_here_4 : decode cX12_here 4 = .ok (.aload_n 0, 1) := rfl
theorem dX12_here_5 : decode cX12_here 5 = .ok (.getfield 195, 3) := rfl
theorem dX12_here_8 : decode cX12_here 8 = .ok (.if_icmp .ge 19, 3) := by decide +kernel
theorem dX12_here_11 : decode cX12_here 11 = .ok (.aload_n 0, 1) := rfl
theorem dX12_here_12 : decode cX12_here 12 = .ok (.getfield 67, 3) := rfl
theorem dX12_here_15 : decode cX12_here 15 = .ok (.aload_n 0, 1) := rfl
theorem dX12_here_16 : decode cX12_here 16 = .ok (.getfield 192, 3) := rfl
theorem dX12_here_19 : decode cX12_here 19 = .ok (.baload, 1) := rfl
theorem dX12_here_20 : decode cX12_here 20 = .ok (.sipush 255, 3) := by decide +kernel
theorem dX12_here_23 : decode cX12_here 23 = .ok (.iand, 1) := rfl
theorem dX12_here_24 : decode cX12_here 24 = .ok (.goto 4, 3) := by decide +kernel
theorem dX12_here_27 : decode cX12_here 27 = .ok (.iconst (-1), 1) := rfl
theorem dX12_here_28 : decode cX12_here 28 = .ok (.ireturn, 1) := rfl
def m_X12_here  (h : Hp) (Q : Int32 → Hp → Prop) : Prop := ((hI h 51 23) ≤ (hI h 51 24) → Q (-1) h) ∧ (¬ (hI h 51 23) ≤ (hI h 51 24) → vp_in (hI h 51 24) 600 ∧ (Q ((hI h 71 (ix (hI h 51 24))) &&& 255) h))
set_option maxHeartbeats 4000000 in
set_option maxRecDepth 100000 in
theorem s_X12_here {l : Launch} {G : Cx} {d : Nat} (hd : 2 ≤ d) {h : Hp} {Q : Int32 → Hp → Prop} (hm : m_X12_here h Q) : Ct l G d 0 0 yX12_here MX12_here [tR 12 0 (some 51)] h (qI Q) := by
  unfold m_X12_here at hm
  refine Ct.of (L := [some (tR 12 0 (some 51))]) (by decide) rfl rfl (Nat.le_of_ble_eq_true rfl) rfl ?_
  refine r_aload_n dX12_here_0 rfl rfl ?_
  refine r_getI (k := 24) cl_12 dX12_here_1 t_1296 (Or.inl rfl) gf_12_24 ?_
  refine r_aload_n dX12_here_4 rfl rfl ?_
  refine r_getI (k := 23) cl_12 dX12_here_5 t_1295 (Or.inl rfl) gf_12_23 ?_
  refine r_icmp_ge (tgt := 27) dX12_here_8 rfl (fun hc => ?_) (fun hc => ?_)
  · replace hm := hm.1 hc
    refine r_iconst (v := (-1)) dX12_here_27 rfl ?_
    exact r_ireturn dX12_here_28 rfl ⟨by decide, by decide⟩ ⟨_, rfl, hm⟩
  · replace hm := hm.2 hc
    refine r_aload_n dX12_here_11 rfl rfl ?_
    refine r_getC (k := 20) cl_12 dX12_here_12 t_1292 gf_12_20.1 gf_12_20.2 (gc_12_20 _) ?_
    refine r_aload_n dX12_here_15 rfl rfl ?_
    refine r_getI (k := 24) cl_12 dX12_here_16 t_1296 (Or.inl rfl) gf_12_24 ?_
    refine r_bald dX12_here_19 hm.1 ?_
    replace hm := hm.2
    refine r_sipush (v := 255) dX12_here_20 rfl ?_
    refine r_iand dX12_here_23 ?_
    refine r_goto (tgt := 28) dX12_here_24 rfl ?_
    exact r_ireturn dX12_here_28 rfl ⟨by decide, by decide⟩ ⟨_, rfl, hm⟩
theorem dX12_next_0 : decode cX12_next 0 = .ok (.aload_n 0, 1) := by decide +kernel
theorem dX12_next_1 : decode cX12_next 1 = .ok (.invokevirtual 198, 3) := by decide +kernel
theorem dX12_next_4 : decode cX12_next 4 = .ok (.bipush 32, 2) := by decide +kernel
theorem dX12_next_6 : decode cX12_next 6 = .ok (.if_icmp .eq 12, 3) := by decide +kernel
theorem dX12_next_9 : decode cX12_next 9 = .ok (.aload_n 0, 1) := by decide +kernel
theorem dX12_next_10 : decode cX12_next 10 = .ok (.invokevirtual 198, 3) := by decide +kernel
theorem dX12_next_13 : decode cX12_next 13 = .ok (.bipush 10, 2) := by decide +kernel
theorem dX12_next_15 : decode cX12_next 15 = .ok (.if_icmp .ne 16, 3) := by decide +kernel
theorem dX12_next_18 : decode cX12_next 18 = .ok (.aload_n 0, 1) := by decide +kernel
theorem dX12_next_19 : decode cX12_next 19 = .ok (.dup, 1) := by decide +kernel
theorem dX12_next_20 : decode cX12_next 20 = .ok (.getfield 192, 3) := by decide +kernel
theorem dX12_next_23 : decode cX12_next 23 = .ok (.iconst 1, 1) := by decide +kernel
theorem dX12_next_24 : decode cX12_next 24 = .ok (.iadd, 1) := by decide +kernel
theorem dX12_next_25 : decode cX12_next 25 = .ok (.putfield 192, 3) := by decide +kernel
theorem dX12_next_28 : decode cX12_next 28 = .ok (.goto (-28), 3) := by decide +kernel
theorem dX12_next_31 : decode cX12_next 31 = .ok (.aload_n 0, 1) := by decide +kernel
theorem dX12_next_32 : decode cX12_next 32 = .ok (.aload_n 0, 1) := by decide +kernel
theorem dX12_next_33 : decode cX12_next 33 = .ok (.getfield 192, 3) := by decide +kernel
theorem dX12_next_36 : decode cX12_next 36 = .ok (.putfield 202, 3) := by decide +kernel
theorem dX12_next_39 : decode cX12_next 39 = .ok (.aload_n 0, 1) := by decide +kernel
theorem dX12_next_40 : decode cX12_next 40 = .ok (.invokevirtual 198, 3) := by decide +kernel
theorem dX12_next_43 : decode cX12_next 43 = .ok (.istore_n 1, 1) := by decide +kernel
theorem dX12_next_44 : decode cX12_next 44 = .ok (.aload_n 0, 1) := by decide +kernel
theorem dX12_next_45 : decode cX12_next 45 = .ok (.ldc2_w 205, 3) := by decide +kernel
theorem dX12_next_48 : decode cX12_next 48 = .ok (.putfield 207, 3) := by decide +kernel
theorem dX12_next_51 : decode cX12_next 51 = .ok (.aload_n 0, 1) := by decide +kernel
theorem dX12_next_52 : decode cX12_next 52 = .ok (.iconst 0, 1) := by decide +kernel
theorem dX12_next_53 : decode cX12_next 53 = .ok (.putfield 211, 3) := by decide +kernel
theorem dX12_next_56 : decode cX12_next 56 = .ok (.iload_n 1, 1) := by decide +kernel
theorem dX12_next_57 : decode cX12_next 57 = .ok (.ifCond .ge 11, 3) := by decide +kernel
theorem dX12_next_60 : decode cX12_next 60 = .ok (.aload_n 0, 1) := by decide +kernel
theorem dX12_next_61 : decode cX12_next 61 = .ok (.iconst 0, 1) := by decide +kernel
theorem dX12_next_62 : decode cX12_next 62 = .ok (.putfield 214, 3) := by decide +kernel
theorem dX12_next_65 : decode cX12_next 65 = .ok (.goto 226, 3) := by decide +kernel
theorem dX12_next_68 : decode cX12_next 68 = .ok (.iload_n 1, 1) := by decide +kernel
theorem dX12_next_69 : decode cX12_next 69 = .ok (.bipush 97, 2) := by decide +kernel
theorem dX12_next_71 : decode cX12_next 71 = .ok (.bipush 122, 2) := by decide +kernel
theorem dX12_next_73 : decode cX12_next 73 = .ok (.invokestatic 185, 3) := by decide +kernel
theorem dX12_next_76 : decode cX12_next 76 = .ok (.ifCond .eq 81, 3) := by decide +kernel
theorem dX12_next_79 : decode cX12_next 79 = .ok (.aload_n 0, 1) := by decide +kernel
theorem dX12_next_80 : decode cX12_next 80 = .ok (.iconst 1, 1) := by decide +kernel
theorem dX12_next_81 : decode cX12_next 81 = .ok (.putfield 214, 3) := by decide +kernel
theorem dX12_next_84 : decode cX12_next 84 = .ok (.aload_n 0, 1) := by decide +kernel
theorem dX12_next_85 : decode cX12_next 85 = .ok (.lconst 0, 1) := by decide +kernel
theorem dX12_next_86 : decode cX12_next 86 = .ok (.putfield 207, 3) := by decide +kernel
theorem dX12_next_89 : decode cX12_next 89 = .ok (.aload_n 0, 1) := by decide +kernel
theorem dX12_next_90 : decode cX12_next 90 = .ok (.invokevirtual 198, 3) := by decide +kernel
theorem dX12_next_93 : decode cX12_next 93 = .ok (.bipush 97, 2) := by decide +kernel
theorem dX12_next_95 : decode cX12_next 95 = .ok (.bipush 122, 2) := by decide +kernel
theorem dX12_next_97 : decode cX12_next 97 = .ok (.invokestatic 185, 3) := by decide +kernel
theorem dX12_next_100 : decode cX12_next 100 = .ok (.ifCond .eq 191, 3) := by decide +kernel
theorem dX12_next_103 : decode cX12_next 103 = .ok (.aload_n 0, 1) := by decide +kernel
theorem dX12_next_104 : decode cX12_next 104 = .ok (.aload_n 0, 1) := by decide +kernel
theorem dX12_next_105 : decode cX12_next 105 = .ok (.getfield 192, 3) := by decide +kernel
theorem dX12_next_108 : decode cX12_next 108 = .ok (.aload_n 0, 1) := by decide +kernel
theorem dX12_next_109 : decode cX12_next 109 = .ok (.getfield 202, 3) := by decide +kernel
theorem dX12_next_112 : decode cX12_next 112 = .ok (.isub, 1) := by decide +kernel
theorem dX12_next_113 : decode cX12_next 113 = .ok (.bipush 6, 2) := by decide +kernel
theorem dX12_next_115 : decode cX12_next 115 = .ok (.if_icmp .ge 23, 3) := by decide +kernel
theorem dX12_next_118 : decode cX12_next 118 = .ok (.aload_n 0, 1) := by decide +kernel
theorem dX12_next_119 : decode cX12_next 119 = .ok (.getfield 207, 3) := by decide +kernel
theorem dX12_next_122 : decode cX12_next 122 = .ok (.ldc2_w 217, 3) := by decide +kernel
theorem dX12_next_125 : decode cX12_next 125 = .ok (.lmul, 1) := by decide +kernel
theorem dX12_next_126 : decode cX12_next 126 = .ok (.aload_n 0, 1) := by decide +kernel
theorem dX12_next_127 : decode cX12_next 127 = .ok (.invokevirtual 198, 3) := by decide +kernel
theorem dX12_next_130 : decode cX12_next 130 = .ok (.bipush 96, 2) := by decide +kernel
theorem dX12_next_132 : decode cX12_next 132 = .ok (.isub, 1) := by decide +kernel
theorem dX12_next_133 : decode cX12_next 133 = .ok (.i2l, 1) := by decide +kernel
theorem dX12_next_134 : decode cX12_next 134 = .ok (.ladd, 1) := by decide +kernel
theorem dX12_next_135 : decode cX12_next 135 = .ok (.goto 6, 3) := by decide +kernel
theorem dX12_next_138 : decode cX12_next 138 = .ok (.ldc2_w 205, 3) := by decide +kernel
theorem dX12_next_141 : decode cX12_next 141 = .ok (.putfield 207, 3) := by decide +kernel
theorem dX12_next_144 : decode cX12_next 144 = .ok (.aload_n 0, 1) := by decide +kernel
theorem dX12_next_145 : decode cX12_next 145 = .ok (.dup, 1) := by decide +kernel
theorem dX12_next_146 : decode cX12_next 146 = .ok (.getfield 192, 3) := by decide +kernel
theorem dX12_next_149 : decode cX12_next 149 = .ok (.iconst 1, 1) := by decide +kernel
theorem dX12_next_150 : decode cX12_next 150 = .ok (.iadd, 1) := by decide +kernel
theorem dX12_next_151 : decode cX12_next 151 = .ok (.putfield 192, 3) := by decide +kernel
theorem dX12_next_154 : decode cX12_next 154 = .ok (.goto (-65), 3) := by decide +kernel
theorem dX12_next_157 : decode cX12_next 157 = .ok (.iload_n 1, 1) := by decide +kernel
theorem dX12_next_158 : decode cX12_next 158 = .ok (.bipush 48, 2) := by decide +kernel
theorem dX12_next_160 : decode cX12_next 160 = .ok (.bipush 57, 2) := by decide +kernel
theorem dX12_next_162 : decode cX12_next 162 = .ok (.invokestatic 185, 3) := by decide +kernel
theorem dX12_next_165 : decode cX12_next 165 = .ok (.ifCond .eq 83, 3) := by decide +kernel
theorem dX12_next_168 : decode cX12_next 168 = .ok (.aload_n 0, 1) := by decide +kernel
theorem dX12_next_169 : decode cX12_next 169 = .ok (.invokevirtual 198, 3) := by decide +kernel
theorem dX12_next_172 : decode cX12_next 172 = .ok (.bipush 48, 2) := by decide +kernel
theorem dX12_next_174 : decode cX12_next 174 = .ok (.bipush 57, 2) := by decide +kernel
theorem dX12_next_176 : decode cX12_next 176 = .ok (.invokestatic 185, 3) := by decide +kernel
theorem dX12_next_179 : decode cX12_next 179 = .ok (.ifCond .eq 44, 3) := by decide +kernel
theorem dX12_next_182 : decode cX12_next 182 = .ok (.aload_n 0, 1) := by decide +kernel
theorem dX12_next_183 : decode cX12_next 183 = .ok (.getfield 211, 3) := by decide +kernel
theorem dX12_next_186 : decode cX12_next 186 = .ok (.ldc 219, 2) := by decide +kernel
theorem dX12_next_188 : decode cX12_next 188 = .ok (.if_icmp .ge 22, 3) := by decide +kernel
theorem dX12_next_191 : decode cX12_next 191 = .ok (.aload_n 0, 1) := by decide +kernel
theorem dX12_next_192 : decode cX12_next 192 = .ok (.bipush 10, 2) := by decide +kernel
theorem dX12_next_194 : decode cX12_next 194 = .ok (.aload_n 0, 1) := by decide +kernel
theorem dX12_next_195 : decode cX12_next 195 = .ok (.getfield 211, 3) := by decide +kernel
theorem dX12_next_198 : decode cX12_next 198 = .ok (.imul, 1) := by decide +kernel
theorem dX12_next_199 : decode cX12_next 199 = .ok (.aload_n 0, 1) := by decide +kernel
theorem dX12_next_200 : decode cX12_next 200 = .ok (.invokevirtual 198, 3) := by decide +kernel
theorem dX12_next_203 : decode cX12_next 203 = .ok (.iadd, 1) := by decide +kernel
theorem dX12_next_204 : decode cX12_next 204 = .ok (.bipush 48, 2) := by decide +kernel
theorem dX12_next_206 : decode cX12_next 206 = .ok (.isub, 1) := by decide +kernel
theorem dX12_next_207 : decode cX12_next 207 = .ok (.putfield 211, 3) := by decide +kernel
theorem dX12_next_210 : decode cX12_next 210 = .ok (.aload_n 0, 1) := by decide +kernel
theorem dX12_next_211 : decode cX12_next 211 = .ok (.dup, 1) := by decide +kernel
theorem dX12_next_212 : decode cX12_next 212 = .ok (.getfield 192, 3) := by decide +kernel
theorem dX12_next_215 : decode cX12_next 215 = .ok (.iconst 1, 1) := by decide +kernel
theorem dX12_next_216 : decode cX12_next 216 = .ok (.iadd, 1) := by decide +kernel
theorem dX12_next_217 : decode cX12_next 217 = .ok (.putfield 192, 3) := by decide +kernel
theorem dX12_next_220 : decode cX12_next 220 = .ok (.goto (-52), 3) := by decide +kernel
theorem dX12_next_223 : decode cX12_next 223 = .ok (.aload_n 0, 1) := by decide +kernel
theorem dX12_next_224 : decode cX12_next 224 = .ok (.aload_n 0, 1) := by decide +kernel
theorem dX12_next_225 : decode cX12_next 225 = .ok (.getfield 192, 3) := by decide +kernel
theorem dX12_next_228 : decode cX12_next 228 = .ok (.aload_n 0, 1) := by decide +kernel
theorem dX12_next_229 : decode cX12_next 229 = .ok (.getfield 202, 3) := by decide +kernel
theorem dX12_next_232 : decode cX12_next 232 = .ok (.isub, 1) := by decide +kernel
theorem dX12_next_233 : decode cX12_next 233 = .ok (.iconst 4, 1) := by decide +kernel
theorem dX12_next_234 : decode cX12_next 234 = .ok (.if_icmp .gt 7, 3) := by decide +kernel
theorem dX12_next_237 : decode cX12_next 237 = .ok (.iconst 2, 1) := by decide +kernel
theorem dX12_next_238 : decode cX12_next 238 = .ok (.goto 4, 3) := by decide +kernel
theorem dX12_next_241 : decode cX12_next 241 = .ok (.iconst 3, 1) := by decide +kernel
theorem dX12_next_242 : decode cX12_next 242 = .ok (.putfield 214, 3) := by decide +kernel
theorem dX12_next_245 : decode cX12_next 245 = .ok (.goto 46, 3) := by decide +kernel
theorem dX12_next_248 : decode cX12_next 248 = .ok (.aload_n 0, 1) := by decide +kernel
theorem dX12_next_249 : decode cX12_next 249 = .ok (.iload_n 1, 1) := by decide +kernel
theorem dX12_next_250 : decode cX12_next 250 = .ok (.bipush 44, 2) := by decide +kernel
theorem dX12_next_252 : decode cX12_next 252 = .ok (.if_icmp .eq 21, 3) := by decide +kernel
theorem dX12_next_255 : decode cX12_next 255 = .ok (.iload_n 1, 1) := by decide +kernel
theorem dX12_next_256 : decode cX12_next 256 = .ok (.bipush 59, 2) := by decide +kernel
theorem dX12_next_258 : decode cX12_next 258 = .ok (.if_icmp .eq 15, 3) := by decide +kernel
theorem dX12_next_261 : decode cX12_next 261 = .ok (.iload_n 1, 1) := by decide +kernel
theorem dX12_next_262 : decode cX12_next 262 = .ok (.bipush 123, 2) := by decide +kernel
theorem dX12_next_264 : decode cX12_next 264 = .ok (.if_icmp .eq 9, 3) := by decide +kernel
theorem dX12_next_267 : decode cX12_next 267 = .ok (.iload_n 1, 1) := by decide +kernel
theorem dX12_next_268 : decode cX12_next 268 = .ok (.bipush 125, 2) := by decide +kernel
theorem dX12_next_270 : decode cX12_next 270 = .ok (.if_icmp .ne 7, 3) := by decide +kernel
theorem dX12_next_273 : decode cX12_next 273 = .ok (.iload_n 1, 1) := by decide +kernel
theorem dX12_next_274 : decode cX12_next 274 = .ok (.goto 4, 3) := by decide +kernel
theorem dX12_next_277 : decode cX12_next 277 = .ok (.iconst 3, 1) := by decide +kernel
theorem dX12_next_278 : decode cX12_next 278 = .ok (.putfield 214, 3) := by decide +kernel
theorem dX12_next_281 : decode cX12_next 281 = .ok (.aload_n 0, 1) := by decide +kernel
theorem dX12_next_282 : decode cX12_next 282 = .ok (.dup, 1) := by decide +kernel
theorem dX12_next_283 : decode cX12_next 283 = .ok (.getfield 192, 3) := by decide +kernel
theorem dX12_next_286 : decode cX12_next 286 = .ok (.iconst 1, 1) := by decide +kernel
theorem dX12_next_287 : decode cX12_next 287 = .ok (.iadd, 1) := by decide +kernel
theorem dX12_next_288 : decode cX12_next 288 = .ok (.putfield 192, 3) := by decide +kernel
theorem dX12_next_291 : decode cX12_next 291 = .ok (.return_, 1) := by decide +kernel
def m_X12_next_278  (Q : Hp → Prop) (s1 : Int32) (h : Hp) : Prop := Q (wI (wI h 51 26 s1) 51 24 ((hI (wI h 51 26 s1) 51 24) + 1))
set_option maxHeartbeats 4000000 in
set_option maxRecDepth 100000 in
theorem s_X12_next_278 {l : Launch} {G : Cx} {d : Nat} {h0 : Hp} (hd : 4 ≤ d) {Q : Hp → Prop} {s1 : Int32} {h : Hp} (hm : m_X12_next_278 Q s1 h) : Rn l G d 0 0 MX12_next h0 (qV Q) 278 [some (tR 12 0 (some 51))] [tI s1, tR 12 0 (some 51)] h 0 0 := by
  unfold m_X12_next_278 at hm
  refine r_putI0 (k := 26) cl_12 dX12_next_278 t_1298 (Or.inl rfl) gf_12_26 pf_12_26.1 (Or.inl pf_12_26.2) ?_
  refine r_aload_n dX12_next_281 rfl rfl ?_
  refine r_dup dX12_next_282 cv_cat1R ?_
  refine r_getI (k := 24) cl_12 dX12_next_283 t_1296 (Or.inl rfl) gf_12_24 ?_
  refine r_iconst (v := 1) dX12_next_286 rfl ?_
  refine r_iadd dX12_next_287 ?_
  refine r_putI0 (k := 24) cl_12 dX12_next_288 t_1296 (Or.inl rfl) gf_12_24 pf_12_24.1 (Or.inl pf_12_24.2) ?_
  exact r_return dX12_next_291 rfl ⟨by decide, by decide⟩ ⟨rfl, hm⟩
def m_X12_next_273  (Q : Hp → Prop) (v1 : Int32) (h : Hp) : Prop := m_X12_next_278 Q v1 h
set_option maxHeartbeats 4000000 in
set_option maxRecDepth 100000 in
theorem s_X12_next_273 {l : Launch} {G : Cx} {d : Nat} {h0 : Hp} (hd : 4 ≤ d) {Q : Hp → Prop} {v1 : Int32} {h : Hp} (hm : m_X12_next_273 Q v1 h) : Rn l G d 0 0 MX12_next h0 (qV Q) 273 [some (tR 12 0 (some 51)), some (tI v1)] [tR 12 0 (some 51)] h 0 0 := by
  unfold m_X12_next_273 at hm
  refine r_iload_n dX12_next_273 rfl rfl ?_
  refine r_goto (tgt := 278) dX12_next_274 rfl ?_
  refine r_keep (L' := [some (tR 12 0 (some 51))]) [true] rfl ?_
  exact s_X12_next_278 hd hm
def m_X12_next_223  (Q : Hp → Prop) (h : Hp) : Prop := (4 < ((hI h 51 24) - (hI h 51 25)) → Q (wI h 51 26 3)) ∧ (¬ 4 < ((hI h 51 24) - (hI h 51 25)) → Q (wI h 51 26 2))
set_option maxHeartbeats 4000000 in
set_option maxRecDepth 100000 in
theorem s_X12_next_223 {l : Launch} {G : Cx} {d : Nat} {h0 : Hp} (hd : 4 ≤ d) {Q : Hp → Prop} {h : Hp} (hm : m_X12_next_223 Q h) : Rn l G d 0 0 MX12_next h0 (qV Q) 223 [some (tR 12 0 (some 51))] [] h 0 0 := by
  unfold m_X12_next_223 at hm
  refine r_aload_n dX12_next_223 rfl rfl ?_
  refine r_aload_n dX12_next_224 rfl rfl ?_
  refine r_getI (k := 24) cl_12 dX12_next_225 t_1296 (Or.inl rfl) gf_12_24 ?_
  refine r_aload_n dX12_next_228 rfl rfl ?_
  refine r_getI (k := 25) cl_12 dX12_next_229 t_1297 (Or.inl rfl) gf_12_25 ?_
  refine r_isub dX12_next_232 ?_
  refine r_iconst (v := 4) dX12_next_233 rfl ?_
  refine r_icmp_gt (tgt := 241) dX12_next_234 rfl (fun hc => ?_) (fun hc => ?_)
  · replace hm := hm.1 hc
    refine r_iconst (v := 3) dX12_next_241 rfl ?_
    refine r_putI0 (k := 26) cl_12 dX12_next_242 t_1298 (Or.inl rfl) gf_12_26 pf_12_26.1 (Or.inl pf_12_26.2) ?_
    refine r_goto (tgt := 291) dX12_next_245 rfl ?_
    exact r_return dX12_next_291 rfl ⟨by decide, by decide⟩ ⟨rfl, hm⟩
  · replace hm := hm.2 hc
    refine r_iconst (v := 2) dX12_next_237 rfl ?_
    refine r_goto (tgt := 242) dX12_next_238 rfl ?_
    refine r_putI0 (k := 26) cl_12 dX12_next_242 t_1298 (Or.inl rfl) gf_12_26 pf_12_26.1 (Or.inl pf_12_26.2) ?_
    refine r_goto (tgt := 291) dX12_next_245 rfl ?_
    exact r_return dX12_next_291 rfl ⟨by decide, by decide⟩ ⟨rfl, hm⟩
def m_X12_next_210 (k168 : Hp → Prop) (k223 : Hp → Prop) (Q : Hp → Prop) (h : Hp) : Prop := k168 (wI h 51 24 ((hI h 51 24) + 1))
set_option maxHeartbeats 4000000 in
set_option maxRecDepth 100000 in
theorem s_X12_next_210 {l : Launch} {G : Cx} {d : Nat} {h0 : Hp} (hd : 4 ≤ d) {k168 : Hp → Prop} {k223 : Hp → Prop} {Q : Hp → Prop} (hk168 : ∀ (hh : Hp), k168 hh → Rn l G d 0 0 MX12_next h0 (qV Q) 168 [some (tR 12 0 (some 51))] [] hh 0 0) (hk223 : ∀ (hh : Hp), k223 hh → Rn l G d 0 0 MX12_next h0 (qV Q) 223 [some (tR 12 0 (some 51))] [] hh 0 0) {h : Hp} (hm : m_X12_next_210 k168 k223 Q h) : Rn l G d 0 0 MX12_next h0 (qV Q) 210 [some (tR 12 0 (some 51))] [] h 0 0 := by
  unfold m_X12_next_210 at hm
  refine r_aload_n dX12_next_210 rfl rfl ?_
  refine r_dup dX12_next_211 cv_cat1R ?_
  refine r_getI (k := 24) cl_12 dX12_next_212 t_1296 (Or.inl rfl) gf_12_24 ?_
  refine r_iconst (v := 1) dX12_next_215 rfl ?_
  refine r_iadd dX12_next_216 ?_
  refine r_putI0 (k := 24) cl_12 dX12_next_217 t_1296 (Or.inl rfl) gf_12_24 pf_12_24.1 (Or.inl pf_12_24.2) ?_
  refine r_goto (tgt := 168) dX12_next_220 rfl ?_
  refine r_keep (L' := [some (tR 12 0 (some 51))]) [true] rfl ?_
  exact hk168 _ hm
def m_X12_next_168 : Nat → (Hp → Prop) → (Hp → Prop) → Hp → Prop
  | 0, _, _, _ => False
  | n + 1, k223, Q, h => m_X12_here h (fun (x1 : Int32) (h2 : Hp) => m_X12_within x1 48 57 h2 (fun (x3 : Int32) (h4 : Hp) => (x3 = 0 → k223 h4) ∧ (¬ x3 = 0 → (1000000 ≤ (hI h4 51 27) → m_X12_next_210 (fun (hh : Hp) => m_X12_next_168 n k223 Q hh) k223 Q h4) ∧ (¬ 1000000 ≤ (hI h4 51 27) → m_X12_here h4 (fun (x5 : Int32) (h6 : Hp) => m_X12_next_210 (fun (hh : Hp) => m_X12_next_168 n k223 Q hh) k223 Q (wI h6 51 27 (((10 * (hI h4 51 27)) + x5) - 48)))))))
set_option maxHeartbeats 4000000 in
set_option maxRecDepth 100000 in
theorem s_X12_next_168 {l : Launch} {G : Cx} {d : Nat} {h0 : Hp} (hd : 4 ≤ d) {k223 : Hp → Prop} {Q : Hp → Prop} (hk223 : ∀ (hh : Hp), k223 hh → Rn l G d 0 0 MX12_next h0 (qV Q) 223 [some (tR 12 0 (some 51))] [] hh 0 0) : ∀ {n : Nat} {h : Hp}, m_X12_next_168 n k223 Q h → Rn l G d 0 0 MX12_next h0 (qV Q) 168 [some (tR 12 0 (some 51))] [] h 0 0 := by
  intro n
  induction n with
  | zero => intro h hm; exact hm.elim
  | succ n ih =>
    intro h hm
    have hk168 := fun (hh : Hp) (hm : m_X12_next_168 n k223 Q hh) => ih hm
    rw [m_X12_next_168] at hm
    refine r_aload_n dX12_next_168 rfl rfl ?_
    refine r_callVI (d' := d - 1) (as := []) (st := []) cl_12 dX12_next_169 mi_X12_here t_1576 t_1578 ts_59 rfl rfl (Nat.le_of_ble_eq_true rfl) (by omega) ⟨by decide, by decide⟩ ⟨rfl, rfl⟩ (s_X12_here (by omega) hm) (fun x1 h2 hm => ?_)
    refine r_bipush (v := 48) dX12_next_172 rfl ?_
    refine r_bipush (v := 57) dX12_next_174 rfl ?_
    refine r_callSI (d' := d - 1) (as := [tI x1, tI 48, tI 57]) (st := []) dX12_next_176 mi_X12_within t_1557 t_1558 rfl rfl (Nat.le_of_ble_eq_true rfl) (by omega) ⟨by decide, by decide⟩ ⟨rfl, rfl⟩ (s_X12_within (by omega) hm) (fun x3 h4 hm => ?_)
    refine r_if_eq (tgt := 223) dX12_next_179 rfl (fun hc => ?_) (fun hc => ?_)
    · replace hm := hm.1 hc
      refine r_keep (L' := [some (tR 12 0 (some 51))]) [true] rfl ?_
      exact hk223 _ hm
    · replace hm := hm.2 hc
      refine r_aload_n dX12_next_182 rfl rfl ?_
      refine r_getI (k := 27) cl_12 dX12_next_183 t_1299 (Or.inl rfl) gf_12_27 ?_
      refine r_ldc dX12_next_186 t_1582 ?_
      refine r_icmp_ge (tgt := 210) dX12_next_188 rfl (fun hc => ?_) (fun hc => ?_)
      · replace hm := hm.1 hc
        refine r_keep (L' := [some (tR 12 0 (some 51))]) [true] rfl ?_
        exact s_X12_next_210 hd hk168 hk223 hm
      · replace hm := hm.2 hc
        refine r_aload_n dX12_next_191 rfl rfl ?_
        refine r_bipush (v := 10) dX12_next_192 rfl ?_
        refine r_aload_n dX12_next_194 rfl rfl ?_
        refine r_getI (k := 27) cl_12 dX12_next_195 t_1299 (Or.inl rfl) gf_12_27 ?_
        refine r_imul dX12_next_198 ?_
        refine r_aload_n dX12_next_199 rfl rfl ?_
        refine r_callVI (d' := d - 1) (as := []) (st := [tI (10 * (hI h4 51 27)), tR 12 0 (some 51)]) cl_12 dX12_next_200 mi_X12_here t_1576 t_1578 ts_59 rfl rfl (Nat.le_of_ble_eq_true rfl) (by omega) ⟨by decide, by decide⟩ ⟨rfl, rfl⟩ (s_X12_here (by omega) hm) (fun x5 h6 hm => ?_)
        refine r_iadd dX12_next_203 ?_
        refine r_bipush (v := 48) dX12_next_204 rfl ?_
        refine r_isub dX12_next_206 ?_
        refine r_putI0 (k := 27) cl_12 dX12_next_207 t_1299 (Or.inl rfl) gf_12_27 pf_12_27.1 (Or.inl pf_12_27.2) ?_
        refine r_keep (L' := [some (tR 12 0 (some 51))]) [true] rfl ?_
        exact s_X12_next_210 hd hk168 hk223 hm
def m_X12_next_141 (k89 : Hp → Prop) (Q : Hp → Prop) (s1 : Int64) (h : Hp) : Prop := k89 (wI (wJ h 51 28 s1) 51 24 ((hI (wJ h 51 28 s1) 51 24) + 1))
set_option maxHeartbeats 4000000 in
set_option maxRecDepth 100000 in
theorem s_X12_next_141 {l : Launch} {G : Cx} {d : Nat} {h0 : Hp} (hd : 4 ≤ d) {k89 : Hp → Prop} {Q : Hp → Prop} (hk89 : ∀ (hh : Hp), k89 hh → Rn l G d 0 0 MX12_next h0 (qV Q) 89 [some (tR 12 0 (some 51))] [] hh 0 0) {s1 : Int64} {h : Hp} (hm : m_X12_next_141 k89 Q s1 h) : Rn l G d 0 0 MX12_next h0 (qV Q) 141 [some (tR 12 0 (some 51))] [tJ s1, tR 12 0 (some 51)] h 0 0 := by
  unfold m_X12_next_141 at hm
  refine r_putJ0 (k := 28) cl_12 dX12_next_141 t_1300 (Or.inl rfl) gf_12_28 pf_12_28.1 (Or.inl pf_12_28.2) ?_
  refine r_aload_n dX12_next_144 rfl rfl ?_
  refine r_dup dX12_next_145 cv_cat1R ?_
  refine r_getI (k := 24) cl_12 dX12_next_146 t_1296 (Or.inl rfl) gf_12_24 ?_
  refine r_iconst (v := 1) dX12_next_149 rfl ?_
  refine r_iadd dX12_next_150 ?_
  refine r_putI0 (k := 24) cl_12 dX12_next_151 t_1296 (Or.inl rfl) gf_12_24 pf_12_24.1 (Or.inl pf_12_24.2) ?_
  refine r_goto (tgt := 89) dX12_next_154 rfl ?_
  refine r_keep (L' := [some (tR 12 0 (some 51))]) [true] rfl ?_
  exact hk89 _ hm
def m_X12_next_89 : Nat → (Hp → Prop) → Hp → Prop
  | 0, _, _ => False
  | n + 1, Q, h => m_X12_here h (fun (x7 : Int32) (h8 : Hp) => m_X12_within x7 97 122 h8 (fun (x9 : Int32) (h10 : Hp) => (x9 = 0 → Q h10) ∧ (¬ x9 = 0 → (6 ≤ ((hI h10 51 24) - (hI h10 51 25)) → m_X12_next_141 (fun (hh : Hp) => m_X12_next_89 n Q hh) Q (-1) h10) ∧ (¬ 6 ≤ ((hI h10 51 24) - (hI h10 51 25)) → m_X12_here h10 (fun (x11 : Int32) (h12 : Hp) => m_X12_next_141 (fun (hh : Hp) => m_X12_next_89 n Q hh) Q (((hJ h10 51 28) * 27) + ((x11 - 96).toInt64)) h12)))))
set_option maxHeartbeats 4000000 in
set_option maxRecDepth 100000 in
theorem s_X12_next_89 {l : Launch} {G : Cx} {d : Nat} {h0 : Hp} (hd : 4 ≤ d) {Q : Hp → Prop} : ∀ {n : Nat} {h : Hp}, m_X12_next_89 n Q h → Rn l G d 0 0 MX12_next h0 (qV Q) 89 [some (tR 12 0 (some 51))] [] h 0 0 := by
  intro n
  induction n with
  | zero => intro h hm; exact hm.elim
  | succ n ih =>
    intro h hm
    have hk89 := fun (hh : Hp) (hm : m_X12_next_89 n Q hh) => ih hm
    rw [m_X12_next_89] at hm
    refine r_aload_n dX12_next_89 rfl rfl ?_
    refine r_callVI (d' := d - 1) (as := []) (st := []) cl_12 dX12_next_90 mi_X12_here t_1576 t_1578 ts_59 rfl rfl (Nat.le_of_ble_eq_true rfl) (by omega) ⟨by decide, by decide⟩ ⟨rfl, rfl⟩ (s_X12_here (by omega) hm) (fun x7 h8 hm => ?_)
    refine r_bipush (v := 97) dX12_next_93 rfl ?_
    refine r_bipush (v := 122) dX12_next_95 rfl ?_
    refine r_callSI (d' := d - 1) (as := [tI x7, tI 97, tI 122]) (st := []) dX12_next_97 mi_X12_within t_1557 t_1558 rfl rfl (Nat.le_of_ble_eq_true rfl) (by omega) ⟨by decide, by decide⟩ ⟨rfl, rfl⟩ (s_X12_within (by omega) hm) (fun x9 h10 hm => ?_)
    refine r_if_eq (tgt := 291) dX12_next_100 rfl (fun hc => ?_) (fun hc => ?_)
    · replace hm := hm.1 hc
      exact r_return dX12_next_291 rfl ⟨by decide, by decide⟩ ⟨rfl, hm⟩
    · replace hm := hm.2 hc
      refine r_aload_n dX12_next_103 rfl rfl ?_
      refine r_aload_n dX12_next_104 rfl rfl ?_
      refine r_getI (k := 24) cl_12 dX12_next_105 t_1296 (Or.inl rfl) gf_12_24 ?_
      refine r_aload_n dX12_next_108 rfl rfl ?_
      refine r_getI (k := 25) cl_12 dX12_next_109 t_1297 (Or.inl rfl) gf_12_25 ?_
      refine r_isub dX12_next_112 ?_
      refine r_bipush (v := 6) dX12_next_113 rfl ?_
      refine r_icmp_ge (tgt := 138) dX12_next_115 rfl (fun hc => ?_) (fun hc => ?_)
      · replace hm := hm.1 hc
        refine r_ldc2_w dX12_next_138 t_1580 ?_
        refine r_keep (L' := [some (tR 12 0 (some 51))]) [true] rfl ?_
        exact s_X12_next_141 hd hk89 hm
      · replace hm := hm.2 hc
        refine r_aload_n dX12_next_118 rfl rfl ?_
        refine r_getJ (k := 28) cl_12 dX12_next_119 t_1300 (Or.inl rfl) gf_12_28 ?_
        refine r_ldc2_w dX12_next_122 t_1581 ?_
        refine r_lmul dX12_next_125 ?_
        refine r_aload_n dX12_next_126 rfl rfl ?_
        refine r_callVI (d' := d - 1) (as := []) (st := [tJ ((hJ h10 51 28) * 27), tR 12 0 (some 51)]) cl_12 dX12_next_127 mi_X12_here t_1576 t_1578 ts_59 rfl rfl (Nat.le_of_ble_eq_true rfl) (by omega) ⟨by decide, by decide⟩ ⟨rfl, rfl⟩ (s_X12_here (by omega) hm) (fun x11 h12 hm => ?_)
        refine r_bipush (v := 96) dX12_next_130 rfl ?_
        refine r_isub dX12_next_132 ?_
        refine r_i2l dX12_next_133 ?_
        refine r_ladd dX12_next_134 ?_
        refine r_goto (tgt := 141) dX12_next_135 rfl ?_
        refine r_keep (L' := [some (tR 12 0 (some 51))]) [true] rfl ?_
        exact s_X12_next_141 hd hk89 hm
def m_X12_next_31  (Q : Hp → Prop) (h : Hp) : Prop := m_X12_here (wI h 51 25 (hI h 51 24)) (fun (x13 : Int32) (h14 : Hp) => (0 ≤ x13 → m_X12_within x13 97 122 (wI (wJ h14 51 28 (-1)) 51 27 0) (fun (x15 : Int32) (h16 : Hp) => (x15 = 0 → m_X12_within x13 48 57 h16 (fun (x17 : Int32) (h18 : Hp) => (x17 = 0 → (x13 = 44 → m_X12_next_273 Q x13 h18) ∧ (¬ x13 = 44 → (x13 = 59 → m_X12_next_273 Q x13 h18) ∧ (¬ x13 = 59 → (x13 = 123 → m_X12_next_273 Q x13 h18) ∧ (¬ x13 = 123 → (¬ x13 = 125 → m_X12_next_278 Q 3 h18) ∧ (x13 = 125 → m_X12_next_273 Q x13 h18))))) ∧ (¬ x17 = 0 → ∃ n168, m_X12_next_168 n168 (m_X12_next_223 Q) Q h18))) ∧ (¬ x15 = 0 → ∃ n89, m_X12_next_89 n89 Q (wJ (wI h16 51 26 1) 51 28 0)))) ∧ (¬ 0 ≤ x13 → Q (wI (wI (wJ h14 51 28 (-1)) 51 27 0) 51 26 0)))
set_option maxHeartbeats 4000000 in
set_option maxRecDepth 100000 in
theorem s_X12_next_31 {l : Launch} {G : Cx} {d : Nat} {h0 : Hp} (hd : 4 ≤ d) {Q : Hp → Prop} {h : Hp} (hm : m_X12_next_31 Q h) : Rn l G d 0 0 MX12_next h0 (qV Q) 31 [some (tR 12 0 (some 51))] [] h 0 0 := by
  unfold m_X12_next_31 at hm
  refine r_aload_n dX12_next_31 rfl rfl ?_
  refine r_aload_n dX12_next_32 rfl rfl ?_
  refine r_getI (k := 24) cl_12 dX12_next_33 t_1296 (Or.inl rfl) gf_12_24 ?_
  refine r_putI0 (k := 25) cl_12 dX12_next_36 t_1297 (Or.inl rfl) gf_12_25 pf_12_25.1 (Or.inl pf_12_25.2) ?_
  refine r_aload_n dX12_next_39 rfl rfl ?_
  refine r_callVI (d' := d - 1) (as := []) (st := []) cl_12 dX12_next_40 mi_X12_here t_1576 t_1578 ts_59 rfl rfl (Nat.le_of_ble_eq_true rfl) (by omega) ⟨by decide, by decide⟩ ⟨rfl, rfl⟩ (s_X12_here (by omega) hm) (fun x13 h14 hm => ?_)
  refine r_istore_n (L' := [some (tR 12 0 (some 51)), some (tI x13)]) dX12_next_43 rfl (by decide) rfl ?_
  refine r_aload_n dX12_next_44 rfl rfl ?_
  refine r_ldc2_w dX12_next_45 t_1580 ?_
  refine r_putJ0 (k := 28) cl_12 dX12_next_48 t_1300 (Or.inl rfl) gf_12_28 pf_12_28.1 (Or.inl pf_12_28.2) ?_
  refine r_aload_n dX12_next_51 rfl rfl ?_
  refine r_iconst (v := 0) dX12_next_52 rfl ?_
  refine r_putI0 (k := 27) cl_12 dX12_next_53 t_1299 (Or.inl rfl) gf_12_27 pf_12_27.1 (Or.inl pf_12_27.2) ?_
  refine r_iload_n dX12_next_56 rfl rfl ?_
  refine r_if_ge (tgt := 68) dX12_next_57 rfl (fun hc => ?_) (fun hc => ?_)
  · replace hm := hm.1 hc
    refine r_iload_n dX12_next_68 rfl rfl ?_
    refine r_bipush (v := 97) dX12_next_69 rfl ?_
    refine r_bipush (v := 122) dX12_next_71 rfl ?_
    refine r_callSI (d' := d - 1) (as := [tI x13, tI 97, tI 122]) (st := []) dX12_next_73 mi_X12_within t_1557 t_1558 rfl rfl (Nat.le_of_ble_eq_true rfl) (by omega) ⟨by decide, by decide⟩ ⟨rfl, rfl⟩ (s_X12_within (by omega) hm) (fun x15 h16 hm => ?_)
    refine r_if_eq (tgt := 157) dX12_next_76 rfl (fun hc => ?_) (fun hc => ?_)
    · replace hm := hm.1 hc
      refine r_iload_n dX12_next_157 rfl rfl ?_
      refine r_bipush (v := 48) dX12_next_158 rfl ?_
      refine r_bipush (v := 57) dX12_next_160 rfl ?_
      refine r_callSI (d' := d - 1) (as := [tI x13, tI 48, tI 57]) (st := []) dX12_next_162 mi_X12_within t_1557 t_1558 rfl rfl (Nat.le_of_ble_eq_true rfl) (by omega) ⟨by decide, by decide⟩ ⟨rfl, rfl⟩ (s_X12_within (by omega) hm) (fun x17 h18 hm => ?_)
      refine r_if_eq (tgt := 248) dX12_next_165 rfl (fun hc => ?_) (fun hc => ?_)
      · replace hm := hm.1 hc
        refine r_aload_n dX12_next_248 rfl rfl ?_
        refine r_iload_n dX12_next_249 rfl rfl ?_
        refine r_bipush (v := 44) dX12_next_250 rfl ?_
        refine r_icmp_eq (tgt := 273) dX12_next_252 rfl (fun hc => ?_) (fun hc => ?_)
        · replace hm := hm.1 hc
          refine r_keep (L' := [some (tR 12 0 (some 51)), some (tI x13)]) [true, true] rfl ?_
          exact s_X12_next_273 hd hm
        · replace hm := hm.2 hc
          refine r_iload_n dX12_next_255 rfl rfl ?_
          refine r_bipush (v := 59) dX12_next_256 rfl ?_
          refine r_icmp_eq (tgt := 273) dX12_next_258 rfl (fun hc => ?_) (fun hc => ?_)
          · replace hm := hm.1 hc
            refine r_keep (L' := [some (tR 12 0 (some 51)), some (tI x13)]) [true, true] rfl ?_
            exact s_X12_next_273 hd hm
          · replace hm := hm.2 hc
            refine r_iload_n dX12_next_261 rfl rfl ?_
            refine r_bipush (v := 123) dX12_next_262 rfl ?_
            refine r_icmp_eq (tgt := 273) dX12_next_264 rfl (fun hc => ?_) (fun hc => ?_)
            · replace hm := hm.1 hc
              refine r_keep (L' := [some (tR 12 0 (some 51)), some (tI x13)]) [true, true] rfl ?_
              exact s_X12_next_273 hd hm
            · replace hm := hm.2 hc
              refine r_iload_n dX12_next_267 rfl rfl ?_
              refine r_bipush (v := 125) dX12_next_268 rfl ?_
              refine r_icmp_ne (tgt := 277) dX12_next_270 rfl (fun hc => ?_) (fun hc => ?_)
              · replace hm := hm.1 hc
                refine r_iconst (v := 3) dX12_next_277 rfl ?_
                refine r_keep (L' := [some (tR 12 0 (some 51))]) [true] rfl ?_
                exact s_X12_next_278 hd hm
              · replace hm := hm.2 hc
                refine r_keep (L' := [some (tR 12 0 (some 51)), some (tI x13)]) [true, true] rfl ?_
                exact s_X12_next_273 hd hm
      · replace hm := hm.2 hc
        refine r_keep (L' := [some (tR 12 0 (some 51))]) [true] rfl ?_
        obtain ⟨n, hm⟩ := hm
        refine s_X12_next_168 hd ?_ hm
        · exact (fun _ hm => s_X12_next_223 hd hm)
    · replace hm := hm.2 hc
      refine r_aload_n dX12_next_79 rfl rfl ?_
      refine r_iconst (v := 1) dX12_next_80 rfl ?_
      refine r_putI0 (k := 26) cl_12 dX12_next_81 t_1298 (Or.inl rfl) gf_12_26 pf_12_26.1 (Or.inl pf_12_26.2) ?_
      refine r_aload_n dX12_next_84 rfl rfl ?_
      refine r_lconst (v := 0) dX12_next_85 rfl ?_
      refine r_putJ0 (k := 28) cl_12 dX12_next_86 t_1300 (Or.inl rfl) gf_12_28 pf_12_28.1 (Or.inl pf_12_28.2) ?_
      refine r_keep (L' := [some (tR 12 0 (some 51))]) [true] rfl ?_
      obtain ⟨n, hm⟩ := hm
      refine s_X12_next_89 hd hm
  · replace hm := hm.2 hc
    refine r_aload_n dX12_next_60 rfl rfl ?_
    refine r_iconst (v := 0) dX12_next_61 rfl ?_
    refine r_putI0 (k := 26) cl_12 dX12_next_62 t_1298 (Or.inl rfl) gf_12_26 pf_12_26.1 (Or.inl pf_12_26.2) ?_
    refine r_goto (tgt := 291) dX12_next_65 rfl ?_
    exact r_return dX12_next_291 rfl ⟨by decide, by decide⟩ ⟨rfl, hm⟩
def m_X12_next_18 (k0 : Hp → Prop) (k31 : Hp → Prop) (Q : Hp → Prop) (h : Hp) : Prop := k0 (wI h 51 24 ((hI h 51 24) + 1))
set_option maxHeartbeats 4000000 in
set_option maxRecDepth 100000 in
theorem s_X12_next_18 {l : Launch} {G : Cx} {d : Nat} {h0 : Hp} (hd : 4 ≤ d) {k0 : Hp → Prop} {k31 : Hp → Prop} {Q : Hp → Prop} (hk0 : ∀ (hh : Hp), k0 hh → Rn l G d 0 0 MX12_next h0 (qV Q) 0 [some (tR 12 0 (some 51))] [] hh 0 0) (hk31 : ∀ (hh : Hp), k31 hh → Rn l G d 0 0 MX12_next h0 (qV Q) 31 [some (tR 12 0 (some 51))] [] hh 0 0) {h : Hp} (hm : m_X12_next_18 k0 k31 Q h) : Rn l G d 0 0 MX12_next h0 (qV Q) 18 [some (tR 12 0 (some 51))] [] h 0 0 := by
  unfold m_X12_next_18 at hm
  refine r_aload_n dX12_next_18 rfl rfl ?_
  refine r_dup dX12_next_19 cv_cat1R ?_
  refine r_getI (k := 24) cl_12 dX12_next_20 t_1296 (Or.inl rfl) gf_12_24 ?_
  refine r_iconst (v := 1) dX12_next_23 rfl ?_
  refine r_iadd dX12_next_24 ?_
  refine r_putI0 (k := 24) cl_12 dX12_next_25 t_1296 (Or.inl rfl) gf_12_24 pf_12_24.1 (Or.inl pf_12_24.2) ?_
  refine r_goto (tgt := 0) dX12_next_28 rfl ?_
  refine r_keep (L' := [some (tR 12 0 (some 51))]) [true] rfl ?_
  exact hk0 _ hm
def m_X12_next_0 : Nat → (Hp → Prop) → (Hp → Prop) → Hp → Prop
  | 0, _, _, _ => False
  | n + 1, k31, Q, h => m_X12_here h (fun (x19 : Int32) (h20 : Hp) => (x19 = 32 → m_X12_next_18 (fun (hh : Hp) => m_X12_next_0 n k31 Q hh) k31 Q h20) ∧ (¬ x19 = 32 → m_X12_here h20 (fun (x21 : Int32) (h22 : Hp) => (¬ x21 = 10 → k31 h22) ∧ (x21 = 10 → m_X12_next_18 (fun (hh : Hp) => m_X12_next_0 n k31 Q hh) k31 Q h22))))
set_option maxHeartbeats 4000000 in
set_option maxRecDepth 100000 in
theorem s_X12_next_0 {l : Launch} {G : Cx} {d : Nat} {h0 : Hp} (hd : 4 ≤ d) {k31 : Hp → Prop} {Q : Hp → Prop} (hk31 : ∀ (hh : Hp), k31 hh → Rn l G d 0 0 MX12_next h0 (qV Q) 31 [some (tR 12 0 (some 51))] [] hh 0 0) : ∀ {n : Nat} {h : Hp}, m_X12_next_0 n k31 Q h → Rn l G d 0 0 MX12_next h0 (qV Q) 0 [some (tR 12 0 (some 51))] [] h 0 0 := by
  intro n
  induction n with
  | zero => intro h hm; exact hm.elim
  | succ n ih =>
    intro h hm
    have hk0 := fun (hh : Hp) (hm : m_X12_next_0 n k31 Q hh) => ih hm
    rw [m_X12_next_0] at hm
    refine r_aload_n dX12_next_0 rfl rfl ?_
    refine r_callVI (d' := d - 1) (as := []) (st := []) cl_12 dX12_next_1 mi_X12_here t_1576 t_1578 ts_59 rfl rfl (Nat.le_of_ble_eq_true rfl) (by omega) ⟨by decide, by decide⟩ ⟨rfl, rfl⟩ (s_X12_here (by omega) hm) (fun x19 h20 hm => ?_)
    refine r_bipush (v := 32) dX12_next_4 rfl ?_
    refine r_icmp_eq (tgt := 18) dX12_next_6 rfl (fun hc => ?_) (fun hc => ?_)
    · replace hm := hm.1 hc
      refine r_keep (L' := [some (tR 12 0 (some 51))]) [true] rfl ?_
      exact s_X12_next_18 hd hk0 hk31 hm
    · replace hm := hm.2 hc
      refine r_aload_n dX12_next_9 rfl rfl ?_
      refine r_callVI (d' := d - 1) (as := []) (st := []) cl_12 dX12_next_10 mi_X12_here t_1576 t_1578 ts_59 rfl rfl (Nat.le_of_ble_eq_true rfl) (by omega) ⟨by decide, by decide⟩ ⟨rfl, rfl⟩ (s_X12_here (by omega) hm) (fun x21 h22 hm => ?_)
      refine r_bipush (v := 10) dX12_next_13 rfl ?_
      refine r_icmp_ne (tgt := 31) dX12_next_15 rfl (fun hc => ?_) (fun hc => ?_)
      · replace hm := hm.1 hc
        refine r_keep (L' := [some (tR 12 0 (some 51))]) [true] rfl ?_
        exact hk31 _ hm
      · replace hm := hm.2 hc
        refine r_keep (L' := [some (tR 12 0 (some 51))]) [true] rfl ?_
        exact s_X12_next_18 hd hk0 hk31 hm
def m_X12_next  (h : Hp) (Q : Hp → Prop) : Prop := ∃ n0, m_X12_next_0 n0 (m_X12_next_31 Q) Q h
set_option maxHeartbeats 4000000 in
set_option maxRecDepth 100000 in
theorem s_X12_next {l : Launch} {G : Cx} {d : Nat} (hd : 4 ≤ d) {h : Hp} {Q : Hp → Prop} (hm : m_X12_next h Q) : Ct l G d 0 0 yX12_next MX12_next [tR 12 0 (some 51)] h (qV Q) := by
  unfold m_X12_next at hm
  refine Ct.of (L := [some (tR 12 0 (some 51))]) (by decide) rfl rfl (Nat.le_of_ble_eq_true rfl) rfl ?_
  refine r_keep (L' := [some (tR 12 0 (some 51))]) [true] rfl ?_
  obtain ⟨n, hm⟩ := hm
  refine s_X12_next_0 hd ?_ hm
  · exact (fun _ hm => s_X12_next_31 hd hm)
theorem dX12_errs_0 : decode cX12_errs 0 = .ok (.aload_n 0, 1) := rfl
theorem dX12_errs_1 : decode cX12_errs 1 = .ok (.getfield 220, 3) := rfl
theorem dX12_errs_4 : decode cX12_errs 4 = .ok (.ifCond .eq 4, 3) := by decide +kernel
theorem dX12_errs_7 : decode cX12_errs 7 = .ok (.return_, 1) := rfl
theorem dX12_errs_8 : decode cX12_errs 8 = .ok (.aload_n 0, 1) := rfl
theorem dX12_errs_9 : decode cX12_errs 9 = .ok (.iconst 1, 1) := rfl
theorem dX12_errs_10 : decode cX12_errs 10 = .ok (.putfield 220, 3) := rfl
theorem dX12_errs_13 : decode cX12_errs 13 = .ok (.aload_n 0, 1) := rfl
theorem dX12_errs_14 : decode cX12_errs 14 = .ok (.aload_n 0, 1) := rfl
theorem dX12_errs_15 : decode cX12_errs 15 = .ok (.getfield 202, 3) := rfl
theorem dX12_errs_18 : decode cX12_errs 18 = .ok (.putfield 71, 3) := rfl
theorem dX12_errs_21 : decode cX12_errs 21 = .ok (.return_, 1) := rfl
def m_X12_errs  (h : Hp) (Q : Hp → Prop) : Prop := ((hI h 51 29) = 0 → Q (wI (wI h 51 29 1) 51 22 (hI (wI h 51 29 1) 51 25))) ∧ (¬ (hI h 51 29) = 0 → Q h)
set_option maxHeartbeats 4000000 in
set_option maxRecDepth 100000 in
theorem s_X12_errs {l : Launch} {G : Cx} {d : Nat} (hd : 2 ≤ d) {h : Hp} {Q : Hp → Prop} (hm : m_X12_errs h Q) : Ct l G d 0 0 yX12_errs MX12_errs [tR 12 0 (some 51)] h (qV Q) := by
  unfold m_X12_errs at hm
  refine Ct.of (L := [some (tR 12 0 (some 51))]) (by decide) rfl rfl (Nat.le_of_ble_eq_true rfl) rfl ?_
  refine r_aload_n dX12_errs_0 rfl rfl ?_
  refine r_getI (k := 29) cl_12 dX12_errs_1 t_1301 (Or.inl rfl) gf_12_29 ?_
  refine r_if_eq (tgt := 8) dX12_errs_4 rfl (fun hc => ?_) (fun hc => ?_)
  · replace hm := hm.1 hc
    refine r_aload_n dX12_errs_8 rfl rfl ?_
    refine r_iconst (v := 1) dX12_errs_9 rfl ?_
    refine r_putZ0 (k := 29) cl_12 dX12_errs_10 t_1301 (Or.inl rfl) gf_12_29 pf_12_29.1 (Or.inl pf_12_29.2) (by unfold bz; decide) ?_
    refine r_aload_n dX12_errs_13 rfl rfl ?_
    refine r_aload_n dX12_errs_14 rfl rfl ?_
    refine r_getI (k := 25) cl_12 dX12_errs_15 t_1297 (Or.inl rfl) gf_12_25 ?_
    refine r_putI0 (k := 22) cl_12 dX12_errs_18 t_1294 (Or.inl rfl) gf_12_22 pf_12_22.1 (Or.inl pf_12_22.2) ?_
    exact r_return dX12_errs_21 rfl ⟨by decide, by decide⟩ ⟨rfl, hm⟩
  · replace hm := hm.2 hc
    exact r_return dX12_errs_7 rfl ⟨by decide, by decide⟩ ⟨rfl, hm⟩
theorem dX12_is_0 : decode cX12_is 0 = .ok (.aload_n 0, 1) := rfl
theorem dX12_is_1 : decode cX12_is 1 = .ok (.getfield 214, 3) := rfl
theorem dX12_is_4 : decode cX12_is 4 = .ok (.iconst 1, 1) := rfl
theorem dX12_is_5 : decode cX12_is 5 = .ok (.if_icmp .ne 16, 3) := by decide +kernel
theorem dX12_is_8 : decode cX12_is 8 = .ok (.aload_n 0, 1) := rfl
theorem dX12_is_9 : decode cX12_is 9 = .ok (.getfield 207, 3) := rfl
theorem dX12_is_12 : decode cX12_is 12 = .ok (.lload_n 1, 1) := rfl
theorem dX12_is_13 : decode cX12_is 13 = .ok (.lcmp, 1) := rfl
theorem dX12_is_14 : decode cX12_is 14 = .ok (.ifCond .ne 7, 3) := by decide +kernel
theorem dX12_is_17 : decode cX12_is 17 = .ok (.iconst 1, 1) := rfl
theorem dX12_is_18 : decode cX12_is 18 = .ok (.goto 4, 3) := by decide +kernel
theorem dX12_is_21 : decode cX12_is 21 = .ok (.iconst 0, 1) := rfl
theorem dX12_is_22 : decode cX12_is 22 = .ok (.ireturn, 1) := rfl
def m_X12_is (v1 : Int64) (h : Hp) (Q : Int32 → Hp → Prop) : Prop := (¬ (hI h 51 26) = 1 → Q 0 h) ∧ ((hI h 51 26) = 1 → (¬ (lg_cmp (hJ h 51 28) v1) = 0 → Q 0 h) ∧ ((lg_cmp (hJ h 51 28) v1) = 0 → Q 1 h))
set_option maxHeartbeats 4000000 in
set_option maxRecDepth 100000 in
theorem s_X12_is {l : Launch} {G : Cx} {d : Nat} (hd : 2 ≤ d) {v1 : Int64} {h : Hp} {Q : Int32 → Hp → Prop} (hm : m_X12_is v1 h Q) : Ct l G d 0 0 yX12_is MX12_is [tR 12 0 (some 51), tJ v1] h (qI Q) := by
  unfold m_X12_is at hm
  refine Ct.of (L := [some (tR 12 0 (some 51)), some (tJ v1), none]) (by decide) rfl rfl (Nat.le_of_ble_eq_true rfl) rfl ?_
  refine r_aload_n dX12_is_0 rfl rfl ?_
  refine r_getI (k := 26) cl_12 dX12_is_1 t_1298 (Or.inl rfl) gf_12_26 ?_
  refine r_iconst (v := 1) dX12_is_4 rfl ?_
  refine r_icmp_ne (tgt := 21) dX12_is_5 rfl (fun hc => ?_) (fun hc => ?_)
  · replace hm := hm.1 hc
    refine r_iconst (v := 0) dX12_is_21 rfl ?_
    exact r_bret dX12_is_22 rfl ⟨by decide, by decide⟩ (by unfold bz; decide) ⟨_, rfl, hm⟩
  · replace hm := hm.2 hc
    refine r_aload_n dX12_is_8 rfl rfl ?_
    refine r_getJ (k := 28) cl_12 dX12_is_9 t_1300 (Or.inl rfl) gf_12_28 ?_
    refine r_lload_n dX12_is_12 rfl rfl ?_
    refine r_lcmp dX12_is_13 ?_
    refine r_if_ne (tgt := 21) dX12_is_14 rfl (fun hc => ?_) (fun hc => ?_)
    · replace hm := hm.1 hc
      refine r_iconst (v := 0) dX12_is_21 rfl ?_
      exact r_bret dX12_is_22 rfl ⟨by decide, by decide⟩ (by unfold bz; decide) ⟨_, rfl, hm⟩
    · replace hm := hm.2 hc
      refine r_iconst (v := 1) dX12_is_17 rfl ?_
      refine r_goto (tgt := 22) dX12_is_18 rfl ?_
      exact r_bret dX12_is_22 rfl ⟨by decide, by decide⟩ (by unfold bz; decide) ⟨_, rfl, hm⟩
theorem dX12_mustBe_0 : decode cX12_mustBe 0 = .ok (.aload_n 0, 1) := rfl
theorem dX12_mustBe_1 : decode cX12_mustBe 1 = .ok (.getfield 220, 3) := rfl
theorem dX12_mustBe_4 : decode cX12_mustBe 4 = .ok (.ifCond .eq 4, 3) := by decide +kernel
theorem dX12_mustBe_7 : decode cX12_mustBe 7 = .ok (.return_, 1) := rfl
theorem dX12_mustBe_8 : decode cX12_mustBe 8 = .ok (.aload_n 0, 1) := rfl
theorem dX12_mustBe_9 : decode cX12_mustBe 9 = .ok (.lload_n 1, 1) := rfl
theorem dX12_mustBe_10 : decode cX12_mustBe 10 = .ok (.invokevirtual 224, 3) := rfl
theorem dX12_mustBe_13 : decode cX12_mustBe 13 = .ok (.ifCond .eq 10, 3) := by decide +kernel
theorem dX12_mustBe_16 : decode cX12_mustBe 16 = .ok (.aload_n 0, 1) := rfl
theorem dX12_mustBe_17 : decode cX12_mustBe 17 = .ok (.invokevirtual 228, 3) := rfl
theorem dX12_mustBe_20 : decode cX12_mustBe 20 = .ok (.goto 7, 3) := by decide +kernel
theorem dX12_mustBe_23 : decode cX12_mustBe 23 = .ok (.aload_n 0, 1) := rfl
theorem dX12_mustBe_24 : decode cX12_mustBe 24 = .ok (.invokevirtual 231, 3) := rfl
theorem dX12_mustBe_27 : decode cX12_mustBe 27 = .ok (.return_, 1) := rfl
def m_X12_mustBe (v1 : Int64) (h : Hp) (Q : Hp → Prop) : Prop := ((hI h 51 29) = 0 → m_X12_is v1 h (fun (x1 : Int32) (h2 : Hp) => (x1 = 0 → m_X12_errs h2 (fun (h4 : Hp) => Q h4)) ∧ (¬ x1 = 0 → m_X12_next h2 (fun (h6 : Hp) => Q h6)))) ∧ (¬ (hI h 51 29) = 0 → Q h)
set_option maxHeartbeats 4000000 in
set_option maxRecDepth 100000 in
theorem s_X12_mustBe {l : Launch} {G : Cx} {d : Nat} (hd : 6 ≤ d) {v1 : Int64} {h : Hp} {Q : Hp → Prop} (hm : m_X12_mustBe v1 h Q) : Ct l G d 0 0 yX12_mustBe MX12_mustBe [tR 12 0 (some 51), tJ v1] h (qV Q) := by
  unfold m_X12_mustBe at hm
  refine Ct.of (L := [some (tR 12 0 (some 51)), some (tJ v1), none]) (by decide) rfl rfl (Nat.le_of_ble_eq_true rfl) rfl ?_
  refine r_aload_n dX12_mustBe_0 rfl rfl ?_
  refine r_getI (k := 29) cl_12 dX12_mustBe_1 t_1301 (Or.inl rfl) gf_12_29 ?_
  refine r_if_eq (tgt := 8) dX12_mustBe_4 rfl (fun hc => ?_) (fun hc => ?_)
  · replace hm := hm.1 hc
    refine r_aload_n dX12_mustBe_8 rfl rfl ?_
    refine r_lload_n dX12_mustBe_9 rfl rfl ?_
    refine r_callVI (d' := d - 1) (as := [tJ v1]) (st := []) cl_12 dX12_mustBe_10 mi_X12_is t_1635 t_1637 ts_69 rfl rfl (Nat.le_of_ble_eq_true rfl) (by omega) ⟨by decide, by decide⟩ ⟨rfl, rfl⟩ (s_X12_is (by omega) hm) (fun x1 h2 hm => ?_)
    refine r_if_eq (tgt := 23) dX12_mustBe_13 rfl (fun hc => ?_) (fun hc => ?_)
    · replace hm := hm.1 hc
      refine r_aload_n dX12_mustBe_23 rfl rfl ?_
      refine r_callVU (d' := d - 1) (as := []) (st := []) cl_12 dX12_mustBe_24 mi_X12_errs t_1595 t_1597 ts_61 rfl rfl (Nat.le_of_ble_eq_true rfl) (by omega) ⟨by decide, by decide⟩ ⟨rfl, rfl⟩ (s_X12_errs (by omega) hm) (fun h4 hm => ?_)
      exact r_return dX12_mustBe_27 rfl ⟨by decide, by decide⟩ ⟨rfl, hm⟩
    · replace hm := hm.2 hc
      refine r_aload_n dX12_mustBe_16 rfl rfl ?_
      refine r_callVU (d' := d - 1) (as := []) (st := []) cl_12 dX12_mustBe_17 mi_X12_next t_1572 t_1574 ts_58 rfl rfl (Nat.le_of_ble_eq_true rfl) (by omega) ⟨by decide, by decide⟩ ⟨rfl, rfl⟩ (s_X12_next (by omega) hm) (fun h6 hm => ?_)
      refine r_goto (tgt := 27) dX12_mustBe_20 rfl ?_
      exact r_return dX12_mustBe_27 rfl ⟨by decide, by decide⟩ ⟨rfl, hm⟩
  · replace hm := hm.2 hc
    exact r_return dX12_mustBe_7 rfl ⟨by decide, by decide⟩ ⟨rfl, hm⟩
theorem dX12_numeral_0 : decode cX12_numeral 0 = .ok (.aload_n 0, 1) := rfl
theorem dX12_numeral_1 : decode cX12_numeral 1 = .ok (.getfield 211, 3) := rfl
theorem dX12_numeral_4 : decode cX12_numeral 4 = .ok (.istore_n 3, 1) := rfl
theorem dX12_numeral_5 : decode cX12_numeral 5 = .ok (.aload_n 0, 1) := rfl
theorem dX12_numeral_6 : decode cX12_numeral 6 = .ok (.getfield 220, 3) := rfl
theorem dX12_numeral_9 : decode cX12_numeral 9 = .ok (.ifCond .eq 5, 3) := by decide +kernel
theorem dX12_numeral_12 : decode cX12_numeral 12 = .ok (.iconst 0, 1) := rfl
theorem dX12_numeral_13 : decode cX12_numeral 13 = .ok (.ireturn, 1) := rfl
theorem dX12_numeral_14 : decode cX12_numeral 14 = .ok (.aload_n 0, 1) := rfl
theorem dX12_numeral_15 : decode cX12_numeral 15 = .ok (.getfield 214, 3) := rfl
theorem dX12_numeral_18 : decode cX12_numeral 18 = .ok (.iconst 2, 1) := rfl
theorem dX12_numeral_19 : decode cX12_numeral 19 = .ok (.if_icmp .ne 13, 3) := by decide +kernel
theorem dX12_numeral_22 : decode cX12_numeral 22 = .ok (.iload_n 3, 1) := rfl
theorem dX12_numeral_23 : decode cX12_numeral 23 = .ok (.iload_n 1, 1) := rfl
theorem dX12_numeral_24 : decode cX12_numeral 24 = .ok (.if_icmp .lt 8, 3) := by decide +kernel
theorem dX12_numeral_27 : decode cX12_numeral 27 = .ok (.iload_n 3, 1) := rfl
theorem dX12_numeral_28 : decode cX12_numeral 28 = .ok (.iload_n 2, 1) := rfl
theorem dX12_numeral_29 : decode cX12_numeral 29 = .ok (.if_icmp .le 9, 3) := by decide +kernel
theorem dX12_numeral_32 : decode cX12_numeral 32 = .ok (.aload_n 0, 1) := rfl
theorem dX12_numeral_33 : decode cX12_numeral 33 = .ok (.invokevirtual 231, 3) := rfl
theorem dX12_numeral_36 : decode cX12_numeral 36 = .ok (.iconst 0, 1) := rfl
theorem dX12_numeral_37 : decode cX12_numeral 37 = .ok (.ireturn, 1) := rfl
theorem dX12_numeral_38 : decode cX12_numeral 38 = .ok (.aload_n 0, 1) := rfl
theorem dX12_numeral_39 : decode cX12_numeral 39 = .ok (.invokevirtual 228, 3) := rfl
theorem dX12_numeral_42 : decode cX12_numeral 42 = .ok (.iload_n 3, 1) := rfl
theorem dX12_numeral_43 : decode cX12_numeral 43 = .ok (.ireturn, 1) := rfl
def m_X12_numeral_32  (Q : Int32 → Hp → Prop) (h : Hp) : Prop := m_X12_errs h (fun (h2 : Hp) => Q 0 h2)
set_option maxHeartbeats 4000000 in
set_option maxRecDepth 100000 in
theorem s_X12_numeral_32 {l : Launch} {G : Cx} {d : Nat} {h0 : Hp} (hd : 6 ≤ d) {Q : Int32 → Hp → Prop} {h : Hp} (hm : m_X12_numeral_32 Q h) : Rn l G d 0 0 MX12_numeral h0 (qI Q) 32 [some (tR 12 0 (some 51))] [] h 0 0 := by
  unfold m_X12_numeral_32 at hm
  refine r_aload_n dX12_numeral_32 rfl rfl ?_
  refine r_callVU (d' := d - 1) (as := []) (st := []) cl_12 dX12_numeral_33 mi_X12_errs t_1595 t_1597 ts_61 rfl rfl (Nat.le_of_ble_eq_true rfl) (by omega) ⟨by decide, by decide⟩ ⟨rfl, rfl⟩ (s_X12_errs (by omega) hm) (fun h2 hm => ?_)
  refine r_iconst (v := 0) dX12_numeral_36 rfl ?_
  exact r_ireturn dX12_numeral_37 rfl ⟨by decide, by decide⟩ ⟨_, rfl, hm⟩
def m_X12_numeral (v1 : Int32) (v2 : Int32) (h : Hp) (Q : Int32 → Hp → Prop) : Prop := ∀ x3 : Int32, x3 = (hI h 51 27) → ((hI h 51 29) = 0 → (¬ (hI h 51 26) = 2 → m_X12_numeral_32 Q h) ∧ ((hI h 51 26) = 2 → (x3 < v1 → m_X12_numeral_32 Q h) ∧ (¬ x3 < v1 → (x3 ≤ v2 → m_X12_next h (fun (h5 : Hp) => Q x3 h5)) ∧ (¬ x3 ≤ v2 → m_X12_numeral_32 Q h)))) ∧ (¬ (hI h 51 29) = 0 → Q 0 h)
set_option maxHeartbeats 4000000 in
set_option maxRecDepth 100000 in
theorem s_X12_numeral {l : Launch} {G : Cx} {d : Nat} (hd : 6 ≤ d) {v1 : Int32} {v2 : Int32} {h : Hp} {Q : Int32 → Hp → Prop} (hm : m_X12_numeral v1 v2 h Q) : Ct l G d 0 0 yX12_numeral MX12_numeral [tR 12 0 (some 51), tI v1, tI v2] h (qI Q) := by
  unfold m_X12_numeral at hm
  refine Ct.of (L := [some (tR 12 0 (some 51)), some (tI v1), some (tI v2)]) (by decide) rfl rfl (Nat.le_of_ble_eq_true rfl) rfl ?_
  refine r_aload_n dX12_numeral_0 rfl rfl ?_
  refine r_getI (k := 27) cl_12 dX12_numeral_1 t_1299 (Or.inl rfl) gf_12_27 ?_
  refine r_nmI (fun x3 e_x3 => ?_)
  replace hm := hm x3 e_x3
  refine r_istore_n (L' := [some (tR 12 0 (some 51)), some (tI v1), some (tI v2), some (tI x3)]) dX12_numeral_4 rfl (by decide) rfl ?_
  refine r_aload_n dX12_numeral_5 rfl rfl ?_
  refine r_getI (k := 29) cl_12 dX12_numeral_6 t_1301 (Or.inl rfl) gf_12_29 ?_
  refine r_if_eq (tgt := 14) dX12_numeral_9 rfl (fun hc => ?_) (fun hc => ?_)
  · replace hm := hm.1 hc
    refine r_aload_n dX12_numeral_14 rfl rfl ?_
    refine r_getI (k := 26) cl_12 dX12_numeral_15 t_1298 (Or.inl rfl) gf_12_26 ?_
    refine r_iconst (v := 2) dX12_numeral_18 rfl ?_
    refine r_icmp_ne (tgt := 32) dX12_numeral_19 rfl (fun hc => ?_) (fun hc => ?_)
    · replace hm := hm.1 hc
      refine r_keep (L' := [some (tR 12 0 (some 51))]) [true] rfl ?_
      exact s_X12_numeral_32 hd hm
    · replace hm := hm.2 hc
      refine r_iload_n dX12_numeral_22 rfl rfl ?_
      refine r_iload_n dX12_numeral_23 rfl rfl ?_
      refine r_icmp_lt (tgt := 32) dX12_numeral_24 rfl (fun hc => ?_) (fun hc => ?_)
      · replace hm := hm.1 hc
        refine r_keep (L' := [some (tR 12 0 (some 51))]) [true] rfl ?_
        exact s_X12_numeral_32 hd hm
      · replace hm := hm.2 hc
        refine r_iload_n dX12_numeral_27 rfl rfl ?_
        refine r_iload_n dX12_numeral_28 rfl rfl ?_
        refine r_icmp_le (tgt := 38) dX12_numeral_29 rfl (fun hc => ?_) (fun hc => ?_)
        · replace hm := hm.1 hc
          refine r_aload_n dX12_numeral_38 rfl rfl ?_
          refine r_callVU (d' := d - 1) (as := []) (st := []) cl_12 dX12_numeral_39 mi_X12_next t_1572 t_1574 ts_58 rfl rfl (Nat.le_of_ble_eq_true rfl) (by omega) ⟨by decide, by decide⟩ ⟨rfl, rfl⟩ (s_X12_next (by omega) hm) (fun h5 hm => ?_)
          refine r_iload_n dX12_numeral_42 rfl rfl ?_
          exact r_ireturn dX12_numeral_43 rfl ⟨by decide, by decide⟩ ⟨_, rfl, hm⟩
        · replace hm := hm.2 hc
          refine r_keep (L' := [some (tR 12 0 (some 51))]) [true] rfl ?_
          exact s_X12_numeral_32 hd hm
  · replace hm := hm.2 hc
    refine r_iconst (v := 0) dX12_numeral_12 rfl ?_
    exact r_ireturn dX12_numeral_13 rfl ⟨by decide, by decide⟩ ⟨_, rfl, hm⟩
theorem dX12_thingHere_0 : decode cX12_thingHere 0 = .ok (.aload_n 0, 1) := by decide +kernel
theorem dX12_thingHere_1 : decode cX12_thingHere 1 = .ok (.getfield 214, 3) := by decide +kernel
theorem dX12_thingHere_4 : decode cX12_thingHere 4 = .ok (.iconst 1, 1) := by decide +kernel
theorem dX12_thingHere_5 : decode cX12_thingHere 5 = .ok (.if_icmp .eq 5, 3) := by decide +kernel
theorem dX12_thingHere_8 : decode cX12_thingHere 8 = .ok (.iconst (-1), 1) := by decide +kernel
theorem dX12_thingHere_9 : decode cX12_thingHere 9 = .ok (.ireturn, 1) := by decide +kernel
theorem dX12_thingHere_10 : decode cX12_thingHere 10 = .ok (.aload_n 0, 1) := by decide +kernel
theorem dX12_thingHere_11 : decode cX12_thingHere 11 = .ok (.getfield 207, 3) := by decide +kernel
theorem dX12_thingHere_14 : decode cX12_thingHere 14 = .ok (.ldc2_w 234, 3) := by decide +kernel
theorem dX12_thingHere_17 : decode cX12_thingHere 17 = .ok (.lcmp, 1) := by decide +kernel
theorem dX12_thingHere_18 : decode cX12_thingHere 18 = .ok (.ifCond .ne 5, 3) := by decide +kernel
theorem dX12_thingHere_21 : decode cX12_thingHere 21 = .ok (.iconst 0, 1) := by decide +kernel
theorem dX12_thingHere_22 : decode cX12_thingHere 22 = .ok (.ireturn, 1) := by decide +kernel
theorem dX12_thingHere_23 : decode cX12_thingHere 23 = .ok (.aload_n 0, 1) := by decide +kernel
theorem dX12_thingHere_24 : decode cX12_thingHere 24 = .ok (.getfield 207, 3) := by decide +kernel
theorem dX12_thingHere_27 : decode cX12_thingHere 27 = .ok (.ldc2_w 236, 3) := by decide +kernel
theorem dX12_thingHere_30 : decode cX12_thingHere 30 = .ok (.lcmp, 1) := by decide +kernel
theorem dX12_thingHere_31 : decode cX12_thingHere 31 = .ok (.ifCond .ne 5, 3) := by decide +kernel
theorem dX12_thingHere_34 : decode cX12_thingHere 34 = .ok (.iconst 1, 1) := by decide +kernel
theorem dX12_thingHere_35 : decode cX12_thingHere 35 = .ok (.ireturn, 1) := by decide +kernel
theorem dX12_thingHere_36 : decode cX12_thingHere 36 = .ok (.aload_n 0, 1) := by decide +kernel
theorem dX12_thingHere_37 : decode cX12_thingHere 37 = .ok (.getfield 207, 3) := by decide +kernel
theorem dX12_thingHere_40 : decode cX12_thingHere 40 = .ok (.ldc2_w 238, 3) := by decide +kernel
theorem dX12_thingHere_43 : decode cX12_thingHere 43 = .ok (.lcmp, 1) := by decide +kernel
theorem dX12_thingHere_44 : decode cX12_thingHere 44 = .ok (.ifCond .ne 5, 3) := by decide +kernel
theorem dX12_thingHere_47 : decode cX12_thingHere 47 = .ok (.iconst 2, 1) := by decide +kernel
theorem dX12_thingHere_48 : decode cX12_thingHere 48 = .ok (.ireturn, 1) := by decide +kernel
theorem dX12_thingHere_49 : decode cX12_thingHere 49 = .ok (.aload_n 0, 1) := by decide +kernel
theorem dX12_thingHere_50 : decode cX12_thingHere 50 = .ok (.getfield 207, 3) := by decide +kernel
theorem dX12_thingHere_53 : decode cX12_thingHere 53 = .ok (.ldc2_w 240, 3) := by decide +kernel
theorem dX12_thingHere_56 : decode cX12_thingHere 56 = .ok (.lcmp, 1) := by decide +kernel
theorem dX12_thingHere_57 : decode cX12_thingHere 57 = .ok (.ifCond .ne 5, 3) := by decide +kernel
theorem dX12_thingHere_60 : decode cX12_thingHere 60 = .ok (.iconst 3, 1) := by decide +kernel
theorem dX12_thingHere_61 : decode cX12_thingHere 61 = .ok (.ireturn, 1) := by decide +kernel
theorem dX12_thingHere_62 : decode cX12_thingHere 62 = .ok (.aload_n 0, 1) := by decide +kernel
theorem dX12_thingHere_63 : decode cX12_thingHere 63 = .ok (.getfield 207, 3) := by decide +kernel
theorem dX12_thingHere_66 : decode cX12_thingHere 66 = .ok (.ldc2_w 242, 3) := by decide +kernel
theorem dX12_thingHere_69 : decode cX12_thingHere 69 = .ok (.lcmp, 1) := by decide +kernel
theorem dX12_thingHere_70 : decode cX12_thingHere 70 = .ok (.ifCond .ne 5, 3) := by decide +kernel
theorem dX12_thingHere_73 : decode cX12_thingHere 73 = .ok (.iconst 4, 1) := by decide +kernel
theorem dX12_thingHere_74 : decode cX12_thingHere 74 = .ok (.ireturn, 1) := by decide +kernel
theorem dX12_thingHere_75 : decode cX12_thingHere 75 = .ok (.aload_n 0, 1) := by decide +kernel
theorem dX12_thingHere_76 : decode cX12_thingHere 76 = .ok (.getfield 207, 3) := by decide +kernel
theorem dX12_thingHere_79 : decode cX12_thingHere 79 = .ok (.ldc2_w 244, 3) := by decide +kernel
theorem dX12_thingHere_82 : decode cX12_thingHere 82 = .ok (.lcmp, 1) := by decide +kernel
theorem dX12_thingHere_83 : decode cX12_thingHere 83 = .ok (.ifCond .ne 5, 3) := by decide +kernel
theorem dX12_thingHere_86 : decode cX12_thingHere 86 = .ok (.iconst 5, 1) := by decide +kernel
theorem dX12_thingHere_87 : decode cX12_thingHere 87 = .ok (.ireturn, 1) := by decide +kernel
theorem dX12_thingHere_88 : decode cX12_thingHere 88 = .ok (.iconst (-1), 1) := by decide +kernel
theorem dX12_thingHere_89 : decode cX12_thingHere 89 = .ok (.ireturn, 1) := by decide +kernel
def m_X12_thingHere  (h : Hp) (Q : Int32 → Hp → Prop) : Prop := ((hI h 51 26) = 1 → (¬ (lg_cmp (hJ h 51 28) 70241) = 0 → (¬ (lg_cmp (hJ h 51 28) 271517) = 0 → (¬ (lg_cmp (hJ h 51 28) 1842002) = 0 → (¬ (lg_cmp (hJ h 51 28) 4562600) = 0 → (¬ (lg_cmp (hJ h 51 28) 464141) = 0 → (¬ (lg_cmp (hJ h 51 28) 4075367) = 0 → Q (-1) h) ∧ ((lg_cmp (hJ h 51 28) 4075367) = 0 → Q 5 h)) ∧ ((lg_cmp (hJ h 51 28) 464141) = 0 → Q 4 h)) ∧ ((lg_cmp (hJ h 51 28) 4562600) = 0 → Q 3 h)) ∧ ((lg_cmp (hJ h 51 28) 1842002) = 0 → Q 2 h)) ∧ ((lg_cmp (hJ h 51 28) 271517) = 0 → Q 1 h)) ∧ ((lg_cmp (hJ h 51 28) 70241) = 0 → Q 0 h)) ∧ (¬ (hI h 51 26) = 1 → Q (-1) h)
set_option maxHeartbeats 4000000 in
set_option maxRecDepth 100000 in
theorem s_X12_thingHere {l : Launch} {G : Cx} {d : Nat} (hd : 2 ≤ d) {h : Hp} {Q : Int32 → Hp → Prop} (hm : m_X12_thingHere h Q) : Ct l G d 0 0 yX12_thingHere MX12_thingHere [tR 12 0 (some 51)] h (qI Q) := by
  unfold m_X12_thingHere at hm
  refine Ct.of (L := [some (tR 12 0 (some 51))]) (by decide) rfl rfl (Nat.le_of_ble_eq_true rfl) rfl ?_
  refine r_aload_n dX12_thingHere_0 rfl rfl ?_
  refine r_getI (k := 26) cl_12 dX12_thingHere_1 t_1298 (Or.inl rfl) gf_12_26 ?_
  refine r_iconst (v := 1) dX12_thingHere_4 rfl ?_
  refine r_icmp_eq (tgt := 10) dX12_thingHere_5 rfl (fun hc => ?_) (fun hc => ?_)
  · replace hm := hm.1 hc
    refine r_aload_n dX12_thingHere_10 rfl rfl ?_
    refine r_getJ (k := 28) cl_12 dX12_thingHere_11 t_1300 (Or.inl rfl) gf_12_28 ?_
    refine r_ldc2_w dX12_thingHere_14 t_1620 ?_
    refine r_lcmp dX12_thingHere_17 ?_
    refine r_if_ne (tgt := 23) dX12_thingHere_18 rfl (fun hc => ?_) (fun hc => ?_)
    · replace hm := hm.1 hc
      refine r_aload_n dX12_thingHere_23 rfl rfl ?_
      refine r_getJ (k := 28) cl_12 dX12_thingHere_24 t_1300 (Or.inl rfl) gf_12_28 ?_
      refine r_ldc2_w dX12_thingHere_27 t_1621 ?_
      refine r_lcmp dX12_thingHere_30 ?_
      refine r_if_ne (tgt := 36) dX12_thingHere_31 rfl (fun hc => ?_) (fun hc => ?_)
      · replace hm := hm.1 hc
        refine r_aload_n dX12_thingHere_36 rfl rfl ?_
        refine r_getJ (k := 28) cl_12 dX12_thingHere_37 t_1300 (Or.inl rfl) gf_12_28 ?_
        refine r_ldc2_w dX12_thingHere_40 t_1622 ?_
        refine r_lcmp dX12_thingHere_43 ?_
        refine r_if_ne (tgt := 49) dX12_thingHere_44 rfl (fun hc => ?_) (fun hc => ?_)
        · replace hm := hm.1 hc
          refine r_aload_n dX12_thingHere_49 rfl rfl ?_
          refine r_getJ (k := 28) cl_12 dX12_thingHere_50 t_1300 (Or.inl rfl) gf_12_28 ?_
          refine r_ldc2_w dX12_thingHere_53 t_1623 ?_
          refine r_lcmp dX12_thingHere_56 ?_
          refine r_if_ne (tgt := 62) dX12_thingHere_57 rfl (fun hc => ?_) (fun hc => ?_)
          · replace hm := hm.1 hc
            refine r_aload_n dX12_thingHere_62 rfl rfl ?_
            refine r_getJ (k := 28) cl_12 dX12_thingHere_63 t_1300 (Or.inl rfl) gf_12_28 ?_
            refine r_ldc2_w dX12_thingHere_66 t_1624 ?_
            refine r_lcmp dX12_thingHere_69 ?_
            refine r_if_ne (tgt := 75) dX12_thingHere_70 rfl (fun hc => ?_) (fun hc => ?_)
            · replace hm := hm.1 hc
              refine r_aload_n dX12_thingHere_75 rfl rfl ?_
              refine r_getJ (k := 28) cl_12 dX12_thingHere_76 t_1300 (Or.inl rfl) gf_12_28 ?_
              refine r_ldc2_w dX12_thingHere_79 t_1625 ?_
              refine r_lcmp dX12_thingHere_82 ?_
              refine r_if_ne (tgt := 88) dX12_thingHere_83 rfl (fun hc => ?_) (fun hc => ?_)
              · replace hm := hm.1 hc
                refine r_iconst (v := (-1)) dX12_thingHere_88 rfl ?_
                exact r_ireturn dX12_thingHere_89 rfl ⟨by decide, by decide⟩ ⟨_, rfl, hm⟩
              · replace hm := hm.2 hc
                refine r_iconst (v := 5) dX12_thingHere_86 rfl ?_
                exact r_ireturn dX12_thingHere_87 rfl ⟨by decide, by decide⟩ ⟨_, rfl, hm⟩
            · replace hm := hm.2 hc
              refine r_iconst (v := 4) dX12_thingHere_73 rfl ?_
              exact r_ireturn dX12_thingHere_74 rfl ⟨by decide, by decide⟩ ⟨_, rfl, hm⟩
          · replace hm := hm.2 hc
            refine r_iconst (v := 3) dX12_thingHere_60 rfl ?_
            exact r_ireturn dX12_thingHere_61 rfl ⟨by decide, by decide⟩ ⟨_, rfl, hm⟩
        · replace hm := hm.2 hc
          refine r_iconst (v := 2) dX12_thingHere_47 rfl ?_
          exact r_ireturn dX12_thingHere_48 rfl ⟨by decide, by decide⟩ ⟨_, rfl, hm⟩
      · replace hm := hm.2 hc
        refine r_iconst (v := 1) dX12_thingHere_34 rfl ?_
        exact r_ireturn dX12_thingHere_35 rfl ⟨by decide, by decide⟩ ⟨_, rfl, hm⟩
    · replace hm := hm.2 hc
      refine r_iconst (v := 0) dX12_thingHere_21 rfl ?_
      exact r_ireturn dX12_thingHere_22 rfl ⟨by decide, by decide⟩ ⟨_, rfl, hm⟩
  · replace hm := hm.2 hc
    refine r_iconst (v := (-1)) dX12_thingHere_8 rfl ?_
    exact r_ireturn dX12_thingHere_9 rfl ⟨by decide, by decide⟩ ⟨_, rfl, hm⟩
theorem dX12_eventHere_0 : decode cX12_eventHere 0 = .ok (.aload_n 0, 1) := rfl
theorem dX12_eventHere_1 : decode cX12_eventHere 1 = .ok (.getfield 214, 3) := rfl
theorem dX12_eventHere_4 : decode cX12_eventHere 4 = .ok (.iconst 1, 1) := rfl
theorem dX12_eventHere_5 : decode cX12_eventHere 5 = .ok (.if_icmp .eq 5, 3) := by decide +kernel
theorem dX12_eventHere_8 : decode cX12_eventHere 8 = .ok (.iconst (-1), 1) := rfl
theorem dX12_eventHere_9 : decode cX12_eventHere 9 = .ok (.ireturn, 1) := rfl
theorem dX12_eventHere_10 : decode cX12_eventHere 10 = .ok (.aload_n 0, 1) := rfl
theorem dX12_eventHere_11 : decode cX12_eventHere 11 = .ok (.getfield 207, 3) := rfl
theorem dX12_eventHere_14 : decode cX12_eventHere 14 = .ok (.ldc2_w 246, 3) := rfl
theorem dX12_eventHere_17 : decode cX12_eventHere 17 = .ok (.lcmp, 1) := rfl
theorem dX12_eventHere_18 : decode cX12_eventHere 18 = .ok (.ifCond .ne 5, 3) := by decide +kernel
theorem dX12_eventHere_21 : decode cX12_eventHere 21 = .ok (.iconst 0, 1) := rfl
theorem dX12_eventHere_22 : decode cX12_eventHere 22 = .ok (.ireturn, 1) := rfl
theorem dX12_eventHere_23 : decode cX12_eventHere 23 = .ok (.aload_n 0, 1) := rfl
theorem dX12_eventHere_24 : decode cX12_eventHere 24 = .ok (.getfield 207, 3) := rfl
theorem dX12_eventHere_27 : decode cX12_eventHere 27 = .ok (.ldc2_w 248, 3) := rfl
theorem dX12_eventHere_30 : decode cX12_eventHere 30 = .ok (.lcmp, 1) := rfl
theorem dX12_eventHere_31 : decode cX12_eventHere 31 = .ok (.ifCond .ne 5, 3) := by decide +kernel
theorem dX12_eventHere_34 : decode cX12_eventHere 34 = .ok (.iconst 1, 1) := rfl
theorem dX12_eventHere_35 : decode cX12_eventHere 35 = .ok (.ireturn, 1) := rfl
theorem dX12_eventHere_36 : decode cX12_eventHere 36 = .ok (.aload_n 0, 1) := rfl
theorem dX12_eventHere_37 : decode cX12_eventHere 37 = .ok (.getfield 207, 3) := rfl
theorem dX12_eventHere_40 : decode cX12_eventHere 40 = .ok (.ldc2_w 250, 3) := rfl
theorem dX12_eventHere_43 : decode cX12_eventHere 43 = .ok (.lcmp, 1) := rfl
theorem dX12_eventHere_44 : decode cX12_eventHere 44 = .ok (.ifCond .ne 5, 3) := by decide +kernel
theorem dX12_eventHere_47 : decode cX12_eventHere 47 = .ok (.iconst 2, 1) := rfl
theorem dX12_eventHere_48 : decode cX12_eventHere 48 = .ok (.ireturn, 1) := rfl
theorem dX12_eventHere_49 : decode cX12_eventHere 49 = .ok (.aload_n 0, 1) := rfl
theorem dX12_eventHere_50 : decode cX12_eventHere 50 = .ok (.getfield 207, 3) := rfl
theorem dX12_eventHere_53 : decode cX12_eventHere 53 = .ok (.ldc2_w 252, 3) := rfl
theorem dX12_eventHere_56 : decode cX12_eventHere 56 = .ok (.lcmp, 1) := rfl
theorem dX12_eventHere_57 : decode cX12_eventHere 57 = .ok (.ifCond .ne 5, 3) := by decide +kernel
theorem dX12_eventHere_60 : decode cX12_eventHere 60 = .ok (.iconst 3, 1) := rfl
theorem dX12_eventHere_61 : decode cX12_eventHere 61 = .ok (.ireturn, 1) := rfl
theorem dX12_eventHere_62 : decode cX12_eventHere 62 = .ok (.aload_n 0, 1) := rfl
theorem dX12_eventHere_63 : decode cX12_eventHere 63 = .ok (.getfield 207, 3) := rfl
theorem dX12_eventHere_66 : decode cX12_eventHere 66 = .ok (.ldc2_w 254, 3) := rfl
theorem dX12_eventHere_69 : decode cX12_eventHere 69 = .ok (.lcmp, 1) := rfl
theorem dX12_eventHere_70 : decode cX12_eventHere 70 = .ok (.ifCond .ne 5, 3) := by decide +kernel
theorem dX12_eventHere_73 : decode cX12_eventHere 73 = .ok (.iconst 4, 1) := rfl
theorem dX12_eventHere_74 : decode cX12_eventHere 74 = .ok (.ireturn, 1) := rfl
theorem dX12_eventHere_75 : decode cX12_eventHere 75 = .ok (.iconst (-1), 1) := rfl
theorem dX12_eventHere_76 : decode cX12_eventHere 76 = .ok (.ireturn, 1) := rfl
def m_X12_eventHere  (h : Hp) (Q : Int32 → Hp → Prop) : Prop := ((hI h 51 26) = 1 → (¬ (lg_cmp (hJ h 51 28) 85447) = 0 → (¬ (lg_cmp (hJ h 51 28) 355280) = 0 → (¬ (lg_cmp (hJ h 51 28) 16812) = 0 → (¬ (lg_cmp (hJ h 51 28) 82422) = 0 → (¬ (lg_cmp (hJ h 51 28) 3436186) = 0 → Q (-1) h) ∧ ((lg_cmp (hJ h 51 28) 3436186) = 0 → Q 4 h)) ∧ ((lg_cmp (hJ h 51 28) 82422) = 0 → Q 3 h)) ∧ ((lg_cmp (hJ h 51 28) 16812) = 0 → Q 2 h)) ∧ ((lg_cmp (hJ h 51 28) 355280) = 0 → Q 1 h)) ∧ ((lg_cmp (hJ h 51 28) 85447) = 0 → Q 0 h)) ∧ (¬ (hI h 51 26) = 1 → Q (-1) h)
set_option maxHeartbeats 4000000 in
set_option maxRecDepth 100000 in
theorem s_X12_eventHere {l : Launch} {G : Cx} {d : Nat} (hd : 2 ≤ d) {h : Hp} {Q : Int32 → Hp → Prop} (hm : m_X12_eventHere h Q) : Ct l G d 0 0 yX12_eventHere MX12_eventHere [tR 12 0 (some 51)] h (qI Q) := by
  unfold m_X12_eventHere at hm
  refine Ct.of (L := [some (tR 12 0 (some 51))]) (by decide) rfl rfl (Nat.le_of_ble_eq_true rfl) rfl ?_
  refine r_aload_n dX12_eventHere_0 rfl rfl ?_
  refine r_getI (k := 26) cl_12 dX12_eventHere_1 t_1298 (Or.inl rfl) gf_12_26 ?_
  refine r_iconst (v := 1) dX12_eventHere_4 rfl ?_
  refine r_icmp_eq (tgt := 10) dX12_eventHere_5 rfl (fun hc => ?_) (fun hc => ?_)
  · replace hm := hm.1 hc
    refine r_aload_n dX12_eventHere_10 rfl rfl ?_
    refine r_getJ (k := 28) cl_12 dX12_eventHere_11 t_1300 (Or.inl rfl) gf_12_28 ?_
    refine r_ldc2_w dX12_eventHere_14 t_1660 ?_
    refine r_lcmp dX12_eventHere_17 ?_
    refine r_if_ne (tgt := 23) dX12_eventHere_18 rfl (fun hc => ?_) (fun hc => ?_)
    · replace hm := hm.1 hc
      refine r_aload_n dX12_eventHere_23 rfl rfl ?_
      refine r_getJ (k := 28) cl_12 dX12_eventHere_24 t_1300 (Or.inl rfl) gf_12_28 ?_
      refine r_ldc2_w dX12_eventHere_27 t_1661 ?_
      refine r_lcmp dX12_eventHere_30 ?_
      refine r_if_ne (tgt := 36) dX12_eventHere_31 rfl (fun hc => ?_) (fun hc => ?_)
      · replace hm := hm.1 hc
        refine r_aload_n dX12_eventHere_36 rfl rfl ?_
        refine r_getJ (k := 28) cl_12 dX12_eventHere_37 t_1300 (Or.inl rfl) gf_12_28 ?_
        refine r_ldc2_w dX12_eventHere_40 t_1662 ?_
        refine r_lcmp dX12_eventHere_43 ?_
        refine r_if_ne (tgt := 49) dX12_eventHere_44 rfl (fun hc => ?_) (fun hc => ?_)
        · replace hm := hm.1 hc
          refine r_aload_n dX12_eventHere_49 rfl rfl ?_
          refine r_getJ (k := 28) cl_12 dX12_eventHere_50 t_1300 (Or.inl rfl) gf_12_28 ?_
          refine r_ldc2_w dX12_eventHere_53 t_1663 ?_
          refine r_lcmp dX12_eventHere_56 ?_
          refine r_if_ne (tgt := 62) dX12_eventHere_57 rfl (fun hc => ?_) (fun hc => ?_)
          · replace hm := hm.1 hc
            refine r_aload_n dX12_eventHere_62 rfl rfl ?_
            refine r_getJ (k := 28) cl_12 dX12_eventHere_63 t_1300 (Or.inl rfl) gf_12_28 ?_
            refine r_ldc2_w dX12_eventHere_66 t_1664 ?_
            refine r_lcmp dX12_eventHere_69 ?_
            refine r_if_ne (tgt := 75) dX12_eventHere_70 rfl (fun hc => ?_) (fun hc => ?_)
            · replace hm := hm.1 hc
              refine r_iconst (v := (-1)) dX12_eventHere_75 rfl ?_
              exact r_ireturn dX12_eventHere_76 rfl ⟨by decide, by decide⟩ ⟨_, rfl, hm⟩
            · replace hm := hm.2 hc
              refine r_iconst (v := 4) dX12_eventHere_73 rfl ?_
              exact r_ireturn dX12_eventHere_74 rfl ⟨by decide, by decide⟩ ⟨_, rfl, hm⟩
          · replace hm := hm.2 hc
            refine r_iconst (v := 3) dX12_eventHere_60 rfl ?_
            exact r_ireturn dX12_eventHere_61 rfl ⟨by decide, by decide⟩ ⟨_, rfl, hm⟩
        · replace hm := hm.2 hc
          refine r_iconst (v := 2) dX12_eventHere_47 rfl ?_
          exact r_ireturn dX12_eventHere_48 rfl ⟨by decide, by decide⟩ ⟨_, rfl, hm⟩
      · replace hm := hm.2 hc
        refine r_iconst (v := 1) dX12_eventHere_34 rfl ?_
        exact r_ireturn dX12_eventHere_35 rfl ⟨by decide, by decide⟩ ⟨_, rfl, hm⟩
    · replace hm := hm.2 hc
      refine r_iconst (v := 0) dX12_eventHere_21 rfl ?_
      exact r_ireturn dX12_eventHere_22 rfl ⟨by decide, by decide⟩ ⟨_, rfl, hm⟩
  · replace hm := hm.2 hc
    refine r_iconst (v := (-1)) dX12_eventHere_8 rfl ?_
    exact r_ireturn dX12_eventHere_9 rfl ⟨by decide, by decide⟩ ⟨_, rfl, hm⟩
theorem dX12_kindHere_0 : decode cX12_kindHere 0 = .ok (.aload_n 0, 1) := by decide +kernel
theorem dX12_kindHere_1 : decode cX12_kindHere 1 = .ok (.getfield 214, 3) := by decide +kernel
theorem dX12_kindHere_4 : decode cX12_kindHere 4 = .ok (.iconst 1, 1) := by decide +kernel
theorem dX12_kindHere_5 : decode cX12_kindHere 5 = .ok (.if_icmp .eq 5, 3) := by decide +kernel
theorem dX12_kindHere_8 : decode cX12_kindHere 8 = .ok (.iconst (-1), 1) := by decide +kernel
theorem dX12_kindHere_9 : decode cX12_kindHere 9 = .ok (.ireturn, 1) := by decide +kernel
theorem dX12_kindHere_10 : decode cX12_kindHere 10 = .ok (.aload_n 0, 1) := by decide +kernel
theorem dX12_kindHere_11 : decode cX12_kindHere 11 = .ok (.getfield 207, 3) := by decide +kernel
theorem dX12_kindHere_14 : decode cX12_kindHere 14 = .ok (.ldc2_w 256, 3) := by decide +kernel
theorem dX12_kindHere_17 : decode cX12_kindHere 17 = .ok (.lcmp, 1) := by decide +kernel
theorem dX12_kindHere_18 : decode cX12_kindHere 18 = .ok (.ifCond .ne 5, 3) := by decide +kernel
theorem dX12_kindHere_21 : decode cX12_kindHere 21 = .ok (.iconst 0, 1) := by decide +kernel
theorem dX12_kindHere_22 : decode cX12_kindHere 22 = .ok (.ireturn, 1) := by decide +kernel
theorem dX12_kindHere_23 : decode cX12_kindHere 23 = .ok (.aload_n 0, 1) := by decide +kernel
theorem dX12_kindHere_24 : decode cX12_kindHere 24 = .ok (.getfield 207, 3) := by decide +kernel
theorem dX12_kindHere_27 : decode cX12_kindHere 27 = .ok (.ldc2_w 258, 3) := by decide +kernel
theorem dX12_kindHere_30 : decode cX12_kindHere 30 = .ok (.lcmp, 1) := by decide +kernel
theorem dX12_kindHere_31 : decode cX12_kindHere 31 = .ok (.ifCond .ne 5, 3) := by decide +kernel
theorem dX12_kindHere_34 : decode cX12_kindHere 34 = .ok (.iconst 1, 1) := by decide +kernel
theorem dX12_kindHere_35 : decode cX12_kindHere 35 = .ok (.ireturn, 1) := by decide +kernel
theorem dX12_kindHere_36 : decode cX12_kindHere 36 = .ok (.aload_n 0, 1) := by decide +kernel
theorem dX12_kindHere_37 : decode cX12_kindHere 37 = .ok (.getfield 207, 3) := by decide +kernel
theorem dX12_kindHere_40 : decode cX12_kindHere 40 = .ok (.ldc2_w 260, 3) := by decide +kernel
theorem dX12_kindHere_43 : decode cX12_kindHere 43 = .ok (.lcmp, 1) := by decide +kernel
theorem dX12_kindHere_44 : decode cX12_kindHere 44 = .ok (.ifCond .ne 5, 3) := by decide +kernel
theorem dX12_kindHere_47 : decode cX12_kindHere 47 = .ok (.iconst 2, 1) := by decide +kernel
theorem dX12_kindHere_48 : decode cX12_kindHere 48 = .ok (.ireturn, 1) := by decide +kernel
theorem dX12_kindHere_49 : decode cX12_kindHere 49 = .ok (.aload_n 0, 1) := by decide +kernel
theorem dX12_kindHere_50 : decode cX12_kindHere 50 = .ok (.getfield 207, 3) := by decide +kernel
theorem dX12_kindHere_53 : decode cX12_kindHere 53 = .ok (.ldc2_w 262, 3) := by decide +kernel
theorem dX12_kindHere_56 : decode cX12_kindHere 56 = .ok (.lcmp, 1) := by decide +kernel
theorem dX12_kindHere_57 : decode cX12_kindHere 57 = .ok (.ifCond .ne 5, 3) := by decide +kernel
theorem dX12_kindHere_60 : decode cX12_kindHere 60 = .ok (.iconst 3, 1) := by decide +kernel
theorem dX12_kindHere_61 : decode cX12_kindHere 61 = .ok (.ireturn, 1) := by decide +kernel
theorem dX12_kindHere_62 : decode cX12_kindHere 62 = .ok (.aload_n 0, 1) := by decide +kernel
theorem dX12_kindHere_63 : decode cX12_kindHere 63 = .ok (.getfield 207, 3) := by decide +kernel
theorem dX12_kindHere_66 : decode cX12_kindHere 66 = .ok (.ldc2_w 264, 3) := by decide +kernel
theorem dX12_kindHere_69 : decode cX12_kindHere 69 = .ok (.lcmp, 1) := by decide +kernel
theorem dX12_kindHere_70 : decode cX12_kindHere 70 = .ok (.ifCond .ne 5, 3) := by decide +kernel
theorem dX12_kindHere_73 : decode cX12_kindHere 73 = .ok (.iconst 4, 1) := by decide +kernel
theorem dX12_kindHere_74 : decode cX12_kindHere 74 = .ok (.ireturn, 1) := by decide +kernel
theorem dX12_kindHere_75 : decode cX12_kindHere 75 = .ok (.aload_n 0, 1) := by decide +kernel
theorem dX12_kindHere_76 : decode cX12_kindHere 76 = .ok (.getfield 207, 3) := by decide +kernel
theorem dX12_kindHere_79 : decode cX12_kindHere 79 = .ok (.ldc2_w 266, 3) := by decide +kernel
theorem dX12_kindHere_82 : decode cX12_kindHere 82 = .ok (.lcmp, 1) := by decide +kernel
theorem dX12_kindHere_83 : decode cX12_kindHere 83 = .ok (.ifCond .ne 5, 3) := by decide +kernel
theorem dX12_kindHere_86 : decode cX12_kindHere 86 = .ok (.iconst 5, 1) := by decide +kernel
theorem dX12_kindHere_87 : decode cX12_kindHere 87 = .ok (.ireturn, 1) := by decide +kernel
theorem dX12_kindHere_88 : decode cX12_kindHere 88 = .ok (.aload_n 0, 1) := by decide +kernel
theorem dX12_kindHere_89 : decode cX12_kindHere 89 = .ok (.getfield 207, 3) := by decide +kernel
theorem dX12_kindHere_92 : decode cX12_kindHere 92 = .ok (.ldc2_w 268, 3) := by decide +kernel
theorem dX12_kindHere_95 : decode cX12_kindHere 95 = .ok (.lcmp, 1) := by decide +kernel
theorem dX12_kindHere_96 : decode cX12_kindHere 96 = .ok (.ifCond .ne 6, 3) := by decide +kernel
theorem dX12_kindHere_99 : decode cX12_kindHere 99 = .ok (.bipush 6, 2) := by decide +kernel
theorem dX12_kindHere_101 : decode cX12_kindHere 101 = .ok (.ireturn, 1) := by decide +kernel
theorem dX12_kindHere_102 : decode cX12_kindHere 102 = .ok (.aload_n 0, 1) := by decide +kernel
theorem dX12_kindHere_103 : decode cX12_kindHere 103 = .ok (.getfield 207, 3) := by decide +kernel
theorem dX12_kindHere_106 : decode cX12_kindHere 106 = .ok (.ldc2_w 270, 3) := by decide +kernel
theorem dX12_kindHere_109 : decode cX12_kindHere 109 = .ok (.lcmp, 1) := by decide +kernel
theorem dX12_kindHere_110 : decode cX12_kindHere 110 = .ok (.ifCond .ne 6, 3) := by decide +kernel
theorem dX12_kindHere_113 : decode cX12_kindHere 113 = .ok (.bipush 7, 2) := by decide +kernel
theorem dX12_kindHere_115 : decode cX12_kindHere 115 = .ok (.ireturn, 1) := by decide +kernel
theorem dX12_kindHere_116 : decode cX12_kindHere 116 = .ok (.iconst (-1), 1) := by decide +kernel
theorem dX12_kindHere_117 : decode cX12_kindHere 117 = .ok (.ireturn, 1) := by decide +kernel
def m_X12_kindHere  (h : Hp) (Q : Int32 → Hp → Prop) : Prop := ((hI h 51 26) = 1 → (¬ (lg_cmp (hJ h 51 28) 316189) = 0 → (¬ (lg_cmp (hJ h 51 28) 144524) = 0 → (¬ (lg_cmp (hJ h 51 28) 375035) = 0 → (¬ (lg_cmp (hJ h 51 28) 164516) = 0 → (¬ (lg_cmp (hJ h 51 28) 664272) = 0 → (¬ (lg_cmp (hJ h 51 28) 10815598) = 0 → (¬ (lg_cmp (hJ h 51 28) 249) = 0 → (¬ (lg_cmp (hJ h 51 28) 47600141) = 0 → Q (-1) h) ∧ ((lg_cmp (hJ h 51 28) 47600141) = 0 → Q 7 h)) ∧ ((lg_cmp (hJ h 51 28) 249) = 0 → Q 6 h)) ∧ ((lg_cmp (hJ h 51 28) 10815598) = 0 → Q 5 h)) ∧ ((lg_cmp (hJ h 51 28) 664272) = 0 → Q 4 h)) ∧ ((lg_cmp (hJ h 51 28) 164516) = 0 → Q 3 h)) ∧ ((lg_cmp (hJ h 51 28) 375035) = 0 → Q 2 h)) ∧ ((lg_cmp (hJ h 51 28) 144524) = 0 → Q 1 h)) ∧ ((lg_cmp (hJ h 51 28) 316189) = 0 → Q 0 h)) ∧ (¬ (hI h 51 26) = 1 → Q (-1) h)
set_option maxHeartbeats 4000000 in
set_option maxRecDepth 100000 in
theorem s_X12_kindHere {l : Launch} {G : Cx} {d : Nat} (hd : 2 ≤ d) {h : Hp} {Q : Int32 → Hp → Prop} (hm : m_X12_kindHere h Q) : Ct l G d 0 0 yX12_kindHere MX12_kindHere [tR 12 0 (some 51)] h (qI Q) := by
  unfold m_X12_kindHere at hm
  refine Ct.of (L := [some (tR 12 0 (some 51))]) (by decide) rfl rfl (Nat.le_of_ble_eq_true rfl) rfl ?_
  refine r_aload_n dX12_kindHere_0 rfl rfl ?_
  refine r_getI (k := 26) cl_12 dX12_kindHere_1 t_1298 (Or.inl rfl) gf_12_26 ?_
  refine r_iconst (v := 1) dX12_kindHere_4 rfl ?_
  refine r_icmp_eq (tgt := 10) dX12_kindHere_5 rfl (fun hc => ?_) (fun hc => ?_)
  · replace hm := hm.1 hc
    refine r_aload_n dX12_kindHere_10 rfl rfl ?_
    refine r_getJ (k := 28) cl_12 dX12_kindHere_11 t_1300 (Or.inl rfl) gf_12_28 ?_
    refine r_ldc2_w dX12_kindHere_14 t_1587 ?_
    refine r_lcmp dX12_kindHere_17 ?_
    refine r_if_ne (tgt := 23) dX12_kindHere_18 rfl (fun hc => ?_) (fun hc => ?_)
    · replace hm := hm.1 hc
      refine r_aload_n dX12_kindHere_23 rfl rfl ?_
      refine r_getJ (k := 28) cl_12 dX12_kindHere_24 t_1300 (Or.inl rfl) gf_12_28 ?_
      refine r_ldc2_w dX12_kindHere_27 t_1588 ?_
      refine r_lcmp dX12_kindHere_30 ?_
      refine r_if_ne (tgt := 36) dX12_kindHere_31 rfl (fun hc => ?_) (fun hc => ?_)
      · replace hm := hm.1 hc
        refine r_aload_n dX12_kindHere_36 rfl rfl ?_
        refine r_getJ (k := 28) cl_12 dX12_kindHere_37 t_1300 (Or.inl rfl) gf_12_28 ?_
        refine r_ldc2_w dX12_kindHere_40 t_1589 ?_
        refine r_lcmp dX12_kindHere_43 ?_
        refine r_if_ne (tgt := 49) dX12_kindHere_44 rfl (fun hc => ?_) (fun hc => ?_)
        · replace hm := hm.1 hc
          refine r_aload_n dX12_kindHere_49 rfl rfl ?_
          refine r_getJ (k := 28) cl_12 dX12_kindHere_50 t_1300 (Or.inl rfl) gf_12_28 ?_
          refine r_ldc2_w dX12_kindHere_53 t_1590 ?_
          refine r_lcmp dX12_kindHere_56 ?_
          refine r_if_ne (tgt := 62) dX12_kindHere_57 rfl (fun hc => ?_) (fun hc => ?_)
          · replace hm := hm.1 hc
            refine r_aload_n dX12_kindHere_62 rfl rfl ?_
            refine r_getJ (k := 28) cl_12 dX12_kindHere_63 t_1300 (Or.inl rfl) gf_12_28 ?_
            refine r_ldc2_w dX12_kindHere_66 t_1591 ?_
            refine r_lcmp dX12_kindHere_69 ?_
            refine r_if_ne (tgt := 75) dX12_kindHere_70 rfl (fun hc => ?_) (fun hc => ?_)
            · replace hm := hm.1 hc
              refine r_aload_n dX12_kindHere_75 rfl rfl ?_
              refine r_getJ (k := 28) cl_12 dX12_kindHere_76 t_1300 (Or.inl rfl) gf_12_28 ?_
              refine r_ldc2_w dX12_kindHere_79 t_1592 ?_
              refine r_lcmp dX12_kindHere_82 ?_
              refine r_if_ne (tgt := 88) dX12_kindHere_83 rfl (fun hc => ?_) (fun hc => ?_)
              · replace hm := hm.1 hc
                refine r_aload_n dX12_kindHere_88 rfl rfl ?_
                refine r_getJ (k := 28) cl_12 dX12_kindHere_89 t_1300 (Or.inl rfl) gf_12_28 ?_
                refine r_ldc2_w dX12_kindHere_92 t_1593 ?_
                refine r_lcmp dX12_kindHere_95 ?_
                refine r_if_ne (tgt := 102) dX12_kindHere_96 rfl (fun hc => ?_) (fun hc => ?_)
                · replace hm := hm.1 hc
                  refine r_aload_n dX12_kindHere_102 rfl rfl ?_
                  refine r_getJ (k := 28) cl_12 dX12_kindHere_103 t_1300 (Or.inl rfl) gf_12_28 ?_
                  refine r_ldc2_w dX12_kindHere_106 t_1594 ?_
                  refine r_lcmp dX12_kindHere_109 ?_
                  refine r_if_ne (tgt := 116) dX12_kindHere_110 rfl (fun hc => ?_) (fun hc => ?_)
                  · replace hm := hm.1 hc
                    refine r_iconst (v := (-1)) dX12_kindHere_116 rfl ?_
                    exact r_ireturn dX12_kindHere_117 rfl ⟨by decide, by decide⟩ ⟨_, rfl, hm⟩
                  · replace hm := hm.2 hc
                    refine r_bipush (v := 7) dX12_kindHere_113 rfl ?_
                    exact r_ireturn dX12_kindHere_115 rfl ⟨by decide, by decide⟩ ⟨_, rfl, hm⟩
                · replace hm := hm.2 hc
                  refine r_bipush (v := 6) dX12_kindHere_99 rfl ?_
                  exact r_ireturn dX12_kindHere_101 rfl ⟨by decide, by decide⟩ ⟨_, rfl, hm⟩
              · replace hm := hm.2 hc
                refine r_iconst (v := 5) dX12_kindHere_86 rfl ?_
                exact r_ireturn dX12_kindHere_87 rfl ⟨by decide, by decide⟩ ⟨_, rfl, hm⟩
            · replace hm := hm.2 hc
              refine r_iconst (v := 4) dX12_kindHere_73 rfl ?_
              exact r_ireturn dX12_kindHere_74 rfl ⟨by decide, by decide⟩ ⟨_, rfl, hm⟩
          · replace hm := hm.2 hc
            refine r_iconst (v := 3) dX12_kindHere_60 rfl ?_
            exact r_ireturn dX12_kindHere_61 rfl ⟨by decide, by decide⟩ ⟨_, rfl, hm⟩
        · replace hm := hm.2 hc
          refine r_iconst (v := 2) dX12_kindHere_47 rfl ?_
          exact r_ireturn dX12_kindHere_48 rfl ⟨by decide, by decide⟩ ⟨_, rfl, hm⟩
      · replace hm := hm.2 hc
        refine r_iconst (v := 1) dX12_kindHere_34 rfl ?_
        exact r_ireturn dX12_kindHere_35 rfl ⟨by decide, by decide⟩ ⟨_, rfl, hm⟩
    · replace hm := hm.2 hc
      refine r_iconst (v := 0) dX12_kindHere_21 rfl ?_
      exact r_ireturn dX12_kindHere_22 rfl ⟨by decide, by decide⟩ ⟨_, rfl, hm⟩
  · replace hm := hm.2 hc
    refine r_iconst (v := (-1)) dX12_kindHere_8 rfl ?_
    exact r_ireturn dX12_kindHere_9 rfl ⟨by decide, by decide⟩ ⟨_, rfl, hm⟩
