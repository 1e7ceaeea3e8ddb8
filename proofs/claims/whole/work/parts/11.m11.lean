theorem dX12_innocent_0 : decode cX12_innocent 0 = .ok (.iload_n 1, 1) := rfl
theorem dX12_innocent_1 : decode cX12_innocent 1 = .ok (.iconst 0, 1) := rfl
theorem dX12_innocent_2 : decode cX12_innocent 2 = .ok (.aload_n 0, 1) := rfl
theorem dX12_innocent_3 : decode cX12_innocent 3 = .ok (.getfield 586, 3) := rfl
theorem dX12_innocent_6 : decode cX12_innocent 6 = .ok (.iconst 1, 1) := rfl
theorem dX12_innocent_7 : decode cX12_innocent 7 = .ok (.isub, 1) := rfl
theorem dX12_innocent_8 : decode cX12_innocent 8 = .ok (.invokestatic 185, 3) := rfl
theorem dX12_innocent_11 : decode cX12_innocent 11 = .ok (.ifCond .ne 5, 3) := by decide +kernel
theorem dX12_innocent_14 : decode cX12_innocent 14 = .ok (.iconst (-1), 1) := rfl
theorem dX12_innocent_15 : decode cX12_innocent 15 = .ok (.ireturn, 1) := rfl
theorem dX12_innocent_16 : decode cX12_innocent 16 = .ok (.aload_n 0, 1) := rfl
theorem dX12_innocent_17 : decode cX12_innocent 17 = .ok (.iload_n 1, 1) := rfl
theorem dX12_innocent_18 : decode cX12_innocent 18 = .ok (.invokevirtual 589, 3) := rfl
theorem dX12_innocent_21 : decode cX12_innocent 21 = .ok (.iload_n 2, 1) := rfl
theorem dX12_innocent_22 : decode cX12_innocent 22 = .ok (.ifCond .ne 16, 3) := by decide +kernel
theorem dX12_innocent_25 : decode cX12_innocent 25 = .ok (.aload_n 0, 1) := rfl
theorem dX12_innocent_26 : decode cX12_innocent 26 = .ok (.invokevirtual 565, 3) := rfl
theorem dX12_innocent_29 : decode cX12_innocent 29 = .ok (.ifCond .ge 7, 3) := by decide +kernel
theorem dX12_innocent_32 : decode cX12_innocent 32 = .ok (.iconst 1, 1) := rfl
theorem dX12_innocent_33 : decode cX12_innocent 33 = .ok (.goto 4, 3) := by decide +kernel
theorem dX12_innocent_36 : decode cX12_innocent 36 = .ok (.iconst 0, 1) := rfl
theorem dX12_innocent_37 : decode cX12_innocent 37 = .ok (.ireturn, 1) := rfl
theorem dX12_innocent_38 : decode cX12_innocent 38 = .ok (.iload_n 2, 1) := rfl
theorem dX12_innocent_39 : decode cX12_innocent 39 = .ok (.iconst 1, 1) := rfl
theorem dX12_innocent_40 : decode cX12_innocent 40 = .ok (.if_icmp .ne 8, 3) := by decide +kernel
theorem dX12_innocent_43 : decode cX12_innocent 43 = .ok (.aload_n 0, 1) := rfl
theorem dX12_innocent_44 : decode cX12_innocent 44 = .ok (.invokevirtual 506, 3) := rfl
theorem dX12_innocent_47 : decode cX12_innocent 47 = .ok (.ireturn, 1) := rfl
theorem dX12_innocent_48 : decode cX12_innocent 48 = .ok (.iload_n 2, 1) := rfl
theorem dX12_innocent_49 : decode cX12_innocent 49 = .ok (.bipush 10, 2) := by decide +kernel
theorem dX12_innocent_51 : decode cX12_innocent 51 = .ok (.bipush 9, 2) := by decide +kernel
theorem dX12_innocent_53 : decode cX12_innocent 53 = .ok (.aload_n 0, 1) := rfl
theorem dX12_innocent_54 : decode cX12_innocent 54 = .ok (.getfield 173, 3) := rfl
theorem dX12_innocent_57 : decode cX12_innocent 57 = .ok (.iload_n 1, 1) := rfl
theorem dX12_innocent_58 : decode cX12_innocent 58 = .ok (.iaload, 1) := rfl
theorem dX12_innocent_59 : decode cX12_innocent 59 = .ok (.iadd, 1) := rfl
theorem dX12_innocent_60 : decode cX12_innocent 60 = .ok (.invokestatic 185, 3) := rfl
theorem dX12_innocent_63 : decode cX12_innocent 63 = .ok (.ifCond .eq 20, 3) := by decide +kernel
theorem dX12_innocent_66 : decode cX12_innocent 66 = .ok (.aload_n 0, 1) := rfl
theorem dX12_innocent_67 : decode cX12_innocent 67 = .ok (.getfield 176, 3) := rfl
theorem dX12_innocent_70 : decode cX12_innocent 70 = .ok (.bipush 6, 2) := by decide +kernel
theorem dX12_innocent_72 : decode cX12_innocent 72 = .ok (.iload_n 1, 1) := rfl
theorem dX12_innocent_73 : decode cX12_innocent 73 = .ok (.imul, 1) := rfl
theorem dX12_innocent_74 : decode cX12_innocent 74 = .ok (.iload_n 2, 1) := rfl
theorem dX12_innocent_75 : decode cX12_innocent 75 = .ok (.iadd, 1) := rfl
theorem dX12_innocent_76 : decode cX12_innocent 76 = .ok (.bipush 10, 2) := by decide +kernel
theorem dX12_innocent_78 : decode cX12_innocent 78 = .ok (.isub, 1) := rfl
theorem dX12_innocent_79 : decode cX12_innocent 79 = .ok (.iaload, 1) := rfl
theorem dX12_innocent_80 : decode cX12_innocent 80 = .ok (.goto 4, 3) := by decide +kernel
theorem dX12_innocent_83 : decode cX12_innocent 83 = .ok (.iconst (-1), 1) := rfl
theorem dX12_innocent_84 : decode cX12_innocent 84 = .ok (.ireturn, 1) := rfl
def m_X12_innocent (v1 : Int32) (v2 : Int32) (h : Hp) (Q : Int32 → Hp → Prop) : Prop := m_X12_within v1 0 ((hI h 51 88) - 1) h (fun (x1 : Int32) (h2 : Hp) => (¬ x1 = 0 → m_X12_honestAtHand v1 h2 (fun (h4 : Hp) => (¬ v2 = 0 → (¬ v2 = 1 → vp_in v1 6 ∧ (m_X12_within v2 10 (9 + (hI h4 104 (ix v1))) h4 (fun (x5 : Int32) (h6 : Hp) => (x5 = 0 → Q (-1) h6) ∧ (¬ x5 = 0 → vp_in (((6 * v1) + v2) - 10) 36 ∧ (Q (hI h6 105 (ix (((6 * v1) + v2) - 10))) h6))))) ∧ (v2 = 1 → m_X12_loanAtHand h4 (fun (x7 : Int32) (h8 : Hp) => Q x7 h8))) ∧ (v2 = 0 → m_X12_breachNow h4 (fun (x9 : Int32) (h10 : Hp) => (0 ≤ x9 → Q 0 h10) ∧ (¬ 0 ≤ x9 → Q 1 h10))))) ∧ (x1 = 0 → Q (-1) h2))
set_option maxHeartbeats 4000000 in
set_option maxRecDepth 100000 in
theorem s_X12_innocent {l : Launch} {G : Cx} {d : Nat} (hd : 12 ≤ d) {v1 : Int32} {v2 : Int32} {h : Hp} {Q : Int32 → Hp → Prop} (hm : m_X12_innocent v1 v2 h Q) : Ct l G d 0 0 yX12_innocent MX12_innocent [tR 12 0 (some 51), tI v1, tI v2] h (qI Q) := by
  unfold m_X12_innocent at hm
  refine Ct.of (L := [some (tR 12 0 (some 51)), some (tI v1), some (tI v2)]) (by decide) rfl rfl (Nat.le_of_ble_eq_true rfl) rfl ?_
  refine r_iload_n dX12_innocent_0 rfl rfl ?_
  refine r_iconst (v := 0) dX12_innocent_1 rfl ?_
  refine r_aload_n dX12_innocent_2 rfl rfl ?_
  refine r_getI (k := 88) cl_12 dX12_innocent_3 t_1360 (Or.inl rfl) gf_12_88 ?_
  refine r_iconst (v := 1) dX12_innocent_6 rfl ?_
  refine r_isub dX12_innocent_7 ?_
  refine r_callSI (d' := d - 1) (as := [tI v1, tI 0, tI ((hI h 51 88) - 1)]) (st := []) dX12_innocent_8 mi_X12_within t_1557 t_1558 rfl rfl (Nat.le_of_ble_eq_true rfl) (by omega) ⟨by decide, by decide⟩ ⟨rfl, rfl⟩ (s_X12_within (by omega) hm) (fun x1 h2 hm => ?_)
  refine r_if_ne (tgt := 16) dX12_innocent_11 rfl (fun hc => ?_) (fun hc => ?_)
  · replace hm := hm.1 hc
    refine r_aload_n dX12_innocent_16 rfl rfl ?_
    refine r_iload_n dX12_innocent_17 rfl rfl ?_
    refine r_callVU (d' := d - 1) (as := [tI v1]) (st := []) cl_12 dX12_innocent_18 mi_X12_honestAtHand t_1961 t_1963 ts_119 rfl rfl (Nat.le_of_ble_eq_true rfl) (by omega) ⟨by decide, by decide⟩ ⟨rfl, rfl⟩ (s_X12_honestAtHand (by omega) hm) (fun h4 hm => ?_)
    refine r_iload_n dX12_innocent_21 rfl rfl ?_
    refine r_if_ne (tgt := 38) dX12_innocent_22 rfl (fun hc => ?_) (fun hc => ?_)
    · replace hm := hm.1 hc
      refine r_iload_n dX12_innocent_38 rfl rfl ?_
      refine r_iconst (v := 1) dX12_innocent_39 rfl ?_
      refine r_icmp_ne (tgt := 48) dX12_innocent_40 rfl (fun hc => ?_) (fun hc => ?_)
      · replace hm := hm.1 hc
        refine r_iload_n dX12_innocent_48 rfl rfl ?_
        refine r_bipush (v := 10) dX12_innocent_49 rfl ?_
        refine r_bipush (v := 9) dX12_innocent_51 rfl ?_
        refine r_aload_n dX12_innocent_53 rfl rfl ?_
        refine r_getC (k := 89) cl_12 dX12_innocent_54 t_1361 gf_12_89.1 gf_12_89.2 (gc_12_89 _) ?_
        refine r_iload_n dX12_innocent_57 rfl rfl ?_
        refine r_iald dX12_innocent_58 hm.1 ?_
        replace hm := hm.2
        refine r_iadd dX12_innocent_59 ?_
        refine r_callSI (d' := d - 1) (as := [tI v2, tI 10, tI (9 + (hI h4 104 (ix v1)))]) (st := []) dX12_innocent_60 mi_X12_within t_1557 t_1558 rfl rfl (Nat.le_of_ble_eq_true rfl) (by omega) ⟨by decide, by decide⟩ ⟨rfl, rfl⟩ (s_X12_within (by omega) hm) (fun x5 h6 hm => ?_)
        refine r_if_eq (tgt := 83) dX12_innocent_63 rfl (fun hc => ?_) (fun hc => ?_)
        · replace hm := hm.1 hc
          refine r_iconst (v := (-1)) dX12_innocent_83 rfl ?_
          exact r_ireturn dX12_innocent_84 rfl ⟨by decide, by decide⟩ ⟨_, rfl, hm⟩
        · replace hm := hm.2 hc
          refine r_aload_n dX12_innocent_66 rfl rfl ?_
          refine r_getC (k := 90) cl_12 dX12_innocent_67 t_1362 gf_12_90.1 gf_12_90.2 (gc_12_90 _) ?_
          refine r_bipush (v := 6) dX12_innocent_70 rfl ?_
          refine r_iload_n dX12_innocent_72 rfl rfl ?_
          refine r_imul dX12_innocent_73 ?_
          refine r_iload_n dX12_innocent_74 rfl rfl ?_
          refine r_iadd dX12_innocent_75 ?_
          refine r_bipush (v := 10) dX12_innocent_76 rfl ?_
          refine r_isub dX12_innocent_78 ?_
          refine r_iald dX12_innocent_79 hm.1 ?_
          replace hm := hm.2
          refine r_goto (tgt := 84) dX12_innocent_80 rfl ?_
          exact r_ireturn dX12_innocent_84 rfl ⟨by decide, by decide⟩ ⟨_, rfl, hm⟩
      · replace hm := hm.2 hc
        refine r_aload_n dX12_innocent_43 rfl rfl ?_
        refine r_callVI (d' := d - 1) (as := []) (st := []) cl_12 dX12_innocent_44 mi_X12_loanAtHand t_1854 t_1856 ts_105 rfl rfl (Nat.le_of_ble_eq_true rfl) (by omega) ⟨by decide, by decide⟩ ⟨rfl, rfl⟩ (s_X12_loanAtHand (by omega) hm) (fun x7 h8 hm => ?_)
        exact r_ireturn dX12_innocent_47 rfl ⟨by decide, by decide⟩ ⟨_, rfl, hm⟩
    · replace hm := hm.2 hc
      refine r_aload_n dX12_innocent_25 rfl rfl ?_
      refine r_callVI (d' := d - 1) (as := []) (st := []) cl_12 dX12_innocent_26 mi_X12_breachNow t_1909 t_1911 ts_111 rfl rfl (Nat.le_of_ble_eq_true rfl) (by omega) ⟨by decide, by decide⟩ ⟨rfl, rfl⟩ (s_X12_breachNow (by omega) hm) (fun x9 h10 hm => ?_)
      refine r_if_ge (tgt := 36) dX12_innocent_29 rfl (fun hc => ?_) (fun hc => ?_)
      · replace hm := hm.1 hc
        refine r_iconst (v := 0) dX12_innocent_36 rfl ?_
        exact r_ireturn dX12_innocent_37 rfl ⟨by decide, by decide⟩ ⟨_, rfl, hm⟩
      · replace hm := hm.2 hc
        refine r_iconst (v := 1) dX12_innocent_32 rfl ?_
        refine r_goto (tgt := 37) dX12_innocent_33 rfl ?_
        exact r_ireturn dX12_innocent_37 rfl ⟨by decide, by decide⟩ ⟨_, rfl, hm⟩
  · replace hm := hm.2 hc
    refine r_iconst (v := (-1)) dX12_innocent_14 rfl ?_
    exact r_ireturn dX12_innocent_15 rfl ⟨by decide, by decide⟩ ⟨_, rfl, hm⟩
theorem dX12_doPart_0 : decode cX12_doPart 0 = .ok (.aload_n 0, 1) := by decide +kernel
theorem dX12_doPart_1 : decode cX12_doPart 1 = .ok (.invokevirtual 452, 3) := by decide +kernel
theorem dX12_doPart_4 : decode cX12_doPart 4 = .ok (.aload_n 0, 1) := by decide +kernel
theorem dX12_doPart_5 : decode cX12_doPart 5 = .ok (.iload_n 2, 1) := by decide +kernel
theorem dX12_doPart_6 : decode cX12_doPart 6 = .ok (.invokevirtual 468, 3) := by decide +kernel
theorem dX12_doPart_9 : decode cX12_doPart 9 = .ok (.iconst 0, 1) := by decide +kernel
theorem dX12_doPart_10 : decode cX12_doPart 10 = .ok (.istore_n 3, 1) := by decide +kernel
theorem dX12_doPart_11 : decode cX12_doPart 11 = .ok (.iload_n 3, 1) := by decide +kernel
theorem dX12_doPart_12 : decode cX12_doPart 12 = .ok (.bipush 48, 2) := by decide +kernel
theorem dX12_doPart_14 : decode cX12_doPart 14 = .ok (.if_icmp .ge 28, 3) := by decide +kernel
theorem dX12_doPart_17 : decode cX12_doPart 17 = .ok (.aload_n 0, 1) := by decide +kernel
theorem dX12_doPart_18 : decode cX12_doPart 18 = .ok (.getfield 179, 3) := by decide +kernel
theorem dX12_doPart_21 : decode cX12_doPart 21 = .ok (.iload_n 3, 1) := by decide +kernel
theorem dX12_doPart_22 : decode cX12_doPart 22 = .ok (.aload_n 0, 1) := by decide +kernel
theorem dX12_doPart_23 : decode cX12_doPart 23 = .ok (.iload_n 3, 1) := by decide +kernel
theorem dX12_doPart_24 : decode cX12_doPart 24 = .ok (.bipush 6, 2) := by decide +kernel
theorem dX12_doPart_26 : decode cX12_doPart 26 = .ok (.idiv, 1) := by decide +kernel
theorem dX12_doPart_27 : decode cX12_doPart 27 = .ok (.iload_n 3, 1) := by decide +kernel
theorem dX12_doPart_28 : decode cX12_doPart 28 = .ok (.bipush 6, 2) := by decide +kernel
theorem dX12_doPart_30 : decode cX12_doPart 30 = .ok (.irem, 1) := by decide +kernel
theorem dX12_doPart_31 : decode cX12_doPart 31 = .ok (.iconst (-1), 1) := by decide +kernel
theorem dX12_doPart_32 : decode cX12_doPart 32 = .ok (.invokevirtual 471, 3) := by decide +kernel
theorem dX12_doPart_35 : decode cX12_doPart 35 = .ok (.lastore, 1) := by decide +kernel
theorem dX12_doPart_36 : decode cX12_doPart 36 = .ok (.iinc 3 1, 3) := by decide +kernel
theorem dX12_doPart_39 : decode cX12_doPart 39 = .ok (.goto (-28), 3) := by decide +kernel
theorem dX12_doPart_42 : decode cX12_doPart 42 = .ok (.aload_n 0, 1) := by decide +kernel
theorem dX12_doPart_43 : decode cX12_doPart 43 = .ok (.iload_n 1, 1) := by decide +kernel
theorem dX12_doPart_44 : decode cX12_doPart 44 = .ok (.invokevirtual 589, 3) := by decide +kernel
theorem dX12_doPart_47 : decode cX12_doPart 47 = .ok (.aload_n 0, 1) := by decide +kernel
theorem dX12_doPart_48 : decode cX12_doPart 48 = .ok (.iload_n 2, 1) := by decide +kernel
theorem dX12_doPart_49 : decode cX12_doPart 49 = .ok (.invokevirtual 468, 3) := by decide +kernel
theorem dX12_doPart_52 : decode cX12_doPart 52 = .ok (.iconst 0, 1) := by decide +kernel
theorem dX12_doPart_53 : decode cX12_doPart 53 = .ok (.istore_n 3, 1) := by decide +kernel
theorem dX12_doPart_54 : decode cX12_doPart 54 = .ok (.iconst 0, 1) := by decide +kernel
theorem dX12_doPart_55 : decode cX12_doPart 55 = .ok (.istore 4, 2) := by decide +kernel
theorem dX12_doPart_57 : decode cX12_doPart 57 = .ok (.iload 4, 2) := by decide +kernel
theorem dX12_doPart_59 : decode cX12_doPart 59 = .ok (.bipush 48, 2) := by decide +kernel
theorem dX12_doPart_61 : decode cX12_doPart 61 = .ok (.if_icmp .ge 45, 3) := by decide +kernel
theorem dX12_doPart_64 : decode cX12_doPart 64 = .ok (.iload_n 3, 1) := by decide +kernel
theorem dX12_doPart_65 : decode cX12_doPart 65 = .ok (.ifCond .ne 29, 3) := by decide +kernel
theorem dX12_doPart_68 : decode cX12_doPart 68 = .ok (.aload_n 0, 1) := by decide +kernel
theorem dX12_doPart_69 : decode cX12_doPart 69 = .ok (.getfield 179, 3) := by decide +kernel
theorem dX12_doPart_72 : decode cX12_doPart 72 = .ok (.iload 4, 2) := by decide +kernel
theorem dX12_doPart_74 : decode cX12_doPart 74 = .ok (.laload, 1) := by decide +kernel
theorem dX12_doPart_75 : decode cX12_doPart 75 = .ok (.aload_n 0, 1) := by decide +kernel
theorem dX12_doPart_76 : decode cX12_doPart 76 = .ok (.iload 4, 2) := by decide +kernel
theorem dX12_doPart_78 : decode cX12_doPart 78 = .ok (.bipush 6, 2) := by decide +kernel
theorem dX12_doPart_80 : decode cX12_doPart 80 = .ok (.idiv, 1) := by decide +kernel
theorem dX12_doPart_81 : decode cX12_doPart 81 = .ok (.iload 4, 2) := by decide +kernel
theorem dX12_doPart_83 : decode cX12_doPart 83 = .ok (.bipush 6, 2) := by decide +kernel
theorem dX12_doPart_85 : decode cX12_doPart 85 = .ok (.irem, 1) := by decide +kernel
theorem dX12_doPart_86 : decode cX12_doPart 86 = .ok (.iconst (-1), 1) := by decide +kernel
theorem dX12_doPart_87 : decode cX12_doPart 87 = .ok (.invokevirtual 471, 3) := by decide +kernel
theorem dX12_doPart_90 : decode cX12_doPart 90 = .ok (.lcmp, 1) := by decide +kernel
theorem dX12_doPart_91 : decode cX12_doPart 91 = .ok (.ifCond .eq 7, 3) := by decide +kernel
theorem dX12_doPart_94 : decode cX12_doPart 94 = .ok (.iconst 1, 1) := by decide +kernel
theorem dX12_doPart_95 : decode cX12_doPart 95 = .ok (.goto 4, 3) := by decide +kernel
theorem dX12_doPart_98 : decode cX12_doPart 98 = .ok (.iconst 0, 1) := by decide +kernel
theorem dX12_doPart_99 : decode cX12_doPart 99 = .ok (.istore_n 3, 1) := by decide +kernel
theorem dX12_doPart_100 : decode cX12_doPart 100 = .ok (.iinc 4 1, 3) := by decide +kernel
theorem dX12_doPart_103 : decode cX12_doPart 103 = .ok (.goto (-46), 3) := by decide +kernel
theorem dX12_doPart_106 : decode cX12_doPart 106 = .ok (.iload_n 3, 1) := by decide +kernel
theorem dX12_doPart_107 : decode cX12_doPart 107 = .ok (.ireturn, 1) := by decide +kernel
def m_X12_doPart_99 (k57 : Int32 → Int32 → Hp → Prop) (Q : Int32 → Hp → Prop) (v4 : Int32) (s0 : Int32) (h : Hp) : Prop := ∀ x1 : Int32, x1 = v4 + 1 → k57 s0 x1 h
set_option maxHeartbeats 4000000 in
set_option maxRecDepth 100000 in
theorem s_X12_doPart_99 {l : Launch} {G : Cx} {d : Nat} {h0 : Hp} (hd : 8 ≤ d) {k57 : Int32 → Int32 → Hp → Prop} {Q : Int32 → Hp → Prop} (hk57 : ∀ (v3 : Int32) (v4 : Int32) (hh : Hp), k57 v3 v4 hh → Rn l G d 0 0 MX12_doPart h0 (qI Q) 57 [some (tR 12 0 (some 51)), none, none, some (tI v3), some (tI v4)] [] hh 0 0) {v4 : Int32} {s0 : Int32} {h : Hp} (hm : m_X12_doPart_99 k57 Q v4 s0 h) : Rn l G d 0 0 MX12_doPart h0 (qI Q) 99 [some (tR 12 0 (some 51)), none, none, none, some (tI v4)] [tI s0] h 0 0 := by
  unfold m_X12_doPart_99 at hm
  refine r_istore_n (L' := [some (tR 12 0 (some 51)), none, none, some (tI s0), some (tI v4)]) dX12_doPart_99 rfl (by decide) rfl ?_
  obtain ⟨x1, e_x1⟩ : ∃ y : Int32, y = v4 + 1 := ⟨_, rfl⟩
  replace hm := hm x1 e_x1
  refine r_iinc (L' := [some (tR 12 0 (some 51)), none, none, some (tI s0), some (tI x1)]) dX12_doPart_100 rfl (by rw [e_x1]; rfl) (by decide) rfl ?_
  refine r_goto (tgt := 57) dX12_doPart_103 rfl ?_
  refine r_keep (L' := [some (tR 12 0 (some 51)), none, none, some (tI s0), some (tI x1)]) [true, false, false, true, true] rfl ?_
  exact hk57 _ _ _ hm
def m_X12_doPart_94 (k57 : Int32 → Int32 → Hp → Prop) (Q : Int32 → Hp → Prop) (v4 : Int32) (h : Hp) : Prop := m_X12_doPart_99 k57 Q v4 1 h
set_option maxHeartbeats 4000000 in
set_option maxRecDepth 100000 in
theorem s_X12_doPart_94 {l : Launch} {G : Cx} {d : Nat} {h0 : Hp} (hd : 8 ≤ d) {k57 : Int32 → Int32 → Hp → Prop} {Q : Int32 → Hp → Prop} (hk57 : ∀ (v3 : Int32) (v4 : Int32) (hh : Hp), k57 v3 v4 hh → Rn l G d 0 0 MX12_doPart h0 (qI Q) 57 [some (tR 12 0 (some 51)), none, none, some (tI v3), some (tI v4)] [] hh 0 0) {v4 : Int32} {h : Hp} (hm : m_X12_doPart_94 k57 Q v4 h) : Rn l G d 0 0 MX12_doPart h0 (qI Q) 94 [some (tR 12 0 (some 51)), none, none, none, some (tI v4)] [] h 0 0 := by
  unfold m_X12_doPart_94 at hm
  refine r_iconst (v := 1) dX12_doPart_94 rfl ?_
  refine r_goto (tgt := 99) dX12_doPart_95 rfl ?_
  refine r_keep (L' := [some (tR 12 0 (some 51)), none, none, none, some (tI v4)]) [true, false, false, false, true] rfl ?_
  exact s_X12_doPart_99 hd hk57 hm
def m_X12_doPart_57 : Nat → (Int32 → Hp → Prop) → Int32 → Int32 → Hp → Prop
  | 0, _, _, _, _ => False
  | n + 1, Q, v3, v4, h => (48 ≤ v4 → bz v3 ∧ Q v3 h) ∧ (¬ 48 ≤ v4 → (¬ v3 = 0 → m_X12_doPart_94 (fun (v3 : Int32) (v4 : Int32) (hh : Hp) => m_X12_doPart_57 n Q v3 v4 hh) Q v4 h) ∧ (v3 = 0 → vp_in v4 48 ∧ (m_X12_netOf (v4 / 6) (v4 - v4 / 6 * 6) (-1) h (fun (x2 : Int64) (h3 : Hp) => ((lg_cmp (hJ h 106 (ix v4)) x2) = 0 → m_X12_doPart_99 (fun (v3 : Int32) (v4 : Int32) (hh : Hp) => m_X12_doPart_57 n Q v3 v4 hh) Q v4 0 h3) ∧ (¬ (lg_cmp (hJ h 106 (ix v4)) x2) = 0 → m_X12_doPart_94 (fun (v3 : Int32) (v4 : Int32) (hh : Hp) => m_X12_doPart_57 n Q v3 v4 hh) Q v4 h3)))))
set_option maxHeartbeats 4000000 in
set_option maxRecDepth 100000 in
theorem s_X12_doPart_57 {l : Launch} {G : Cx} {d : Nat} {h0 : Hp} (hd : 8 ≤ d) {Q : Int32 → Hp → Prop} : ∀ {n : Nat} {v3 : Int32} {v4 : Int32} {h : Hp}, m_X12_doPart_57 n Q v3 v4 h → Rn l G d 0 0 MX12_doPart h0 (qI Q) 57 [some (tR 12 0 (some 51)), none, none, some (tI v3), some (tI v4)] [] h 0 0 := by
  intro n
  induction n with
  | zero => intro v3 v4 h hm; exact hm.elim
  | succ n ih =>
    intro v3 v4 h hm
    have hk57 := fun (v3 : Int32) (v4 : Int32) (hh : Hp) (hm : m_X12_doPart_57 n Q v3 v4 hh) => ih hm
    rw [m_X12_doPart_57] at hm
    refine r_iload dX12_doPart_57 rfl ?_
    refine r_bipush (v := 48) dX12_doPart_59 rfl ?_
    refine r_icmp_ge (tgt := 106) dX12_doPart_61 rfl (fun hc => ?_) (fun hc => ?_)
    · replace hm := hm.1 hc
      refine r_iload_n dX12_doPart_106 rfl rfl ?_
      exact r_bret dX12_doPart_107 rfl ⟨by decide, by decide⟩ hm.1 ⟨_, rfl, hm.2⟩
    · replace hm := hm.2 hc
      refine r_iload_n dX12_doPart_64 rfl rfl ?_
      refine r_if_ne (tgt := 94) dX12_doPart_65 rfl (fun hc => ?_) (fun hc => ?_)
      · replace hm := hm.1 hc
        refine r_keep (L' := [some (tR 12 0 (some 51)), none, none, none, some (tI v4)]) [true, false, false, false, true] rfl ?_
        exact s_X12_doPart_94 hd hk57 hm
      · replace hm := hm.2 hc
        refine r_aload_n dX12_doPart_68 rfl rfl ?_
        refine r_getC (k := 91) cl_12 dX12_doPart_69 t_1363 gf_12_91.1 gf_12_91.2 (gc_12_91 _) ?_
        refine r_iload dX12_doPart_72 rfl ?_
        refine r_lald dX12_doPart_74 hm.1 ?_
        replace hm := hm.2
        refine r_aload_n dX12_doPart_75 rfl rfl ?_
        refine r_iload dX12_doPart_76 rfl ?_
        refine r_bipush (v := 6) dX12_doPart_78 rfl ?_
        refine r_idiv dX12_doPart_80 (by decide) ?_
        refine r_iload dX12_doPart_81 rfl ?_
        refine r_bipush (v := 6) dX12_doPart_83 rfl ?_
        refine r_irem dX12_doPart_85 (by decide) ?_
        refine r_iconst (v := (-1)) dX12_doPart_86 rfl ?_
        refine r_callVJ (d' := d - 1) (as := [tI (v4 / 6), tI (v4 - v4 / 6 * 6), tI (-1)]) (st := [tJ (hJ h 106 (ix v4))]) cl_12 dX12_doPart_87 mi_X12_netOf t_1794 t_1796 ts_97 rfl rfl (Nat.le_of_ble_eq_true rfl) (by omega) ⟨by decide, by decide⟩ ⟨rfl, rfl⟩ (s_X12_netOf (by omega) hm) (fun x2 h3 hm => ?_)
        refine r_lcmp dX12_doPart_90 ?_
        refine r_if_eq (tgt := 98) dX12_doPart_91 rfl (fun hc => ?_) (fun hc => ?_)
        · replace hm := hm.1 hc
          refine r_iconst (v := 0) dX12_doPart_98 rfl ?_
          refine r_keep (L' := [some (tR 12 0 (some 51)), none, none, none, some (tI v4)]) [true, false, false, false, true] rfl ?_
          exact s_X12_doPart_99 hd hk57 hm
        · replace hm := hm.2 hc
          refine r_keep (L' := [some (tR 12 0 (some 51)), none, none, none, some (tI v4)]) [true, false, false, false, true] rfl ?_
          exact s_X12_doPart_94 hd hk57 hm
def m_X12_doPart_42  (Q : Int32 → Hp → Prop) (v1 : Int32) (v2 : Int32) (h : Hp) : Prop := m_X12_honestAtHand v1 h (fun (h5 : Hp) => m_X12_passesAll v2 h5 (fun (h7 : Hp) => ∃ n57, m_X12_doPart_57 n57 Q 0 0 h7))
set_option maxHeartbeats 4000000 in
set_option maxRecDepth 100000 in
theorem s_X12_doPart_42 {l : Launch} {G : Cx} {d : Nat} {h0 : Hp} (hd : 8 ≤ d) {Q : Int32 → Hp → Prop} {v1 : Int32} {v2 : Int32} {h : Hp} (hm : m_X12_doPart_42 Q v1 v2 h) : Rn l G d 0 0 MX12_doPart h0 (qI Q) 42 [some (tR 12 0 (some 51)), some (tI v1), some (tI v2)] [] h 0 0 := by
  unfold m_X12_doPart_42 at hm
  refine r_aload_n dX12_doPart_42 rfl rfl ?_
  refine r_iload_n dX12_doPart_43 rfl rfl ?_
  refine r_callVU (d' := d - 1) (as := [tI v1]) (st := []) cl_12 dX12_doPart_44 mi_X12_honestAtHand t_1961 t_1963 ts_119 rfl rfl (Nat.le_of_ble_eq_true rfl) (by omega) ⟨by decide, by decide⟩ ⟨rfl, rfl⟩ (s_X12_honestAtHand (by omega) hm) (fun h5 hm => ?_)
  refine r_aload_n dX12_doPart_47 rfl rfl ?_
  refine r_iload_n dX12_doPart_48 rfl rfl ?_
  refine r_callVU (d' := d - 1) (as := [tI v2]) (st := []) cl_12 dX12_doPart_49 mi_X12_passesAll t_1790 t_1792 ts_96 rfl rfl (Nat.le_of_ble_eq_true rfl) (by omega) ⟨by decide, by decide⟩ ⟨rfl, rfl⟩ (s_X12_passesAll (by omega) hm) (fun h7 hm => ?_)
  refine r_iconst (v := 0) dX12_doPart_52 rfl ?_
  refine r_istore_n (L' := [some (tR 12 0 (some 51)), some (tI v1), some (tI v2), some (tI 0)]) dX12_doPart_53 rfl (by decide) rfl ?_
  refine r_iconst (v := 0) dX12_doPart_54 rfl ?_
  refine r_istore (L' := [some (tR 12 0 (some 51)), some (tI v1), some (tI v2), some (tI 0), some (tI 0)]) dX12_doPart_55 (by decide) rfl ?_
  refine r_keep (L' := [some (tR 12 0 (some 51)), none, none, some (tI 0), some (tI 0)]) [true, false, false, true, true] rfl ?_
  obtain ⟨n, hm⟩ := hm
  refine s_X12_doPart_57 hd hm
def m_X12_doPart_11 : Nat → (Int32 → Int32 → Hp → Prop) → (Int32 → Hp → Prop) → Int32 → Int32 → Int32 → Hp → Prop
  | 0, _, _, _, _, _, _ => False
  | n + 1, k42, Q, v1, v2, v3, h => (48 ≤ v3 → k42 v1 v2 h) ∧ (¬ 48 ≤ v3 → m_X12_netOf (v3 / 6) (v3 - v3 / 6 * 6) (-1) h (fun (x8 : Int64) (h9 : Hp) => vp_in v3 48 ∧ (∀ x10 : Int32, x10 = v3 + 1 → m_X12_doPart_11 n k42 Q v1 v2 x10 (wJ h9 106 (ix v3) x8))))
set_option maxHeartbeats 4000000 in
set_option maxRecDepth 100000 in
theorem s_X12_doPart_11 {l : Launch} {G : Cx} {d : Nat} {h0 : Hp} (hd : 8 ≤ d) {k42 : Int32 → Int32 → Hp → Prop} {Q : Int32 → Hp → Prop} (hk42 : ∀ (v1 : Int32) (v2 : Int32) (hh : Hp), k42 v1 v2 hh → Rn l G d 0 0 MX12_doPart h0 (qI Q) 42 [some (tR 12 0 (some 51)), some (tI v1), some (tI v2)] [] hh 0 0) : ∀ {n : Nat} {v1 : Int32} {v2 : Int32} {v3 : Int32} {h : Hp}, m_X12_doPart_11 n k42 Q v1 v2 v3 h → Rn l G d 0 0 MX12_doPart h0 (qI Q) 11 [some (tR 12 0 (some 51)), some (tI v1), some (tI v2), some (tI v3)] [] h 0 0 := by
  intro n
  induction n with
  | zero => intro v1 v2 v3 h hm; exact hm.elim
  | succ n ih =>
    intro v1 v2 v3 h hm
    have hk11 := fun (v1 : Int32) (v2 : Int32) (v3 : Int32) (hh : Hp) (hm : m_X12_doPart_11 n k42 Q v1 v2 v3 hh) => ih hm
    rw [m_X12_doPart_11] at hm
    refine r_iload_n dX12_doPart_11 rfl rfl ?_
    refine r_bipush (v := 48) dX12_doPart_12 rfl ?_
    refine r_icmp_ge (tgt := 42) dX12_doPart_14 rfl (fun hc => ?_) (fun hc => ?_)
    · replace hm := hm.1 hc
      refine r_keep (L' := [some (tR 12 0 (some 51)), some (tI v1), some (tI v2)]) [true, true, true] rfl ?_
      exact hk42 _ _ _ hm
    · replace hm := hm.2 hc
      refine r_aload_n dX12_doPart_17 rfl rfl ?_
      refine r_getC (k := 91) cl_12 dX12_doPart_18 t_1363 gf_12_91.1 gf_12_91.2 (gc_12_91 _) ?_
      refine r_iload_n dX12_doPart_21 rfl rfl ?_
      refine r_aload_n dX12_doPart_22 rfl rfl ?_
      refine r_iload_n dX12_doPart_23 rfl rfl ?_
      refine r_bipush (v := 6) dX12_doPart_24 rfl ?_
      refine r_idiv dX12_doPart_26 (by decide) ?_
      refine r_iload_n dX12_doPart_27 rfl rfl ?_
      refine r_bipush (v := 6) dX12_doPart_28 rfl ?_
      refine r_irem dX12_doPart_30 (by decide) ?_
      refine r_iconst (v := (-1)) dX12_doPart_31 rfl ?_
      refine r_callVJ (d' := d - 1) (as := [tI (v3 / 6), tI (v3 - v3 / 6 * 6), tI (-1)]) (st := [tI v3, tR 43 48 (some 106)]) cl_12 dX12_doPart_32 mi_X12_netOf t_1794 t_1796 ts_97 rfl rfl (Nat.le_of_ble_eq_true rfl) (by omega) ⟨by decide, by decide⟩ ⟨rfl, rfl⟩ (s_X12_netOf (by omega) hm) (fun x8 h9 hm => ?_)
      refine r_last dX12_doPart_35 hm.1 ?_
      replace hm := hm.2
      obtain ⟨x10, e_x10⟩ : ∃ y : Int32, y = v3 + 1 := ⟨_, rfl⟩
      replace hm := hm x10 e_x10
      refine r_iinc (L' := [some (tR 12 0 (some 51)), some (tI v1), some (tI v2), some (tI x10)]) dX12_doPart_36 rfl (by rw [e_x10]; rfl) (by decide) rfl ?_
      refine r_goto (tgt := 11) dX12_doPart_39 rfl ?_
      refine r_keep (L' := [some (tR 12 0 (some 51)), some (tI v1), some (tI v2), some (tI x10)]) [true, true, true, true] rfl ?_
      exact hk11 _ _ _ _ hm
def m_X12_doPart (v1 : Int32) (v2 : Int32) (h : Hp) (Q : Int32 → Hp → Prop) : Prop := m_X12_bundleAtHand h (fun (h12 : Hp) => m_X12_passesAll v2 h12 (fun (h14 : Hp) => ∃ n11, m_X12_doPart_11 n11 (m_X12_doPart_42 Q) Q v1 v2 0 h14))
set_option maxHeartbeats 4000000 in
set_option maxRecDepth 100000 in
theorem s_X12_doPart {l : Launch} {G : Cx} {d : Nat} (hd : 8 ≤ d) {v1 : Int32} {v2 : Int32} {h : Hp} {Q : Int32 → Hp → Prop} (hm : m_X12_doPart v1 v2 h Q) : Ct l G d 0 0 yX12_doPart MX12_doPart [tR 12 0 (some 51), tI v1, tI v2] h (qI Q) := by
  unfold m_X12_doPart at hm
  refine Ct.of (L := [some (tR 12 0 (some 51)), some (tI v1), some (tI v2)]) (by decide) rfl rfl (Nat.le_of_ble_eq_true rfl) rfl ?_
  refine r_aload_n dX12_doPart_0 rfl rfl ?_
  refine r_callVU (d' := d - 1) (as := []) (st := []) cl_12 dX12_doPart_1 mi_X12_bundleAtHand t_1757 t_1759 ts_89 rfl rfl (Nat.le_of_ble_eq_true rfl) (by omega) ⟨by decide, by decide⟩ ⟨rfl, rfl⟩ (s_X12_bundleAtHand (by omega) hm) (fun h12 hm => ?_)
  refine r_aload_n dX12_doPart_4 rfl rfl ?_
  refine r_iload_n dX12_doPart_5 rfl rfl ?_
  refine r_callVU (d' := d - 1) (as := [tI v2]) (st := []) cl_12 dX12_doPart_6 mi_X12_passesAll t_1790 t_1792 ts_96 rfl rfl (Nat.le_of_ble_eq_true rfl) (by omega) ⟨by decide, by decide⟩ ⟨rfl, rfl⟩ (s_X12_passesAll (by omega) hm) (fun h14 hm => ?_)
  refine r_iconst (v := 0) dX12_doPart_9 rfl ?_
  refine r_istore_n (L' := [some (tR 12 0 (some 51)), some (tI v1), some (tI v2), some (tI 0)]) dX12_doPart_10 rfl (by decide) rfl ?_
  refine r_keep (L' := [some (tR 12 0 (some 51)), some (tI v1), some (tI v2), some (tI 0)]) [true, true, true, true] rfl ?_
  obtain ⟨n, hm⟩ := hm
  refine s_X12_doPart_11 hd ?_ hm
  · exact (fun _ _ _ hm => s_X12_doPart_42 hd hm)
theorem dX12_parts_0 : decode cX12_parts 0 = .ok (.iload_n 1, 1) := rfl
theorem dX12_parts_1 : decode cX12_parts 1 = .ok (.iconst 0, 1) := rfl
theorem dX12_parts_2 : decode cX12_parts 2 = .ok (.aload_n 0, 1) := rfl
theorem dX12_parts_3 : decode cX12_parts 3 = .ok (.getfield 586, 3) := rfl
theorem dX12_parts_6 : decode cX12_parts 6 = .ok (.iconst 1, 1) := rfl
theorem dX12_parts_7 : decode cX12_parts 7 = .ok (.isub, 1) := rfl
theorem dX12_parts_8 : decode cX12_parts 8 = .ok (.invokestatic 185, 3) := rfl
theorem dX12_parts_11 : decode cX12_parts 11 = .ok (.ifCond .ne 5, 3) := by decide +kernel
theorem dX12_parts_14 : decode cX12_parts 14 = .ok (.iconst (-1), 1) := rfl
theorem dX12_parts_15 : decode cX12_parts 15 = .ok (.ireturn, 1) := rfl
theorem dX12_parts_16 : decode cX12_parts 16 = .ok (.aload_n 0, 1) := rfl
theorem dX12_parts_17 : decode cX12_parts 17 = .ok (.invokevirtual 452, 3) := rfl
theorem dX12_parts_20 : decode cX12_parts 20 = .ok (.aload_n 0, 1) := rfl
theorem dX12_parts_21 : decode cX12_parts 21 = .ok (.invokevirtual 474, 3) := rfl
theorem dX12_parts_24 : decode cX12_parts 24 = .ok (.istore_n 2, 1) := rfl
theorem dX12_parts_25 : decode cX12_parts 25 = .ok (.aload_n 0, 1) := rfl
theorem dX12_parts_26 : decode cX12_parts 26 = .ok (.iload_n 1, 1) := rfl
theorem dX12_parts_27 : decode cX12_parts 27 = .ok (.invokevirtual 589, 3) := rfl
theorem dX12_parts_30 : decode cX12_parts 30 = .ok (.iload_n 2, 1) := rfl
theorem dX12_parts_31 : decode cX12_parts 31 = .ok (.ifCond .eq 10, 3) := by decide +kernel
theorem dX12_parts_34 : decode cX12_parts 34 = .ok (.aload_n 0, 1) := rfl
theorem dX12_parts_35 : decode cX12_parts 35 = .ok (.invokevirtual 474, 3) := rfl
theorem dX12_parts_38 : decode cX12_parts 38 = .ok (.ifCond .ne 5, 3) := by decide +kernel
theorem dX12_parts_41 : decode cX12_parts 41 = .ok (.iconst (-1), 1) := rfl
theorem dX12_parts_42 : decode cX12_parts 42 = .ok (.ireturn, 1) := rfl
theorem dX12_parts_43 : decode cX12_parts 43 = .ok (.aload_n 0, 1) := rfl
theorem dX12_parts_44 : decode cX12_parts 44 = .ok (.iload_n 1, 1) := rfl
theorem dX12_parts_45 : decode cX12_parts 45 = .ok (.iconst 0, 1) := rfl
theorem dX12_parts_46 : decode cX12_parts 46 = .ok (.invokevirtual 592, 3) := rfl
theorem dX12_parts_49 : decode cX12_parts 49 = .ok (.ifCond .eq 6, 3) := by decide +kernel
theorem dX12_parts_52 : decode cX12_parts 52 = .ok (.bipush (-2), 2) := by decide +kernel
theorem dX12_parts_54 : decode cX12_parts 54 = .ok (.ireturn, 1) := rfl
theorem dX12_parts_55 : decode cX12_parts 55 = .ok (.iconst 0, 1) := rfl
theorem dX12_parts_56 : decode cX12_parts 56 = .ok (.istore_n 3, 1) := rfl
theorem dX12_parts_57 : decode cX12_parts 57 = .ok (.iload_n 3, 1) := rfl
theorem dX12_parts_58 : decode cX12_parts 58 = .ok (.iconst 5, 1) := rfl
theorem dX12_parts_59 : decode cX12_parts 59 = .ok (.if_icmp .ge 22, 3) := by decide +kernel
theorem dX12_parts_62 : decode cX12_parts 62 = .ok (.aload_n 0, 1) := rfl
theorem dX12_parts_63 : decode cX12_parts 63 = .ok (.iload_n 1, 1) := rfl
theorem dX12_parts_64 : decode cX12_parts 64 = .ok (.iconst 1, 1) := rfl
theorem dX12_parts_65 : decode cX12_parts 65 = .ok (.iload_n 3, 1) := rfl
theorem dX12_parts_66 : decode cX12_parts 66 = .ok (.ishl, 1) := rfl
theorem dX12_parts_67 : decode cX12_parts 67 = .ok (.invokevirtual 592, 3) := rfl
theorem dX12_parts_70 : decode cX12_parts 70 = .ok (.ifCond .eq 5, 3) := by decide +kernel
theorem dX12_parts_73 : decode cX12_parts 73 = .ok (.iload_n 3, 1) := rfl
theorem dX12_parts_74 : decode cX12_parts 74 = .ok (.ireturn, 1) := rfl
theorem dX12_parts_75 : decode cX12_parts 75 = .ok (.iinc 3 1, 3) := by decide +kernel
theorem dX12_parts_78 : decode cX12_parts 78 = .ok (.goto (-21), 3) := by decide +kernel
theorem dX12_parts_81 : decode cX12_parts 81 = .ok (.iconst (-1), 1) := rfl
theorem dX12_parts_82 : decode cX12_parts 82 = .ok (.ireturn, 1) := rfl
def m_X12_parts_57 : Nat → (Int32 → Hp → Prop) → Int32 → Int32 → Hp → Prop
  | 0, _, _, _, _ => False
  | n + 1, Q, v1, v3, h => (5 ≤ v3 → Q (-1) h) ∧ (¬ 5 ≤ v3 → m_X12_doPart v1 (1 <<< (v3 &&& 31)) h (fun (x1 : Int32) (h2 : Hp) => (x1 = 0 → ∀ x3 : Int32, x3 = v3 + 1 → m_X12_parts_57 n Q v1 x3 h2) ∧ (¬ x1 = 0 → Q v3 h2)))
set_option maxHeartbeats 4000000 in
set_option maxRecDepth 100000 in
theorem s_X12_parts_57 {l : Launch} {G : Cx} {d : Nat} {h0 : Hp} (hd : 10 ≤ d) {Q : Int32 → Hp → Prop} : ∀ {n : Nat} {v1 : Int32} {v3 : Int32} {h : Hp}, m_X12_parts_57 n Q v1 v3 h → Rn l G d 0 0 MX12_parts h0 (qI Q) 57 [some (tR 12 0 (some 51)), some (tI v1), none, some (tI v3)] [] h 0 0 := by
  intro n
  induction n with
  | zero => intro v1 v3 h hm; exact hm.elim
  | succ n ih =>
    intro v1 v3 h hm
    have hk57 := fun (v1 : Int32) (v3 : Int32) (hh : Hp) (hm : m_X12_parts_57 n Q v1 v3 hh) => ih hm
    rw [m_X12_parts_57] at hm
    refine r_iload_n dX12_parts_57 rfl rfl ?_
    refine r_iconst (v := 5) dX12_parts_58 rfl ?_
    refine r_icmp_ge (tgt := 81) dX12_parts_59 rfl (fun hc => ?_) (fun hc => ?_)
    · replace hm := hm.1 hc
      refine r_iconst (v := (-1)) dX12_parts_81 rfl ?_
      exact r_ireturn dX12_parts_82 rfl ⟨by decide, by decide⟩ ⟨_, rfl, hm⟩
    · replace hm := hm.2 hc
      refine r_aload_n dX12_parts_62 rfl rfl ?_
      refine r_iload_n dX12_parts_63 rfl rfl ?_
      refine r_iconst (v := 1) dX12_parts_64 rfl ?_
      refine r_iload_n dX12_parts_65 rfl rfl ?_
      refine r_ishl dX12_parts_66 ?_
      refine r_callVI (d' := d - 1) (as := [tI v1, tI (1 <<< (v3 &&& 31))]) (st := []) cl_12 dX12_parts_67 mi_X12_doPart t_1969 t_1971 ts_120 rfl rfl (Nat.le_of_ble_eq_true rfl) (by omega) ⟨by decide, by decide⟩ ⟨rfl, rfl⟩ (s_X12_doPart (by omega) hm) (fun x1 h2 hm => ?_)
      refine r_if_eq (tgt := 75) dX12_parts_70 rfl (fun hc => ?_) (fun hc => ?_)
      · replace hm := hm.1 hc
        obtain ⟨x3, e_x3⟩ : ∃ y : Int32, y = v3 + 1 := ⟨_, rfl⟩
        replace hm := hm x3 e_x3
        refine r_iinc (L' := [some (tR 12 0 (some 51)), some (tI v1), none, some (tI x3)]) dX12_parts_75 rfl (by rw [e_x3]; rfl) (by decide) rfl ?_
        refine r_goto (tgt := 57) dX12_parts_78 rfl ?_
        refine r_keep (L' := [some (tR 12 0 (some 51)), some (tI v1), none, some (tI x3)]) [true, true, false, true] rfl ?_
        exact hk57 _ _ _ hm
      · replace hm := hm.2 hc
        refine r_iload_n dX12_parts_73 rfl rfl ?_
        exact r_ireturn dX12_parts_74 rfl ⟨by decide, by decide⟩ ⟨_, rfl, hm⟩
def m_X12_parts (v1 : Int32) (h : Hp) (Q : Int32 → Hp → Prop) : Prop := m_X12_within v1 0 ((hI h 51 88) - 1) h (fun (x4 : Int32) (h5 : Hp) => (¬ x4 = 0 → m_X12_bundleAtHand h5 (fun (h7 : Hp) => m_X12_isLookedAt h7 (fun (x8 : Int32) (h9 : Hp) => m_X12_honestAtHand v1 h9 (fun (h11 : Hp) => (x8 = 0 → Q (-1) h11) ∧ (¬ x8 = 0 → m_X12_isLookedAt h11 (fun (x12 : Int32) (h13 : Hp) => (¬ x12 = 0 → m_X12_doPart v1 0 h13 (fun (x14 : Int32) (h15 : Hp) => (x14 = 0 → ∃ n57, m_X12_parts_57 n57 Q v1 0 h15) ∧ (¬ x14 = 0 → Q (-2) h15))) ∧ (x12 = 0 → Q (-1) h13))))))) ∧ (x4 = 0 → Q (-1) h5))
set_option maxHeartbeats 4000000 in
set_option maxRecDepth 100000 in
theorem s_X12_parts {l : Launch} {G : Cx} {d : Nat} (hd : 10 ≤ d) {v1 : Int32} {h : Hp} {Q : Int32 → Hp → Prop} (hm : m_X12_parts v1 h Q) : Ct l G d 0 0 yX12_parts MX12_parts [tR 12 0 (some 51), tI v1] h (qI Q) := by
  unfold m_X12_parts at hm
  refine Ct.of (L := [some (tR 12 0 (some 51)), some (tI v1)]) (by decide) rfl rfl (Nat.le_of_ble_eq_true rfl) rfl ?_
  refine r_iload_n dX12_parts_0 rfl rfl ?_
  refine r_iconst (v := 0) dX12_parts_1 rfl ?_
  refine r_aload_n dX12_parts_2 rfl rfl ?_
  refine r_getI (k := 88) cl_12 dX12_parts_3 t_1360 (Or.inl rfl) gf_12_88 ?_
  refine r_iconst (v := 1) dX12_parts_6 rfl ?_
  refine r_isub dX12_parts_7 ?_
  refine r_callSI (d' := d - 1) (as := [tI v1, tI 0, tI ((hI h 51 88) - 1)]) (st := []) dX12_parts_8 mi_X12_within t_1557 t_1558 rfl rfl (Nat.le_of_ble_eq_true rfl) (by omega) ⟨by decide, by decide⟩ ⟨rfl, rfl⟩ (s_X12_within (by omega) hm) (fun x4 h5 hm => ?_)
  refine r_if_ne (tgt := 16) dX12_parts_11 rfl (fun hc => ?_) (fun hc => ?_)
  · replace hm := hm.1 hc
    refine r_aload_n dX12_parts_16 rfl rfl ?_
    refine r_callVU (d' := d - 1) (as := []) (st := []) cl_12 dX12_parts_17 mi_X12_bundleAtHand t_1757 t_1759 ts_89 rfl rfl (Nat.le_of_ble_eq_true rfl) (by omega) ⟨by decide, by decide⟩ ⟨rfl, rfl⟩ (s_X12_bundleAtHand (by omega) hm) (fun h7 hm => ?_)
    refine r_aload_n dX12_parts_20 rfl rfl ?_
    refine r_callVI (d' := d - 1) (as := []) (st := []) cl_12 dX12_parts_21 mi_X12_isLookedAt t_1802 t_1804 ts_98 rfl rfl (Nat.le_of_ble_eq_true rfl) (by omega) ⟨by decide, by decide⟩ ⟨rfl, rfl⟩ (s_X12_isLookedAt (by omega) hm) (fun x8 h9 hm => ?_)
    refine r_istore_n (L' := [some (tR 12 0 (some 51)), some (tI v1), some (tI x8)]) dX12_parts_24 rfl (by decide) rfl ?_
    refine r_aload_n dX12_parts_25 rfl rfl ?_
    refine r_iload_n dX12_parts_26 rfl rfl ?_
    refine r_callVU (d' := d - 1) (as := [tI v1]) (st := []) cl_12 dX12_parts_27 mi_X12_honestAtHand t_1961 t_1963 ts_119 rfl rfl (Nat.le_of_ble_eq_true rfl) (by omega) ⟨by decide, by decide⟩ ⟨rfl, rfl⟩ (s_X12_honestAtHand (by omega) hm) (fun h11 hm => ?_)
    refine r_iload_n dX12_parts_30 rfl rfl ?_
    refine r_if_eq (tgt := 41) dX12_parts_31 rfl (fun hc => ?_) (fun hc => ?_)
    · replace hm := hm.1 hc
      refine r_iconst (v := (-1)) dX12_parts_41 rfl ?_
      exact r_ireturn dX12_parts_42 rfl ⟨by decide, by decide⟩ ⟨_, rfl, hm⟩
    · replace hm := hm.2 hc
      refine r_aload_n dX12_parts_34 rfl rfl ?_
      refine r_callVI (d' := d - 1) (as := []) (st := []) cl_12 dX12_parts_35 mi_X12_isLookedAt t_1802 t_1804 ts_98 rfl rfl (Nat.le_of_ble_eq_true rfl) (by omega) ⟨by decide, by decide⟩ ⟨rfl, rfl⟩ (s_X12_isLookedAt (by omega) hm) (fun x12 h13 hm => ?_)
      refine r_if_ne (tgt := 43) dX12_parts_38 rfl (fun hc => ?_) (fun hc => ?_)
      · replace hm := hm.1 hc
        refine r_aload_n dX12_parts_43 rfl rfl ?_
        refine r_iload_n dX12_parts_44 rfl rfl ?_
        refine r_iconst (v := 0) dX12_parts_45 rfl ?_
        refine r_callVI (d' := d - 1) (as := [tI v1, tI 0]) (st := []) cl_12 dX12_parts_46 mi_X12_doPart t_1969 t_1971 ts_120 rfl rfl (Nat.le_of_ble_eq_true rfl) (by omega) ⟨by decide, by decide⟩ ⟨rfl, rfl⟩ (s_X12_doPart (by omega) hm) (fun x14 h15 hm => ?_)
        refine r_if_eq (tgt := 55) dX12_parts_49 rfl (fun hc => ?_) (fun hc => ?_)
        · replace hm := hm.1 hc
          refine r_iconst (v := 0) dX12_parts_55 rfl ?_
          refine r_istore_n (L' := [some (tR 12 0 (some 51)), some (tI v1), some (tI x8), some (tI 0)]) dX12_parts_56 rfl (by decide) rfl ?_
          refine r_keep (L' := [some (tR 12 0 (some 51)), some (tI v1), none, some (tI 0)]) [true, true, false, true] rfl ?_
          obtain ⟨n, hm⟩ := hm
          refine s_X12_parts_57 hd hm
        · replace hm := hm.2 hc
          refine r_bipush (v := (-2)) dX12_parts_52 rfl ?_
          exact r_ireturn dX12_parts_54 rfl ⟨by decide, by decide⟩ ⟨_, rfl, hm⟩
      · replace hm := hm.2 hc
        refine r_iconst (v := (-1)) dX12_parts_41 rfl ?_
        exact r_ireturn dX12_parts_42 rfl ⟨by decide, by decide⟩ ⟨_, rfl, hm⟩
  · replace hm := hm.2 hc
    refine r_iconst (v := (-1)) dX12_parts_14 rfl ?_
    exact r_ireturn dX12_parts_15 rfl ⟨by decide, by decide⟩ ⟨_, rfl, hm⟩
theorem dX12_stop_0 : decode cX12_stop 0 = .ok (.iload_n 1, 1) := by decide +kernel
theorem dX12_stop_1 : decode cX12_stop 1 = .ok (.iconst 1, 1) := by decide +kernel
theorem dX12_stop_2 : decode cX12_stop 2 = .ok (.bipush 6, 2) := by decide +kernel
theorem dX12_stop_4 : decode cX12_stop 4 = .ok (.invokestatic 185, 3) := by decide +kernel
theorem dX12_stop_7 : decode cX12_stop 7 = .ok (.ifCond .ne 5, 3) := by decide +kernel
theorem dX12_stop_10 : decode cX12_stop 10 = .ok (.iconst (-1), 1) := by decide +kernel
theorem dX12_stop_11 : decode cX12_stop 11 = .ok (.ireturn, 1) := by decide +kernel
theorem dX12_stop_12 : decode cX12_stop 12 = .ok (.iconst 0, 1) := by decide +kernel
theorem dX12_stop_13 : decode cX12_stop 13 = .ok (.istore_n 2, 1) := by decide +kernel
theorem dX12_stop_14 : decode cX12_stop 14 = .ok (.iconst 0, 1) := by decide +kernel
theorem dX12_stop_15 : decode cX12_stop 15 = .ok (.istore_n 3, 1) := by decide +kernel
theorem dX12_stop_16 : decode cX12_stop 16 = .ok (.iload_n 3, 1) := by decide +kernel
theorem dX12_stop_17 : decode cX12_stop 17 = .ok (.aload_n 0, 1) := by decide +kernel
theorem dX12_stop_18 : decode cX12_stop 18 = .ok (.getfield 586, 3) := by decide +kernel
theorem dX12_stop_21 : decode cX12_stop 21 = .ok (.if_icmp .ge 21, 3) := by decide +kernel
theorem dX12_stop_24 : decode cX12_stop 24 = .ok (.aload_n 0, 1) := by decide +kernel
theorem dX12_stop_25 : decode cX12_stop 25 = .ok (.iload_n 3, 1) := by decide +kernel
theorem dX12_stop_26 : decode cX12_stop 26 = .ok (.invokevirtual 589, 3) := by decide +kernel
theorem dX12_stop_29 : decode cX12_stop 29 = .ok (.iload_n 2, 1) := by decide +kernel
theorem dX12_stop_30 : decode cX12_stop 30 = .ok (.aload_n 0, 1) := by decide +kernel
theorem dX12_stop_31 : decode cX12_stop 31 = .ok (.invokevirtual 580, 3) := by decide +kernel
theorem dX12_stop_34 : decode cX12_stop 34 = .ok (.ior, 1) := by decide +kernel
theorem dX12_stop_35 : decode cX12_stop 35 = .ok (.istore_n 2, 1) := by decide +kernel
theorem dX12_stop_36 : decode cX12_stop 36 = .ok (.iinc 3 1, 3) := by decide +kernel
theorem dX12_stop_39 : decode cX12_stop 39 = .ok (.goto (-23), 3) := by decide +kernel
theorem dX12_stop_42 : decode cX12_stop 42 = .ok (.aload_n 0, 1) := by decide +kernel
theorem dX12_stop_43 : decode cX12_stop 43 = .ok (.iload_n 1, 1) := by decide +kernel
theorem dX12_stop_44 : decode cX12_stop 44 = .ok (.invokevirtual 583, 3) := by decide +kernel
theorem dX12_stop_47 : decode cX12_stop 47 = .ok (.iconst (-1), 1) := by decide +kernel
theorem dX12_stop_48 : decode cX12_stop 48 = .ok (.istore_n 3, 1) := by decide +kernel
theorem dX12_stop_49 : decode cX12_stop 49 = .ok (.iconst 0, 1) := by decide +kernel
theorem dX12_stop_50 : decode cX12_stop 50 = .ok (.istore 4, 2) := by decide +kernel
theorem dX12_stop_52 : decode cX12_stop 52 = .ok (.iload 4, 2) := by decide +kernel
theorem dX12_stop_54 : decode cX12_stop 54 = .ok (.iconst 1, 1) := by decide +kernel
theorem dX12_stop_55 : decode cX12_stop 55 = .ok (.aload_n 0, 1) := by decide +kernel
theorem dX12_stop_56 : decode cX12_stop 56 = .ok (.getfield 541, 3) := by decide +kernel
theorem dX12_stop_59 : decode cX12_stop 59 = .ok (.ishl, 1) := by decide +kernel
theorem dX12_stop_60 : decode cX12_stop 60 = .ok (.if_icmp .ge 89, 3) := by decide +kernel
theorem dX12_stop_63 : decode cX12_stop 63 = .ok (.iload 4, 2) := by decide +kernel
theorem dX12_stop_65 : decode cX12_stop 65 = .ok (.iload_n 2, 1) := by decide +kernel
theorem dX12_stop_66 : decode cX12_stop 66 = .ok (.iand, 1) := by decide +kernel
theorem dX12_stop_67 : decode cX12_stop 67 = .ok (.ifCond .ne 76, 3) := by decide +kernel
theorem dX12_stop_70 : decode cX12_stop 70 = .ok (.iload_n 3, 1) := by decide +kernel
theorem dX12_stop_71 : decode cX12_stop 71 = .ok (.ifCond .lt 18, 3) := by decide +kernel
theorem dX12_stop_74 : decode cX12_stop 74 = .ok (.iload 4, 2) := by decide +kernel
theorem dX12_stop_76 : decode cX12_stop 76 = .ok (.invokestatic 431, 3) := by decide +kernel
theorem dX12_stop_79 : decode cX12_stop 79 = .ok (.iload_n 3, 1) := by decide +kernel
theorem dX12_stop_80 : decode cX12_stop 80 = .ok (.invokestatic 431, 3) := by decide +kernel
theorem dX12_stop_83 : decode cX12_stop 83 = .ok (.if_icmp .lt 6, 3) := by decide +kernel
theorem dX12_stop_86 : decode cX12_stop 86 = .ok (.goto 57, 3) := by decide +kernel
theorem dX12_stop_89 : decode cX12_stop 89 = .ok (.iconst 1, 1) := by decide +kernel
theorem dX12_stop_90 : decode cX12_stop 90 = .ok (.istore 5, 2) := by decide +kernel
theorem dX12_stop_92 : decode cX12_stop 92 = .ok (.iconst 0, 1) := by decide +kernel
theorem dX12_stop_93 : decode cX12_stop 93 = .ok (.istore 6, 2) := by decide +kernel
theorem dX12_stop_95 : decode cX12_stop 95 = .ok (.iload 6, 2) := by decide +kernel
theorem dX12_stop_97 : decode cX12_stop 97 = .ok (.aload_n 0, 1) := by decide +kernel
theorem dX12_stop_98 : decode cX12_stop 98 = .ok (.getfield 574, 3) := by decide +kernel
theorem dX12_stop_101 : decode cX12_stop 101 = .ok (.if_icmp .ge 34, 3) := by decide +kernel
theorem dX12_stop_104 : decode cX12_stop 104 = .ok (.iload 5, 2) := by decide +kernel
theorem dX12_stop_106 : decode cX12_stop 106 = .ok (.ifCond .eq 29, 3) := by decide +kernel
theorem dX12_stop_109 : decode cX12_stop 109 = .ok (.aload_n 0, 1) := by decide +kernel
theorem dX12_stop_110 : decode cX12_stop 110 = .ok (.getfield 170, 3) := by decide +kernel
theorem dX12_stop_113 : decode cX12_stop 113 = .ok (.iload 6, 2) := by decide +kernel
theorem dX12_stop_115 : decode cX12_stop 115 = .ok (.iaload, 1) := by decide +kernel
theorem dX12_stop_116 : decode cX12_stop 116 = .ok (.iload 4, 2) := by decide +kernel
theorem dX12_stop_118 : decode cX12_stop 118 = .ok (.iand, 1) := by decide +kernel
theorem dX12_stop_119 : decode cX12_stop 119 = .ok (.ifCond .eq 7, 3) := by decide +kernel
theorem dX12_stop_122 : decode cX12_stop 122 = .ok (.iconst 1, 1) := by decide +kernel
theorem dX12_stop_123 : decode cX12_stop 123 = .ok (.goto 4, 3) := by decide +kernel
theorem dX12_stop_126 : decode cX12_stop 126 = .ok (.iconst 0, 1) := by decide +kernel
theorem dX12_stop_127 : decode cX12_stop 127 = .ok (.istore 5, 2) := by decide +kernel
theorem dX12_stop_129 : decode cX12_stop 129 = .ok (.iinc 6 1, 3) := by decide +kernel
theorem dX12_stop_132 : decode cX12_stop 132 = .ok (.goto (-37), 3) := by decide +kernel
theorem dX12_stop_135 : decode cX12_stop 135 = .ok (.iload 5, 2) := by decide +kernel
theorem dX12_stop_137 : decode cX12_stop 137 = .ok (.ifCond .eq 6, 3) := by decide +kernel
theorem dX12_stop_140 : decode cX12_stop 140 = .ok (.iload 4, 2) := by decide +kernel
theorem dX12_stop_142 : decode cX12_stop 142 = .ok (.istore_n 3, 1) := by decide +kernel
theorem dX12_stop_143 : decode cX12_stop 143 = .ok (.iinc 4 1, 3) := by decide +kernel
theorem dX12_stop_146 : decode cX12_stop 146 = .ok (.goto (-94), 3) := by decide +kernel
theorem dX12_stop_149 : decode cX12_stop 149 = .ok (.iload_n 3, 1) := by decide +kernel
theorem dX12_stop_150 : decode cX12_stop 150 = .ok (.ireturn, 1) := by decide +kernel
def m_X12_stop_143 (k52 : Int32 → Int32 → Int32 → Hp → Prop) (Q : Int32 → Hp → Prop) (v2 : Int32) (v3 : Int32) (v4 : Int32) (h : Hp) : Prop := ∀ x1 : Int32, x1 = v4 + 1 → k52 v2 v3 x1 h
set_option maxHeartbeats 4000000 in
set_option maxRecDepth 100000 in
theorem s_X12_stop_143 {l : Launch} {G : Cx} {d : Nat} {h0 : Hp} (hd : 14 ≤ d) {k52 : Int32 → Int32 → Int32 → Hp → Prop} {Q : Int32 → Hp → Prop} (hk52 : ∀ (v2 : Int32) (v3 : Int32) (v4 : Int32) (hh : Hp), k52 v2 v3 v4 hh → Rn l G d 0 0 MX12_stop h0 (qI Q) 52 [some (tR 12 0 (some 51)), none, some (tI v2), some (tI v3), some (tI v4)] [] hh 0 0) {v2 : Int32} {v3 : Int32} {v4 : Int32} {h : Hp} (hm : m_X12_stop_143 k52 Q v2 v3 v4 h) : Rn l G d 0 0 MX12_stop h0 (qI Q) 143 [some (tR 12 0 (some 51)), none, some (tI v2), some (tI v3), some (tI v4)] [] h 0 0 := by
  unfold m_X12_stop_143 at hm
  obtain ⟨x1, e_x1⟩ : ∃ y : Int32, y = v4 + 1 := ⟨_, rfl⟩
  replace hm := hm x1 e_x1
  refine r_iinc (L' := [some (tR 12 0 (some 51)), none, some (tI v2), some (tI v3), some (tI x1)]) dX12_stop_143 rfl (by rw [e_x1]; rfl) (by decide) rfl ?_
  refine r_goto (tgt := 52) dX12_stop_146 rfl ?_
  refine r_keep (L' := [some (tR 12 0 (some 51)), none, some (tI v2), some (tI v3), some (tI x1)]) [true, false, true, true, true] rfl ?_
  exact hk52 _ _ _ _ hm
def m_X12_stop_135 (k52 : Int32 → Int32 → Int32 → Hp → Prop) (Q : Int32 → Hp → Prop) (v2 : Int32) (v3 : Int32) (v4 : Int32) (v5 : Int32) (h : Hp) : Prop := (v5 = 0 → m_X12_stop_143 k52 Q v2 v3 v4 h) ∧ (¬ v5 = 0 → m_X12_stop_143 k52 Q v2 v4 v4 h)
set_option maxHeartbeats 4000000 in
set_option maxRecDepth 100000 in
theorem s_X12_stop_135 {l : Launch} {G : Cx} {d : Nat} {h0 : Hp} (hd : 14 ≤ d) {k52 : Int32 → Int32 → Int32 → Hp → Prop} {Q : Int32 → Hp → Prop} (hk52 : ∀ (v2 : Int32) (v3 : Int32) (v4 : Int32) (hh : Hp), k52 v2 v3 v4 hh → Rn l G d 0 0 MX12_stop h0 (qI Q) 52 [some (tR 12 0 (some 51)), none, some (tI v2), some (tI v3), some (tI v4)] [] hh 0 0) {v2 : Int32} {v3 : Int32} {v4 : Int32} {v5 : Int32} {h : Hp} (hm : m_X12_stop_135 k52 Q v2 v3 v4 v5 h) : Rn l G d 0 0 MX12_stop h0 (qI Q) 135 [some (tR 12 0 (some 51)), none, some (tI v2), some (tI v3), some (tI v4), some (tI v5)] [] h 0 0 := by
  unfold m_X12_stop_135 at hm
  refine r_iload dX12_stop_135 rfl ?_
  refine r_if_eq (tgt := 143) dX12_stop_137 rfl (fun hc => ?_) (fun hc => ?_)
  · replace hm := hm.1 hc
    refine r_keep (L' := [some (tR 12 0 (some 51)), none, some (tI v2), some (tI v3), some (tI v4)]) [true, false, true, true, true] rfl ?_
    exact s_X12_stop_143 hd hk52 hm
  · replace hm := hm.2 hc
    refine r_iload dX12_stop_140 rfl ?_
    refine r_istore_n (L' := [some (tR 12 0 (some 51)), none, some (tI v2), some (tI v4), some (tI v4), some (tI v5)]) dX12_stop_142 rfl (by decide) rfl ?_
    refine r_keep (L' := [some (tR 12 0 (some 51)), none, some (tI v2), some (tI v4), some (tI v4)]) [true, false, true, true, true] rfl ?_
    exact s_X12_stop_143 hd hk52 hm
def m_X12_stop_127 (k95 : Int32 → Int32 → Int32 → Int32 → Int32 → Hp → Prop) (k135 : Int32 → Int32 → Int32 → Int32 → Hp → Prop) (Q : Int32 → Hp → Prop) (v2 : Int32) (v3 : Int32) (v4 : Int32) (v6 : Int32) (s0 : Int32) (h : Hp) : Prop := ∀ x2 : Int32, x2 = v6 + 1 → k95 v2 v3 v4 s0 x2 h
set_option maxHeartbeats 4000000 in
set_option maxRecDepth 100000 in
theorem s_X12_stop_127 {l : Launch} {G : Cx} {d : Nat} {h0 : Hp} (hd : 14 ≤ d) {k95 : Int32 → Int32 → Int32 → Int32 → Int32 → Hp → Prop} {k135 : Int32 → Int32 → Int32 → Int32 → Hp → Prop} {Q : Int32 → Hp → Prop} (hk95 : ∀ (v2 : Int32) (v3 : Int32) (v4 : Int32) (v5 : Int32) (v6 : Int32) (hh : Hp), k95 v2 v3 v4 v5 v6 hh → Rn l G d 0 0 MX12_stop h0 (qI Q) 95 [some (tR 12 0 (some 51)), none, some (tI v2), some (tI v3), some (tI v4), some (tI v5), some (tI v6)] [] hh 0 0) (hk135 : ∀ (v2 : Int32) (v3 : Int32) (v4 : Int32) (v5 : Int32) (hh : Hp), k135 v2 v3 v4 v5 hh → Rn l G d 0 0 MX12_stop h0 (qI Q) 135 [some (tR 12 0 (some 51)), none, some (tI v2), some (tI v3), some (tI v4), some (tI v5)] [] hh 0 0) {v2 : Int32} {v3 : Int32} {v4 : Int32} {v6 : Int32} {s0 : Int32} {h : Hp} (hm : m_X12_stop_127 k95 k135 Q v2 v3 v4 v6 s0 h) : Rn l G d 0 0 MX12_stop h0 (qI Q) 127 [some (tR 12 0 (some 51)), none, some (tI v2), some (tI v3), some (tI v4), none, some (tI v6)] [tI s0] h 0 0 := by
  unfold m_X12_stop_127 at hm
  refine r_istore (L' := [some (tR 12 0 (some 51)), none, some (tI v2), some (tI v3), some (tI v4), some (tI s0), some (tI v6)]) dX12_stop_127 (by decide) rfl ?_
  obtain ⟨x2, e_x2⟩ : ∃ y : Int32, y = v6 + 1 := ⟨_, rfl⟩
  replace hm := hm x2 e_x2
  refine r_iinc (L' := [some (tR 12 0 (some 51)), none, some (tI v2), some (tI v3), some (tI v4), some (tI s0), some (tI x2)]) dX12_stop_129 rfl (by rw [e_x2]; rfl) (by decide) rfl ?_
  refine r_goto (tgt := 95) dX12_stop_132 rfl ?_
  refine r_keep (L' := [some (tR 12 0 (some 51)), none, some (tI v2), some (tI v3), some (tI v4), some (tI s0), some (tI x2)]) [true, false, true, true, true, true, true] rfl ?_
  exact hk95 _ _ _ _ _ _ hm
def m_X12_stop_95 : Nat → (Int32 → Int32 → Int32 → Int32 → Hp → Prop) → (Int32 → Hp → Prop) → Int32 → Int32 → Int32 → Int32 → Int32 → Hp → Prop
  | 0, _, _, _, _, _, _, _, _ => False
  | n + 1, k135, Q, v2, v3, v4, v5, v6, h => ((hI h 51 84) ≤ v6 → k135 v2 v3 v4 v5 h) ∧ (¬ (hI h 51 84) ≤ v6 → (v5 = 0 → k135 v2 v3 v4 v5 h) ∧ (¬ v5 = 0 → vp_in v6 1024 ∧ ((((hI h 103 (ix v6)) &&& v4) = 0 → m_X12_stop_127 (fun (v2 : Int32) (v3 : Int32) (v4 : Int32) (v5 : Int32) (v6 : Int32) (hh : Hp) => m_X12_stop_95 n k135 Q v2 v3 v4 v5 v6 hh) k135 Q v2 v3 v4 v6 0 h) ∧ (¬ ((hI h 103 (ix v6)) &&& v4) = 0 → m_X12_stop_127 (fun (v2 : Int32) (v3 : Int32) (v4 : Int32) (v5 : Int32) (v6 : Int32) (hh : Hp) => m_X12_stop_95 n k135 Q v2 v3 v4 v5 v6 hh) k135 Q v2 v3 v4 v6 1 h))))
set_option maxHeartbeats 4000000 in
set_option maxRecDepth 100000 in
theorem s_X12_stop_95 {l : Launch} {G : Cx} {d : Nat} {h0 : Hp} (hd : 14 ≤ d) {k135 : Int32 → Int32 → Int32 → Int32 → Hp → Prop} {Q : Int32 → Hp → Prop} (hk135 : ∀ (v2 : Int32) (v3 : Int32) (v4 : Int32) (v5 : Int32) (hh : Hp), k135 v2 v3 v4 v5 hh → Rn l G d 0 0 MX12_stop h0 (qI Q) 135 [some (tR 12 0 (some 51)), none, some (tI v2), some (tI v3), some (tI v4), some (tI v5)] [] hh 0 0) : ∀ {n : Nat} {v2 : Int32} {v3 : Int32} {v4 : Int32} {v5 : Int32} {v6 : Int32} {h : Hp}, m_X12_stop_95 n k135 Q v2 v3 v4 v5 v6 h → Rn l G d 0 0 MX12_stop h0 (qI Q) 95 [some (tR 12 0 (some 51)), none, some (tI v2), some (tI v3), some (tI v4), some (tI v5), some (tI v6)] [] h 0 0 := by
  intro n
  induction n with
  | zero => intro v2 v3 v4 v5 v6 h hm; exact hm.elim
  | succ n ih =>
    intro v2 v3 v4 v5 v6 h hm
    have hk95 := fun (v2 : Int32) (v3 : Int32) (v4 : Int32) (v5 : Int32) (v6 : Int32) (hh : Hp) (hm : m_X12_stop_95 n k135 Q v2 v3 v4 v5 v6 hh) => ih hm
    rw [m_X12_stop_95] at hm
    refine r_iload dX12_stop_95 rfl ?_
    refine r_aload_n dX12_stop_97 rfl rfl ?_
    refine r_getI (k := 84) cl_12 dX12_stop_98 t_1356 (Or.inl rfl) gf_12_84 ?_
    refine r_icmp_ge (tgt := 135) dX12_stop_101 rfl (fun hc => ?_) (fun hc => ?_)
    · replace hm := hm.1 hc
      refine r_keep (L' := [some (tR 12 0 (some 51)), none, some (tI v2), some (tI v3), some (tI v4), some (tI v5)]) [true, false, true, true, true, true] rfl ?_
      exact hk135 _ _ _ _ _ hm
    · replace hm := hm.2 hc
      refine r_iload dX12_stop_104 rfl ?_
      refine r_if_eq (tgt := 135) dX12_stop_106 rfl (fun hc => ?_) (fun hc => ?_)
      · replace hm := hm.1 hc
        refine r_keep (L' := [some (tR 12 0 (some 51)), none, some (tI v2), some (tI v3), some (tI v4), some (tI v5)]) [true, false, true, true, true, true] rfl ?_
        exact hk135 _ _ _ _ _ hm
      · replace hm := hm.2 hc
        refine r_aload_n dX12_stop_109 rfl rfl ?_
        refine r_getC (k := 87) cl_12 dX12_stop_110 t_1359 gf_12_87.1 gf_12_87.2 (gc_12_87 _) ?_
        refine r_iload dX12_stop_113 rfl ?_
        refine r_iald dX12_stop_115 hm.1 ?_
        replace hm := hm.2
        refine r_iload dX12_stop_116 rfl ?_
        refine r_iand dX12_stop_118 ?_
        refine r_if_eq (tgt := 126) dX12_stop_119 rfl (fun hc => ?_) (fun hc => ?_)
        · replace hm := hm.1 hc
          refine r_iconst (v := 0) dX12_stop_126 rfl ?_
          refine r_keep (L' := [some (tR 12 0 (some 51)), none, some (tI v2), some (tI v3), some (tI v4), none, some (tI v6)]) [true, false, true, true, true, false, true] rfl ?_
          exact s_X12_stop_127 hd hk95 hk135 hm
        · replace hm := hm.2 hc
          refine r_iconst (v := 1) dX12_stop_122 rfl ?_
          refine r_goto (tgt := 127) dX12_stop_123 rfl ?_
          refine r_keep (L' := [some (tR 12 0 (some 51)), none, some (tI v2), some (tI v3), some (tI v4), none, some (tI v6)]) [true, false, true, true, true, false, true] rfl ?_
          exact s_X12_stop_127 hd hk95 hk135 hm
def m_X12_stop_89 (k52 : Int32 → Int32 → Int32 → Hp → Prop) (Q : Int32 → Hp → Prop) (v2 : Int32) (v3 : Int32) (v4 : Int32) (h : Hp) : Prop := ∃ n95, m_X12_stop_95 n95 (m_X12_stop_135 k52 Q) Q v2 v3 v4 1 0 h
set_option maxHeartbeats 4000000 in
set_option maxRecDepth 100000 in
theorem s_X12_stop_89 {l : Launch} {G : Cx} {d : Nat} {h0 : Hp} (hd : 14 ≤ d) {k52 : Int32 → Int32 → Int32 → Hp → Prop} {Q : Int32 → Hp → Prop} (hk52 : ∀ (v2 : Int32) (v3 : Int32) (v4 : Int32) (hh : Hp), k52 v2 v3 v4 hh → Rn l G d 0 0 MX12_stop h0 (qI Q) 52 [some (tR 12 0 (some 51)), none, some (tI v2), some (tI v3), some (tI v4)] [] hh 0 0) {v2 : Int32} {v3 : Int32} {v4 : Int32} {h : Hp} (hm : m_X12_stop_89 k52 Q v2 v3 v4 h) : Rn l G d 0 0 MX12_stop h0 (qI Q) 89 [some (tR 12 0 (some 51)), none, some (tI v2), some (tI v3), some (tI v4)] [] h 0 0 := by
  unfold m_X12_stop_89 at hm
  refine r_iconst (v := 1) dX12_stop_89 rfl ?_
  refine r_istore (L' := [some (tR 12 0 (some 51)), none, some (tI v2), some (tI v3), some (tI v4), some (tI 1)]) dX12_stop_90 (by decide) rfl ?_
  refine r_iconst (v := 0) dX12_stop_92 rfl ?_
  refine r_istore (L' := [some (tR 12 0 (some 51)), none, some (tI v2), some (tI v3), some (tI v4), some (tI 1), some (tI 0)]) dX12_stop_93 (by decide) rfl ?_
  refine r_keep (L' := [some (tR 12 0 (some 51)), none, some (tI v2), some (tI v3), some (tI v4), some (tI 1), some (tI 0)]) [true, false, true, true, true, true, true] rfl ?_
  obtain ⟨n, hm⟩ := hm
  refine s_X12_stop_95 hd ?_ hm
  · exact (fun _ _ _ _ _ hm => s_X12_stop_135 hd hk52 hm)
def m_X12_stop_52 : Nat → (Int32 → Hp → Prop) → Int32 → Int32 → Int32 → Hp → Prop
  | 0, _, _, _, _, _ => False
  | n + 1, Q, v2, v3, v4, h => ((1 <<< ((hI h 51 68) &&& 31)) ≤ v4 → Q v3 h) ∧ (¬ (1 <<< ((hI h 51 68) &&& 31)) ≤ v4 → (¬ (v4 &&& v2) = 0 → m_X12_stop_143 (fun (v2 : Int32) (v3 : Int32) (v4 : Int32) (hh : Hp) => m_X12_stop_52 n Q v2 v3 v4 hh) Q v2 v3 v4 h) ∧ ((v4 &&& v2) = 0 → (v3 < 0 → m_X12_stop_89 (fun (v2 : Int32) (v3 : Int32) (v4 : Int32) (hh : Hp) => m_X12_stop_52 n Q v2 v3 v4 hh) Q v2 v3 v4 h) ∧ (¬ v3 < 0 → m_X12_bitsOf v4 h (fun (x3 : Int32) (h4 : Hp) => m_X12_bitsOf v3 h4 (fun (x5 : Int32) (h6 : Hp) => (x3 < x5 → m_X12_stop_89 (fun (v2 : Int32) (v3 : Int32) (v4 : Int32) (hh : Hp) => m_X12_stop_52 n Q v2 v3 v4 hh) Q v2 v3 v4 h6) ∧ (¬ x3 < x5 → m_X12_stop_143 (fun (v2 : Int32) (v3 : Int32) (v4 : Int32) (hh : Hp) => m_X12_stop_52 n Q v2 v3 v4 hh) Q v2 v3 v4 h6))))))
set_option maxHeartbeats 4000000 in
set_option maxRecDepth 100000 in
theorem s_X12_stop_52 {l : Launch} {G : Cx} {d : Nat} {h0 : Hp} (hd : 14 ≤ d) {Q : Int32 → Hp → Prop} : ∀ {n : Nat} {v2 : Int32} {v3 : Int32} {v4 : Int32} {h : Hp}, m_X12_stop_52 n Q v2 v3 v4 h → Rn l G d 0 0 MX12_stop h0 (qI Q) 52 [some (tR 12 0 (some 51)), none, some (tI v2), some (tI v3), some (tI v4)] [] h 0 0 := by
  intro n
  induction n with
  | zero => intro v2 v3 v4 h hm; exact hm.elim
  | succ n ih =>
    intro v2 v3 v4 h hm
    have hk52 := fun (v2 : Int32) (v3 : Int32) (v4 : Int32) (hh : Hp) (hm : m_X12_stop_52 n Q v2 v3 v4 hh) => ih hm
    rw [m_X12_stop_52] at hm
    refine r_iload dX12_stop_52 rfl ?_
    refine r_iconst (v := 1) dX12_stop_54 rfl ?_
    refine r_aload_n dX12_stop_55 rfl rfl ?_
    refine r_getI (k := 68) cl_12 dX12_stop_56 t_1340 (Or.inl rfl) gf_12_68 ?_
    refine r_ishl dX12_stop_59 ?_
    refine r_icmp_ge (tgt := 149) dX12_stop_60 rfl (fun hc => ?_) (fun hc => ?_)
    · replace hm := hm.1 hc
      refine r_iload_n dX12_stop_149 rfl rfl ?_
      exact r_ireturn dX12_stop_150 rfl ⟨by decide, by decide⟩ ⟨_, rfl, hm⟩
    · replace hm := hm.2 hc
      refine r_iload dX12_stop_63 rfl ?_
      refine r_iload_n dX12_stop_65 rfl rfl ?_
      refine r_iand dX12_stop_66 ?_
      refine r_if_ne (tgt := 143) dX12_stop_67 rfl (fun hc => ?_) (fun hc => ?_)
      · replace hm := hm.1 hc
        refine r_keep (L' := [some (tR 12 0 (some 51)), none, some (tI v2), some (tI v3), some (tI v4)]) [true, false, true, true, true] rfl ?_
        exact s_X12_stop_143 hd hk52 hm
      · replace hm := hm.2 hc
        refine r_iload_n dX12_stop_70 rfl rfl ?_
        refine r_if_lt (tgt := 89) dX12_stop_71 rfl (fun hc => ?_) (fun hc => ?_)
        · replace hm := hm.1 hc
          refine r_keep (L' := [some (tR 12 0 (some 51)), none, some (tI v2), some (tI v3), some (tI v4)]) [true, false, true, true, true] rfl ?_
          exact s_X12_stop_89 hd hk52 hm
        · replace hm := hm.2 hc
          refine r_iload dX12_stop_74 rfl ?_
          refine r_callSI (d' := d - 1) (as := [tI v4]) (st := []) dX12_stop_76 mi_X12_bitsOf t_1810 t_1811 rfl rfl (Nat.le_of_ble_eq_true rfl) (by omega) ⟨by decide, by decide⟩ ⟨rfl, rfl⟩ (s_X12_bitsOf (by omega) hm) (fun x3 h4 hm => ?_)
          refine r_iload_n dX12_stop_79 rfl rfl ?_
          refine r_callSI (d' := d - 1) (as := [tI v3]) (st := [tI x3]) dX12_stop_80 mi_X12_bitsOf t_1810 t_1811 rfl rfl (Nat.le_of_ble_eq_true rfl) (by omega) ⟨by decide, by decide⟩ ⟨rfl, rfl⟩ (s_X12_bitsOf (by omega) hm) (fun x5 h6 hm => ?_)
          refine r_icmp_lt (tgt := 89) dX12_stop_83 rfl (fun hc => ?_) (fun hc => ?_)
          · replace hm := hm.1 hc
            refine r_keep (L' := [some (tR 12 0 (some 51)), none, some (tI v2), some (tI v3), some (tI v4)]) [true, false, true, true, true] rfl ?_
            exact s_X12_stop_89 hd hk52 hm
          · replace hm := hm.2 hc
            refine r_goto (tgt := 143) dX12_stop_86 rfl ?_
            refine r_keep (L' := [some (tR 12 0 (some 51)), none, some (tI v2), some (tI v3), some (tI v4)]) [true, false, true, true, true] rfl ?_
            exact s_X12_stop_143 hd hk52 hm
def m_X12_stop_42  (Q : Int32 → Hp → Prop) (v1 : Int32) (v2 : Int32) (h : Hp) : Prop := m_X12_findSly v1 h (fun (h8 : Hp) => ∃ n52, m_X12_stop_52 n52 Q v2 (-1) 0 h8)
set_option maxHeartbeats 4000000 in
set_option maxRecDepth 100000 in
theorem s_X12_stop_42 {l : Launch} {G : Cx} {d : Nat} {h0 : Hp} (hd : 14 ≤ d) {Q : Int32 → Hp → Prop} {v1 : Int32} {v2 : Int32} {h : Hp} (hm : m_X12_stop_42 Q v1 v2 h) : Rn l G d 0 0 MX12_stop h0 (qI Q) 42 [some (tR 12 0 (some 51)), some (tI v1), some (tI v2)] [] h 0 0 := by
  unfold m_X12_stop_42 at hm
  refine r_aload_n dX12_stop_42 rfl rfl ?_
  refine r_iload_n dX12_stop_43 rfl rfl ?_
  refine r_callVU (d' := d - 1) (as := [tI v1]) (st := []) cl_12 dX12_stop_44 mi_X12_findSly t_1945 t_1947 ts_117 rfl rfl (Nat.le_of_ble_eq_true rfl) (by omega) ⟨by decide, by decide⟩ ⟨rfl, rfl⟩ (s_X12_findSly (by omega) hm) (fun h8 hm => ?_)
  refine r_iconst (v := (-1)) dX12_stop_47 rfl ?_
  refine r_istore_n (L' := [some (tR 12 0 (some 51)), some (tI v1), some (tI v2), some (tI (-1))]) dX12_stop_48 rfl (by decide) rfl ?_
  refine r_iconst (v := 0) dX12_stop_49 rfl ?_
  refine r_istore (L' := [some (tR 12 0 (some 51)), some (tI v1), some (tI v2), some (tI (-1)), some (tI 0)]) dX12_stop_50 (by decide) rfl ?_
  refine r_keep (L' := [some (tR 12 0 (some 51)), none, some (tI v2), some (tI (-1)), some (tI 0)]) [true, false, true, true, true] rfl ?_
  obtain ⟨n, hm⟩ := hm
  refine s_X12_stop_52 hd hm
def m_X12_stop_16 : Nat → (Int32 → Int32 → Hp → Prop) → (Int32 → Hp → Prop) → Int32 → Int32 → Int32 → Hp → Prop
  | 0, _, _, _, _, _, _ => False
  | n + 1, k42, Q, v1, v2, v3, h => ((hI h 51 88) ≤ v3 → k42 v1 v2 h) ∧ (¬ (hI h 51 88) ≤ v3 → m_X12_honestAtHand v3 h (fun (h10 : Hp) => m_X12_wordsThatBar h10 (fun (x11 : Int32) (h12 : Hp) => ∀ x13 : Int32, x13 = (v2 ||| x11) → ∀ x14 : Int32, x14 = v3 + 1 → m_X12_stop_16 n k42 Q v1 x13 x14 h12)))
set_option maxHeartbeats 4000000 in
set_option maxRecDepth 100000 in
theorem s_X12_stop_16 {l : Launch} {G : Cx} {d : Nat} {h0 : Hp} (hd : 14 ≤ d) {k42 : Int32 → Int32 → Hp → Prop} {Q : Int32 → Hp → Prop} (hk42 : ∀ (v1 : Int32) (v2 : Int32) (hh : Hp), k42 v1 v2 hh → Rn l G d 0 0 MX12_stop h0 (qI Q) 42 [some (tR 12 0 (some 51)), some (tI v1), some (tI v2)] [] hh 0 0) : ∀ {n : Nat} {v1 : Int32} {v2 : Int32} {v3 : Int32} {h : Hp}, m_X12_stop_16 n k42 Q v1 v2 v3 h → Rn l G d 0 0 MX12_stop h0 (qI Q) 16 [some (tR 12 0 (some 51)), some (tI v1), some (tI v2), some (tI v3)] [] h 0 0 := by
  intro n
  induction n with
  | zero => intro v1 v2 v3 h hm; exact hm.elim
  | succ n ih =>
    intro v1 v2 v3 h hm
    have hk16 := fun (v1 : Int32) (v2 : Int32) (v3 : Int32) (hh : Hp) (hm : m_X12_stop_16 n k42 Q v1 v2 v3 hh) => ih hm
    rw [m_X12_stop_16] at hm
    refine r_iload_n dX12_stop_16 rfl rfl ?_
    refine r_aload_n dX12_stop_17 rfl rfl ?_
    refine r_getI (k := 88) cl_12 dX12_stop_18 t_1360 (Or.inl rfl) gf_12_88 ?_
    refine r_icmp_ge (tgt := 42) dX12_stop_21 rfl (fun hc => ?_) (fun hc => ?_)
    · replace hm := hm.1 hc
      refine r_keep (L' := [some (tR 12 0 (some 51)), some (tI v1), some (tI v2)]) [true, true, true] rfl ?_
      exact hk42 _ _ _ hm
    · replace hm := hm.2 hc
      refine r_aload_n dX12_stop_24 rfl rfl ?_
      refine r_iload_n dX12_stop_25 rfl rfl ?_
      refine r_callVU (d' := d - 1) (as := [tI v3]) (st := []) cl_12 dX12_stop_26 mi_X12_honestAtHand t_1961 t_1963 ts_119 rfl rfl (Nat.le_of_ble_eq_true rfl) (by omega) ⟨by decide, by decide⟩ ⟨rfl, rfl⟩ (s_X12_honestAtHand (by omega) hm) (fun h10 hm => ?_)
      refine r_iload_n dX12_stop_29 rfl rfl ?_
      refine r_aload_n dX12_stop_30 rfl rfl ?_
      refine r_callVI (d' := d - 1) (as := []) (st := [tI v2]) cl_12 dX12_stop_31 mi_X12_wordsThatBar t_1949 t_1951 ts_118 rfl rfl (Nat.le_of_ble_eq_true rfl) (by omega) ⟨by decide, by decide⟩ ⟨rfl, rfl⟩ (s_X12_wordsThatBar (by omega) hm) (fun x11 h12 hm => ?_)
      refine r_ior dX12_stop_34 ?_
      refine r_nmI (fun x13 e_x13 => ?_)
      replace hm := hm x13 e_x13
      refine r_istore_n (L' := [some (tR 12 0 (some 51)), some (tI v1), some (tI x13), some (tI v3)]) dX12_stop_35 rfl (by decide) rfl ?_
      obtain ⟨x14, e_x14⟩ : ∃ y : Int32, y = v3 + 1 := ⟨_, rfl⟩
      replace hm := hm x14 e_x14
      refine r_iinc (L' := [some (tR 12 0 (some 51)), some (tI v1), some (tI x13), some (tI x14)]) dX12_stop_36 rfl (by rw [e_x14]; rfl) (by decide) rfl ?_
      refine r_goto (tgt := 16) dX12_stop_39 rfl ?_
      refine r_keep (L' := [some (tR 12 0 (some 51)), some (tI v1), some (tI x13), some (tI x14)]) [true, true, true, true] rfl ?_
      exact hk16 _ _ _ _ hm
def m_X12_stop (v1 : Int32) (h : Hp) (Q : Int32 → Hp → Prop) : Prop := m_X12_within v1 1 6 h (fun (x15 : Int32) (h16 : Hp) => (¬ x15 = 0 → ∃ n16, m_X12_stop_16 n16 (m_X12_stop_42 Q) Q v1 0 0 h16) ∧ (x15 = 0 → Q (-1) h16))
set_option maxHeartbeats 4000000 in
set_option maxRecDepth 100000 in
theorem s_X12_stop {l : Launch} {G : Cx} {d : Nat} (hd : 14 ≤ d) {v1 : Int32} {h : Hp} {Q : Int32 → Hp → Prop} (hm : m_X12_stop v1 h Q) : Ct l G d 0 0 yX12_stop MX12_stop [tR 12 0 (some 51), tI v1] h (qI Q) := by
  unfold m_X12_stop at hm
  refine Ct.of (L := [some (tR 12 0 (some 51)), some (tI v1)]) (by decide) rfl rfl (Nat.le_of_ble_eq_true rfl) rfl ?_
  refine r_iload_n dX12_stop_0 rfl rfl ?_
  refine r_iconst (v := 1) dX12_stop_1 rfl ?_
  refine r_bipush (v := 6) dX12_stop_2 rfl ?_
  refine r_callSI (d' := d - 1) (as := [tI v1, tI 1, tI 6]) (st := []) dX12_stop_4 mi_X12_within t_1557 t_1558 rfl rfl (Nat.le_of_ble_eq_true rfl) (by omega) ⟨by decide, by decide⟩ ⟨rfl, rfl⟩ (s_X12_within (by omega) hm) (fun x15 h16 hm => ?_)
  refine r_if_ne (tgt := 12) dX12_stop_7 rfl (fun hc => ?_) (fun hc => ?_)
  · replace hm := hm.1 hc
    refine r_iconst (v := 0) dX12_stop_12 rfl ?_
    refine r_istore_n (L' := [some (tR 12 0 (some 51)), some (tI v1), some (tI 0)]) dX12_stop_13 rfl (by decide) rfl ?_
    refine r_iconst (v := 0) dX12_stop_14 rfl ?_
    refine r_istore_n (L' := [some (tR 12 0 (some 51)), some (tI v1), some (tI 0), some (tI 0)]) dX12_stop_15 rfl (by decide) rfl ?_
    refine r_keep (L' := [some (tR 12 0 (some 51)), some (tI v1), some (tI 0), some (tI 0)]) [true, true, true, true] rfl ?_
    obtain ⟨n, hm⟩ := hm
    refine s_X12_stop_16 hd ?_ hm
    · exact (fun _ _ _ hm => s_X12_stop_42 hd hm)
  · replace hm := hm.2 hc
    refine r_iconst (v := (-1)) dX12_stop_10 rfl ?_
    exact r_ireturn dX12_stop_11 rfl ⟨by decide, by decide⟩ ⟨_, rfl, hm⟩
theorem dX12_doHang_0 : decode cX12_doHang 0 = .ok (.aload_n 0, 1) := by decide +kernel
theorem dX12_doHang_1 : decode cX12_doHang 1 = .ok (.getfield 16, 3) := by decide +kernel
theorem dX12_doHang_4 : decode cX12_doHang 4 = .ok (.iload_n 2, 1) := by decide +kernel
theorem dX12_doHang_5 : decode cX12_doHang 5 = .ok (.iaload, 1) := by decide +kernel
theorem dX12_doHang_6 : decode cX12_doHang 6 = .ok (.aload_n 0, 1) := by decide +kernel
theorem dX12_doHang_7 : decode cX12_doHang 7 = .ok (.getfield 16, 3) := by decide +kernel
theorem dX12_doHang_10 : decode cX12_doHang 10 = .ok (.iload_n 3, 1) := by decide +kernel
theorem dX12_doHang_11 : decode cX12_doHang 11 = .ok (.iaload, 1) := by decide +kernel
theorem dX12_doHang_12 : decode cX12_doHang 12 = .ok (.if_icmp .ge 19, 3) := by decide +kernel
theorem dX12_doHang_15 : decode cX12_doHang 15 = .ok (.aload_n 0, 1) := by decide +kernel
theorem dX12_doHang_16 : decode cX12_doHang 16 = .ok (.getfield 16, 3) := by decide +kernel
theorem dX12_doHang_19 : decode cX12_doHang 19 = .ok (.iload_n 3, 1) := by decide +kernel
theorem dX12_doHang_20 : decode cX12_doHang 20 = .ok (.iaload, 1) := by decide +kernel
theorem dX12_doHang_21 : decode cX12_doHang 21 = .ok (.aload_n 0, 1) := by decide +kernel
theorem dX12_doHang_22 : decode cX12_doHang 22 = .ok (.getfield 16, 3) := by decide +kernel
theorem dX12_doHang_25 : decode cX12_doHang 25 = .ok (.iload_n 2, 1) := by decide +kernel
theorem dX12_doHang_26 : decode cX12_doHang 26 = .ok (.iaload, 1) := by decide +kernel
theorem dX12_doHang_27 : decode cX12_doHang 27 = .ok (.isub, 1) := by decide +kernel
theorem dX12_doHang_28 : decode cX12_doHang 28 = .ok (.goto 16, 3) := by decide +kernel
theorem dX12_doHang_31 : decode cX12_doHang 31 = .ok (.aload_n 0, 1) := by decide +kernel
theorem dX12_doHang_32 : decode cX12_doHang 32 = .ok (.getfield 16, 3) := by decide +kernel
theorem dX12_doHang_35 : decode cX12_doHang 35 = .ok (.iload_n 2, 1) := by decide +kernel
theorem dX12_doHang_36 : decode cX12_doHang 36 = .ok (.iaload, 1) := by decide +kernel
theorem dX12_doHang_37 : decode cX12_doHang 37 = .ok (.aload_n 0, 1) := by decide +kernel
theorem dX12_doHang_38 : decode cX12_doHang 38 = .ok (.getfield 16, 3) := by decide +kernel
theorem dX12_doHang_41 : decode cX12_doHang 41 = .ok (.iload_n 3, 1) := by decide +kernel
theorem dX12_doHang_42 : decode cX12_doHang 42 = .ok (.iaload, 1) := by decide +kernel
theorem dX12_doHang_43 : decode cX12_doHang 43 = .ok (.isub, 1) := by decide +kernel
theorem dX12_doHang_44 : decode cX12_doHang 44 = .ok (.istore 4, 2) := by decide +kernel
theorem dX12_doHang_46 : decode cX12_doHang 46 = .ok (.iload 4, 2) := by decide +kernel
theorem dX12_doHang_48 : decode cX12_doHang 48 = .ok (.iload_n 1, 1) := by decide +kernel
theorem dX12_doHang_49 : decode cX12_doHang 49 = .ok (.if_icmp .gt 42, 3) := by decide +kernel
theorem dX12_doHang_52 : decode cX12_doHang 52 = .ok (.aload_n 0, 1) := by decide +kernel
theorem dX12_doHang_53 : decode cX12_doHang 53 = .ok (.iload_n 2, 1) := by decide +kernel
theorem dX12_doHang_54 : decode cX12_doHang 54 = .ok (.iconst 5, 1) := by decide +kernel
theorem dX12_doHang_55 : decode cX12_doHang 55 = .ok (.invokevirtual 595, 3) := by decide +kernel
theorem dX12_doHang_58 : decode cX12_doHang 58 = .ok (.aload_n 0, 1) := by decide +kernel
theorem dX12_doHang_59 : decode cX12_doHang 59 = .ok (.iload_n 3, 1) := by decide +kernel
theorem dX12_doHang_60 : decode cX12_doHang 60 = .ok (.iconst 5, 1) := by decide +kernel
theorem dX12_doHang_61 : decode cX12_doHang 61 = .ok (.invokevirtual 595, 3) := by decide +kernel
theorem dX12_doHang_64 : decode cX12_doHang 64 = .ok (.iand, 1) := by decide +kernel
theorem dX12_doHang_65 : decode cX12_doHang 65 = .ok (.bipush 62, 2) := by decide +kernel
theorem dX12_doHang_67 : decode cX12_doHang 67 = .ok (.iand, 1) := by decide +kernel
theorem dX12_doHang_68 : decode cX12_doHang 68 = .ok (.ifCond .eq 23, 3) := by decide +kernel
theorem dX12_doHang_71 : decode cX12_doHang 71 = .ok (.aload_n 0, 1) := by decide +kernel
theorem dX12_doHang_72 : decode cX12_doHang 72 = .ok (.iload_n 2, 1) := by decide +kernel
theorem dX12_doHang_73 : decode cX12_doHang 73 = .ok (.iconst 4, 1) := by decide +kernel
theorem dX12_doHang_74 : decode cX12_doHang 74 = .ok (.invokevirtual 595, 3) := by decide +kernel
theorem dX12_doHang_77 : decode cX12_doHang 77 = .ok (.aload_n 0, 1) := by decide +kernel
theorem dX12_doHang_78 : decode cX12_doHang 78 = .ok (.iload_n 3, 1) := by decide +kernel
theorem dX12_doHang_79 : decode cX12_doHang 79 = .ok (.iconst 4, 1) := by decide +kernel
theorem dX12_doHang_80 : decode cX12_doHang 80 = .ok (.invokevirtual 595, 3) := by decide +kernel
theorem dX12_doHang_83 : decode cX12_doHang 83 = .ok (.iand, 1) := by decide +kernel
theorem dX12_doHang_84 : decode cX12_doHang 84 = .ok (.ifCond .eq 7, 3) := by decide +kernel
theorem dX12_doHang_87 : decode cX12_doHang 87 = .ok (.iconst 1, 1) := by decide +kernel
theorem dX12_doHang_88 : decode cX12_doHang 88 = .ok (.goto 4, 3) := by decide +kernel
theorem dX12_doHang_91 : decode cX12_doHang 91 = .ok (.iconst 0, 1) := by decide +kernel
theorem dX12_doHang_92 : decode cX12_doHang 92 = .ok (.ireturn, 1) := by decide +kernel
def m_X12_doHang_44  (Q : Int32 → Hp → Prop) (v1 : Int32) (v2 : Int32) (v3 : Int32) (s0 : Int32) (h : Hp) : Prop := (v1 < s0 → Q 0 h) ∧ (¬ v1 < s0 → m_X12_size v2 5 h (fun (x1 : Int32) (h2 : Hp) => m_X12_size v3 5 h2 (fun (x3 : Int32) (h4 : Hp) => (((x1 &&& x3) &&& 62) = 0 → Q 0 h4) ∧ (¬ ((x1 &&& x3) &&& 62) = 0 → m_X12_size v2 4 h4 (fun (x5 : Int32) (h6 : Hp) => m_X12_size v3 4 h6 (fun (x7 : Int32) (h8 : Hp) => ((x5 &&& x7) = 0 → Q 0 h8) ∧ (¬ (x5 &&& x7) = 0 → Q 1 h8)))))))
set_option maxHeartbeats 4000000 in
set_option maxRecDepth 100000 in
theorem s_X12_doHang_44 {l : Launch} {G : Cx} {d : Nat} {h0 : Hp} (hd : 6 ≤ d) {Q : Int32 → Hp → Prop} {v1 : Int32} {v2 : Int32} {v3 : Int32} {s0 : Int32} {h : Hp} (hm : m_X12_doHang_44 Q v1 v2 v3 s0 h) : Rn l G d 0 0 MX12_doHang h0 (qI Q) 44 [some (tR 12 0 (some 51)), some (tI v1), some (tI v2), some (tI v3)] [tI s0] h 0 0 := by
  unfold m_X12_doHang_44 at hm
  refine r_istore (L' := [some (tR 12 0 (some 51)), some (tI v1), some (tI v2), some (tI v3), some (tI s0)]) dX12_doHang_44 (by decide) rfl ?_
  refine r_iload dX12_doHang_46 rfl ?_
  refine r_iload_n dX12_doHang_48 rfl rfl ?_
  refine r_icmp_gt (tgt := 91) dX12_doHang_49 rfl (fun hc => ?_) (fun hc => ?_)
  · replace hm := hm.1 hc
    refine r_iconst (v := 0) dX12_doHang_91 rfl ?_
    exact r_bret dX12_doHang_92 rfl ⟨by decide, by decide⟩ (by unfold bz; decide) ⟨_, rfl, hm⟩
  · replace hm := hm.2 hc
    refine r_aload_n dX12_doHang_52 rfl rfl ?_
    refine r_iload_n dX12_doHang_53 rfl rfl ?_
    refine r_iconst (v := 5) dX12_doHang_54 rfl ?_
    refine r_callVI (d' := d - 1) (as := [tI v2, tI 5]) (st := []) cl_12 dX12_doHang_55 mi_X12_size t_1989 t_1670 t_1671 rfl rfl (Nat.le_of_ble_eq_true rfl) (by omega) ⟨by decide, by decide⟩ ⟨rfl, rfl⟩ (s_X12_size (by omega) hm) (fun x1 h2 hm => ?_)
    refine r_aload_n dX12_doHang_58 rfl rfl ?_
    refine r_iload_n dX12_doHang_59 rfl rfl ?_
    refine r_iconst (v := 5) dX12_doHang_60 rfl ?_
    refine r_callVI (d' := d - 1) (as := [tI v3, tI 5]) (st := [tI x1]) cl_12 dX12_doHang_61 mi_X12_size t_1989 t_1670 t_1671 rfl rfl (Nat.le_of_ble_eq_true rfl) (by omega) ⟨by decide, by decide⟩ ⟨rfl, rfl⟩ (s_X12_size (by omega) hm) (fun x3 h4 hm => ?_)
    refine r_iand dX12_doHang_64 ?_
    refine r_bipush (v := 62) dX12_doHang_65 rfl ?_
    refine r_iand dX12_doHang_67 ?_
    refine r_if_eq (tgt := 91) dX12_doHang_68 rfl (fun hc => ?_) (fun hc => ?_)
    · replace hm := hm.1 hc
      refine r_iconst (v := 0) dX12_doHang_91 rfl ?_
      exact r_bret dX12_doHang_92 rfl ⟨by decide, by decide⟩ (by unfold bz; decide) ⟨_, rfl, hm⟩
    · replace hm := hm.2 hc
      refine r_aload_n dX12_doHang_71 rfl rfl ?_
      refine r_iload_n dX12_doHang_72 rfl rfl ?_
      refine r_iconst (v := 4) dX12_doHang_73 rfl ?_
      refine r_callVI (d' := d - 1) (as := [tI v2, tI 4]) (st := []) cl_12 dX12_doHang_74 mi_X12_size t_1989 t_1670 t_1671 rfl rfl (Nat.le_of_ble_eq_true rfl) (by omega) ⟨by decide, by decide⟩ ⟨rfl, rfl⟩ (s_X12_size (by omega) hm) (fun x5 h6 hm => ?_)
      refine r_aload_n dX12_doHang_77 rfl rfl ?_
      refine r_iload_n dX12_doHang_78 rfl rfl ?_
      refine r_iconst (v := 4) dX12_doHang_79 rfl ?_
      refine r_callVI (d' := d - 1) (as := [tI v3, tI 4]) (st := [tI x5]) cl_12 dX12_doHang_80 mi_X12_size t_1989 t_1670 t_1671 rfl rfl (Nat.le_of_ble_eq_true rfl) (by omega) ⟨by decide, by decide⟩ ⟨rfl, rfl⟩ (s_X12_size (by omega) hm) (fun x7 h8 hm => ?_)
      refine r_iand dX12_doHang_83 ?_
      refine r_if_eq (tgt := 91) dX12_doHang_84 rfl (fun hc => ?_) (fun hc => ?_)
      · replace hm := hm.1 hc
        refine r_iconst (v := 0) dX12_doHang_91 rfl ?_
        exact r_bret dX12_doHang_92 rfl ⟨by decide, by decide⟩ (by unfold bz; decide) ⟨_, rfl, hm⟩
      · replace hm := hm.2 hc
        refine r_iconst (v := 1) dX12_doHang_87 rfl ?_
        refine r_goto (tgt := 92) dX12_doHang_88 rfl ?_
        exact r_bret dX12_doHang_92 rfl ⟨by decide, by decide⟩ (by unfold bz; decide) ⟨_, rfl, hm⟩
def m_X12_doHang (v1 : Int32) (v2 : Int32) (v3 : Int32) (h : Hp) (Q : Int32 → Hp → Prop) : Prop := vp_in v2 24 ∧ (vp_in v3 24 ∧ (((hI h 54 (ix v3)) ≤ (hI h 54 (ix v2)) → vp_in v2 24 ∧ (vp_in v3 24 ∧ (m_X12_doHang_44 Q v1 v2 v3 ((hI h 54 (ix v2)) - (hI h 54 (ix v3))) h))) ∧ (¬ (hI h 54 (ix v3)) ≤ (hI h 54 (ix v2)) → vp_in v3 24 ∧ (vp_in v2 24 ∧ (m_X12_doHang_44 Q v1 v2 v3 ((hI h 54 (ix v3)) - (hI h 54 (ix v2))) h)))))
set_option maxHeartbeats 4000000 in
set_option maxRecDepth 100000 in
theorem s_X12_doHang {l : Launch} {G : Cx} {d : Nat} (hd : 6 ≤ d) {v1 : Int32} {v2 : Int32} {v3 : Int32} {h : Hp} {Q : Int32 → Hp → Prop} (hm : m_X12_doHang v1 v2 v3 h Q) : Ct l G d 0 0 yX12_doHang MX12_doHang [tR 12 0 (some 51), tI v1, tI v2, tI v3] h (qI Q) := by
  unfold m_X12_doHang at hm
  refine Ct.of (L := [some (tR 12 0 (some 51)), some (tI v1), some (tI v2), some (tI v3)]) (by decide) rfl rfl (Nat.le_of_ble_eq_true rfl) rfl ?_
  refine r_aload_n dX12_doHang_0 rfl rfl ?_
  refine r_getC (k := 3) cl_12 dX12_doHang_1 t_1275 gf_12_3.1 gf_12_3.2 (gc_12_3 _) ?_
  refine r_iload_n dX12_doHang_4 rfl rfl ?_
  refine r_iald dX12_doHang_5 hm.1 ?_
  replace hm := hm.2
  refine r_aload_n dX12_doHang_6 rfl rfl ?_
  refine r_getC (k := 3) cl_12 dX12_doHang_7 t_1275 gf_12_3.1 gf_12_3.2 (gc_12_3 _) ?_
  refine r_iload_n dX12_doHang_10 rfl rfl ?_
  refine r_iald dX12_doHang_11 hm.1 ?_
  replace hm := hm.2
  refine r_icmp_ge (tgt := 31) dX12_doHang_12 rfl (fun hc => ?_) (fun hc => ?_)
  · replace hm := hm.1 hc
    refine r_aload_n dX12_doHang_31 rfl rfl ?_
    refine r_getC (k := 3) cl_12 dX12_doHang_32 t_1275 gf_12_3.1 gf_12_3.2 (gc_12_3 _) ?_
    refine r_iload_n dX12_doHang_35 rfl rfl ?_
    refine r_iald dX12_doHang_36 hm.1 ?_
    replace hm := hm.2
    refine r_aload_n dX12_doHang_37 rfl rfl ?_
    refine r_getC (k := 3) cl_12 dX12_doHang_38 t_1275 gf_12_3.1 gf_12_3.2 (gc_12_3 _) ?_
    refine r_iload_n dX12_doHang_41 rfl rfl ?_
    refine r_iald dX12_doHang_42 hm.1 ?_
    replace hm := hm.2
    refine r_isub dX12_doHang_43 ?_
    refine r_keep (L' := [some (tR 12 0 (some 51)), some (tI v1), some (tI v2), some (tI v3)]) [true, true, true, true] rfl ?_
    exact s_X12_doHang_44 hd hm
  · replace hm := hm.2 hc
    refine r_aload_n dX12_doHang_15 rfl rfl ?_
    refine r_getC (k := 3) cl_12 dX12_doHang_16 t_1275 gf_12_3.1 gf_12_3.2 (gc_12_3 _) ?_
    refine r_iload_n dX12_doHang_19 rfl rfl ?_
    refine r_iald dX12_doHang_20 hm.1 ?_
    replace hm := hm.2
    refine r_aload_n dX12_doHang_21 rfl rfl ?_
    refine r_getC (k := 3) cl_12 dX12_doHang_22 t_1275 gf_12_3.1 gf_12_3.2 (gc_12_3 _) ?_
    refine r_iload_n dX12_doHang_25 rfl rfl ?_
    refine r_iald dX12_doHang_26 hm.1 ?_
    replace hm := hm.2
    refine r_isub dX12_doHang_27 ?_
    refine r_goto (tgt := 44) dX12_doHang_28 rfl ?_
    refine r_keep (L' := [some (tR 12 0 (some 51)), some (tI v1), some (tI v2), some (tI v3)]) [true, true, true, true] rfl ?_
    exact s_X12_doHang_44 hd hm
theorem dX12_findGroups_0 : decode cX12_findGroups 0 = .ok (.iconst 0, 1) := by decide +kernel
theorem dX12_findGroups_1 : decode cX12_findGroups 1 = .ok (.istore_n 2, 1) := by decide +kernel
theorem dX12_findGroups_2 : decode cX12_findGroups 2 = .ok (.iload_n 2, 1) := by decide +kernel
theorem dX12_findGroups_3 : decode cX12_findGroups 3 = .ok (.aload_n 0, 1) := by decide +kernel
theorem dX12_findGroups_4 : decode cX12_findGroups 4 = .ok (.getfield 332, 3) := by decide +kernel
theorem dX12_findGroups_7 : decode cX12_findGroups 7 = .ok (.if_icmp .ge 16, 3) := by decide +kernel
theorem dX12_findGroups_10 : decode cX12_findGroups 10 = .ok (.aload_n 0, 1) := by decide +kernel
theorem dX12_findGroups_11 : decode cX12_findGroups 11 = .ok (.getfield 182, 3) := by decide +kernel
theorem dX12_findGroups_14 : decode cX12_findGroups 14 = .ok (.iload_n 2, 1) := by decide +kernel
theorem dX12_findGroups_15 : decode cX12_findGroups 15 = .ok (.iload_n 2, 1) := by decide +kernel
theorem dX12_findGroups_16 : decode cX12_findGroups 16 = .ok (.iastore, 1) := by decide +kernel
theorem dX12_findGroups_17 : decode cX12_findGroups 17 = .ok (.iinc 2 1, 3) := by decide +kernel
theorem dX12_findGroups_20 : decode cX12_findGroups 20 = .ok (.goto (-18), 3) := by decide +kernel
theorem dX12_findGroups_23 : decode cX12_findGroups 23 = .ok (.iconst 1, 1) := by decide +kernel
theorem dX12_findGroups_24 : decode cX12_findGroups 24 = .ok (.istore_n 2, 1) := by decide +kernel
theorem dX12_findGroups_25 : decode cX12_findGroups 25 = .ok (.iload_n 2, 1) := by decide +kernel
theorem dX12_findGroups_26 : decode cX12_findGroups 26 = .ok (.ifCond .eq 87, 3) := by decide +kernel
theorem dX12_findGroups_29 : decode cX12_findGroups 29 = .ok (.iconst 0, 1) := by decide +kernel
theorem dX12_findGroups_30 : decode cX12_findGroups 30 = .ok (.istore_n 2, 1) := by decide +kernel
theorem dX12_findGroups_31 : decode cX12_findGroups 31 = .ok (.iconst 0, 1) := by decide +kernel
theorem dX12_findGroups_32 : decode cX12_findGroups 32 = .ok (.istore_n 3, 1) := by decide +kernel
theorem dX12_findGroups_33 : decode cX12_findGroups 33 = .ok (.iload_n 3, 1) := by decide +kernel
theorem dX12_findGroups_34 : decode cX12_findGroups 34 = .ok (.aload_n 0, 1) := by decide +kernel
theorem dX12_findGroups_35 : decode cX12_findGroups 35 = .ok (.getfield 332, 3) := by decide +kernel
theorem dX12_findGroups_38 : decode cX12_findGroups 38 = .ok (.if_icmp .ge 72, 3) := by decide +kernel
theorem dX12_findGroups_41 : decode cX12_findGroups 41 = .ok (.iconst 0, 1) := by decide +kernel
theorem dX12_findGroups_42 : decode cX12_findGroups 42 = .ok (.istore 4, 2) := by decide +kernel
theorem dX12_findGroups_44 : decode cX12_findGroups 44 = .ok (.iload 4, 2) := by decide +kernel
theorem dX12_findGroups_46 : decode cX12_findGroups 46 = .ok (.aload_n 0, 1) := by decide +kernel
theorem dX12_findGroups_47 : decode cX12_findGroups 47 = .ok (.getfield 332, 3) := by decide +kernel
theorem dX12_findGroups_50 : decode cX12_findGroups 50 = .ok (.if_icmp .ge 54, 3) := by decide +kernel
theorem dX12_findGroups_53 : decode cX12_findGroups 53 = .ok (.aload_n 0, 1) := by decide +kernel
theorem dX12_findGroups_54 : decode cX12_findGroups 54 = .ok (.getfield 182, 3) := by decide +kernel
theorem dX12_findGroups_57 : decode cX12_findGroups 57 = .ok (.iload 4, 2) := by decide +kernel
theorem dX12_findGroups_59 : decode cX12_findGroups 59 = .ok (.iaload, 1) := by decide +kernel
theorem dX12_findGroups_60 : decode cX12_findGroups 60 = .ok (.aload_n 0, 1) := by decide +kernel
theorem dX12_findGroups_61 : decode cX12_findGroups 61 = .ok (.getfield 182, 3) := by decide +kernel
theorem dX12_findGroups_64 : decode cX12_findGroups 64 = .ok (.iload_n 3, 1) := by decide +kernel
theorem dX12_findGroups_65 : decode cX12_findGroups 65 = .ok (.iaload, 1) := by decide +kernel
theorem dX12_findGroups_66 : decode cX12_findGroups 66 = .ok (.if_icmp .le 32, 3) := by decide +kernel
theorem dX12_findGroups_69 : decode cX12_findGroups 69 = .ok (.aload_n 0, 1) := by decide +kernel
theorem dX12_findGroups_70 : decode cX12_findGroups 70 = .ok (.iload_n 1, 1) := by decide +kernel
theorem dX12_findGroups_71 : decode cX12_findGroups 71 = .ok (.iload_n 3, 1) := by decide +kernel
theorem dX12_findGroups_72 : decode cX12_findGroups 72 = .ok (.iload 4, 2) := by decide +kernel
theorem dX12_findGroups_74 : decode cX12_findGroups 74 = .ok (.invokevirtual 598, 3) := by decide +kernel
theorem dX12_findGroups_77 : decode cX12_findGroups 77 = .ok (.ifCond .ne 6, 3) := by decide +kernel
theorem dX12_findGroups_80 : decode cX12_findGroups 80 = .ok (.goto 18, 3) := by decide +kernel
theorem dX12_findGroups_83 : decode cX12_findGroups 83 = .ok (.aload_n 0, 1) := by decide +kernel
theorem dX12_findGroups_84 : decode cX12_findGroups 84 = .ok (.getfield 182, 3) := by decide +kernel
theorem dX12_findGroups_87 : decode cX12_findGroups 87 = .ok (.iload 4, 2) := by decide +kernel
theorem dX12_findGroups_89 : decode cX12_findGroups 89 = .ok (.aload_n 0, 1) := by decide +kernel
theorem dX12_findGroups_90 : decode cX12_findGroups 90 = .ok (.getfield 182, 3) := by decide +kernel
theorem dX12_findGroups_93 : decode cX12_findGroups 93 = .ok (.iload_n 3, 1) := by decide +kernel
theorem dX12_findGroups_94 : decode cX12_findGroups 94 = .ok (.iaload, 1) := by decide +kernel
theorem dX12_findGroups_95 : decode cX12_findGroups 95 = .ok (.iastore, 1) := by decide +kernel
theorem dX12_findGroups_96 : decode cX12_findGroups 96 = .ok (.iconst 1, 1) := by decide +kernel
theorem dX12_findGroups_97 : decode cX12_findGroups 97 = .ok (.istore_n 2, 1) := by decide +kernel
theorem dX12_findGroups_98 : decode cX12_findGroups 98 = .ok (.iinc 4 1, 3) := by decide +kernel
theorem dX12_findGroups_101 : decode cX12_findGroups 101 = .ok (.goto (-57), 3) := by decide +kernel
theorem dX12_findGroups_104 : decode cX12_findGroups 104 = .ok (.iinc 3 1, 3) := by decide +kernel
theorem dX12_findGroups_107 : decode cX12_findGroups 107 = .ok (.goto (-74), 3) := by decide +kernel
theorem dX12_findGroups_110 : decode cX12_findGroups 110 = .ok (.goto (-85), 3) := by decide +kernel
theorem dX12_findGroups_113 : decode cX12_findGroups 113 = .ok (.return_, 1) := by decide +kernel
def m_X12_findGroups_110 (k25 : Int32 → Int32 → Hp → Prop) (Q : Hp → Prop) (v1 : Int32) (v2 : Int32) (h : Hp) : Prop := k25 v1 v2 h
set_option maxHeartbeats 4000000 in
set_option maxRecDepth 100000 in
theorem s_X12_findGroups_110 {l : Launch} {G : Cx} {d : Nat} {h0 : Hp} (hd : 8 ≤ d) {k25 : Int32 → Int32 → Hp → Prop} {Q : Hp → Prop} (hk25 : ∀ (v1 : Int32) (v2 : Int32) (hh : Hp), k25 v1 v2 hh → Rn l G d 0 0 MX12_findGroups h0 (qV Q) 25 [some (tR 12 0 (some 51)), some (tI v1), some (tI v2)] [] hh 0 0) {v1 : Int32} {v2 : Int32} {h : Hp} (hm : m_X12_findGroups_110 k25 Q v1 v2 h) : Rn l G d 0 0 MX12_findGroups h0 (qV Q) 110 [some (tR 12 0 (some 51)), some (tI v1), some (tI v2)] [] h 0 0 := by
  unfold m_X12_findGroups_110 at hm
  refine r_goto (tgt := 25) dX12_findGroups_110 rfl ?_
  refine r_keep (L' := [some (tR 12 0 (some 51)), some (tI v1), some (tI v2)]) [true, true, true] rfl ?_
  exact hk25 _ _ _ hm
def m_X12_findGroups_104 (k33 : Int32 → Int32 → Int32 → Hp → Prop) (k110 : Int32 → Int32 → Hp → Prop) (Q : Hp → Prop) (v1 : Int32) (v2 : Int32) (v3 : Int32) (h : Hp) : Prop := ∀ x1 : Int32, x1 = v3 + 1 → k33 v1 v2 x1 h
set_option maxHeartbeats 4000000 in
set_option maxRecDepth 100000 in
theorem s_X12_findGroups_104 {l : Launch} {G : Cx} {d : Nat} {h0 : Hp} (hd : 8 ≤ d) {k33 : Int32 → Int32 → Int32 → Hp → Prop} {k110 : Int32 → Int32 → Hp → Prop} {Q : Hp → Prop} (hk33 : ∀ (v1 : Int32) (v2 : Int32) (v3 : Int32) (hh : Hp), k33 v1 v2 v3 hh → Rn l G d 0 0 MX12_findGroups h0 (qV Q) 33 [some (tR 12 0 (some 51)), some (tI v1), some (tI v2), some (tI v3)] [] hh 0 0) (hk110 : ∀ (v1 : Int32) (v2 : Int32) (hh : Hp), k110 v1 v2 hh → Rn l G d 0 0 MX12_findGroups h0 (qV Q) 110 [some (tR 12 0 (some 51)), some (tI v1), some (tI v2)] [] hh 0 0) {v1 : Int32} {v2 : Int32} {v3 : Int32} {h : Hp} (hm : m_X12_findGroups_104 k33 k110 Q v1 v2 v3 h) : Rn l G d 0 0 MX12_findGroups h0 (qV Q) 104 [some (tR 12 0 (some 51)), some (tI v1), some (tI v2), some (tI v3)] [] h 0 0 := by
  unfold m_X12_findGroups_104 at hm
  obtain ⟨x1, e_x1⟩ : ∃ y : Int32, y = v3 + 1 := ⟨_, rfl⟩
  replace hm := hm x1 e_x1
  refine r_iinc (L' := [some (tR 12 0 (some 51)), some (tI v1), some (tI v2), some (tI x1)]) dX12_findGroups_104 rfl (by rw [e_x1]; rfl) (by decide) rfl ?_
  refine r_goto (tgt := 33) dX12_findGroups_107 rfl ?_
  refine r_keep (L' := [some (tR 12 0 (some 51)), some (tI v1), some (tI v2), some (tI x1)]) [true, true, true, true] rfl ?_
  exact hk33 _ _ _ _ hm
def m_X12_findGroups_98 (k44 : Int32 → Int32 → Int32 → Int32 → Hp → Prop) (k104 : Int32 → Int32 → Int32 → Hp → Prop) (Q : Hp → Prop) (v1 : Int32) (v2 : Int32) (v3 : Int32) (v4 : Int32) (h : Hp) : Prop := ∀ x2 : Int32, x2 = v4 + 1 → k44 v1 v2 v3 x2 h
set_option maxHeartbeats 4000000 in
set_option maxRecDepth 100000 in
theorem s_X12_findGroups_98 {l : Launch} {G : Cx} {d : Nat} {h0 : Hp} (hd : 8 ≤ d) {k44 : Int32 → Int32 → Int32 → Int32 → Hp → Prop} {k104 : Int32 → Int32 → Int32 → Hp → Prop} {Q : Hp → Prop} (hk44 : ∀ (v1 : Int32) (v2 : Int32) (v3 : Int32) (v4 : Int32) (hh : Hp), k44 v1 v2 v3 v4 hh → Rn l G d 0 0 MX12_findGroups h0 (qV Q) 44 [some (tR 12 0 (some 51)), some (tI v1), some (tI v2), some (tI v3), some (tI v4)] [] hh 0 0) (hk104 : ∀ (v1 : Int32) (v2 : Int32) (v3 : Int32) (hh : Hp), k104 v1 v2 v3 hh → Rn l G d 0 0 MX12_findGroups h0 (qV Q) 104 [some (tR 12 0 (some 51)), some (tI v1), some (tI v2), some (tI v3)] [] hh 0 0) {v1 : Int32} {v2 : Int32} {v3 : Int32} {v4 : Int32} {h : Hp} (hm : m_X12_findGroups_98 k44 k104 Q v1 v2 v3 v4 h) : Rn l G d 0 0 MX12_findGroups h0 (qV Q) 98 [some (tR 12 0 (some 51)), some (tI v1), some (tI v2), some (tI v3), some (tI v4)] [] h 0 0 := by
  unfold m_X12_findGroups_98 at hm
  obtain ⟨x2, e_x2⟩ : ∃ y : Int32, y = v4 + 1 := ⟨_, rfl⟩
  replace hm := hm x2 e_x2
  refine r_iinc (L' := [some (tR 12 0 (some 51)), some (tI v1), some (tI v2), some (tI v3), some (tI x2)]) dX12_findGroups_98 rfl (by rw [e_x2]; rfl) (by decide) rfl ?_
  refine r_goto (tgt := 44) dX12_findGroups_101 rfl ?_
  refine r_keep (L' := [some (tR 12 0 (some 51)), some (tI v1), some (tI v2), some (tI v3), some (tI x2)]) [true, true, true, true, true] rfl ?_
  exact hk44 _ _ _ _ _ hm
def m_X12_findGroups_44 : Nat → (Int32 → Int32 → Int32 → Hp → Prop) → (Hp → Prop) → Int32 → Int32 → Int32 → Int32 → Hp → Prop
  | 0, _, _, _, _, _, _, _ => False
  | n + 1, k104, Q, v1, v2, v3, v4, h => ((hI h 51 1) ≤ v4 → k104 v1 v2 v3 h) ∧ (¬ (hI h 51 1) ≤ v4 → vp_in v4 24 ∧ (vp_in v3 24 ∧ (((hI h 107 (ix v4)) ≤ (hI h 107 (ix v3)) → m_X12_findGroups_98 (fun (v1 : Int32) (v2 : Int32) (v3 : Int32) (v4 : Int32) (hh : Hp) => m_X12_findGroups_44 n k104 Q v1 v2 v3 v4 hh) k104 Q v1 v2 v3 v4 h) ∧ (¬ (hI h 107 (ix v4)) ≤ (hI h 107 (ix v3)) → m_X12_doHang v1 v3 v4 h (fun (x3 : Int32) (h4 : Hp) => (¬ x3 = 0 → vp_in v3 24 ∧ (vp_in v4 24 ∧ (m_X12_findGroups_98 (fun (v1 : Int32) (v2 : Int32) (v3 : Int32) (v4 : Int32) (hh : Hp) => m_X12_findGroups_44 n k104 Q v1 v2 v3 v4 hh) k104 Q v1 1 v3 v4 (wI h4 107 (ix v4) (hI h4 107 (ix v3)))))) ∧ (x3 = 0 → m_X12_findGroups_98 (fun (v1 : Int32) (v2 : Int32) (v3 : Int32) (v4 : Int32) (hh : Hp) => m_X12_findGroups_44 n k104 Q v1 v2 v3 v4 hh) k104 Q v1 v2 v3 v4 h4))))))
set_option maxHeartbeats 4000000 in
set_option maxRecDepth 100000 in
theorem s_X12_findGroups_44 {l : Launch} {G : Cx} {d : Nat} {h0 : Hp} (hd : 8 ≤ d) {k104 : Int32 → Int32 → Int32 → Hp → Prop} {Q : Hp → Prop} (hk104 : ∀ (v1 : Int32) (v2 : Int32) (v3 : Int32) (hh : Hp), k104 v1 v2 v3 hh → Rn l G d 0 0 MX12_findGroups h0 (qV Q) 104 [some (tR 12 0 (some 51)), some (tI v1), some (tI v2), some (tI v3)] [] hh 0 0) : ∀ {n : Nat} {v1 : Int32} {v2 : Int32} {v3 : Int32} {v4 : Int32} {h : Hp}, m_X12_findGroups_44 n k104 Q v1 v2 v3 v4 h → Rn l G d 0 0 MX12_findGroups h0 (qV Q) 44 [some (tR 12 0 (some 51)), some (tI v1), some (tI v2), some (tI v3), some (tI v4)] [] h 0 0 := by
  intro n
  induction n with
  | zero => intro v1 v2 v3 v4 h hm; exact hm.elim
  | succ n ih =>
    intro v1 v2 v3 v4 h hm
    have hk44 := fun (v1 : Int32) (v2 : Int32) (v3 : Int32) (v4 : Int32) (hh : Hp) (hm : m_X12_findGroups_44 n k104 Q v1 v2 v3 v4 hh) => ih hm
    rw [m_X12_findGroups_44] at hm
    refine r_iload dX12_findGroups_44 rfl ?_
    refine r_aload_n dX12_findGroups_46 rfl rfl ?_
    refine r_getI (k := 1) cl_12 dX12_findGroups_47 t_1273 (Or.inl rfl) gf_12_1 ?_
    refine r_icmp_ge (tgt := 104) dX12_findGroups_50 rfl (fun hc => ?_) (fun hc => ?_)
    · replace hm := hm.1 hc
      refine r_keep (L' := [some (tR 12 0 (some 51)), some (tI v1), some (tI v2), some (tI v3)]) [true, true, true, true] rfl ?_
      exact hk104 _ _ _ _ hm
    · replace hm := hm.2 hc
      refine r_aload_n dX12_findGroups_53 rfl rfl ?_
      refine r_getC (k := 92) cl_12 dX12_findGroups_54 t_1364 gf_12_92.1 gf_12_92.2 (gc_12_92 _) ?_
      refine r_iload dX12_findGroups_57 rfl ?_
      refine r_iald dX12_findGroups_59 hm.1 ?_
      replace hm := hm.2
      refine r_aload_n dX12_findGroups_60 rfl rfl ?_
      refine r_getC (k := 92) cl_12 dX12_findGroups_61 t_1364 gf_12_92.1 gf_12_92.2 (gc_12_92 _) ?_
      refine r_iload_n dX12_findGroups_64 rfl rfl ?_
      refine r_iald dX12_findGroups_65 hm.1 ?_
      replace hm := hm.2
      refine r_icmp_le (tgt := 98) dX12_findGroups_66 rfl (fun hc => ?_) (fun hc => ?_)
      · replace hm := hm.1 hc
        refine r_keep (L' := [some (tR 12 0 (some 51)), some (tI v1), some (tI v2), some (tI v3), some (tI v4)]) [true, true, true, true, true] rfl ?_
        exact s_X12_findGroups_98 hd hk44 hk104 hm
      · replace hm := hm.2 hc
        refine r_aload_n dX12_findGroups_69 rfl rfl ?_
        refine r_iload_n dX12_findGroups_70 rfl rfl ?_
        refine r_iload_n dX12_findGroups_71 rfl rfl ?_
        refine r_iload dX12_findGroups_72 rfl ?_
        refine r_callVI (d' := d - 1) (as := [tI v1, tI v3, tI v4]) (st := []) cl_12 dX12_findGroups_74 mi_X12_doHang t_1985 t_1987 ts_122 rfl rfl (Nat.le_of_ble_eq_true rfl) (by omega) ⟨by decide, by decide⟩ ⟨rfl, rfl⟩ (s_X12_doHang (by omega) hm) (fun x3 h4 hm => ?_)
        refine r_if_ne (tgt := 83) dX12_findGroups_77 rfl (fun hc => ?_) (fun hc => ?_)
        · replace hm := hm.1 hc
          refine r_aload_n dX12_findGroups_83 rfl rfl ?_
          refine r_getC (k := 92) cl_12 dX12_findGroups_84 t_1364 gf_12_92.1 gf_12_92.2 (gc_12_92 _) ?_
          refine r_iload dX12_findGroups_87 rfl ?_
          refine r_aload_n dX12_findGroups_89 rfl rfl ?_
          refine r_getC (k := 92) cl_12 dX12_findGroups_90 t_1364 gf_12_92.1 gf_12_92.2 (gc_12_92 _) ?_
          refine r_iload_n dX12_findGroups_93 rfl rfl ?_
          refine r_iald dX12_findGroups_94 hm.1 ?_
          replace hm := hm.2
          refine r_iast dX12_findGroups_95 hm.1 ?_
          replace hm := hm.2
          refine r_iconst (v := 1) dX12_findGroups_96 rfl ?_
          refine r_istore_n (L' := [some (tR 12 0 (some 51)), some (tI v1), some (tI 1), some (tI v3), some (tI v4)]) dX12_findGroups_97 rfl (by decide) rfl ?_
          refine r_keep (L' := [some (tR 12 0 (some 51)), some (tI v1), some (tI 1), some (tI v3), some (tI v4)]) [true, true, true, true, true] rfl ?_
          exact s_X12_findGroups_98 hd hk44 hk104 hm
        · replace hm := hm.2 hc
          refine r_goto (tgt := 98) dX12_findGroups_80 rfl ?_
          refine r_keep (L' := [some (tR 12 0 (some 51)), some (tI v1), some (tI v2), some (tI v3), some (tI v4)]) [true, true, true, true, true] rfl ?_
          exact s_X12_findGroups_98 hd hk44 hk104 hm
def m_X12_findGroups_33 : Nat → (Int32 → Int32 → Hp → Prop) → (Hp → Prop) → Int32 → Int32 → Int32 → Hp → Prop
  | 0, _, _, _, _, _, _ => False
  | n + 1, k110, Q, v1, v2, v3, h => ((hI h 51 1) ≤ v3 → k110 v1 v2 h) ∧ (¬ (hI h 51 1) ≤ v3 → ∃ n44, m_X12_findGroups_44 n44 (m_X12_findGroups_104 (fun (v1 : Int32) (v2 : Int32) (v3 : Int32) (hh : Hp) => m_X12_findGroups_33 n k110 Q v1 v2 v3 hh) k110 Q) Q v1 v2 v3 0 h)
set_option maxHeartbeats 4000000 in
set_option maxRecDepth 100000 in
theorem s_X12_findGroups_33 {l : Launch} {G : Cx} {d : Nat} {h0 : Hp} (hd : 8 ≤ d) {k110 : Int32 → Int32 → Hp → Prop} {Q : Hp → Prop} (hk110 : ∀ (v1 : Int32) (v2 : Int32) (hh : Hp), k110 v1 v2 hh → Rn l G d 0 0 MX12_findGroups h0 (qV Q) 110 [some (tR 12 0 (some 51)), some (tI v1), some (tI v2)] [] hh 0 0) : ∀ {n : Nat} {v1 : Int32} {v2 : Int32} {v3 : Int32} {h : Hp}, m_X12_findGroups_33 n k110 Q v1 v2 v3 h → Rn l G d 0 0 MX12_findGroups h0 (qV Q) 33 [some (tR 12 0 (some 51)), some (tI v1), some (tI v2), some (tI v3)] [] h 0 0 := by
  intro n
  induction n with
  | zero => intro v1 v2 v3 h hm; exact hm.elim
  | succ n ih =>
    intro v1 v2 v3 h hm
    have hk33 := fun (v1 : Int32) (v2 : Int32) (v3 : Int32) (hh : Hp) (hm : m_X12_findGroups_33 n k110 Q v1 v2 v3 hh) => ih hm
    rw [m_X12_findGroups_33] at hm
    refine r_iload_n dX12_findGroups_33 rfl rfl ?_
    refine r_aload_n dX12_findGroups_34 rfl rfl ?_
    refine r_getI (k := 1) cl_12 dX12_findGroups_35 t_1273 (Or.inl rfl) gf_12_1 ?_
    refine r_icmp_ge (tgt := 110) dX12_findGroups_38 rfl (fun hc => ?_) (fun hc => ?_)
    · replace hm := hm.1 hc
      refine r_keep (L' := [some (tR 12 0 (some 51)), some (tI v1), some (tI v2)]) [true, true, true] rfl ?_
      exact hk110 _ _ _ hm
    · replace hm := hm.2 hc
      refine r_iconst (v := 0) dX12_findGroups_41 rfl ?_
      refine r_istore (L' := [some (tR 12 0 (some 51)), some (tI v1), some (tI v2), some (tI v3), some (tI 0)]) dX12_findGroups_42 (by decide) rfl ?_
      refine r_keep (L' := [some (tR 12 0 (some 51)), some (tI v1), some (tI v2), some (tI v3), some (tI 0)]) [true, true, true, true, true] rfl ?_
      obtain ⟨n, hm⟩ := hm
      refine s_X12_findGroups_44 hd ?_ hm
      · exact (fun _ _ _ _ hm => s_X12_findGroups_104 hd hk33 hk110 hm)
def m_X12_findGroups_25 : Nat → (Hp → Prop) → Int32 → Int32 → Hp → Prop
  | 0, _, _, _, _ => False
  | n + 1, Q, v1, v2, h => (v2 = 0 → Q h) ∧ (¬ v2 = 0 → ∃ n33, m_X12_findGroups_33 n33 (m_X12_findGroups_110 (fun (v1 : Int32) (v2 : Int32) (hh : Hp) => m_X12_findGroups_25 n Q v1 v2 hh) Q) Q v1 0 0 h)
set_option maxHeartbeats 4000000 in
set_option maxRecDepth 100000 in
theorem s_X12_findGroups_25 {l : Launch} {G : Cx} {d : Nat} {h0 : Hp} (hd : 8 ≤ d) {Q : Hp → Prop} : ∀ {n : Nat} {v1 : Int32} {v2 : Int32} {h : Hp}, m_X12_findGroups_25 n Q v1 v2 h → Rn l G d 0 0 MX12_findGroups h0 (qV Q) 25 [some (tR 12 0 (some 51)), some (tI v1), some (tI v2)] [] h 0 0 := by
  intro n
  induction n with
  | zero => intro v1 v2 h hm; exact hm.elim
  | succ n ih =>
    intro v1 v2 h hm
    have hk25 := fun (v1 : Int32) (v2 : Int32) (hh : Hp) (hm : m_X12_findGroups_25 n Q v1 v2 hh) => ih hm
    rw [m_X12_findGroups_25] at hm
    refine r_iload_n dX12_findGroups_25 rfl rfl ?_
    refine r_if_eq (tgt := 113) dX12_findGroups_26 rfl (fun hc => ?_) (fun hc => ?_)
    · replace hm := hm.1 hc
      exact r_return dX12_findGroups_113 rfl ⟨by decide, by decide⟩ ⟨rfl, hm⟩
    · replace hm := hm.2 hc
      refine r_iconst (v := 0) dX12_findGroups_29 rfl ?_
      refine r_istore_n (L' := [some (tR 12 0 (some 51)), some (tI v1), some (tI 0)]) dX12_findGroups_30 rfl (by decide) rfl ?_
      refine r_iconst (v := 0) dX12_findGroups_31 rfl ?_
      refine r_istore_n (L' := [some (tR 12 0 (some 51)), some (tI v1), some (tI 0), some (tI 0)]) dX12_findGroups_32 rfl (by decide) rfl ?_
      refine r_keep (L' := [some (tR 12 0 (some 51)), some (tI v1), some (tI 0), some (tI 0)]) [true, true, true, true] rfl ?_
      obtain ⟨n, hm⟩ := hm
      refine s_X12_findGroups_33 hd ?_ hm
      · exact (fun _ _ _ hm => s_X12_findGroups_110 hd hk25 hm)
def m_X12_findGroups_23  (Q : Hp → Prop) (v1 : Int32) (h : Hp) : Prop := ∃ n25, m_X12_findGroups_25 n25 Q v1 1 h
set_option maxHeartbeats 4000000 in
set_option maxRecDepth 100000 in
theorem s_X12_findGroups_23 {l : Launch} {G : Cx} {d : Nat} {h0 : Hp} (hd : 8 ≤ d) {Q : Hp → Prop} {v1 : Int32} {h : Hp} (hm : m_X12_findGroups_23 Q v1 h) : Rn l G d 0 0 MX12_findGroups h0 (qV Q) 23 [some (tR 12 0 (some 51)), some (tI v1)] [] h 0 0 := by
  unfold m_X12_findGroups_23 at hm
  refine r_iconst (v := 1) dX12_findGroups_23 rfl ?_
  refine r_istore_n (L' := [some (tR 12 0 (some 51)), some (tI v1), some (tI 1)]) dX12_findGroups_24 rfl (by decide) rfl ?_
  refine r_keep (L' := [some (tR 12 0 (some 51)), some (tI v1), some (tI 1)]) [true, true, true] rfl ?_
  obtain ⟨n, hm⟩ := hm
  refine s_X12_findGroups_25 hd hm
def m_X12_findGroups_2 : Nat → (Int32 → Hp → Prop) → (Hp → Prop) → Int32 → Int32 → Hp → Prop
  | 0, _, _, _, _, _ => False
  | n + 1, k23, Q, v1, v2, h => ((hI h 51 1) ≤ v2 → k23 v1 h) ∧ (¬ (hI h 51 1) ≤ v2 → vp_in v2 24 ∧ (∀ x5 : Int32, x5 = v2 + 1 → m_X12_findGroups_2 n k23 Q v1 x5 (wI h 107 (ix v2) v2)))
set_option maxHeartbeats 4000000 in
set_option maxRecDepth 100000 in
theorem s_X12_findGroups_2 {l : Launch} {G : Cx} {d : Nat} {h0 : Hp} (hd : 8 ≤ d) {k23 : Int32 → Hp → Prop} {Q : Hp → Prop} (hk23 : ∀ (v1 : Int32) (hh : Hp), k23 v1 hh → Rn l G d 0 0 MX12_findGroups h0 (qV Q) 23 [some (tR 12 0 (some 51)), some (tI v1)] [] hh 0 0) : ∀ {n : Nat} {v1 : Int32} {v2 : Int32} {h : Hp}, m_X12_findGroups_2 n k23 Q v1 v2 h → Rn l G d 0 0 MX12_findGroups h0 (qV Q) 2 [some (tR 12 0 (some 51)), some (tI v1), some (tI v2)] [] h 0 0 := by
  intro n
  induction n with
  | zero => intro v1 v2 h hm; exact hm.elim
  | succ n ih =>
    intro v1 v2 h hm
    have hk2 := fun (v1 : Int32) (v2 : Int32) (hh : Hp) (hm : m_X12_findGroups_2 n k23 Q v1 v2 hh) => ih hm
    rw [m_X12_findGroups_2] at hm
    refine r_iload_n dX12_findGroups_2 rfl rfl ?_
    refine r_aload_n dX12_findGroups_3 rfl rfl ?_
    refine r_getI (k := 1) cl_12 dX12_findGroups_4 t_1273 (Or.inl rfl) gf_12_1 ?_
    refine r_icmp_ge (tgt := 23) dX12_findGroups_7 rfl (fun hc => ?_) (fun hc => ?_)
    · replace hm := hm.1 hc
      refine r_keep (L' := [some (tR 12 0 (some 51)), some (tI v1)]) [true, true] rfl ?_
      exact hk23 _ _ hm
    · replace hm := hm.2 hc
      refine r_aload_n dX12_findGroups_10 rfl rfl ?_
      refine r_getC (k := 92) cl_12 dX12_findGroups_11 t_1364 gf_12_92.1 gf_12_92.2 (gc_12_92 _) ?_
      refine r_iload_n dX12_findGroups_14 rfl rfl ?_
      refine r_iload_n dX12_findGroups_15 rfl rfl ?_
      refine r_iast dX12_findGroups_16 hm.1 ?_
      replace hm := hm.2
      obtain ⟨x5, e_x5⟩ : ∃ y : Int32, y = v2 + 1 := ⟨_, rfl⟩
      replace hm := hm x5 e_x5
      refine r_iinc (L' := [some (tR 12 0 (some 51)), some (tI v1), some (tI x5)]) dX12_findGroups_17 rfl (by rw [e_x5]; rfl) (by decide) rfl ?_
      refine r_goto (tgt := 2) dX12_findGroups_20 rfl ?_
      refine r_keep (L' := [some (tR 12 0 (some 51)), some (tI v1), some (tI x5)]) [true, true, true] rfl ?_
      exact hk2 _ _ _ hm
def m_X12_findGroups (v1 : Int32) (h : Hp) (Q : Hp → Prop) : Prop := ∃ n2, m_X12_findGroups_2 n2 (m_X12_findGroups_23 Q) Q v1 0 h
set_option maxHeartbeats 4000000 in
set_option maxRecDepth 100000 in
theorem s_X12_findGroups {l : Launch} {G : Cx} {d : Nat} (hd : 8 ≤ d) {v1 : Int32} {h : Hp} {Q : Hp → Prop} (hm : m_X12_findGroups v1 h Q) : Ct l G d 0 0 yX12_findGroups MX12_findGroups [tR 12 0 (some 51), tI v1] h (qV Q) := by
  unfold m_X12_findGroups at hm
  refine Ct.of (L := [some (tR 12 0 (some 51)), some (tI v1)]) (by decide) rfl rfl (Nat.le_of_ble_eq_true rfl) rfl ?_
  refine r_iconst (v := 0) dX12_findGroups_0 rfl ?_
  refine r_istore_n (L' := [some (tR 12 0 (some 51)), some (tI v1), some (tI 0)]) dX12_findGroups_1 rfl (by decide) rfl ?_
  refine r_keep (L' := [some (tR 12 0 (some 51)), some (tI v1), some (tI 0)]) [true, true, true] rfl ?_
  obtain ⟨n, hm⟩ := hm
  refine s_X12_findGroups_2 hd ?_ hm
  · exact (fun _ _ hm => s_X12_findGroups_23 hd hm)
theorem dX12_heap_0 : decode cX12_heap 0 = .ok (.iload_n 1, 1) := rfl
theorem dX12_heap_1 : decode cX12_heap 1 = .ok (.ifCond .lt 16, 3) := by decide +kernel
theorem dX12_heap_4 : decode cX12_heap 4 = .ok (.iload_n 2, 1) := rfl
theorem dX12_heap_5 : decode cX12_heap 5 = .ok (.iconst (-1), 1) := rfl
theorem dX12_heap_6 : decode cX12_heap 6 = .ok (.if_icmp .eq 13, 3) := by decide +kernel
theorem dX12_heap_9 : decode cX12_heap 9 = .ok (.aload_n 0, 1) := rfl
theorem dX12_heap_10 : decode cX12_heap 10 = .ok (.iload_n 2, 1) := rfl
theorem dX12_heap_11 : decode cX12_heap 11 = .ok (.invokevirtual 352, 3) := rfl
theorem dX12_heap_14 : decode cX12_heap 14 = .ok (.ifCond .ne 5, 3) := by decide +kernel
theorem dX12_heap_17 : decode cX12_heap 17 = .ok (.iconst (-1), 1) := rfl
theorem dX12_heap_18 : decode cX12_heap 18 = .ok (.ireturn, 1) := rfl
theorem dX12_heap_19 : decode cX12_heap 19 = .ok (.aload_n 0, 1) := rfl
theorem dX12_heap_20 : decode cX12_heap 20 = .ok (.iload_n 1, 1) := rfl
theorem dX12_heap_21 : decode cX12_heap 21 = .ok (.invokevirtual 601, 3) := rfl
theorem dX12_heap_24 : decode cX12_heap 24 = .ok (.iload_n 2, 1) := rfl
theorem dX12_heap_25 : decode cX12_heap 25 = .ok (.ifCond .lt 10, 3) := by decide +kernel
theorem dX12_heap_28 : decode cX12_heap 28 = .ok (.aload_n 0, 1) := rfl
theorem dX12_heap_29 : decode cX12_heap 29 = .ok (.getfield 182, 3) := rfl
theorem dX12_heap_32 : decode cX12_heap 32 = .ok (.iload_n 2, 1) := rfl
theorem dX12_heap_33 : decode cX12_heap 33 = .ok (.iaload, 1) := rfl
theorem dX12_heap_34 : decode cX12_heap 34 = .ok (.ireturn, 1) := rfl
theorem dX12_heap_35 : decode cX12_heap 35 = .ok (.iconst 0, 1) := rfl
theorem dX12_heap_36 : decode cX12_heap 36 = .ok (.istore_n 3, 1) := rfl
theorem dX12_heap_37 : decode cX12_heap 37 = .ok (.iconst 0, 1) := rfl
theorem dX12_heap_38 : decode cX12_heap 38 = .ok (.istore 4, 2) := rfl
theorem dX12_heap_40 : decode cX12_heap 40 = .ok (.iload 4, 2) := rfl
theorem dX12_heap_42 : decode cX12_heap 42 = .ok (.aload_n 0, 1) := rfl
theorem dX12_heap_43 : decode cX12_heap 43 = .ok (.getfield 332, 3) := rfl
theorem dX12_heap_46 : decode cX12_heap 46 = .ok (.if_icmp .ge 29, 3) := by decide +kernel
theorem dX12_heap_49 : decode cX12_heap 49 = .ok (.iload_n 3, 1) := rfl
theorem dX12_heap_50 : decode cX12_heap 50 = .ok (.aload_n 0, 1) := rfl
theorem dX12_heap_51 : decode cX12_heap 51 = .ok (.getfield 182, 3) := rfl
theorem dX12_heap_54 : decode cX12_heap 54 = .ok (.iload 4, 2) := rfl
theorem dX12_heap_56 : decode cX12_heap 56 = .ok (.iaload, 1) := rfl
theorem dX12_heap_57 : decode cX12_heap 57 = .ok (.iload 4, 2) := rfl
theorem dX12_heap_59 : decode cX12_heap 59 = .ok (.if_icmp .ne 7, 3) := by decide +kernel
theorem dX12_heap_62 : decode cX12_heap 62 = .ok (.iconst 1, 1) := rfl
theorem dX12_heap_63 : decode cX12_heap 63 = .ok (.goto 4, 3) := by decide +kernel
theorem dX12_heap_66 : decode cX12_heap 66 = .ok (.iconst 0, 1) := rfl
theorem dX12_heap_67 : decode cX12_heap 67 = .ok (.iadd, 1) := rfl
theorem dX12_heap_68 : decode cX12_heap 68 = .ok (.istore_n 3, 1) := rfl
theorem dX12_heap_69 : decode cX12_heap 69 = .ok (.iinc 4 1, 3) := by decide +kernel
theorem dX12_heap_72 : decode cX12_heap 72 = .ok (.goto (-32), 3) := by decide +kernel
theorem dX12_heap_75 : decode cX12_heap 75 = .ok (.iload_n 3, 1) := rfl
theorem dX12_heap_76 : decode cX12_heap 76 = .ok (.ireturn, 1) := rfl
def m_X12_heap_67 (k40 : Int32 → Int32 → Hp → Prop) (Q : Int32 → Hp → Prop) (v4 : Int32) (s0 : Int32) (s1 : Int32) (h : Hp) : Prop := ∀ x1 : Int32, x1 = (s0 + s1) → ∀ x2 : Int32, x2 = v4 + 1 → k40 x1 x2 h
set_option maxHeartbeats 4000000 in
set_option maxRecDepth 100000 in
theorem s_X12_heap_67 {l : Launch} {G : Cx} {d : Nat} {h0 : Hp} (hd : 10 ≤ d) {k40 : Int32 → Int32 → Hp → Prop} {Q : Int32 → Hp → Prop} (hk40 : ∀ (v3 : Int32) (v4 : Int32) (hh : Hp), k40 v3 v4 hh → Rn l G d 0 0 MX12_heap h0 (qI Q) 40 [some (tR 12 0 (some 51)), none, none, some (tI v3), some (tI v4)] [] hh 0 0) {v4 : Int32} {s0 : Int32} {s1 : Int32} {h : Hp} (hm : m_X12_heap_67 k40 Q v4 s0 s1 h) : Rn l G d 0 0 MX12_heap h0 (qI Q) 67 [some (tR 12 0 (some 51)), none, none, none, some (tI v4)] [tI s1, tI s0] h 0 0 := by
  unfold m_X12_heap_67 at hm
  refine r_iadd dX12_heap_67 ?_
  refine r_nmI (fun x1 e_x1 => ?_)
  replace hm := hm x1 e_x1
  refine r_istore_n (L' := [some (tR 12 0 (some 51)), none, none, some (tI x1), some (tI v4)]) dX12_heap_68 rfl (by decide) rfl ?_
  obtain ⟨x2, e_x2⟩ : ∃ y : Int32, y = v4 + 1 := ⟨_, rfl⟩
  replace hm := hm x2 e_x2
  refine r_iinc (L' := [some (tR 12 0 (some 51)), none, none, some (tI x1), some (tI x2)]) dX12_heap_69 rfl (by rw [e_x2]; rfl) (by decide) rfl ?_
  refine r_goto (tgt := 40) dX12_heap_72 rfl ?_
  refine r_keep (L' := [some (tR 12 0 (some 51)), none, none, some (tI x1), some (tI x2)]) [true, false, false, true, true] rfl ?_
  exact hk40 _ _ _ hm
def m_X12_heap_40 : Nat → (Int32 → Hp → Prop) → Int32 → Int32 → Hp → Prop
  | 0, _, _, _, _ => False
  | n + 1, Q, v3, v4, h => ((hI h 51 1) ≤ v4 → Q v3 h) ∧ (¬ (hI h 51 1) ≤ v4 → vp_in v4 24 ∧ ((¬ (hI h 107 (ix v4)) = v4 → m_X12_heap_67 (fun (v3 : Int32) (v4 : Int32) (hh : Hp) => m_X12_heap_40 n Q v3 v4 hh) Q v4 v3 0 h) ∧ ((hI h 107 (ix v4)) = v4 → m_X12_heap_67 (fun (v3 : Int32) (v4 : Int32) (hh : Hp) => m_X12_heap_40 n Q v3 v4 hh) Q v4 v3 1 h)))
set_option maxHeartbeats 4000000 in
set_option maxRecDepth 100000 in
theorem s_X12_heap_40 {l : Launch} {G : Cx} {d : Nat} {h0 : Hp} (hd : 10 ≤ d) {Q : Int32 → Hp → Prop} : ∀ {n : Nat} {v3 : Int32} {v4 : Int32} {h : Hp}, m_X12_heap_40 n Q v3 v4 h → Rn l G d 0 0 MX12_heap h0 (qI Q) 40 [some (tR 12 0 (some 51)), none, none, some (tI v3), some (tI v4)] [] h 0 0 := by
  intro n
  induction n with
  | zero => intro v3 v4 h hm; exact hm.elim
  | succ n ih =>
    intro v3 v4 h hm
    have hk40 := fun (v3 : Int32) (v4 : Int32) (hh : Hp) (hm : m_X12_heap_40 n Q v3 v4 hh) => ih hm
    rw [m_X12_heap_40] at hm
    refine r_iload dX12_heap_40 rfl ?_
    refine r_aload_n dX12_heap_42 rfl rfl ?_
    refine r_getI (k := 1) cl_12 dX12_heap_43 t_1273 (Or.inl rfl) gf_12_1 ?_
    refine r_icmp_ge (tgt := 75) dX12_heap_46 rfl (fun hc => ?_) (fun hc => ?_)
    · replace hm := hm.1 hc
      refine r_iload_n dX12_heap_75 rfl rfl ?_
      exact r_ireturn dX12_heap_76 rfl ⟨by decide, by decide⟩ ⟨_, rfl, hm⟩
    · replace hm := hm.2 hc
      refine r_iload_n dX12_heap_49 rfl rfl ?_
      refine r_aload_n dX12_heap_50 rfl rfl ?_
      refine r_getC (k := 92) cl_12 dX12_heap_51 t_1364 gf_12_92.1 gf_12_92.2 (gc_12_92 _) ?_
      refine r_iload dX12_heap_54 rfl ?_
      refine r_iald dX12_heap_56 hm.1 ?_
      replace hm := hm.2
      refine r_iload dX12_heap_57 rfl ?_
      refine r_icmp_ne (tgt := 66) dX12_heap_59 rfl (fun hc => ?_) (fun hc => ?_)
      · replace hm := hm.1 hc
        refine r_iconst (v := 0) dX12_heap_66 rfl ?_
        refine r_keep (L' := [some (tR 12 0 (some 51)), none, none, none, some (tI v4)]) [true, false, false, false, true] rfl ?_
        exact s_X12_heap_67 hd hk40 hm
      · replace hm := hm.2 hc
        refine r_iconst (v := 1) dX12_heap_62 rfl ?_
        refine r_goto (tgt := 67) dX12_heap_63 rfl ?_
        refine r_keep (L' := [some (tR 12 0 (some 51)), none, none, none, some (tI v4)]) [true, false, false, false, true] rfl ?_
        exact s_X12_heap_67 hd hk40 hm
def m_X12_heap_19  (Q : Int32 → Hp → Prop) (v1 : Int32) (v2 : Int32) (h : Hp) : Prop := m_X12_findGroups v1 h (fun (h4 : Hp) => (v2 < 0 → ∃ n40, m_X12_heap_40 n40 Q 0 0 h4) ∧ (¬ v2 < 0 → vp_in v2 24 ∧ (Q (hI h4 107 (ix v2)) h4)))
set_option maxHeartbeats 4000000 in
set_option maxRecDepth 100000 in
theorem s_X12_heap_19 {l : Launch} {G : Cx} {d : Nat} {h0 : Hp} (hd : 10 ≤ d) {Q : Int32 → Hp → Prop} {v1 : Int32} {v2 : Int32} {h : Hp} (hm : m_X12_heap_19 Q v1 v2 h) : Rn l G d 0 0 MX12_heap h0 (qI Q) 19 [some (tR 12 0 (some 51)), some (tI v1), some (tI v2)] [] h 0 0 := by
  unfold m_X12_heap_19 at hm
  refine r_aload_n dX12_heap_19 rfl rfl ?_
  refine r_iload_n dX12_heap_20 rfl rfl ?_
  refine r_callVU (d' := d - 1) (as := [tI v1]) (st := []) cl_12 dX12_heap_21 mi_X12_findGroups t_1981 t_1983 ts_121 rfl rfl (Nat.le_of_ble_eq_true rfl) (by omega) ⟨by decide, by decide⟩ ⟨rfl, rfl⟩ (s_X12_findGroups (by omega) hm) (fun h4 hm => ?_)
  refine r_iload_n dX12_heap_24 rfl rfl ?_
  refine r_if_lt (tgt := 35) dX12_heap_25 rfl (fun hc => ?_) (fun hc => ?_)
  · replace hm := hm.1 hc
    refine r_iconst (v := 0) dX12_heap_35 rfl ?_
    refine r_istore_n (L' := [some (tR 12 0 (some 51)), some (tI v1), some (tI v2), some (tI 0)]) dX12_heap_36 rfl (by decide) rfl ?_
    refine r_iconst (v := 0) dX12_heap_37 rfl ?_
    refine r_istore (L' := [some (tR 12 0 (some 51)), some (tI v1), some (tI v2), some (tI 0), some (tI 0)]) dX12_heap_38 (by decide) rfl ?_
    refine r_keep (L' := [some (tR 12 0 (some 51)), none, none, some (tI 0), some (tI 0)]) [true, false, false, true, true] rfl ?_
    obtain ⟨n, hm⟩ := hm
    refine s_X12_heap_40 hd hm
  · replace hm := hm.2 hc
    refine r_aload_n dX12_heap_28 rfl rfl ?_
    refine r_getC (k := 92) cl_12 dX12_heap_29 t_1364 gf_12_92.1 gf_12_92.2 (gc_12_92 _) ?_
    refine r_iload_n dX12_heap_32 rfl rfl ?_
    refine r_iald dX12_heap_33 hm.1 ?_
    replace hm := hm.2
    exact r_ireturn dX12_heap_34 rfl ⟨by decide, by decide⟩ ⟨_, rfl, hm⟩
def m_X12_heap (v1 : Int32) (v2 : Int32) (h : Hp) (Q : Int32 → Hp → Prop) : Prop := (v1 < 0 → Q (-1) h) ∧ (¬ v1 < 0 → (v2 = (-1) → m_X12_heap_19 Q v1 v2 h) ∧ (¬ v2 = (-1) → m_X12_isDeal v2 h (fun (x5 : Int32) (h6 : Hp) => (¬ x5 = 0 → m_X12_heap_19 Q v1 v2 h6) ∧ (x5 = 0 → Q (-1) h6))))
set_option maxHeartbeats 4000000 in
set_option maxRecDepth 100000 in
theorem s_X12_heap {l : Launch} {G : Cx} {d : Nat} (hd : 10 ≤ d) {v1 : Int32} {v2 : Int32} {h : Hp} {Q : Int32 → Hp → Prop} (hm : m_X12_heap v1 v2 h Q) : Ct l G d 0 0 yX12_heap MX12_heap [tR 12 0 (some 51), tI v1, tI v2] h (qI Q) := by
  unfold m_X12_heap at hm
  refine Ct.of (L := [some (tR 12 0 (some 51)), some (tI v1), some (tI v2)]) (by decide) rfl rfl (Nat.le_of_ble_eq_true rfl) rfl ?_
  refine r_iload_n dX12_heap_0 rfl rfl ?_
  refine r_if_lt (tgt := 17) dX12_heap_1 rfl (fun hc => ?_) (fun hc => ?_)
  · replace hm := hm.1 hc
    refine r_iconst (v := (-1)) dX12_heap_17 rfl ?_
    exact r_ireturn dX12_heap_18 rfl ⟨by decide, by decide⟩ ⟨_, rfl, hm⟩
  · replace hm := hm.2 hc
    refine r_iload_n dX12_heap_4 rfl rfl ?_
    refine r_iconst (v := (-1)) dX12_heap_5 rfl ?_
    refine r_icmp_eq (tgt := 19) dX12_heap_6 rfl (fun hc => ?_) (fun hc => ?_)
    · replace hm := hm.1 hc
      refine r_keep (L' := [some (tR 12 0 (some 51)), some (tI v1), some (tI v2)]) [true, true, true] rfl ?_
      exact s_X12_heap_19 hd hm
    · replace hm := hm.2 hc
      refine r_aload_n dX12_heap_9 rfl rfl ?_
      refine r_iload_n dX12_heap_10 rfl rfl ?_
      refine r_callVI (d' := d - 1) (as := [tI v2]) (st := []) cl_12 dX12_heap_11 mi_X12_isDeal t_1673 t_1675 ts_74 rfl rfl (Nat.le_of_ble_eq_true rfl) (by omega) ⟨by decide, by decide⟩ ⟨rfl, rfl⟩ (s_X12_isDeal (by omega) hm) (fun x5 h6 hm => ?_)
      refine r_if_ne (tgt := 19) dX12_heap_14 rfl (fun hc => ?_) (fun hc => ?_)
      · replace hm := hm.1 hc
        refine r_keep (L' := [some (tR 12 0 (some 51)), some (tI v1), some (tI v2)]) [true, true, true] rfl ?_
        exact s_X12_heap_19 hd hm
      · replace hm := hm.2 hc
        refine r_iconst (v := (-1)) dX12_heap_17 rfl ?_
        exact r_ireturn dX12_heap_18 rfl ⟨by decide, by decide⟩ ⟨_, rfl, hm⟩
theorem dX12_group_0 : decode cX12_group 0 = .ok (.iload_n 1, 1) := by decide +kernel
theorem dX12_group_1 : decode cX12_group 1 = .ok (.ifCond .lt 11, 3) := by decide +kernel
theorem dX12_group_4 : decode cX12_group 4 = .ok (.aload_n 0, 1) := by decide +kernel
theorem dX12_group_5 : decode cX12_group 5 = .ok (.iload_n 2, 1) := by decide +kernel
theorem dX12_group_6 : decode cX12_group 6 = .ok (.invokevirtual 352, 3) := by decide +kernel
theorem dX12_group_9 : decode cX12_group 9 = .ok (.ifCond .ne 5, 3) := by decide +kernel
theorem dX12_group_12 : decode cX12_group 12 = .ok (.iconst (-1), 1) := by decide +kernel
theorem dX12_group_13 : decode cX12_group 13 = .ok (.ireturn, 1) := by decide +kernel
theorem dX12_group_14 : decode cX12_group 14 = .ok (.aload_n 0, 1) := by decide +kernel
theorem dX12_group_15 : decode cX12_group 15 = .ok (.iload_n 1, 1) := by decide +kernel
theorem dX12_group_16 : decode cX12_group 16 = .ok (.invokevirtual 601, 3) := by decide +kernel
theorem dX12_group_19 : decode cX12_group 19 = .ok (.aload_n 0, 1) := by decide +kernel
theorem dX12_group_20 : decode cX12_group 20 = .ok (.iconst 0, 1) := by decide +kernel
theorem dX12_group_21 : decode cX12_group 21 = .ok (.putfield 425, 3) := by decide +kernel
theorem dX12_group_24 : decode cX12_group 24 = .ok (.iconst 0, 1) := by decide +kernel
theorem dX12_group_25 : decode cX12_group 25 = .ok (.istore_n 3, 1) := by decide +kernel
theorem dX12_group_26 : decode cX12_group 26 = .ok (.iload_n 3, 1) := by decide +kernel
theorem dX12_group_27 : decode cX12_group 27 = .ok (.aload_n 0, 1) := by decide +kernel
theorem dX12_group_28 : decode cX12_group 28 = .ok (.getfield 332, 3) := by decide +kernel
theorem dX12_group_31 : decode cX12_group 31 = .ok (.if_icmp .ge 58, 3) := by decide +kernel
theorem dX12_group_34 : decode cX12_group 34 = .ok (.aload_n 0, 1) := by decide +kernel
theorem dX12_group_35 : decode cX12_group 35 = .ok (.getfield 182, 3) := by decide +kernel
theorem dX12_group_38 : decode cX12_group 38 = .ok (.iload_n 3, 1) := by decide +kernel
theorem dX12_group_39 : decode cX12_group 39 = .ok (.iaload, 1) := by decide +kernel
theorem dX12_group_40 : decode cX12_group 40 = .ok (.aload_n 0, 1) := by decide +kernel
theorem dX12_group_41 : decode cX12_group 41 = .ok (.getfield 182, 3) := by decide +kernel
theorem dX12_group_44 : decode cX12_group 44 = .ok (.iload_n 2, 1) := by decide +kernel
theorem dX12_group_45 : decode cX12_group 45 = .ok (.iaload, 1) := by decide +kernel
theorem dX12_group_46 : decode cX12_group 46 = .ok (.if_icmp .eq 6, 3) := by decide +kernel
theorem dX12_group_49 : decode cX12_group 49 = .ok (.goto 34, 3) := by decide +kernel
theorem dX12_group_52 : decode cX12_group 52 = .ok (.aload_n 0, 1) := by decide +kernel
theorem dX12_group_53 : decode cX12_group 53 = .ok (.getfield 425, 3) := by decide +kernel
theorem dX12_group_56 : decode cX12_group 56 = .ok (.bipush 6, 2) := by decide +kernel
theorem dX12_group_58 : decode cX12_group 58 = .ok (.if_icmp .ne 5, 3) := by decide +kernel
theorem dX12_group_61 : decode cX12_group 61 = .ok (.iconst (-1), 1) := by decide +kernel
theorem dX12_group_62 : decode cX12_group 62 = .ok (.ireturn, 1) := by decide +kernel
theorem dX12_group_63 : decode cX12_group 63 = .ok (.aload_n 0, 1) := by decide +kernel
theorem dX12_group_64 : decode cX12_group 64 = .ok (.getfield 116, 3) := by decide +kernel
theorem dX12_group_67 : decode cX12_group 67 = .ok (.aload_n 0, 1) := by decide +kernel
theorem dX12_group_68 : decode cX12_group 68 = .ok (.getfield 425, 3) := by decide +kernel
theorem dX12_group_71 : decode cX12_group 71 = .ok (.iload_n 3, 1) := by decide +kernel
theorem dX12_group_72 : decode cX12_group 72 = .ok (.iastore, 1) := by decide +kernel
theorem dX12_group_73 : decode cX12_group 73 = .ok (.aload_n 0, 1) := by decide +kernel
theorem dX12_group_74 : decode cX12_group 74 = .ok (.dup, 1) := by decide +kernel
theorem dX12_group_75 : decode cX12_group 75 = .ok (.getfield 425, 3) := by decide +kernel
theorem dX12_group_78 : decode cX12_group 78 = .ok (.iconst 1, 1) := by decide +kernel
theorem dX12_group_79 : decode cX12_group 79 = .ok (.iadd, 1) := by decide +kernel
theorem dX12_group_80 : decode cX12_group 80 = .ok (.putfield 425, 3) := by decide +kernel
theorem dX12_group_83 : decode cX12_group 83 = .ok (.iinc 3 1, 3) := by decide +kernel
theorem dX12_group_86 : decode cX12_group 86 = .ok (.goto (-60), 3) := by decide +kernel
theorem dX12_group_89 : decode cX12_group 89 = .ok (.aload_n 0, 1) := by decide +kernel
theorem dX12_group_90 : decode cX12_group 90 = .ok (.invokevirtual 506, 3) := by decide +kernel
theorem dX12_group_93 : decode cX12_group 93 = .ok (.ireturn, 1) := by decide +kernel
def m_X12_group_89  (Q : Int32 → Hp → Prop) (h : Hp) : Prop := m_X12_loanAtHand h (fun (x1 : Int32) (h2 : Hp) => Q x1 h2)
set_option maxHeartbeats 4000000 in
set_option maxRecDepth 100000 in
theorem s_X12_group_89 {l : Launch} {G : Cx} {d : Nat} {h0 : Hp} (hd : 12 ≤ d) {Q : Int32 → Hp → Prop} {h : Hp} (hm : m_X12_group_89 Q h) : Rn l G d 0 0 MX12_group h0 (qI Q) 89 [some (tR 12 0 (some 51))] [] h 0 0 := by
  unfold m_X12_group_89 at hm
  refine r_aload_n dX12_group_89 rfl rfl ?_
  refine r_callVI (d' := d - 1) (as := []) (st := []) cl_12 dX12_group_90 mi_X12_loanAtHand t_1854 t_1856 ts_105 rfl rfl (Nat.le_of_ble_eq_true rfl) (by omega) ⟨by decide, by decide⟩ ⟨rfl, rfl⟩ (s_X12_loanAtHand (by omega) hm) (fun x1 h2 hm => ?_)
  exact r_ireturn dX12_group_93 rfl ⟨by decide, by decide⟩ ⟨_, rfl, hm⟩
def m_X12_group_83 (k26 : Int32 → Int32 → Hp → Prop) (k89 : Hp → Prop) (Q : Int32 → Hp → Prop) (v2 : Int32) (v3 : Int32) (h : Hp) : Prop := ∀ x3 : Int32, x3 = v3 + 1 → k26 v2 x3 h
set_option maxHeartbeats 4000000 in
set_option maxRecDepth 100000 in
theorem s_X12_group_83 {l : Launch} {G : Cx} {d : Nat} {h0 : Hp} (hd : 12 ≤ d) {k26 : Int32 → Int32 → Hp → Prop} {k89 : Hp → Prop} {Q : Int32 → Hp → Prop} (hk26 : ∀ (v2 : Int32) (v3 : Int32) (hh : Hp), k26 v2 v3 hh → Rn l G d 0 0 MX12_group h0 (qI Q) 26 [some (tR 12 0 (some 51)), none, some (tI v2), some (tI v3)] [] hh 0 0) (hk89 : ∀ (hh : Hp), k89 hh → Rn l G d 0 0 MX12_group h0 (qI Q) 89 [some (tR 12 0 (some 51))] [] hh 0 0) {v2 : Int32} {v3 : Int32} {h : Hp} (hm : m_X12_group_83 k26 k89 Q v2 v3 h) : Rn l G d 0 0 MX12_group h0 (qI Q) 83 [some (tR 12 0 (some 51)), none, some (tI v2), some (tI v3)] [] h 0 0 := by
  unfold m_X12_group_83 at hm
  obtain ⟨x3, e_x3⟩ : ∃ y : Int32, y = v3 + 1 := ⟨_, rfl⟩
  replace hm := hm x3 e_x3
  refine r_iinc (L' := [some (tR 12 0 (some 51)), none, some (tI v2), some (tI x3)]) dX12_group_83 rfl (by rw [e_x3]; rfl) (by decide) rfl ?_
  refine r_goto (tgt := 26) dX12_group_86 rfl ?_
  refine r_keep (L' := [some (tR 12 0 (some 51)), none, some (tI v2), some (tI x3)]) [true, false, true, true] rfl ?_
  exact hk26 _ _ _ hm
def m_X12_group_26 : Nat → (Hp → Prop) → (Int32 → Hp → Prop) → Int32 → Int32 → Hp → Prop
  | 0, _, _, _, _, _ => False
  | n + 1, k89, Q, v2, v3, h => ((hI h 51 1) ≤ v3 → k89 h) ∧ (¬ (hI h 51 1) ≤ v3 → vp_in v3 24 ∧ (vp_in v2 24 ∧ (((hI h 107 (ix v3)) = (hI h 107 (ix v2)) → (¬ (hI h 51 55) = 6 → vp_in (hI h 51 55) 6 ∧ (m_X12_group_83 (fun (v2 : Int32) (v3 : Int32) (hh : Hp) => m_X12_group_26 n k89 Q v2 v3 hh) k89 Q v2 v3 (wI (wI h 85 (ix (hI h 51 55)) v3) 51 55 ((hI (wI h 85 (ix (hI h 51 55)) v3) 51 55) + 1)))) ∧ ((hI h 51 55) = 6 → Q (-1) h)) ∧ (¬ (hI h 107 (ix v3)) = (hI h 107 (ix v2)) → m_X12_group_83 (fun (v2 : Int32) (v3 : Int32) (hh : Hp) => m_X12_group_26 n k89 Q v2 v3 hh) k89 Q v2 v3 h))))
set_option maxHeartbeats 4000000 in
set_option maxRecDepth 100000 in
theorem s_X12_group_26 {l : Launch} {G : Cx} {d : Nat} {h0 : Hp} (hd : 12 ≤ d) {k89 : Hp → Prop} {Q : Int32 → Hp → Prop} (hk89 : ∀ (hh : Hp), k89 hh → Rn l G d 0 0 MX12_group h0 (qI Q) 89 [some (tR 12 0 (some 51))] [] hh 0 0) : ∀ {n : Nat} {v2 : Int32} {v3 : Int32} {h : Hp}, m_X12_group_26 n k89 Q v2 v3 h → Rn l G d 0 0 MX12_group h0 (qI Q) 26 [some (tR 12 0 (some 51)), none, some (tI v2), some (tI v3)] [] h 0 0 := by
  intro n
  induction n with
  | zero => intro v2 v3 h hm; exact hm.elim
  | succ n ih =>
    intro v2 v3 h hm
    have hk26 := fun (v2 : Int32) (v3 : Int32) (hh : Hp) (hm : m_X12_group_26 n k89 Q v2 v3 hh) => ih hm
    rw [m_X12_group_26] at hm
    refine r_iload_n dX12_group_26 rfl rfl ?_
    refine r_aload_n dX12_group_27 rfl rfl ?_
    refine r_getI (k := 1) cl_12 dX12_group_28 t_1273 (Or.inl rfl) gf_12_1 ?_
    refine r_icmp_ge (tgt := 89) dX12_group_31 rfl (fun hc => ?_) (fun hc => ?_)
    · replace hm := hm.1 hc
      refine r_keep (L' := [some (tR 12 0 (some 51))]) [true] rfl ?_
      exact hk89 _ hm
    · replace hm := hm.2 hc
      refine r_aload_n dX12_group_34 rfl rfl ?_
      refine r_getC (k := 92) cl_12 dX12_group_35 t_1364 gf_12_92.1 gf_12_92.2 (gc_12_92 _) ?_
      refine r_iload_n dX12_group_38 rfl rfl ?_
      refine r_iald dX12_group_39 hm.1 ?_
      replace hm := hm.2
      refine r_aload_n dX12_group_40 rfl rfl ?_
      refine r_getC (k := 92) cl_12 dX12_group_41 t_1364 gf_12_92.1 gf_12_92.2 (gc_12_92 _) ?_
      refine r_iload_n dX12_group_44 rfl rfl ?_
      refine r_iald dX12_group_45 hm.1 ?_
      replace hm := hm.2
      refine r_icmp_eq (tgt := 52) dX12_group_46 rfl (fun hc => ?_) (fun hc => ?_)
      · replace hm := hm.1 hc
        refine r_aload_n dX12_group_52 rfl rfl ?_
        refine r_getI (k := 55) cl_12 dX12_group_53 t_1327 (Or.inl rfl) gf_12_55 ?_
        refine r_bipush (v := 6) dX12_group_56 rfl ?_
        refine r_icmp_ne (tgt := 63) dX12_group_58 rfl (fun hc => ?_) (fun hc => ?_)
        · replace hm := hm.1 hc
          refine r_aload_n dX12_group_63 rfl rfl ?_
          refine r_getC (k := 57) cl_12 dX12_group_64 t_1329 gf_12_57.1 gf_12_57.2 (gc_12_57 _) ?_
          refine r_aload_n dX12_group_67 rfl rfl ?_
          refine r_getI (k := 55) cl_12 dX12_group_68 t_1327 (Or.inl rfl) gf_12_55 ?_
          refine r_iload_n dX12_group_71 rfl rfl ?_
          refine r_iast dX12_group_72 hm.1 ?_
          replace hm := hm.2
          refine r_aload_n dX12_group_73 rfl rfl ?_
          refine r_dup dX12_group_74 cv_cat1R ?_
          refine r_getI (k := 55) cl_12 dX12_group_75 t_1327 (Or.inl rfl) gf_12_55 ?_
          refine r_iconst (v := 1) dX12_group_78 rfl ?_
          refine r_iadd dX12_group_79 ?_
          refine r_putI0 (k := 55) cl_12 dX12_group_80 t_1327 (Or.inl rfl) gf_12_55 pf_12_55.1 (Or.inl pf_12_55.2) ?_
          refine r_keep (L' := [some (tR 12 0 (some 51)), none, some (tI v2), some (tI v3)]) [true, false, true, true] rfl ?_
          exact s_X12_group_83 hd hk26 hk89 hm
        · replace hm := hm.2 hc
          refine r_iconst (v := (-1)) dX12_group_61 rfl ?_
          exact r_ireturn dX12_group_62 rfl ⟨by decide, by decide⟩ ⟨_, rfl, hm⟩
      · replace hm := hm.2 hc
        refine r_goto (tgt := 83) dX12_group_49 rfl ?_
        refine r_keep (L' := [some (tR 12 0 (some 51)), none, some (tI v2), some (tI v3)]) [true, false, true, true] rfl ?_
        exact s_X12_group_83 hd hk26 hk89 hm
def m_X12_group (v1 : Int32) (v2 : Int32) (h : Hp) (Q : Int32 → Hp → Prop) : Prop := (v1 < 0 → Q (-1) h) ∧ (¬ v1 < 0 → m_X12_isDeal v2 h (fun (x4 : Int32) (h5 : Hp) => (¬ x4 = 0 → m_X12_findGroups v1 h5 (fun (h7 : Hp) => ∃ n26, m_X12_group_26 n26 (m_X12_group_89 Q) Q v2 0 (wI h7 51 55 0))) ∧ (x4 = 0 → Q (-1) h5)))
set_option maxHeartbeats 4000000 in
set_option maxRecDepth 100000 in
theorem s_X12_group {l : Launch} {G : Cx} {d : Nat} (hd : 12 ≤ d) {v1 : Int32} {v2 : Int32} {h : Hp} {Q : Int32 → Hp → Prop} (hm : m_X12_group v1 v2 h Q) : Ct l G d 0 0 yX12_group MX12_group [tR 12 0 (some 51), tI v1, tI v2] h (qI Q) := by
  unfold m_X12_group at hm
  refine Ct.of (L := [some (tR 12 0 (some 51)), some (tI v1), some (tI v2)]) (by decide) rfl rfl (Nat.le_of_ble_eq_true rfl) rfl ?_
  refine r_iload_n dX12_group_0 rfl rfl ?_
  refine r_if_lt (tgt := 12) dX12_group_1 rfl (fun hc => ?_) (fun hc => ?_)
  · replace hm := hm.1 hc
    refine r_iconst (v := (-1)) dX12_group_12 rfl ?_
    exact r_ireturn dX12_group_13 rfl ⟨by decide, by decide⟩ ⟨_, rfl, hm⟩
  · replace hm := hm.2 hc
    refine r_aload_n dX12_group_4 rfl rfl ?_
    refine r_iload_n dX12_group_5 rfl rfl ?_
    refine r_callVI (d' := d - 1) (as := [tI v2]) (st := []) cl_12 dX12_group_6 mi_X12_isDeal t_1673 t_1675 ts_74 rfl rfl (Nat.le_of_ble_eq_true rfl) (by omega) ⟨by decide, by decide⟩ ⟨rfl, rfl⟩ (s_X12_isDeal (by omega) hm) (fun x4 h5 hm => ?_)
    refine r_if_ne (tgt := 14) dX12_group_9 rfl (fun hc => ?_) (fun hc => ?_)
    · replace hm := hm.1 hc
      refine r_aload_n dX12_group_14 rfl rfl ?_
      refine r_iload_n dX12_group_15 rfl rfl ?_
      refine r_callVU (d' := d - 1) (as := [tI v1]) (st := []) cl_12 dX12_group_16 mi_X12_findGroups t_1981 t_1983 ts_121 rfl rfl (Nat.le_of_ble_eq_true rfl) (by omega) ⟨by decide, by decide⟩ ⟨rfl, rfl⟩ (s_X12_findGroups (by omega) hm) (fun h7 hm => ?_)
      refine r_aload_n dX12_group_19 rfl rfl ?_
      refine r_iconst (v := 0) dX12_group_20 rfl ?_
      refine r_putI0 (k := 55) cl_12 dX12_group_21 t_1327 (Or.inl rfl) gf_12_55 pf_12_55.1 (Or.inl pf_12_55.2) ?_
      refine r_iconst (v := 0) dX12_group_24 rfl ?_
      refine r_istore_n (L' := [some (tR 12 0 (some 51)), some (tI v1), some (tI v2), some (tI 0)]) dX12_group_25 rfl (by decide) rfl ?_
      refine r_keep (L' := [some (tR 12 0 (some 51)), none, some (tI v2), some (tI 0)]) [true, false, true, true] rfl ?_
      obtain ⟨n, hm⟩ := hm
      refine s_X12_group_26 hd ?_ hm
      · exact (fun _ hm => s_X12_group_89 hd hm)
    · replace hm := hm.2 hc
      refine r_iconst (v := (-1)) dX12_group_12 rfl ?_
      exact r_ireturn dX12_group_13 rfl ⟨by decide, by decide⟩ ⟨_, rfl, hm⟩
theorem dX12_leavesTold_0 : decode cX12_leavesTold 0 = .ok (.iconst 0, 1) := rfl
theorem dX12_leavesTold_1 : decode cX12_leavesTold 1 = .ok (.istore_n 1, 1) := rfl
theorem dX12_leavesTold_2 : decode cX12_leavesTold 2 = .ok (.iconst 0, 1) := rfl
theorem dX12_leavesTold_3 : decode cX12_leavesTold 3 = .ok (.istore_n 2, 1) := rfl
theorem dX12_leavesTold_4 : decode cX12_leavesTold 4 = .ok (.iload_n 2, 1) := rfl
theorem dX12_leavesTold_5 : decode cX12_leavesTold 5 = .ok (.aload_n 0, 1) := rfl
theorem dX12_leavesTold_6 : decode cX12_leavesTold 6 = .ok (.getfield 422, 3) := rfl
theorem dX12_leavesTold_9 : decode cX12_leavesTold 9 = .ok (.if_icmp .ge 23, 3) := by decide +kernel
theorem dX12_leavesTold_12 : decode cX12_leavesTold 12 = .ok (.iload_n 1, 1) := rfl
theorem dX12_leavesTold_13 : decode cX12_leavesTold 13 = .ok (.aload_n 0, 1) := rfl
theorem dX12_leavesTold_14 : decode cX12_leavesTold 14 = .ok (.getfield 19, 3) := rfl
theorem dX12_leavesTold_17 : decode cX12_leavesTold 17 = .ok (.aload_n 0, 1) := rfl
theorem dX12_leavesTold_18 : decode cX12_leavesTold 18 = .ok (.getfield 113, 3) := rfl
theorem dX12_leavesTold_21 : decode cX12_leavesTold 21 = .ok (.iload_n 2, 1) := rfl
theorem dX12_leavesTold_22 : decode cX12_leavesTold 22 = .ok (.iaload, 1) := rfl
theorem dX12_leavesTold_23 : decode cX12_leavesTold 23 = .ok (.iaload, 1) := rfl
theorem dX12_leavesTold_24 : decode cX12_leavesTold 24 = .ok (.iadd, 1) := rfl
theorem dX12_leavesTold_25 : decode cX12_leavesTold 25 = .ok (.istore_n 1, 1) := rfl
theorem dX12_leavesTold_26 : decode cX12_leavesTold 26 = .ok (.iinc 2 1, 3) := by decide +kernel
theorem dX12_leavesTold_29 : decode cX12_leavesTold 29 = .ok (.goto (-25), 3) := by decide +kernel
theorem dX12_leavesTold_32 : decode cX12_leavesTold 32 = .ok (.iload_n 1, 1) := rfl
theorem dX12_leavesTold_33 : decode cX12_leavesTold 33 = .ok (.ireturn, 1) := rfl
def m_X12_leavesTold_4 : Nat → (Int32 → Hp → Prop) → Int32 → Int32 → Hp → Prop
  | 0, _, _, _, _ => False
  | n + 1, Q, v1, v2, h => ((hI h 51 54) ≤ v2 → Q v1 h) ∧ (¬ (hI h 51 54) ≤ v2 → vp_in v2 6 ∧ (vp_in (hI h 84 (ix v2)) 24 ∧ (∀ x1 : Int32, x1 = (v1 + (hI h 55 (ix (hI h 84 (ix v2))))) → ∀ x2 : Int32, x2 = v2 + 1 → m_X12_leavesTold_4 n Q x1 x2 h)))
set_option maxHeartbeats 4000000 in
set_option maxRecDepth 100000 in
theorem s_X12_leavesTold_4 {l : Launch} {G : Cx} {d : Nat} {h0 : Hp} (hd : 2 ≤ d) {Q : Int32 → Hp → Prop} : ∀ {n : Nat} {v1 : Int32} {v2 : Int32} {h : Hp}, m_X12_leavesTold_4 n Q v1 v2 h → Rn l G d 0 0 MX12_leavesTold h0 (qI Q) 4 [some (tR 12 0 (some 51)), some (tI v1), some (tI v2)] [] h 0 0 := by
  intro n
  induction n with
  | zero => intro v1 v2 h hm; exact hm.elim
  | succ n ih =>
    intro v1 v2 h hm
    have hk4 := fun (v1 : Int32) (v2 : Int32) (hh : Hp) (hm : m_X12_leavesTold_4 n Q v1 v2 hh) => ih hm
    rw [m_X12_leavesTold_4] at hm
    refine r_iload_n dX12_leavesTold_4 rfl rfl ?_
    refine r_aload_n dX12_leavesTold_5 rfl rfl ?_
    refine r_getI (k := 54) cl_12 dX12_leavesTold_6 t_1326 (Or.inl rfl) gf_12_54 ?_
    refine r_icmp_ge (tgt := 32) dX12_leavesTold_9 rfl (fun hc => ?_) (fun hc => ?_)
    · replace hm := hm.1 hc
      refine r_iload_n dX12_leavesTold_32 rfl rfl ?_
      exact r_ireturn dX12_leavesTold_33 rfl ⟨by decide, by decide⟩ ⟨_, rfl, hm⟩
    · replace hm := hm.2 hc
      refine r_iload_n dX12_leavesTold_12 rfl rfl ?_
      refine r_aload_n dX12_leavesTold_13 rfl rfl ?_
      refine r_getC (k := 4) cl_12 dX12_leavesTold_14 t_1276 gf_12_4.1 gf_12_4.2 (gc_12_4 _) ?_
      refine r_aload_n dX12_leavesTold_17 rfl rfl ?_
      refine r_getC (k := 56) cl_12 dX12_leavesTold_18 t_1328 gf_12_56.1 gf_12_56.2 (gc_12_56 _) ?_
      refine r_iload_n dX12_leavesTold_21 rfl rfl ?_
      refine r_iald dX12_leavesTold_22 hm.1 ?_
      replace hm := hm.2
      refine r_iald dX12_leavesTold_23 hm.1 ?_
      replace hm := hm.2
      refine r_iadd dX12_leavesTold_24 ?_
      refine r_nmI (fun x1 e_x1 => ?_)
      replace hm := hm x1 e_x1
      refine r_istore_n (L' := [some (tR 12 0 (some 51)), some (tI x1), some (tI v2)]) dX12_leavesTold_25 rfl (by decide) rfl ?_
      obtain ⟨x2, e_x2⟩ : ∃ y : Int32, y = v2 + 1 := ⟨_, rfl⟩
      replace hm := hm x2 e_x2
      refine r_iinc (L' := [some (tR 12 0 (some 51)), some (tI x1), some (tI x2)]) dX12_leavesTold_26 rfl (by rw [e_x2]; rfl) (by decide) rfl ?_
      refine r_goto (tgt := 4) dX12_leavesTold_29 rfl ?_
      refine r_keep (L' := [some (tR 12 0 (some 51)), some (tI x1), some (tI x2)]) [true, true, true] rfl ?_
      exact hk4 _ _ _ hm
def m_X12_leavesTold  (h : Hp) (Q : Int32 → Hp → Prop) : Prop := ∃ n4, m_X12_leavesTold_4 n4 Q 0 0 h
set_option maxHeartbeats 4000000 in
set_option maxRecDepth 100000 in
theorem s_X12_leavesTold {l : Launch} {G : Cx} {d : Nat} (hd : 2 ≤ d) {h : Hp} {Q : Int32 → Hp → Prop} (hm : m_X12_leavesTold h Q) : Ct l G d 0 0 yX12_leavesTold MX12_leavesTold [tR 12 0 (some 51)] h (qI Q) := by
  unfold m_X12_leavesTold at hm
  refine Ct.of (L := [some (tR 12 0 (some 51))]) (by decide) rfl rfl (Nat.le_of_ble_eq_true rfl) rfl ?_
  refine r_iconst (v := 0) dX12_leavesTold_0 rfl ?_
  refine r_istore_n (L' := [some (tR 12 0 (some 51)), some (tI 0)]) dX12_leavesTold_1 rfl (by decide) rfl ?_
  refine r_iconst (v := 0) dX12_leavesTold_2 rfl ?_
  refine r_istore_n (L' := [some (tR 12 0 (some 51)), some (tI 0), some (tI 0)]) dX12_leavesTold_3 rfl (by decide) rfl ?_
  refine r_keep (L' := [some (tR 12 0 (some 51)), some (tI 0), some (tI 0)]) [true, true, true] rfl ?_
  obtain ⟨n, hm⟩ := hm
  refine s_X12_leavesTold_4 hd hm
theorem dX12_choicesTold_0 : decode cX12_choicesTold 0 = .ok (.iconst 0, 1) := rfl
theorem dX12_choicesTold_1 : decode cX12_choicesTold 1 = .ok (.istore_n 1, 1) := rfl
theorem dX12_choicesTold_2 : decode cX12_choicesTold 2 = .ok (.iconst 0, 1) := rfl
theorem dX12_choicesTold_3 : decode cX12_choicesTold 3 = .ok (.istore_n 2, 1) := rfl
theorem dX12_choicesTold_4 : decode cX12_choicesTold 4 = .ok (.iload_n 2, 1) := rfl
theorem dX12_choicesTold_5 : decode cX12_choicesTold 5 = .ok (.aload_n 0, 1) := rfl
theorem dX12_choicesTold_6 : decode cX12_choicesTold 6 = .ok (.getfield 422, 3) := rfl
theorem dX12_choicesTold_9 : decode cX12_choicesTold 9 = .ok (.if_icmp .ge 23, 3) := by decide +kernel
theorem dX12_choicesTold_12 : decode cX12_choicesTold 12 = .ok (.iload_n 1, 1) := rfl
theorem dX12_choicesTold_13 : decode cX12_choicesTold 13 = .ok (.aload_n 0, 1) := rfl
theorem dX12_choicesTold_14 : decode cX12_choicesTold 14 = .ok (.getfield 22, 3) := rfl
theorem dX12_choicesTold_17 : decode cX12_choicesTold 17 = .ok (.aload_n 0, 1) := rfl
theorem dX12_choicesTold_18 : decode cX12_choicesTold 18 = .ok (.getfield 113, 3) := rfl
theorem dX12_choicesTold_21 : decode cX12_choicesTold 21 = .ok (.iload_n 2, 1) := rfl
theorem dX12_choicesTold_22 : decode cX12_choicesTold 22 = .ok (.iaload, 1) := rfl
theorem dX12_choicesTold_23 : decode cX12_choicesTold 23 = .ok (.iaload, 1) := rfl
theorem dX12_choicesTold_24 : decode cX12_choicesTold 24 = .ok (.iadd, 1) := rfl
theorem dX12_choicesTold_25 : decode cX12_choicesTold 25 = .ok (.istore_n 1, 1) := rfl
theorem dX12_choicesTold_26 : decode cX12_choicesTold 26 = .ok (.iinc 2 1, 3) := by decide +kernel
theorem dX12_choicesTold_29 : decode cX12_choicesTold 29 = .ok (.goto (-25), 3) := by decide +kernel
theorem dX12_choicesTold_32 : decode cX12_choicesTold 32 = .ok (.iload_n 1, 1) := rfl
theorem dX12_choicesTold_33 : decode cX12_choicesTold 33 = .ok (.ireturn, 1) := rfl
def m_X12_choicesTold_4 : Nat → (Int32 → Hp → Prop) → Int32 → Int32 → Hp → Prop
  | 0, _, _, _, _ => False
  | n + 1, Q, v1, v2, h => ((hI h 51 54) ≤ v2 → Q v1 h) ∧ (¬ (hI h 51 54) ≤ v2 → vp_in v2 6 ∧ (vp_in (hI h 84 (ix v2)) 24 ∧ (∀ x1 : Int32, x1 = (v1 + (hI h 56 (ix (hI h 84 (ix v2))))) → ∀ x2 : Int32, x2 = v2 + 1 → m_X12_choicesTold_4 n Q x1 x2 h)))
set_option maxHeartbeats 4000000 in
set_option maxRecDepth 100000 in
theorem s_X12_choicesTold_4 {l : Launch} {G : Cx} {d : Nat} {h0 : Hp} (hd : 2 ≤ d) {Q : Int32 → Hp → Prop} : ∀ {n : Nat} {v1 : Int32} {v2 : Int32} {h : Hp}, m_X12_choicesTold_4 n Q v1 v2 h → Rn l G d 0 0 MX12_choicesTold h0 (qI Q) 4 [some (tR 12 0 (some 51)), some (tI v1), some (tI v2)] [] h 0 0 := by
  intro n
  induction n with
  | zero => intro v1 v2 h hm; exact hm.elim
  | succ n ih =>
    intro v1 v2 h hm
    have hk4 := fun (v1 : Int32) (v2 : Int32) (hh : Hp) (hm : m_X12_choicesTold_4 n Q v1 v2 hh) => ih hm
    rw [m_X12_choicesTold_4] at hm
    refine r_iload_n dX12_choicesTold_4 rfl rfl ?_
    refine r_aload_n dX12_choicesTold_5 rfl rfl ?_
    refine r_getI (k := 54) cl_12 dX12_choicesTold_6 t_1326 (Or.inl rfl) gf_12_54 ?_
    refine r_icmp_ge (tgt := 32) dX12_choicesTold_9 rfl (fun hc => ?_) (fun hc => ?_)
    · replace hm := hm.1 hc
      refine r_iload_n dX12_choicesTold_32 rfl rfl ?_
      exact r_ireturn dX12_choicesTold_33 rfl ⟨by decide, by decide⟩ ⟨_, rfl, hm⟩
    · replace hm := hm.2 hc
      refine r_iload_n dX12_choicesTold_12 rfl rfl ?_
      refine r_aload_n dX12_choicesTold_13 rfl rfl ?_
      refine r_getC (k := 5) cl_12 dX12_choicesTold_14 t_1277 gf_12_5.1 gf_12_5.2 (gc_12_5 _) ?_
      refine r_aload_n dX12_choicesTold_17 rfl rfl ?_
      refine r_getC (k := 56) cl_12 dX12_choicesTold_18 t_1328 gf_12_56.1 gf_12_56.2 (gc_12_56 _) ?_
      refine r_iload_n dX12_choicesTold_21 rfl rfl ?_
      refine r_iald dX12_choicesTold_22 hm.1 ?_
      replace hm := hm.2
      refine r_iald dX12_choicesTold_23 hm.1 ?_
      replace hm := hm.2
      refine r_iadd dX12_choicesTold_24 ?_
      refine r_nmI (fun x1 e_x1 => ?_)
      replace hm := hm x1 e_x1
      refine r_istore_n (L' := [some (tR 12 0 (some 51)), some (tI x1), some (tI v2)]) dX12_choicesTold_25 rfl (by decide) rfl ?_
      obtain ⟨x2, e_x2⟩ : ∃ y : Int32, y = v2 + 1 := ⟨_, rfl⟩
      replace hm := hm x2 e_x2
      refine r_iinc (L' := [some (tR 12 0 (some 51)), some (tI x1), some (tI x2)]) dX12_choicesTold_26 rfl (by rw [e_x2]; rfl) (by decide) rfl ?_
      refine r_goto (tgt := 4) dX12_choicesTold_29 rfl ?_
      refine r_keep (L' := [some (tR 12 0 (some 51)), some (tI x1), some (tI x2)]) [true, true, true] rfl ?_
      exact hk4 _ _ _ hm
def m_X12_choicesTold  (h : Hp) (Q : Int32 → Hp → Prop) : Prop := ∃ n4, m_X12_choicesTold_4 n4 Q 0 0 h
set_option maxHeartbeats 4000000 in
set_option maxRecDepth 100000 in
theorem s_X12_choicesTold {l : Launch} {G : Cx} {d : Nat} (hd : 2 ≤ d) {h : Hp} {Q : Int32 → Hp → Prop} (hm : m_X12_choicesTold h Q) : Ct l G d 0 0 yX12_choicesTold MX12_choicesTold [tR 12 0 (some 51)] h (qI Q) := by
  unfold m_X12_choicesTold at hm
  refine Ct.of (L := [some (tR 12 0 (some 51))]) (by decide) rfl rfl (Nat.le_of_ble_eq_true rfl) rfl ?_
  refine r_iconst (v := 0) dX12_choicesTold_0 rfl ?_
  refine r_istore_n (L' := [some (tR 12 0 (some 51)), some (tI 0)]) dX12_choicesTold_1 rfl (by decide) rfl ?_
  refine r_iconst (v := 0) dX12_choicesTold_2 rfl ?_
  refine r_istore_n (L' := [some (tR 12 0 (some 51)), some (tI 0), some (tI 0)]) dX12_choicesTold_3 rfl (by decide) rfl ?_
  refine r_keep (L' := [some (tR 12 0 (some 51)), some (tI 0), some (tI 0)]) [true, true, true] rfl ?_
  obtain ⟨n, hm⟩ := hm
  refine s_X12_choicesTold_4 hd hm
theorem dX12_count_0 : decode cX12_count 0 = .ok (.iload_n 1, 1) := by decide +kernel
theorem dX12_count_1 : decode cX12_count 1 = .ok (.tableswitch 123 0 9 #[55, 60, 65, 88, 93, 98, 103, 108, 113, 118], 55) := by decide +kernel
theorem dX12_count_56 : decode cX12_count 56 = .ok (.aload_n 0, 1) := by decide +kernel
theorem dX12_count_57 : decode cX12_count 57 = .ok (.getfield 332, 3) := by decide +kernel
theorem dX12_count_60 : decode cX12_count 60 = .ok (.ireturn, 1) := by decide +kernel
theorem dX12_count_61 : decode cX12_count 61 = .ok (.aload_n 0, 1) := by decide +kernel
theorem dX12_count_62 : decode cX12_count 62 = .ok (.getfield 535, 3) := by decide +kernel
theorem dX12_count_65 : decode cX12_count 65 = .ok (.ireturn, 1) := by decide +kernel
theorem dX12_count_66 : decode cX12_count 66 = .ok (.aload_n 0, 1) := by decide +kernel
theorem dX12_count_67 : decode cX12_count 67 = .ok (.getfield 535, 3) := by decide +kernel
theorem dX12_count_70 : decode cX12_count 70 = .ok (.ifCond .ne 7, 3) := by decide +kernel
theorem dX12_count_73 : decode cX12_count 73 = .ok (.iconst 0, 1) := by decide +kernel
theorem dX12_count_74 : decode cX12_count 74 = .ok (.goto 14, 3) := by decide +kernel
theorem dX12_count_77 : decode cX12_count 77 = .ok (.aload_n 0, 1) := by decide +kernel
theorem dX12_count_78 : decode cX12_count 78 = .ok (.getfield 134, 3) := by decide +kernel
theorem dX12_count_81 : decode cX12_count 81 = .ok (.aload_n 0, 1) := by decide +kernel
theorem dX12_count_82 : decode cX12_count 82 = .ok (.getfield 535, 3) := by decide +kernel
theorem dX12_count_85 : decode cX12_count 85 = .ok (.iconst 1, 1) := by decide +kernel
theorem dX12_count_86 : decode cX12_count 86 = .ok (.isub, 1) := by decide +kernel
theorem dX12_count_87 : decode cX12_count 87 = .ok (.iaload, 1) := by decide +kernel
theorem dX12_count_88 : decode cX12_count 88 = .ok (.ireturn, 1) := by decide +kernel
theorem dX12_count_89 : decode cX12_count 89 = .ok (.aload_n 0, 1) := by decide +kernel
theorem dX12_count_90 : decode cX12_count 90 = .ok (.getfield 541, 3) := by decide +kernel
theorem dX12_count_93 : decode cX12_count 93 = .ok (.ireturn, 1) := by decide +kernel
theorem dX12_count_94 : decode cX12_count 94 = .ok (.aload_n 0, 1) := by decide +kernel
theorem dX12_count_95 : decode cX12_count 95 = .ok (.getfield 422, 3) := by decide +kernel
theorem dX12_count_98 : decode cX12_count 98 = .ok (.ireturn, 1) := by decide +kernel
theorem dX12_count_99 : decode cX12_count 99 = .ok (.aload_n 0, 1) := by decide +kernel
theorem dX12_count_100 : decode cX12_count 100 = .ok (.getfield 571, 3) := by decide +kernel
theorem dX12_count_103 : decode cX12_count 103 = .ok (.ireturn, 1) := by decide +kernel
theorem dX12_count_104 : decode cX12_count 104 = .ok (.aload_n 0, 1) := by decide +kernel
theorem dX12_count_105 : decode cX12_count 105 = .ok (.getfield 586, 3) := by decide +kernel
theorem dX12_count_108 : decode cX12_count 108 = .ok (.ireturn, 1) := by decide +kernel
theorem dX12_count_109 : decode cX12_count 109 = .ok (.aload_n 0, 1) := by decide +kernel
theorem dX12_count_110 : decode cX12_count 110 = .ok (.invokevirtual 604, 3) := by decide +kernel
theorem dX12_count_113 : decode cX12_count 113 = .ok (.ireturn, 1) := by decide +kernel
theorem dX12_count_114 : decode cX12_count 114 = .ok (.aload_n 0, 1) := by decide +kernel
theorem dX12_count_115 : decode cX12_count 115 = .ok (.invokevirtual 607, 3) := by decide +kernel
theorem dX12_count_118 : decode cX12_count 118 = .ok (.ireturn, 1) := by decide +kernel
theorem dX12_count_119 : decode cX12_count 119 = .ok (.aload_n 0, 1) := by decide +kernel
theorem dX12_count_120 : decode cX12_count 120 = .ok (.getfield 189, 3) := by decide +kernel
theorem dX12_count_123 : decode cX12_count 123 = .ok (.ireturn, 1) := by decide +kernel
theorem dX12_count_124 : decode cX12_count 124 = .ok (.iconst (-1), 1) := by decide +kernel
theorem dX12_count_125 : decode cX12_count 125 = .ok (.ireturn, 1) := by decide +kernel
def m_X12_count (v1 : Int32) (h : Hp) (Q : Int32 → Hp → Prop) : Prop := (v1 = 0 → Q (hI h 51 1) h) ∧ (¬ v1 = 0 → (v1 = 1 → Q (hI h 51 67) h) ∧ (¬ v1 = 1 → (v1 = 2 → (¬ (hI h 51 67) = 0 → vp_in ((hI h 51 67) - 1) 6 ∧ (Q (hI h 91 (ix ((hI h 51 67) - 1))) h)) ∧ ((hI h 51 67) = 0 → Q 0 h)) ∧ (¬ v1 = 2 → (v1 = 3 → Q (hI h 51 68) h) ∧ (¬ v1 = 3 → (v1 = 4 → Q (hI h 51 54) h) ∧ (¬ v1 = 4 → (v1 = 5 → Q (hI h 51 83) h) ∧ (¬ v1 = 5 → (v1 = 6 → Q (hI h 51 88) h) ∧ (¬ v1 = 6 → (v1 = 7 → m_X12_leavesTold h (fun (x1 : Int32) (h2 : Hp) => Q x1 h2)) ∧ (¬ v1 = 7 → (v1 = 8 → m_X12_choicesTold h (fun (x3 : Int32) (h4 : Hp) => Q x3 h4)) ∧ (¬ v1 = 8 → (v1 = 9 → Q (hI h 51 21) h) ∧ (¬ v1 = 9 → Q (-1) h))))))))))
set_option maxHeartbeats 4000000 in
set_option maxRecDepth 100000 in
theorem s_X12_count {l : Launch} {G : Cx} {d : Nat} (hd : 4 ≤ d) {v1 : Int32} {h : Hp} {Q : Int32 → Hp → Prop} (hm : m_X12_count v1 h Q) : Ct l G d 0 0 yX12_count MX12_count [tR 12 0 (some 51), tI v1] h (qI Q) := by
  unfold m_X12_count at hm
  refine Ct.of (L := [some (tR 12 0 (some 51)), some (tI v1)]) (by decide) rfl rfl (Nat.le_of_ble_eq_true rfl) rfl ?_
  refine r_iload_n dX12_count_0 rfl rfl ?_
  by_cases hc0 : v1 = 0
  · refine r_tableIn (tgt := 56) (off := 55) dX12_count_1 (by rw [hc0]; decide) (by rw [hc0]; decide) (by rw [hc0]; rfl) rfl ?_
    replace hm := hm.1 hc0
    refine r_aload_n dX12_count_56 rfl rfl ?_
    refine r_getI (k := 1) cl_12 dX12_count_57 t_1273 (Or.inl rfl) gf_12_1 ?_
    exact r_ireturn dX12_count_60 rfl ⟨by decide, by decide⟩ ⟨_, rfl, hm⟩
  replace hm := hm.2 hc0
  by_cases hc1 : v1 = 1
  · refine r_tableIn (tgt := 61) (off := 60) dX12_count_1 (by rw [hc1]; decide) (by rw [hc1]; decide) (by rw [hc1]; rfl) rfl ?_
    replace hm := hm.1 hc1
    refine r_aload_n dX12_count_61 rfl rfl ?_
    refine r_getI (k := 67) cl_12 dX12_count_62 t_1339 (Or.inl rfl) gf_12_67 ?_
    exact r_ireturn dX12_count_65 rfl ⟨by decide, by decide⟩ ⟨_, rfl, hm⟩
  replace hm := hm.2 hc1
  by_cases hc2 : v1 = 2
  · refine r_tableIn (tgt := 66) (off := 65) dX12_count_1 (by rw [hc2]; decide) (by rw [hc2]; decide) (by rw [hc2]; rfl) rfl ?_
    replace hm := hm.1 hc2
    refine r_aload_n dX12_count_66 rfl rfl ?_
    refine r_getI (k := 67) cl_12 dX12_count_67 t_1339 (Or.inl rfl) gf_12_67 ?_
    refine r_if_ne (tgt := 77) dX12_count_70 rfl (fun hc => ?_) (fun hc => ?_)
    · replace hm := hm.1 hc
      refine r_aload_n dX12_count_77 rfl rfl ?_
      refine r_getC (k := 69) cl_12 dX12_count_78 t_1341 gf_12_69.1 gf_12_69.2 (gc_12_69 _) ?_
      refine r_aload_n dX12_count_81 rfl rfl ?_
      refine r_getI (k := 67) cl_12 dX12_count_82 t_1339 (Or.inl rfl) gf_12_67 ?_
      refine r_iconst (v := 1) dX12_count_85 rfl ?_
      refine r_isub dX12_count_86 ?_
      refine r_iald dX12_count_87 hm.1 ?_
      replace hm := hm.2
      exact r_ireturn dX12_count_88 rfl ⟨by decide, by decide⟩ ⟨_, rfl, hm⟩
    · replace hm := hm.2 hc
      refine r_iconst (v := 0) dX12_count_73 rfl ?_
      refine r_goto (tgt := 88) dX12_count_74 rfl ?_
      exact r_ireturn dX12_count_88 rfl ⟨by decide, by decide⟩ ⟨_, rfl, hm⟩
  replace hm := hm.2 hc2
  by_cases hc3 : v1 = 3
  · refine r_tableIn (tgt := 89) (off := 88) dX12_count_1 (by rw [hc3]; decide) (by rw [hc3]; decide) (by rw [hc3]; rfl) rfl ?_
    replace hm := hm.1 hc3
    refine r_aload_n dX12_count_89 rfl rfl ?_
    refine r_getI (k := 68) cl_12 dX12_count_90 t_1340 (Or.inl rfl) gf_12_68 ?_
    exact r_ireturn dX12_count_93 rfl ⟨by decide, by decide⟩ ⟨_, rfl, hm⟩
  replace hm := hm.2 hc3
  by_cases hc4 : v1 = 4
  · refine r_tableIn (tgt := 94) (off := 93) dX12_count_1 (by rw [hc4]; decide) (by rw [hc4]; decide) (by rw [hc4]; rfl) rfl ?_
    replace hm := hm.1 hc4
    refine r_aload_n dX12_count_94 rfl rfl ?_
    refine r_getI (k := 54) cl_12 dX12_count_95 t_1326 (Or.inl rfl) gf_12_54 ?_
    exact r_ireturn dX12_count_98 rfl ⟨by decide, by decide⟩ ⟨_, rfl, hm⟩
  replace hm := hm.2 hc4
  by_cases hc5 : v1 = 5
  · refine r_tableIn (tgt := 99) (off := 98) dX12_count_1 (by rw [hc5]; decide) (by rw [hc5]; decide) (by rw [hc5]; rfl) rfl ?_
    replace hm := hm.1 hc5
    refine r_aload_n dX12_count_99 rfl rfl ?_
    refine r_getI (k := 83) cl_12 dX12_count_100 t_1355 (Or.inl rfl) gf_12_83 ?_
    exact r_ireturn dX12_count_103 rfl ⟨by decide, by decide⟩ ⟨_, rfl, hm⟩
  replace hm := hm.2 hc5
  by_cases hc6 : v1 = 6
  · refine r_tableIn (tgt := 104) (off := 103) dX12_count_1 (by rw [hc6]; decide) (by rw [hc6]; decide) (by rw [hc6]; rfl) rfl ?_
    replace hm := hm.1 hc6
    refine r_aload_n dX12_count_104 rfl rfl ?_
    refine r_getI (k := 88) cl_12 dX12_count_105 t_1360 (Or.inl rfl) gf_12_88 ?_
    exact r_ireturn dX12_count_108 rfl ⟨by decide, by decide⟩ ⟨_, rfl, hm⟩
  replace hm := hm.2 hc6
  by_cases hc7 : v1 = 7
  · refine r_tableIn (tgt := 109) (off := 108) dX12_count_1 (by rw [hc7]; decide) (by rw [hc7]; decide) (by rw [hc7]; rfl) rfl ?_
    replace hm := hm.1 hc7
    refine r_aload_n dX12_count_109 rfl rfl ?_
    refine r_callVI (d' := d - 1) (as := []) (st := []) cl_12 dX12_count_110 mi_X12_leavesTold t_1998 t_2000 ts_123 rfl rfl (Nat.le_of_ble_eq_true rfl) (by omega) ⟨by decide, by decide⟩ ⟨rfl, rfl⟩ (s_X12_leavesTold (by omega) hm) (fun x1 h2 hm => ?_)
    exact r_ireturn dX12_count_113 rfl ⟨by decide, by decide⟩ ⟨_, rfl, hm⟩
  replace hm := hm.2 hc7
  by_cases hc8 : v1 = 8
  · refine r_tableIn (tgt := 114) (off := 113) dX12_count_1 (by rw [hc8]; decide) (by rw [hc8]; decide) (by rw [hc8]; rfl) rfl ?_
    replace hm := hm.1 hc8
    refine r_aload_n dX12_count_114 rfl rfl ?_
    refine r_callVI (d' := d - 1) (as := []) (st := []) cl_12 dX12_count_115 mi_X12_choicesTold t_2002 t_2004 ts_124 rfl rfl (Nat.le_of_ble_eq_true rfl) (by omega) ⟨by decide, by decide⟩ ⟨rfl, rfl⟩ (s_X12_choicesTold (by omega) hm) (fun x3 h4 hm => ?_)
    exact r_ireturn dX12_count_118 rfl ⟨by decide, by decide⟩ ⟨_, rfl, hm⟩
  replace hm := hm.2 hc8
  by_cases hc9 : v1 = 9
  · refine r_tableIn (tgt := 119) (off := 118) dX12_count_1 (by rw [hc9]; decide) (by rw [hc9]; decide) (by rw [hc9]; rfl) rfl ?_
    replace hm := hm.1 hc9
    refine r_aload_n dX12_count_119 rfl rfl ?_
    refine r_getI (k := 21) cl_12 dX12_count_120 t_1293 (Or.inl rfl) gf_12_21 ?_
    exact r_ireturn dX12_count_123 rfl ⟨by decide, by decide⟩ ⟨_, rfl, hm⟩
  replace hm := hm.2 hc9
  refine r_tableOut (tgt := 124) dX12_count_1 (sw_out (n := 10) (fun k hk => by rcases (show k = 0 ∨ k = 1 ∨ k = 2 ∨ k = 3 ∨ k = 4 ∨ k = 5 ∨ k = 6 ∨ k = 7 ∨ k = 8 ∨ k = 9 by omega) with rfl | rfl | rfl | rfl | rfl | rfl | rfl | rfl | rfl | rfl <;> first | exact hc0 | exact hc1 | exact hc2 | exact hc3 | exact hc4 | exact hc5 | exact hc6 | exact hc7 | exact hc8 | exact hc9)) rfl ?_
  refine r_iconst (v := (-1)) dX12_count_124 rfl ?_
  exact r_ireturn dX12_count_125 rfl ⟨by decide, by decide⟩ ⟨_, rfl, hm⟩
