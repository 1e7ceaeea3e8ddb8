theorem dX12_step_0 : decode cX12_step 0 = .ok (.aload_n 0, 1) := rfl
theorem dX12_step_1 : decode cX12_step 1 = .ok (.invokevirtual 452, 3) := rfl
theorem dX12_step_4 : decode cX12_step 4 = .ok (.aload_n 0, 1) := rfl
theorem dX12_step_5 : decode cX12_step 5 = .ok (.invokevirtual 506, 3) := rfl
theorem dX12_step_8 : decode cX12_step 8 = .ok (.istore_n 1, 1) := rfl
theorem dX12_step_9 : decode cX12_step 9 = .ok (.iload_n 1, 1) := rfl
theorem dX12_step_10 : decode cX12_step 10 = .ok (.ifCond .ge 7, 3) := by decide +kernel
theorem dX12_step_13 : decode cX12_step 13 = .ok (.ldc2_w 205, 3) := rfl
theorem dX12_step_16 : decode cX12_step 16 = .ok (.lreturn, 1) := rfl
theorem dX12_step_17 : decode cX12_step 17 = .ok (.lconst 0, 1) := rfl
theorem dX12_step_18 : decode cX12_step 18 = .ok (.lstore_n 2, 1) := rfl
theorem dX12_step_19 : decode cX12_step 19 = .ok (.aload_n 0, 1) := rfl
theorem dX12_step_20 : decode cX12_step 20 = .ok (.iconst 0, 1) := rfl
theorem dX12_step_21 : decode cX12_step 21 = .ok (.invokevirtual 489, 3) := rfl
theorem dX12_step_24 : decode cX12_step 24 = .ok (.istore 4, 2) := rfl
theorem dX12_step_26 : decode cX12_step 26 = .ok (.iload 4, 2) := rfl
theorem dX12_step_28 : decode cX12_step 28 = .ok (.ifCond .lt 50, 3) := by decide +kernel
theorem dX12_step_31 : decode cX12_step 31 = .ok (.aload_n 0, 1) := rfl
theorem dX12_step_32 : decode cX12_step 32 = .ok (.iload 4, 2) := rfl
theorem dX12_step_34 : decode cX12_step 34 = .ok (.invokevirtual 468, 3) := rfl
theorem dX12_step_37 : decode cX12_step 37 = .ok (.aload_n 0, 1) := rfl
theorem dX12_step_38 : decode cX12_step 38 = .ok (.iload_n 1, 1) := rfl
theorem dX12_step_39 : decode cX12_step 39 = .ok (.bipush 10, 2) := by decide +kernel
theorem dX12_step_41 : decode cX12_step 41 = .ok (.idiv, 1) := rfl
theorem dX12_step_42 : decode cX12_step 42 = .ok (.iconst 0, 1) := rfl
theorem dX12_step_43 : decode cX12_step 43 = .ok (.iconst (-1), 1) := rfl
theorem dX12_step_44 : decode cX12_step 44 = .ok (.invokevirtual 471, 3) := rfl
theorem dX12_step_47 : decode cX12_step 47 = .ok (.lstore 5, 2) := rfl
theorem dX12_step_49 : decode cX12_step 49 = .ok (.lload_n 2, 1) := rfl
theorem dX12_step_50 : decode cX12_step 50 = .ok (.lconst 0, 1) := rfl
theorem dX12_step_51 : decode cX12_step 51 = .ok (.lcmp, 1) := rfl
theorem dX12_step_52 : decode cX12_step 52 = .ok (.ifCond .eq 10, 3) := by decide +kernel
theorem dX12_step_55 : decode cX12_step 55 = .ok (.lload 5, 2) := rfl
theorem dX12_step_57 : decode cX12_step 57 = .ok (.lload_n 2, 1) := rfl
theorem dX12_step_58 : decode cX12_step 58 = .ok (.lcmp, 1) := rfl
theorem dX12_step_59 : decode cX12_step 59 = .ok (.ifCond .ge 6, 3) := by decide +kernel
theorem dX12_step_62 : decode cX12_step 62 = .ok (.lload 5, 2) := rfl
theorem dX12_step_64 : decode cX12_step 64 = .ok (.lstore_n 2, 1) := rfl
theorem dX12_step_65 : decode cX12_step 65 = .ok (.aload_n 0, 1) := rfl
theorem dX12_step_66 : decode cX12_step 66 = .ok (.iload 4, 2) := rfl
theorem dX12_step_68 : decode cX12_step 68 = .ok (.iconst 1, 1) := rfl
theorem dX12_step_69 : decode cX12_step 69 = .ok (.iadd, 1) := rfl
theorem dX12_step_70 : decode cX12_step 70 = .ok (.invokevirtual 489, 3) := rfl
theorem dX12_step_73 : decode cX12_step 73 = .ok (.istore 4, 2) := rfl
theorem dX12_step_75 : decode cX12_step 75 = .ok (.goto (-49), 3) := by decide +kernel
theorem dX12_step_78 : decode cX12_step 78 = .ok (.lload_n 2, 1) := rfl
theorem dX12_step_79 : decode cX12_step 79 = .ok (.lreturn, 1) := rfl
def m_X12_step_65 (k26 : Int32 → Int64 → Int32 → Hp → Prop) (Q : Int64 → Hp → Prop) (v1 : Int32) (v2 : Int64) (v4 : Int32) (h : Hp) : Prop := m_X12_codeFrom (v4 + 1) h (fun (x1 : Int32) (h2 : Hp) => k26 v1 v2 x1 h2)
set_option maxHeartbeats 4000000 in
set_option maxRecDepth 100000 in
theorem s_X12_step_65 {l : Launch} {G : Cx} {d : Nat} {h0 : Hp} (hd : 12 ≤ d) {k26 : Int32 → Int64 → Int32 → Hp → Prop} {Q : Int64 → Hp → Prop} (hk26 : ∀ (v1 : Int32) (v2 : Int64) (v4 : Int32) (hh : Hp), k26 v1 v2 v4 hh → Rn l G d 0 0 MX12_step h0 (qJ Q) 26 [some (tR 12 0 (some 51)), some (tI v1), some (tJ v2), none, some (tI v4)] [] hh 0 0) {v1 : Int32} {v2 : Int64} {v4 : Int32} {h : Hp} (hm : m_X12_step_65 k26 Q v1 v2 v4 h) : Rn l G d 0 0 MX12_step h0 (qJ Q) 65 [some (tR 12 0 (some 51)), some (tI v1), some (tJ v2), none, some (tI v4)] [] h 0 0 := by
  unfold m_X12_step_65 at hm
  refine r_aload_n dX12_step_65 rfl rfl ?_
  refine r_iload dX12_step_66 rfl ?_
  refine r_iconst (v := 1) dX12_step_68 rfl ?_
  refine r_iadd dX12_step_69 ?_
  refine r_callVI (d' := d - 1) (as := [tI (v4 + 1)]) (st := []) cl_12 dX12_step_70 mi_X12_codeFrom t_1820 t_1822 ts_100 rfl rfl (Nat.le_of_ble_eq_true rfl) (by omega) ⟨by decide, by decide⟩ ⟨rfl, rfl⟩ (s_X12_codeFrom (by omega) hm) (fun x1 h2 hm => ?_)
  refine r_istore (L' := [some (tR 12 0 (some 51)), some (tI v1), some (tJ v2), none, some (tI x1)]) dX12_step_73 (by decide) rfl ?_
  refine r_goto (tgt := 26) dX12_step_75 rfl ?_
  refine r_keep (L' := [some (tR 12 0 (some 51)), some (tI v1), some (tJ v2), none, some (tI x1)]) [true, true, true, false, true] rfl ?_
  exact hk26 _ _ _ _ hm
def m_X12_step_62 (k26 : Int32 → Int64 → Int32 → Hp → Prop) (Q : Int64 → Hp → Prop) (v1 : Int32) (v4 : Int32) (v5 : Int64) (h : Hp) : Prop := m_X12_step_65 k26 Q v1 v5 v4 h
set_option maxHeartbeats 4000000 in
set_option maxRecDepth 100000 in
theorem s_X12_step_62 {l : Launch} {G : Cx} {d : Nat} {h0 : Hp} (hd : 12 ≤ d) {k26 : Int32 → Int64 → Int32 → Hp → Prop} {Q : Int64 → Hp → Prop} (hk26 : ∀ (v1 : Int32) (v2 : Int64) (v4 : Int32) (hh : Hp), k26 v1 v2 v4 hh → Rn l G d 0 0 MX12_step h0 (qJ Q) 26 [some (tR 12 0 (some 51)), some (tI v1), some (tJ v2), none, some (tI v4)] [] hh 0 0) {v1 : Int32} {v4 : Int32} {v5 : Int64} {h : Hp} (hm : m_X12_step_62 k26 Q v1 v4 v5 h) : Rn l G d 0 0 MX12_step h0 (qJ Q) 62 [some (tR 12 0 (some 51)), some (tI v1), none, none, some (tI v4), some (tJ v5)] [] h 0 0 := by
  unfold m_X12_step_62 at hm
  refine r_lload dX12_step_62 rfl ?_
  refine r_lstore_n (L' := [some (tR 12 0 (some 51)), some (tI v1), some (tJ v5), none, some (tI v4), some (tJ v5)]) dX12_step_64 rfl (by decide) rfl ?_
  refine r_keep (L' := [some (tR 12 0 (some 51)), some (tI v1), some (tJ v5), none, some (tI v4)]) [true, true, true, false, true] rfl ?_
  exact s_X12_step_65 hd hk26 hm
def m_X12_step_26 : Nat → (Int64 → Hp → Prop) → Int32 → Int64 → Int32 → Hp → Prop
  | 0, _, _, _, _, _ => False
  | n + 1, Q, v1, v2, v4, h => (v4 < 0 → Q v2 h) ∧ (¬ v4 < 0 → m_X12_passesAll v4 h (fun (h4 : Hp) => m_X12_netOf (v1 / 10) 0 (-1) h4 (fun (x5 : Int64) (h6 : Hp) => ((lg_cmp v2 0) = 0 → m_X12_step_62 (fun (v1 : Int32) (v2 : Int64) (v4 : Int32) (hh : Hp) => m_X12_step_26 n Q v1 v2 v4 hh) Q v1 v4 x5 h6) ∧ (¬ (lg_cmp v2 0) = 0 → (0 ≤ (lg_cmp x5 v2) → m_X12_step_65 (fun (v1 : Int32) (v2 : Int64) (v4 : Int32) (hh : Hp) => m_X12_step_26 n Q v1 v2 v4 hh) Q v1 v2 v4 h6) ∧ (¬ 0 ≤ (lg_cmp x5 v2) → m_X12_step_62 (fun (v1 : Int32) (v2 : Int64) (v4 : Int32) (hh : Hp) => m_X12_step_26 n Q v1 v2 v4 hh) Q v1 v4 x5 h6)))))
set_option maxHeartbeats 4000000 in
set_option maxRecDepth 100000 in
theorem s_X12_step_26 {l : Launch} {G : Cx} {d : Nat} {h0 : Hp} (hd : 12 ≤ d) {Q : Int64 → Hp → Prop} : ∀ {n : Nat} {v1 : Int32} {v2 : Int64} {v4 : Int32} {h : Hp}, m_X12_step_26 n Q v1 v2 v4 h → Rn l G d 0 0 MX12_step h0 (qJ Q) 26 [some (tR 12 0 (some 51)), some (tI v1), some (tJ v2), none, some (tI v4)] [] h 0 0 := by
  intro n
  induction n with
  | zero => intro v1 v2 v4 h hm; exact hm.elim
  | succ n ih =>
    intro v1 v2 v4 h hm
    have hk26 := fun (v1 : Int32) (v2 : Int64) (v4 : Int32) (hh : Hp) (hm : m_X12_step_26 n Q v1 v2 v4 hh) => ih hm
    rw [m_X12_step_26] at hm
    refine r_iload dX12_step_26 rfl ?_
    refine r_if_lt (tgt := 78) dX12_step_28 rfl (fun hc => ?_) (fun hc => ?_)
    · replace hm := hm.1 hc
      refine r_lload_n dX12_step_78 rfl rfl ?_
      exact r_lreturn dX12_step_79 rfl ⟨by decide, by decide⟩ ⟨_, rfl, hm⟩
    · replace hm := hm.2 hc
      refine r_aload_n dX12_step_31 rfl rfl ?_
      refine r_iload dX12_step_32 rfl ?_
      refine r_callVU (d' := d - 1) (as := [tI v4]) (st := []) cl_12 dX12_step_34 mi_X12_passesAll t_1790 t_1792 ts_96 rfl rfl (Nat.le_of_ble_eq_true rfl) (by omega) ⟨by decide, by decide⟩ ⟨rfl, rfl⟩ (s_X12_passesAll (by omega) hm) (fun h4 hm => ?_)
      refine r_aload_n dX12_step_37 rfl rfl ?_
      refine r_iload_n dX12_step_38 rfl rfl ?_
      refine r_bipush (v := 10) dX12_step_39 rfl ?_
      refine r_idiv dX12_step_41 (by decide) ?_
      refine r_iconst (v := 0) dX12_step_42 rfl ?_
      refine r_iconst (v := (-1)) dX12_step_43 rfl ?_
      refine r_callVJ (d' := d - 1) (as := [tI (v1 / 10), tI 0, tI (-1)]) (st := []) cl_12 dX12_step_44 mi_X12_netOf t_1794 t_1796 ts_97 rfl rfl (Nat.le_of_ble_eq_true rfl) (by omega) ⟨by decide, by decide⟩ ⟨rfl, rfl⟩ (s_X12_netOf (by omega) hm) (fun x5 h6 hm => ?_)
      refine r_lstore (L' := [some (tR 12 0 (some 51)), some (tI v1), some (tJ v2), none, some (tI v4), some (tJ x5), none]) dX12_step_47 (by decide) rfl ?_
      refine r_lload_n dX12_step_49 rfl rfl ?_
      refine r_lconst (v := 0) dX12_step_50 rfl ?_
      refine r_lcmp dX12_step_51 ?_
      refine r_if_eq (tgt := 62) dX12_step_52 rfl (fun hc => ?_) (fun hc => ?_)
      · replace hm := hm.1 hc
        refine r_keep (L' := [some (tR 12 0 (some 51)), some (tI v1), none, none, some (tI v4), some (tJ x5)]) [true, true, false, false, true, true] rfl ?_
        exact s_X12_step_62 hd hk26 hm
      · replace hm := hm.2 hc
        refine r_lload dX12_step_55 rfl ?_
        refine r_lload_n dX12_step_57 rfl rfl ?_
        refine r_lcmp dX12_step_58 ?_
        refine r_if_ge (tgt := 65) dX12_step_59 rfl (fun hc => ?_) (fun hc => ?_)
        · replace hm := hm.1 hc
          refine r_keep (L' := [some (tR 12 0 (some 51)), some (tI v1), some (tJ v2), none, some (tI v4)]) [true, true, true, false, true] rfl ?_
          exact s_X12_step_65 hd hk26 hm
        · replace hm := hm.2 hc
          refine r_keep (L' := [some (tR 12 0 (some 51)), some (tI v1), none, none, some (tI v4), some (tJ x5)]) [true, true, false, false, true, true] rfl ?_
          exact s_X12_step_62 hd hk26 hm
def m_X12_step  (h : Hp) (Q : Int64 → Hp → Prop) : Prop := m_X12_bundleAtHand h (fun (h8 : Hp) => m_X12_loanAtHand h8 (fun (x9 : Int32) (h10 : Hp) => (0 ≤ x9 → m_X12_codeFrom 0 h10 (fun (x11 : Int32) (h12 : Hp) => ∃ n26, m_X12_step_26 n26 Q x9 0 x11 h12)) ∧ (¬ 0 ≤ x9 → Q (-1) h10)))
set_option maxHeartbeats 4000000 in
set_option maxRecDepth 100000 in
theorem s_X12_step {l : Launch} {G : Cx} {d : Nat} (hd : 12 ≤ d) {h : Hp} {Q : Int64 → Hp → Prop} (hm : m_X12_step h Q) : Ct l G d 0 0 yX12_step MX12_step [tR 12 0 (some 51)] h (qJ Q) := by
  unfold m_X12_step at hm
  refine Ct.of (L := [some (tR 12 0 (some 51))]) (by decide) rfl rfl (Nat.le_of_ble_eq_true rfl) rfl ?_
  refine r_aload_n dX12_step_0 rfl rfl ?_
  refine r_callVU (d' := d - 1) (as := []) (st := []) cl_12 dX12_step_1 mi_X12_bundleAtHand t_1757 t_1759 ts_89 rfl rfl (Nat.le_of_ble_eq_true rfl) (by omega) ⟨by decide, by decide⟩ ⟨rfl, rfl⟩ (s_X12_bundleAtHand (by omega) hm) (fun h8 hm => ?_)
  refine r_aload_n dX12_step_4 rfl rfl ?_
  refine r_callVI (d' := d - 1) (as := []) (st := []) cl_12 dX12_step_5 mi_X12_loanAtHand t_1854 t_1856 ts_105 rfl rfl (Nat.le_of_ble_eq_true rfl) (by omega) ⟨by decide, by decide⟩ ⟨rfl, rfl⟩ (s_X12_loanAtHand (by omega) hm) (fun x9 h10 hm => ?_)
  refine r_istore_n (L' := [some (tR 12 0 (some 51)), some (tI x9)]) dX12_step_8 rfl (by decide) rfl ?_
  refine r_iload_n dX12_step_9 rfl rfl ?_
  refine r_if_ge (tgt := 17) dX12_step_10 rfl (fun hc => ?_) (fun hc => ?_)
  · replace hm := hm.1 hc
    refine r_lconst (v := 0) dX12_step_17 rfl ?_
    refine r_lstore_n (L' := [some (tR 12 0 (some 51)), some (tI x9), some (tJ 0), none]) dX12_step_18 rfl (by decide) rfl ?_
    refine r_aload_n dX12_step_19 rfl rfl ?_
    refine r_iconst (v := 0) dX12_step_20 rfl ?_
    refine r_callVI (d' := d - 1) (as := [tI 0]) (st := []) cl_12 dX12_step_21 mi_X12_codeFrom t_1820 t_1822 ts_100 rfl rfl (Nat.le_of_ble_eq_true rfl) (by omega) ⟨by decide, by decide⟩ ⟨rfl, rfl⟩ (s_X12_codeFrom (by omega) hm) (fun x11 h12 hm => ?_)
    refine r_istore (L' := [some (tR 12 0 (some 51)), some (tI x9), some (tJ 0), none, some (tI x11)]) dX12_step_24 (by decide) rfl ?_
    refine r_keep (L' := [some (tR 12 0 (some 51)), some (tI x9), some (tJ 0), none, some (tI x11)]) [true, true, true, false, true] rfl ?_
    obtain ⟨n, hm⟩ := hm
    refine s_X12_step_26 hd hm
  · replace hm := hm.2 hc
    refine r_ldc2_w dX12_step_13 t_1580 ?_
    exact r_lreturn dX12_step_16 rfl ⟨by decide, by decide⟩ ⟨_, rfl, hm⟩
theorem dX12_bears_0 : decode cX12_bears 0 = .ok (.aload_n 0, 1) := rfl
theorem dX12_bears_1 : decode cX12_bears 1 = .ok (.invokevirtual 452, 3) := rfl
theorem dX12_bears_4 : decode cX12_bears 4 = .ok (.iload_n 1, 1) := rfl
theorem dX12_bears_5 : decode cX12_bears 5 = .ok (.iconst 0, 1) := rfl
theorem dX12_bears_6 : decode cX12_bears 6 = .ok (.bipush 7, 2) := by decide +kernel
theorem dX12_bears_8 : decode cX12_bears 8 = .ok (.invokestatic 185, 3) := rfl
theorem dX12_bears_11 : decode cX12_bears 11 = .ok (.ifCond .eq 12, 3) := by decide +kernel
theorem dX12_bears_14 : decode cX12_bears 14 = .ok (.iload_n 2, 1) := rfl
theorem dX12_bears_15 : decode cX12_bears 15 = .ok (.iconst 0, 1) := rfl
theorem dX12_bears_16 : decode cX12_bears 16 = .ok (.iconst 4, 1) := rfl
theorem dX12_bears_17 : decode cX12_bears 17 = .ok (.invokestatic 185, 3) := rfl
theorem dX12_bears_20 : decode cX12_bears 20 = .ok (.ifCond .ne 7, 3) := by decide +kernel
theorem dX12_bears_23 : decode cX12_bears 23 = .ok (.ldc2_w 466, 3) := rfl
theorem dX12_bears_26 : decode cX12_bears 26 = .ok (.lreturn, 1) := rfl
theorem dX12_bears_27 : decode cX12_bears 27 = .ok (.aload_n 0, 1) := rfl
theorem dX12_bears_28 : decode cX12_bears 28 = .ok (.iconst 1, 1) := rfl
theorem dX12_bears_29 : decode cX12_bears 29 = .ok (.iload_n 2, 1) := rfl
theorem dX12_bears_30 : decode cX12_bears 30 = .ok (.ishl, 1) := rfl
theorem dX12_bears_31 : decode cX12_bears 31 = .ok (.invokevirtual 468, 3) := rfl
theorem dX12_bears_34 : decode cX12_bears 34 = .ok (.aload_n 0, 1) := rfl
theorem dX12_bears_35 : decode cX12_bears 35 = .ok (.iload_n 1, 1) := rfl
theorem dX12_bears_36 : decode cX12_bears 36 = .ok (.iconst 0, 1) := rfl
theorem dX12_bears_37 : decode cX12_bears 37 = .ok (.iconst (-1), 1) := rfl
theorem dX12_bears_38 : decode cX12_bears 38 = .ok (.invokevirtual 471, 3) := rfl
theorem dX12_bears_41 : decode cX12_bears 41 = .ok (.lstore_n 3, 1) := rfl
theorem dX12_bears_42 : decode cX12_bears 42 = .ok (.aload_n 0, 1) := rfl
theorem dX12_bears_43 : decode cX12_bears 43 = .ok (.iconst 0, 1) := rfl
theorem dX12_bears_44 : decode cX12_bears 44 = .ok (.invokevirtual 468, 3) := rfl
theorem dX12_bears_47 : decode cX12_bears 47 = .ok (.lload_n 3, 1) := rfl
theorem dX12_bears_48 : decode cX12_bears 48 = .ok (.aload_n 0, 1) := rfl
theorem dX12_bears_49 : decode cX12_bears 49 = .ok (.iload_n 1, 1) := rfl
theorem dX12_bears_50 : decode cX12_bears 50 = .ok (.iconst 0, 1) := rfl
theorem dX12_bears_51 : decode cX12_bears 51 = .ok (.iconst (-1), 1) := rfl
theorem dX12_bears_52 : decode cX12_bears 52 = .ok (.invokevirtual 471, 3) := rfl
theorem dX12_bears_55 : decode cX12_bears 55 = .ok (.lsub, 1) := rfl
theorem dX12_bears_56 : decode cX12_bears 56 = .ok (.lreturn, 1) := rfl
def m_X12_bears (v1 : Int32) (v2 : Int32) (h : Hp) (Q : Int64 → Hp → Prop) : Prop := m_X12_bundleAtHand h (fun (h2 : Hp) => m_X12_within v1 0 7 h2 (fun (x3 : Int32) (h4 : Hp) => (x3 = 0 → Q (-1000000000000) h4) ∧ (¬ x3 = 0 → m_X12_within v2 0 4 h4 (fun (x5 : Int32) (h6 : Hp) => (¬ x5 = 0 → m_X12_passesAll (1 <<< (v2 &&& 31)) h6 (fun (h8 : Hp) => m_X12_netOf v1 0 (-1) h8 (fun (x9 : Int64) (h10 : Hp) => m_X12_passesAll 0 h10 (fun (h12 : Hp) => m_X12_netOf v1 0 (-1) h12 (fun (x13 : Int64) (h14 : Hp) => Q (x9 - x13) h14))))) ∧ (x5 = 0 → Q (-1000000000000) h6)))))
set_option maxHeartbeats 4000000 in
set_option maxRecDepth 100000 in
theorem s_X12_bears {l : Launch} {G : Cx} {d : Nat} (hd : 8 ≤ d) {v1 : Int32} {v2 : Int32} {h : Hp} {Q : Int64 → Hp → Prop} (hm : m_X12_bears v1 v2 h Q) : Ct l G d 0 0 yX12_bears MX12_bears [tR 12 0 (some 51), tI v1, tI v2] h (qJ Q) := by
  unfold m_X12_bears at hm
  refine Ct.of (L := [some (tR 12 0 (some 51)), some (tI v1), some (tI v2)]) (by decide) rfl rfl (Nat.le_of_ble_eq_true rfl) rfl ?_
  refine r_aload_n dX12_bears_0 rfl rfl ?_
  refine r_callVU (d' := d - 1) (as := []) (st := []) cl_12 dX12_bears_1 mi_X12_bundleAtHand t_1757 t_1759 ts_89 rfl rfl (Nat.le_of_ble_eq_true rfl) (by omega) ⟨by decide, by decide⟩ ⟨rfl, rfl⟩ (s_X12_bundleAtHand (by omega) hm) (fun h2 hm => ?_)
  refine r_iload_n dX12_bears_4 rfl rfl ?_
  refine r_iconst (v := 0) dX12_bears_5 rfl ?_
  refine r_bipush (v := 7) dX12_bears_6 rfl ?_
  refine r_callSI (d' := d - 1) (as := [tI v1, tI 0, tI 7]) (st := []) dX12_bears_8 mi_X12_within t_1557 t_1558 rfl rfl (Nat.le_of_ble_eq_true rfl) (by omega) ⟨by decide, by decide⟩ ⟨rfl, rfl⟩ (s_X12_within (by omega) hm) (fun x3 h4 hm => ?_)
  refine r_if_eq (tgt := 23) dX12_bears_11 rfl (fun hc => ?_) (fun hc => ?_)
  · replace hm := hm.1 hc
    refine r_ldc2_w dX12_bears_23 t_1789 ?_
    exact r_lreturn dX12_bears_26 rfl ⟨by decide, by decide⟩ ⟨_, rfl, hm⟩
  · replace hm := hm.2 hc
    refine r_iload_n dX12_bears_14 rfl rfl ?_
    refine r_iconst (v := 0) dX12_bears_15 rfl ?_
    refine r_iconst (v := 4) dX12_bears_16 rfl ?_
    refine r_callSI (d' := d - 1) (as := [tI v2, tI 0, tI 4]) (st := []) dX12_bears_17 mi_X12_within t_1557 t_1558 rfl rfl (Nat.le_of_ble_eq_true rfl) (by omega) ⟨by decide, by decide⟩ ⟨rfl, rfl⟩ (s_X12_within (by omega) hm) (fun x5 h6 hm => ?_)
    refine r_if_ne (tgt := 27) dX12_bears_20 rfl (fun hc => ?_) (fun hc => ?_)
    · replace hm := hm.1 hc
      refine r_aload_n dX12_bears_27 rfl rfl ?_
      refine r_iconst (v := 1) dX12_bears_28 rfl ?_
      refine r_iload_n dX12_bears_29 rfl rfl ?_
      refine r_ishl dX12_bears_30 ?_
      refine r_callVU (d' := d - 1) (as := [tI (1 <<< (v2 &&& 31))]) (st := []) cl_12 dX12_bears_31 mi_X12_passesAll t_1790 t_1792 ts_96 rfl rfl (Nat.le_of_ble_eq_true rfl) (by omega) ⟨by decide, by decide⟩ ⟨rfl, rfl⟩ (s_X12_passesAll (by omega) hm) (fun h8 hm => ?_)
      refine r_aload_n dX12_bears_34 rfl rfl ?_
      refine r_iload_n dX12_bears_35 rfl rfl ?_
      refine r_iconst (v := 0) dX12_bears_36 rfl ?_
      refine r_iconst (v := (-1)) dX12_bears_37 rfl ?_
      refine r_callVJ (d' := d - 1) (as := [tI v1, tI 0, tI (-1)]) (st := []) cl_12 dX12_bears_38 mi_X12_netOf t_1794 t_1796 ts_97 rfl rfl (Nat.le_of_ble_eq_true rfl) (by omega) ⟨by decide, by decide⟩ ⟨rfl, rfl⟩ (s_X12_netOf (by omega) hm) (fun x9 h10 hm => ?_)
      refine r_lstore_n (L' := [some (tR 12 0 (some 51)), some (tI v1), some (tI v2), some (tJ x9), none]) dX12_bears_41 rfl (by decide) rfl ?_
      refine r_aload_n dX12_bears_42 rfl rfl ?_
      refine r_iconst (v := 0) dX12_bears_43 rfl ?_
      refine r_callVU (d' := d - 1) (as := [tI 0]) (st := []) cl_12 dX12_bears_44 mi_X12_passesAll t_1790 t_1792 ts_96 rfl rfl (Nat.le_of_ble_eq_true rfl) (by omega) ⟨by decide, by decide⟩ ⟨rfl, rfl⟩ (s_X12_passesAll (by omega) hm) (fun h12 hm => ?_)
      refine r_lload_n dX12_bears_47 rfl rfl ?_
      refine r_aload_n dX12_bears_48 rfl rfl ?_
      refine r_iload_n dX12_bears_49 rfl rfl ?_
      refine r_iconst (v := 0) dX12_bears_50 rfl ?_
      refine r_iconst (v := (-1)) dX12_bears_51 rfl ?_
      refine r_callVJ (d' := d - 1) (as := [tI v1, tI 0, tI (-1)]) (st := [tJ x9]) cl_12 dX12_bears_52 mi_X12_netOf t_1794 t_1796 ts_97 rfl rfl (Nat.le_of_ble_eq_true rfl) (by omega) ⟨by decide, by decide⟩ ⟨rfl, rfl⟩ (s_X12_netOf (by omega) hm) (fun x13 h14 hm => ?_)
      refine r_lsub dX12_bears_55 ?_
      exact r_lreturn dX12_bears_56 rfl ⟨by decide, by decide⟩ ⟨_, rfl, hm⟩
    · replace hm := hm.2 hc
      refine r_ldc2_w dX12_bears_23 t_1789 ?_
      exact r_lreturn dX12_bears_26 rfl ⟨by decide, by decide⟩ ⟨_, rfl, hm⟩
theorem dX12_cost_0 : decode cX12_cost 0 = .ok (.aload_n 0, 1) := by decide +kernel
theorem dX12_cost_1 : decode cX12_cost 1 = .ok (.invokevirtual 452, 3) := by decide +kernel
theorem dX12_cost_4 : decode cX12_cost 4 = .ok (.iload_n 1, 1) := by decide +kernel
theorem dX12_cost_5 : decode cX12_cost 5 = .ok (.iload_n 2, 1) := by decide +kernel
theorem dX12_cost_6 : decode cX12_cost 6 = .ok (.invokestatic 486, 3) := by decide +kernel
theorem dX12_cost_9 : decode cX12_cost 9 = .ok (.ifCond .eq 12, 3) := by decide +kernel
theorem dX12_cost_12 : decode cX12_cost 12 = .ok (.iload_n 3, 1) := by decide +kernel
theorem dX12_cost_13 : decode cX12_cost 13 = .ok (.iconst 0, 1) := by decide +kernel
theorem dX12_cost_14 : decode cX12_cost 14 = .ok (.iconst 1, 1) := by decide +kernel
theorem dX12_cost_15 : decode cX12_cost 15 = .ok (.invokestatic 185, 3) := by decide +kernel
theorem dX12_cost_18 : decode cX12_cost 18 = .ok (.ifCond .ne 7, 3) := by decide +kernel
theorem dX12_cost_21 : decode cX12_cost 21 = .ok (.ldc2_w 205, 3) := by decide +kernel
theorem dX12_cost_24 : decode cX12_cost 24 = .ok (.lreturn, 1) := by decide +kernel
theorem dX12_cost_25 : decode cX12_cost 25 = .ok (.aload_n 0, 1) := by decide +kernel
theorem dX12_cost_26 : decode cX12_cost 26 = .ok (.iconst 0, 1) := by decide +kernel
theorem dX12_cost_27 : decode cX12_cost 27 = .ok (.invokevirtual 468, 3) := by decide +kernel
theorem dX12_cost_30 : decode cX12_cost 30 = .ok (.lconst 0, 1) := by decide +kernel
theorem dX12_cost_31 : decode cX12_cost 31 = .ok (.lstore 4, 2) := by decide +kernel
theorem dX12_cost_33 : decode cX12_cost 33 = .ok (.lconst 0, 1) := by decide +kernel
theorem dX12_cost_34 : decode cX12_cost 34 = .ok (.lstore 6, 2) := by decide +kernel
theorem dX12_cost_36 : decode cX12_cost 36 = .ok (.iconst (-1), 1) := by decide +kernel
theorem dX12_cost_37 : decode cX12_cost 37 = .ok (.istore 8, 2) := by decide +kernel
theorem dX12_cost_39 : decode cX12_cost 39 = .ok (.iconst 0, 1) := by decide +kernel
theorem dX12_cost_40 : decode cX12_cost 40 = .ok (.istore 9, 2) := by decide +kernel
theorem dX12_cost_42 : decode cX12_cost 42 = .ok (.iload 9, 2) := by decide +kernel
theorem dX12_cost_44 : decode cX12_cost 44 = .ok (.bipush 8, 2) := by decide +kernel
theorem dX12_cost_46 : decode cX12_cost 46 = .ok (.if_icmp .ge 71, 3) := by decide +kernel
theorem dX12_cost_49 : decode cX12_cost 49 = .ok (.iload 9, 2) := by decide +kernel
theorem dX12_cost_51 : decode cX12_cost 51 = .ok (.iload_n 1, 1) := by decide +kernel
theorem dX12_cost_52 : decode cX12_cost 52 = .ok (.if_icmp .eq 9, 3) := by decide +kernel
theorem dX12_cost_55 : decode cX12_cost 55 = .ok (.iload 9, 2) := by decide +kernel
theorem dX12_cost_57 : decode cX12_cost 57 = .ok (.iload_n 2, 1) := by decide +kernel
theorem dX12_cost_58 : decode cX12_cost 58 = .ok (.if_icmp .ne 7, 3) := by decide +kernel
theorem dX12_cost_61 : decode cX12_cost 61 = .ok (.lconst 0, 1) := by decide +kernel
theorem dX12_cost_62 : decode cX12_cost 62 = .ok (.goto 11, 3) := by decide +kernel
theorem dX12_cost_65 : decode cX12_cost 65 = .ok (.aload_n 0, 1) := by decide +kernel
theorem dX12_cost_66 : decode cX12_cost 66 = .ok (.iload 9, 2) := by decide +kernel
theorem dX12_cost_68 : decode cX12_cost 68 = .ok (.iconst 0, 1) := by decide +kernel
theorem dX12_cost_69 : decode cX12_cost 69 = .ok (.iconst (-1), 1) := by decide +kernel
theorem dX12_cost_70 : decode cX12_cost 70 = .ok (.invokevirtual 471, 3) := by decide +kernel
theorem dX12_cost_73 : decode cX12_cost 73 = .ok (.lstore 10, 2) := by decide +kernel
theorem dX12_cost_75 : decode cX12_cost 75 = .ok (.lload 10, 2) := by decide +kernel
theorem dX12_cost_77 : decode cX12_cost 77 = .ok (.lconst 0, 1) := by decide +kernel
theorem dX12_cost_78 : decode cX12_cost 78 = .ok (.lcmp, 1) := by decide +kernel
theorem dX12_cost_79 : decode cX12_cost 79 = .ok (.ifCond .gt 6, 3) := by decide +kernel
theorem dX12_cost_82 : decode cX12_cost 82 = .ok (.goto 29, 3) := by decide +kernel
theorem dX12_cost_85 : decode cX12_cost 85 = .ok (.lload 4, 2) := by decide +kernel
theorem dX12_cost_87 : decode cX12_cost 87 = .ok (.lload 10, 2) := by decide +kernel
theorem dX12_cost_89 : decode cX12_cost 89 = .ok (.ladd, 1) := by decide +kernel
theorem dX12_cost_90 : decode cX12_cost 90 = .ok (.lstore 4, 2) := by decide +kernel
theorem dX12_cost_92 : decode cX12_cost 92 = .ok (.lload 10, 2) := by decide +kernel
theorem dX12_cost_94 : decode cX12_cost 94 = .ok (.lload 6, 2) := by decide +kernel
theorem dX12_cost_96 : decode cX12_cost 96 = .ok (.lcmp, 1) := by decide +kernel
theorem dX12_cost_97 : decode cX12_cost 97 = .ok (.ifCond .gt 6, 3) := by decide +kernel
theorem dX12_cost_100 : decode cX12_cost 100 = .ok (.goto 11, 3) := by decide +kernel
theorem dX12_cost_103 : decode cX12_cost 103 = .ok (.lload 10, 2) := by decide +kernel
theorem dX12_cost_105 : decode cX12_cost 105 = .ok (.lstore 6, 2) := by decide +kernel
theorem dX12_cost_107 : decode cX12_cost 107 = .ok (.iload 9, 2) := by decide +kernel
theorem dX12_cost_109 : decode cX12_cost 109 = .ok (.istore 8, 2) := by decide +kernel
theorem dX12_cost_111 : decode cX12_cost 111 = .ok (.iinc 9 1, 3) := by decide +kernel
theorem dX12_cost_114 : decode cX12_cost 114 = .ok (.goto (-72), 3) := by decide +kernel
theorem dX12_cost_117 : decode cX12_cost 117 = .ok (.iload_n 3, 1) := by decide +kernel
theorem dX12_cost_118 : decode cX12_cost 118 = .ok (.ifCond .ne 8, 3) := by decide +kernel
theorem dX12_cost_121 : decode cX12_cost 121 = .ok (.lload 4, 2) := by decide +kernel
theorem dX12_cost_123 : decode cX12_cost 123 = .ok (.goto 6, 3) := by decide +kernel
theorem dX12_cost_126 : decode cX12_cost 126 = .ok (.iload 8, 2) := by decide +kernel
theorem dX12_cost_128 : decode cX12_cost 128 = .ok (.i2l, 1) := by decide +kernel
theorem dX12_cost_129 : decode cX12_cost 129 = .ok (.lreturn, 1) := by decide +kernel
def m_X12_cost_117  (Q : Int64 → Hp → Prop) (v3 : Int32) (v4 : Int64) (v8 : Int32) (h : Hp) : Prop := (¬ v3 = 0 → Q v8.toInt64 h) ∧ (v3 = 0 → Q v4 h)
set_option maxHeartbeats 4000000 in
set_option maxRecDepth 100000 in
theorem s_X12_cost_117 {l : Launch} {G : Cx} {d : Nat} {h0 : Hp} (hd : 8 ≤ d) {Q : Int64 → Hp → Prop} {v3 : Int32} {v4 : Int64} {v8 : Int32} {h : Hp} (hm : m_X12_cost_117 Q v3 v4 v8 h) : Rn l G d 0 0 MX12_cost h0 (qJ Q) 117 [none, none, none, some (tI v3), some (tJ v4), none, none, none, some (tI v8)] [] h 0 0 := by
  unfold m_X12_cost_117 at hm
  refine r_iload_n dX12_cost_117 rfl rfl ?_
  refine r_if_ne (tgt := 126) dX12_cost_118 rfl (fun hc => ?_) (fun hc => ?_)
  · replace hm := hm.1 hc
    refine r_iload dX12_cost_126 rfl ?_
    refine r_i2l dX12_cost_128 ?_
    exact r_lreturn dX12_cost_129 rfl ⟨by decide, by decide⟩ ⟨_, rfl, hm⟩
  · replace hm := hm.2 hc
    refine r_lload dX12_cost_121 rfl ?_
    refine r_goto (tgt := 129) dX12_cost_123 rfl ?_
    exact r_lreturn dX12_cost_129 rfl ⟨by decide, by decide⟩ ⟨_, rfl, hm⟩
def m_X12_cost_111 (k42 : Int32 → Int32 → Int32 → Int64 → Int64 → Int32 → Int32 → Hp → Prop) (k117 : Int32 → Int64 → Int32 → Hp → Prop) (Q : Int64 → Hp → Prop) (v1 : Int32) (v2 : Int32) (v3 : Int32) (v4 : Int64) (v6 : Int64) (v8 : Int32) (v9 : Int32) (h : Hp) : Prop := ∀ x1 : Int32, x1 = v9 + 1 → k42 v1 v2 v3 v4 v6 v8 x1 h
set_option maxHeartbeats 4000000 in
set_option maxRecDepth 100000 in
theorem s_X12_cost_111 {l : Launch} {G : Cx} {d : Nat} {h0 : Hp} (hd : 8 ≤ d) {k42 : Int32 → Int32 → Int32 → Int64 → Int64 → Int32 → Int32 → Hp → Prop} {k117 : Int32 → Int64 → Int32 → Hp → Prop} {Q : Int64 → Hp → Prop} (hk42 : ∀ (v1 : Int32) (v2 : Int32) (v3 : Int32) (v4 : Int64) (v6 : Int64) (v8 : Int32) (v9 : Int32) (hh : Hp), k42 v1 v2 v3 v4 v6 v8 v9 hh → Rn l G d 0 0 MX12_cost h0 (qJ Q) 42 [some (tR 12 0 (some 51)), some (tI v1), some (tI v2), some (tI v3), some (tJ v4), none, some (tJ v6), none, some (tI v8), some (tI v9)] [] hh 0 0) (hk117 : ∀ (v3 : Int32) (v4 : Int64) (v8 : Int32) (hh : Hp), k117 v3 v4 v8 hh → Rn l G d 0 0 MX12_cost h0 (qJ Q) 117 [none, none, none, some (tI v3), some (tJ v4), none, none, none, some (tI v8)] [] hh 0 0) {v1 : Int32} {v2 : Int32} {v3 : Int32} {v4 : Int64} {v6 : Int64} {v8 : Int32} {v9 : Int32} {h : Hp} (hm : m_X12_cost_111 k42 k117 Q v1 v2 v3 v4 v6 v8 v9 h) : Rn l G d 0 0 MX12_cost h0 (qJ Q) 111 [some (tR 12 0 (some 51)), some (tI v1), some (tI v2), some (tI v3), some (tJ v4), none, some (tJ v6), none, some (tI v8), some (tI v9)] [] h 0 0 := by
  unfold m_X12_cost_111 at hm
  obtain ⟨x1, e_x1⟩ : ∃ y : Int32, y = v9 + 1 := ⟨_, rfl⟩
  replace hm := hm x1 e_x1
  refine r_iinc (L' := [some (tR 12 0 (some 51)), some (tI v1), some (tI v2), some (tI v3), some (tJ v4), none, some (tJ v6), none, some (tI v8), some (tI x1)]) dX12_cost_111 rfl (by rw [e_x1]; rfl) (by decide) rfl ?_
  refine r_goto (tgt := 42) dX12_cost_114 rfl ?_
  refine r_keep (L' := [some (tR 12 0 (some 51)), some (tI v1), some (tI v2), some (tI v3), some (tJ v4), none, some (tJ v6), none, some (tI v8), some (tI x1)]) [true, true, true, true, true, false, true, false, true, true] rfl ?_
  exact hk42 _ _ _ _ _ _ _ _ hm
def m_X12_cost_73 (k42 : Int32 → Int32 → Int32 → Int64 → Int64 → Int32 → Int32 → Hp → Prop) (k117 : Int32 → Int64 → Int32 → Hp → Prop) (Q : Int64 → Hp → Prop) (v1 : Int32) (v2 : Int32) (v3 : Int32) (v4 : Int64) (v6 : Int64) (v8 : Int32) (v9 : Int32) (s0 : Int64) (h : Hp) : Prop := (0 < (lg_cmp s0 0) → ∀ x2 : Int64, x2 = (v4 + s0) → (0 < (lg_cmp s0 v6) → m_X12_cost_111 k42 k117 Q v1 v2 v3 x2 s0 v9 v9 h) ∧ (¬ 0 < (lg_cmp s0 v6) → m_X12_cost_111 k42 k117 Q v1 v2 v3 x2 v6 v8 v9 h)) ∧ (¬ 0 < (lg_cmp s0 0) → m_X12_cost_111 k42 k117 Q v1 v2 v3 v4 v6 v8 v9 h)
set_option maxHeartbeats 4000000 in
set_option maxRecDepth 100000 in
theorem s_X12_cost_73 {l : Launch} {G : Cx} {d : Nat} {h0 : Hp} (hd : 8 ≤ d) {k42 : Int32 → Int32 → Int32 → Int64 → Int64 → Int32 → Int32 → Hp → Prop} {k117 : Int32 → Int64 → Int32 → Hp → Prop} {Q : Int64 → Hp → Prop} (hk42 : ∀ (v1 : Int32) (v2 : Int32) (v3 : Int32) (v4 : Int64) (v6 : Int64) (v8 : Int32) (v9 : Int32) (hh : Hp), k42 v1 v2 v3 v4 v6 v8 v9 hh → Rn l G d 0 0 MX12_cost h0 (qJ Q) 42 [some (tR 12 0 (some 51)), some (tI v1), some (tI v2), some (tI v3), some (tJ v4), none, some (tJ v6), none, some (tI v8), some (tI v9)] [] hh 0 0) (hk117 : ∀ (v3 : Int32) (v4 : Int64) (v8 : Int32) (hh : Hp), k117 v3 v4 v8 hh → Rn l G d 0 0 MX12_cost h0 (qJ Q) 117 [none, none, none, some (tI v3), some (tJ v4), none, none, none, some (tI v8)] [] hh 0 0) {v1 : Int32} {v2 : Int32} {v3 : Int32} {v4 : Int64} {v6 : Int64} {v8 : Int32} {v9 : Int32} {s0 : Int64} {h : Hp} (hm : m_X12_cost_73 k42 k117 Q v1 v2 v3 v4 v6 v8 v9 s0 h) : Rn l G d 0 0 MX12_cost h0 (qJ Q) 73 [some (tR 12 0 (some 51)), some (tI v1), some (tI v2), some (tI v3), some (tJ v4), none, some (tJ v6), none, some (tI v8), some (tI v9)] [tJ s0] h 0 0 := by
  unfold m_X12_cost_73 at hm
  refine r_lstore (L' := [some (tR 12 0 (some 51)), some (tI v1), some (tI v2), some (tI v3), some (tJ v4), none, some (tJ v6), none, some (tI v8), some (tI v9), some (tJ s0), none]) dX12_cost_73 (by decide) rfl ?_
  refine r_lload dX12_cost_75 rfl ?_
  refine r_lconst (v := 0) dX12_cost_77 rfl ?_
  refine r_lcmp dX12_cost_78 ?_
  refine r_if_gt (tgt := 85) dX12_cost_79 rfl (fun hc => ?_) (fun hc => ?_)
  · replace hm := hm.1 hc
    refine r_lload dX12_cost_85 rfl ?_
    refine r_lload dX12_cost_87 rfl ?_
    refine r_ladd dX12_cost_89 ?_
    refine r_nmJ (fun x2 e_x2 => ?_)
    replace hm := hm x2 e_x2
    refine r_lstore (L' := [some (tR 12 0 (some 51)), some (tI v1), some (tI v2), some (tI v3), some (tJ x2), none, some (tJ v6), none, some (tI v8), some (tI v9), some (tJ s0), none]) dX12_cost_90 (by decide) rfl ?_
    refine r_lload dX12_cost_92 rfl ?_
    refine r_lload dX12_cost_94 rfl ?_
    refine r_lcmp dX12_cost_96 ?_
    refine r_if_gt (tgt := 103) dX12_cost_97 rfl (fun hc => ?_) (fun hc => ?_)
    · replace hm := hm.1 hc
      refine r_lload dX12_cost_103 rfl ?_
      refine r_lstore (L' := [some (tR 12 0 (some 51)), some (tI v1), some (tI v2), some (tI v3), some (tJ x2), none, some (tJ s0), none, some (tI v8), some (tI v9), some (tJ s0), none]) dX12_cost_105 (by decide) rfl ?_
      refine r_iload dX12_cost_107 rfl ?_
      refine r_istore (L' := [some (tR 12 0 (some 51)), some (tI v1), some (tI v2), some (tI v3), some (tJ x2), none, some (tJ s0), none, some (tI v9), some (tI v9), some (tJ s0), none]) dX12_cost_109 (by decide) rfl ?_
      refine r_keep (L' := [some (tR 12 0 (some 51)), some (tI v1), some (tI v2), some (tI v3), some (tJ x2), none, some (tJ s0), none, some (tI v9), some (tI v9)]) [true, true, true, true, true, false, true, false, true, true] rfl ?_
      exact s_X12_cost_111 hd hk42 hk117 hm
    · replace hm := hm.2 hc
      refine r_goto (tgt := 111) dX12_cost_100 rfl ?_
      refine r_keep (L' := [some (tR 12 0 (some 51)), some (tI v1), some (tI v2), some (tI v3), some (tJ x2), none, some (tJ v6), none, some (tI v8), some (tI v9)]) [true, true, true, true, true, false, true, false, true, true] rfl ?_
      exact s_X12_cost_111 hd hk42 hk117 hm
  · replace hm := hm.2 hc
    refine r_goto (tgt := 111) dX12_cost_82 rfl ?_
    refine r_keep (L' := [some (tR 12 0 (some 51)), some (tI v1), some (tI v2), some (tI v3), some (tJ v4), none, some (tJ v6), none, some (tI v8), some (tI v9)]) [true, true, true, true, true, false, true, false, true, true] rfl ?_
    exact s_X12_cost_111 hd hk42 hk117 hm
def m_X12_cost_61 (k42 : Int32 → Int32 → Int32 → Int64 → Int64 → Int32 → Int32 → Hp → Prop) (k117 : Int32 → Int64 → Int32 → Hp → Prop) (Q : Int64 → Hp → Prop) (v1 : Int32) (v2 : Int32) (v3 : Int32) (v4 : Int64) (v6 : Int64) (v8 : Int32) (v9 : Int32) (h : Hp) : Prop := m_X12_cost_73 k42 k117 Q v1 v2 v3 v4 v6 v8 v9 0 h
set_option maxHeartbeats 4000000 in
set_option maxRecDepth 100000 in
theorem s_X12_cost_61 {l : Launch} {G : Cx} {d : Nat} {h0 : Hp} (hd : 8 ≤ d) {k42 : Int32 → Int32 → Int32 → Int64 → Int64 → Int32 → Int32 → Hp → Prop} {k117 : Int32 → Int64 → Int32 → Hp → Prop} {Q : Int64 → Hp → Prop} (hk42 : ∀ (v1 : Int32) (v2 : Int32) (v3 : Int32) (v4 : Int64) (v6 : Int64) (v8 : Int32) (v9 : Int32) (hh : Hp), k42 v1 v2 v3 v4 v6 v8 v9 hh → Rn l G d 0 0 MX12_cost h0 (qJ Q) 42 [some (tR 12 0 (some 51)), some (tI v1), some (tI v2), some (tI v3), some (tJ v4), none, some (tJ v6), none, some (tI v8), some (tI v9)] [] hh 0 0) (hk117 : ∀ (v3 : Int32) (v4 : Int64) (v8 : Int32) (hh : Hp), k117 v3 v4 v8 hh → Rn l G d 0 0 MX12_cost h0 (qJ Q) 117 [none, none, none, some (tI v3), some (tJ v4), none, none, none, some (tI v8)] [] hh 0 0) {v1 : Int32} {v2 : Int32} {v3 : Int32} {v4 : Int64} {v6 : Int64} {v8 : Int32} {v9 : Int32} {h : Hp} (hm : m_X12_cost_61 k42 k117 Q v1 v2 v3 v4 v6 v8 v9 h) : Rn l G d 0 0 MX12_cost h0 (qJ Q) 61 [some (tR 12 0 (some 51)), some (tI v1), some (tI v2), some (tI v3), some (tJ v4), none, some (tJ v6), none, some (tI v8), some (tI v9)] [] h 0 0 := by
  unfold m_X12_cost_61 at hm
  refine r_lconst (v := 0) dX12_cost_61 rfl ?_
  refine r_goto (tgt := 73) dX12_cost_62 rfl ?_
  refine r_keep (L' := [some (tR 12 0 (some 51)), some (tI v1), some (tI v2), some (tI v3), some (tJ v4), none, some (tJ v6), none, some (tI v8), some (tI v9)]) [true, true, true, true, true, false, true, false, true, true] rfl ?_
  exact s_X12_cost_73 hd hk42 hk117 hm
def m_X12_cost_42 : Nat → (Int32 → Int64 → Int32 → Hp → Prop) → (Int64 → Hp → Prop) → Int32 → Int32 → Int32 → Int64 → Int64 → Int32 → Int32 → Hp → Prop
  | 0, _, _, _, _, _, _, _, _, _, _ => False
  | n + 1, k117, Q, v1, v2, v3, v4, v6, v8, v9, h => (8 ≤ v9 → k117 v3 v4 v8 h) ∧ (¬ 8 ≤ v9 → (v9 = v1 → m_X12_cost_61 (fun (v1 : Int32) (v2 : Int32) (v3 : Int32) (v4 : Int64) (v6 : Int64) (v8 : Int32) (v9 : Int32) (hh : Hp) => m_X12_cost_42 n k117 Q v1 v2 v3 v4 v6 v8 v9 hh) k117 Q v1 v2 v3 v4 v6 v8 v9 h) ∧ (¬ v9 = v1 → (¬ v9 = v2 → m_X12_netOf v9 0 (-1) h (fun (x3 : Int64) (h4 : Hp) => m_X12_cost_73 (fun (v1 : Int32) (v2 : Int32) (v3 : Int32) (v4 : Int64) (v6 : Int64) (v8 : Int32) (v9 : Int32) (hh : Hp) => m_X12_cost_42 n k117 Q v1 v2 v3 v4 v6 v8 v9 hh) k117 Q v1 v2 v3 v4 v6 v8 v9 x3 h4)) ∧ (v9 = v2 → m_X12_cost_61 (fun (v1 : Int32) (v2 : Int32) (v3 : Int32) (v4 : Int64) (v6 : Int64) (v8 : Int32) (v9 : Int32) (hh : Hp) => m_X12_cost_42 n k117 Q v1 v2 v3 v4 v6 v8 v9 hh) k117 Q v1 v2 v3 v4 v6 v8 v9 h)))
set_option maxHeartbeats 4000000 in
set_option maxRecDepth 100000 in
theorem s_X12_cost_42 {l : Launch} {G : Cx} {d : Nat} {h0 : Hp} (hd : 8 ≤ d) {k117 : Int32 → Int64 → Int32 → Hp → Prop} {Q : Int64 → Hp → Prop} (hk117 : ∀ (v3 : Int32) (v4 : Int64) (v8 : Int32) (hh : Hp), k117 v3 v4 v8 hh → Rn l G d 0 0 MX12_cost h0 (qJ Q) 117 [none, none, none, some (tI v3), some (tJ v4), none, none, none, some (tI v8)] [] hh 0 0) : ∀ {n : Nat} {v1 : Int32} {v2 : Int32} {v3 : Int32} {v4 : Int64} {v6 : Int64} {v8 : Int32} {v9 : Int32} {h : Hp}, m_X12_cost_42 n k117 Q v1 v2 v3 v4 v6 v8 v9 h → Rn l G d 0 0 MX12_cost h0 (qJ Q) 42 [some (tR 12 0 (some 51)), some (tI v1), some (tI v2), some (tI v3), some (tJ v4), none, some (tJ v6), none, some (tI v8), some (tI v9)] [] h 0 0 := by
  intro n
  induction n with
  | zero => intro v1 v2 v3 v4 v6 v8 v9 h hm; exact hm.elim
  | succ n ih =>
    intro v1 v2 v3 v4 v6 v8 v9 h hm
    have hk42 := fun (v1 : Int32) (v2 : Int32) (v3 : Int32) (v4 : Int64) (v6 : Int64) (v8 : Int32) (v9 : Int32) (hh : Hp) (hm : m_X12_cost_42 n k117 Q v1 v2 v3 v4 v6 v8 v9 hh) => ih hm
    rw [m_X12_cost_42] at hm
    refine r_iload dX12_cost_42 rfl ?_
    refine r_bipush (v := 8) dX12_cost_44 rfl ?_
    refine r_icmp_ge (tgt := 117) dX12_cost_46 rfl (fun hc => ?_) (fun hc => ?_)
    · replace hm := hm.1 hc
      refine r_keep (L' := [none, none, none, some (tI v3), some (tJ v4), none, none, none, some (tI v8)]) [false, false, false, true, true, false, false, false, true] rfl ?_
      exact hk117 _ _ _ _ hm
    · replace hm := hm.2 hc
      refine r_iload dX12_cost_49 rfl ?_
      refine r_iload_n dX12_cost_51 rfl rfl ?_
      refine r_icmp_eq (tgt := 61) dX12_cost_52 rfl (fun hc => ?_) (fun hc => ?_)
      · replace hm := hm.1 hc
        refine r_keep (L' := [some (tR 12 0 (some 51)), some (tI v1), some (tI v2), some (tI v3), some (tJ v4), none, some (tJ v6), none, some (tI v8), some (tI v9)]) [true, true, true, true, true, false, true, false, true, true] rfl ?_
        exact s_X12_cost_61 hd hk42 hk117 hm
      · replace hm := hm.2 hc
        refine r_iload dX12_cost_55 rfl ?_
        refine r_iload_n dX12_cost_57 rfl rfl ?_
        refine r_icmp_ne (tgt := 65) dX12_cost_58 rfl (fun hc => ?_) (fun hc => ?_)
        · replace hm := hm.1 hc
          refine r_aload_n dX12_cost_65 rfl rfl ?_
          refine r_iload dX12_cost_66 rfl ?_
          refine r_iconst (v := 0) dX12_cost_68 rfl ?_
          refine r_iconst (v := (-1)) dX12_cost_69 rfl ?_
          refine r_callVJ (d' := d - 1) (as := [tI v9, tI 0, tI (-1)]) (st := []) cl_12 dX12_cost_70 mi_X12_netOf t_1794 t_1796 ts_97 rfl rfl (Nat.le_of_ble_eq_true rfl) (by omega) ⟨by decide, by decide⟩ ⟨rfl, rfl⟩ (s_X12_netOf (by omega) hm) (fun x3 h4 hm => ?_)
          refine r_keep (L' := [some (tR 12 0 (some 51)), some (tI v1), some (tI v2), some (tI v3), some (tJ v4), none, some (tJ v6), none, some (tI v8), some (tI v9)]) [true, true, true, true, true, false, true, false, true, true] rfl ?_
          exact s_X12_cost_73 hd hk42 hk117 hm
        · replace hm := hm.2 hc
          refine r_keep (L' := [some (tR 12 0 (some 51)), some (tI v1), some (tI v2), some (tI v3), some (tJ v4), none, some (tJ v6), none, some (tI v8), some (tI v9)]) [true, true, true, true, true, false, true, false, true, true] rfl ?_
          exact s_X12_cost_61 hd hk42 hk117 hm
def m_X12_cost (v1 : Int32) (v2 : Int32) (v3 : Int32) (h : Hp) (Q : Int64 → Hp → Prop) : Prop := m_X12_bundleAtHand h (fun (h6 : Hp) => m_X12_areTwo v1 v2 h6 (fun (x7 : Int32) (h8 : Hp) => (x7 = 0 → Q (-1) h8) ∧ (¬ x7 = 0 → m_X12_within v3 0 1 h8 (fun (x9 : Int32) (h10 : Hp) => (¬ x9 = 0 → m_X12_passesAll 0 h10 (fun (h12 : Hp) => ∃ n42, m_X12_cost_42 n42 (m_X12_cost_117 Q) Q v1 v2 v3 0 0 (-1) 0 h12)) ∧ (x9 = 0 → Q (-1) h10)))))
set_option maxHeartbeats 4000000 in
set_option maxRecDepth 100000 in
theorem s_X12_cost {l : Launch} {G : Cx} {d : Nat} (hd : 8 ≤ d) {v1 : Int32} {v2 : Int32} {v3 : Int32} {h : Hp} {Q : Int64 → Hp → Prop} (hm : m_X12_cost v1 v2 v3 h Q) : Ct l G d 0 0 yX12_cost MX12_cost [tR 12 0 (some 51), tI v1, tI v2, tI v3] h (qJ Q) := by
  unfold m_X12_cost at hm
  refine Ct.of (L := [some (tR 12 0 (some 51)), some (tI v1), some (tI v2), some (tI v3)]) (by decide) rfl rfl (Nat.le_of_ble_eq_true rfl) rfl ?_
  refine r_aload_n dX12_cost_0 rfl rfl ?_
  refine r_callVU (d' := d - 1) (as := []) (st := []) cl_12 dX12_cost_1 mi_X12_bundleAtHand t_1757 t_1759 ts_89 rfl rfl (Nat.le_of_ble_eq_true rfl) (by omega) ⟨by decide, by decide⟩ ⟨rfl, rfl⟩ (s_X12_bundleAtHand (by omega) hm) (fun h6 hm => ?_)
  refine r_iload_n dX12_cost_4 rfl rfl ?_
  refine r_iload_n dX12_cost_5 rfl rfl ?_
  refine r_callSI (d' := d - 1) (as := [tI v1, tI v2]) (st := []) dX12_cost_6 mi_X12_areTwo t_1817 t_1818 rfl rfl (Nat.le_of_ble_eq_true rfl) (by omega) ⟨by decide, by decide⟩ ⟨rfl, rfl⟩ (s_X12_areTwo (by omega) hm) (fun x7 h8 hm => ?_)
  refine r_if_eq (tgt := 21) dX12_cost_9 rfl (fun hc => ?_) (fun hc => ?_)
  · replace hm := hm.1 hc
    refine r_ldc2_w dX12_cost_21 t_1580 ?_
    exact r_lreturn dX12_cost_24 rfl ⟨by decide, by decide⟩ ⟨_, rfl, hm⟩
  · replace hm := hm.2 hc
    refine r_iload_n dX12_cost_12 rfl rfl ?_
    refine r_iconst (v := 0) dX12_cost_13 rfl ?_
    refine r_iconst (v := 1) dX12_cost_14 rfl ?_
    refine r_callSI (d' := d - 1) (as := [tI v3, tI 0, tI 1]) (st := []) dX12_cost_15 mi_X12_within t_1557 t_1558 rfl rfl (Nat.le_of_ble_eq_true rfl) (by omega) ⟨by decide, by decide⟩ ⟨rfl, rfl⟩ (s_X12_within (by omega) hm) (fun x9 h10 hm => ?_)
    refine r_if_ne (tgt := 25) dX12_cost_18 rfl (fun hc => ?_) (fun hc => ?_)
    · replace hm := hm.1 hc
      refine r_aload_n dX12_cost_25 rfl rfl ?_
      refine r_iconst (v := 0) dX12_cost_26 rfl ?_
      refine r_callVU (d' := d - 1) (as := [tI 0]) (st := []) cl_12 dX12_cost_27 mi_X12_passesAll t_1790 t_1792 ts_96 rfl rfl (Nat.le_of_ble_eq_true rfl) (by omega) ⟨by decide, by decide⟩ ⟨rfl, rfl⟩ (s_X12_passesAll (by omega) hm) (fun h12 hm => ?_)
      refine r_lconst (v := 0) dX12_cost_30 rfl ?_
      refine r_lstore (L' := [some (tR 12 0 (some 51)), some (tI v1), some (tI v2), some (tI v3), some (tJ 0), none]) dX12_cost_31 (by decide) rfl ?_
      refine r_lconst (v := 0) dX12_cost_33 rfl ?_
      refine r_lstore (L' := [some (tR 12 0 (some 51)), some (tI v1), some (tI v2), some (tI v3), some (tJ 0), none, some (tJ 0), none]) dX12_cost_34 (by decide) rfl ?_
      refine r_iconst (v := (-1)) dX12_cost_36 rfl ?_
      refine r_istore (L' := [some (tR 12 0 (some 51)), some (tI v1), some (tI v2), some (tI v3), some (tJ 0), none, some (tJ 0), none, some (tI (-1))]) dX12_cost_37 (by decide) rfl ?_
      refine r_iconst (v := 0) dX12_cost_39 rfl ?_
      refine r_istore (L' := [some (tR 12 0 (some 51)), some (tI v1), some (tI v2), some (tI v3), some (tJ 0), none, some (tJ 0), none, some (tI (-1)), some (tI 0)]) dX12_cost_40 (by decide) rfl ?_
      refine r_keep (L' := [some (tR 12 0 (some 51)), some (tI v1), some (tI v2), some (tI v3), some (tJ 0), none, some (tJ 0), none, some (tI (-1)), some (tI 0)]) [true, true, true, true, true, false, true, false, true, true] rfl ?_
      obtain ⟨n, hm⟩ := hm
      refine s_X12_cost_42 hd ?_ hm
      · exact (fun _ _ _ _ hm => s_X12_cost_117 hd hm)
    · replace hm := hm.2 hc
      refine r_ldc2_w dX12_cost_21 t_1580 ?_
      exact r_lreturn dX12_cost_24 rfl ⟨by decide, by decide⟩ ⟨_, rfl, hm⟩
theorem dX12_formHere_0 : decode cX12_formHere 0 = .ok (.aload_n 0, 1) := rfl
theorem dX12_formHere_1 : decode cX12_formHere 1 = .ok (.invokevirtual 339, 3) := rfl
theorem dX12_formHere_4 : decode cX12_formHere 4 = .ok (.istore_n 1, 1) := rfl
theorem dX12_formHere_5 : decode cX12_formHere 5 = .ok (.iload_n 1, 1) := rfl
theorem dX12_formHere_6 : decode cX12_formHere 6 = .ok (.iconst 0, 1) := rfl
theorem dX12_formHere_7 : decode cX12_formHere 7 = .ok (.iconst 3, 1) := rfl
theorem dX12_formHere_8 : decode cX12_formHere 8 = .ok (.invokestatic 185, 3) := rfl
theorem dX12_formHere_11 : decode cX12_formHere 11 = .ok (.ifCond .eq 7, 3) := by decide +kernel
theorem dX12_formHere_14 : decode cX12_formHere 14 = .ok (.iload_n 1, 1) := rfl
theorem dX12_formHere_15 : decode cX12_formHere 15 = .ok (.goto 18, 3) := by decide +kernel
theorem dX12_formHere_18 : decode cX12_formHere 18 = .ok (.aload_n 0, 1) := rfl
theorem dX12_formHere_19 : decode cX12_formHere 19 = .ok (.ldc2_w 509, 3) := rfl
theorem dX12_formHere_22 : decode cX12_formHere 22 = .ok (.invokevirtual 224, 3) := rfl
theorem dX12_formHere_25 : decode cX12_formHere 25 = .ok (.ifCond .eq 7, 3) := by decide +kernel
theorem dX12_formHere_28 : decode cX12_formHere 28 = .ok (.iconst 4, 1) := rfl
theorem dX12_formHere_29 : decode cX12_formHere 29 = .ok (.goto 4, 3) := by decide +kernel
theorem dX12_formHere_32 : decode cX12_formHere 32 = .ok (.iconst (-1), 1) := rfl
theorem dX12_formHere_33 : decode cX12_formHere 33 = .ok (.istore_n 2, 1) := rfl
theorem dX12_formHere_34 : decode cX12_formHere 34 = .ok (.aload_n 0, 1) := rfl
theorem dX12_formHere_35 : decode cX12_formHere 35 = .ok (.getfield 220, 3) := rfl
theorem dX12_formHere_38 : decode cX12_formHere 38 = .ok (.ifCond .eq 5, 3) := by decide +kernel
theorem dX12_formHere_41 : decode cX12_formHere 41 = .ok (.iconst 0, 1) := rfl
theorem dX12_formHere_42 : decode cX12_formHere 42 = .ok (.ireturn, 1) := rfl
theorem dX12_formHere_43 : decode cX12_formHere 43 = .ok (.iload_n 2, 1) := rfl
theorem dX12_formHere_44 : decode cX12_formHere 44 = .ok (.ifCond .ge 10, 3) := by decide +kernel
theorem dX12_formHere_47 : decode cX12_formHere 47 = .ok (.aload_n 0, 1) := rfl
theorem dX12_formHere_48 : decode cX12_formHere 48 = .ok (.invokevirtual 231, 3) := rfl
theorem dX12_formHere_51 : decode cX12_formHere 51 = .ok (.goto 7, 3) := by decide +kernel
theorem dX12_formHere_54 : decode cX12_formHere 54 = .ok (.aload_n 0, 1) := rfl
theorem dX12_formHere_55 : decode cX12_formHere 55 = .ok (.invokevirtual 228, 3) := rfl
theorem dX12_formHere_58 : decode cX12_formHere 58 = .ok (.iload_n 2, 1) := rfl
theorem dX12_formHere_59 : decode cX12_formHere 59 = .ok (.ireturn, 1) := rfl
def m_X12_formHere_33  (Q : Int32 → Hp → Prop) (s0 : Int32) (h : Hp) : Prop := ((hI h 51 29) = 0 → (0 ≤ s0 → m_X12_next h (fun (h2 : Hp) => Q s0 h2)) ∧ (¬ 0 ≤ s0 → m_X12_errs h (fun (h4 : Hp) => Q s0 h4))) ∧ (¬ (hI h 51 29) = 0 → Q 0 h)
set_option maxHeartbeats 4000000 in
set_option maxRecDepth 100000 in
theorem s_X12_formHere_33 {l : Launch} {G : Cx} {d : Nat} {h0 : Hp} (hd : 6 ≤ d) {Q : Int32 → Hp → Prop} {s0 : Int32} {h : Hp} (hm : m_X12_formHere_33 Q s0 h) : Rn l G d 0 0 MX12_formHere h0 (qI Q) 33 [some (tR 12 0 (some 51))] [tI s0] h 0 0 := by
  unfold m_X12_formHere_33 at hm
  refine r_istore_n (L' := [some (tR 12 0 (some 51)), none, some (tI s0)]) dX12_formHere_33 rfl (by decide) rfl ?_
  refine r_aload_n dX12_formHere_34 rfl rfl ?_
  refine r_getI (k := 29) cl_12 dX12_formHere_35 t_1301 (Or.inl rfl) gf_12_29 ?_
  refine r_if_eq (tgt := 43) dX12_formHere_38 rfl (fun hc => ?_) (fun hc => ?_)
  · replace hm := hm.1 hc
    refine r_iload_n dX12_formHere_43 rfl rfl ?_
    refine r_if_ge (tgt := 54) dX12_formHere_44 rfl (fun hc => ?_) (fun hc => ?_)
    · replace hm := hm.1 hc
      refine r_aload_n dX12_formHere_54 rfl rfl ?_
      refine r_callVU (d' := d - 1) (as := []) (st := []) cl_12 dX12_formHere_55 mi_X12_next t_1572 t_1574 ts_58 rfl rfl (Nat.le_of_ble_eq_true rfl) (by omega) ⟨by decide, by decide⟩ ⟨rfl, rfl⟩ (s_X12_next (by omega) hm) (fun h2 hm => ?_)
      refine r_iload_n dX12_formHere_58 rfl rfl ?_
      exact r_ireturn dX12_formHere_59 rfl ⟨by decide, by decide⟩ ⟨_, rfl, hm⟩
    · replace hm := hm.2 hc
      refine r_aload_n dX12_formHere_47 rfl rfl ?_
      refine r_callVU (d' := d - 1) (as := []) (st := []) cl_12 dX12_formHere_48 mi_X12_errs t_1595 t_1597 ts_61 rfl rfl (Nat.le_of_ble_eq_true rfl) (by omega) ⟨by decide, by decide⟩ ⟨rfl, rfl⟩ (s_X12_errs (by omega) hm) (fun h4 hm => ?_)
      refine r_goto (tgt := 58) dX12_formHere_51 rfl ?_
      refine r_iload_n dX12_formHere_58 rfl rfl ?_
      exact r_ireturn dX12_formHere_59 rfl ⟨by decide, by decide⟩ ⟨_, rfl, hm⟩
  · replace hm := hm.2 hc
    refine r_iconst (v := 0) dX12_formHere_41 rfl ?_
    exact r_ireturn dX12_formHere_42 rfl ⟨by decide, by decide⟩ ⟨_, rfl, hm⟩
def m_X12_formHere  (h : Hp) (Q : Int32 → Hp → Prop) : Prop := m_X12_kindHere h (fun (x5 : Int32) (h6 : Hp) => m_X12_within x5 0 3 h6 (fun (x7 : Int32) (h8 : Hp) => (x7 = 0 → m_X12_is 1132 h8 (fun (x9 : Int32) (h10 : Hp) => (x9 = 0 → m_X12_formHere_33 Q (-1) h10) ∧ (¬ x9 = 0 → m_X12_formHere_33 Q 4 h10))) ∧ (¬ x7 = 0 → m_X12_formHere_33 Q x5 h8)))
set_option maxHeartbeats 4000000 in
set_option maxRecDepth 100000 in
theorem s_X12_formHere {l : Launch} {G : Cx} {d : Nat} (hd : 6 ≤ d) {h : Hp} {Q : Int32 → Hp → Prop} (hm : m_X12_formHere h Q) : Ct l G d 0 0 yX12_formHere MX12_formHere [tR 12 0 (some 51)] h (qI Q) := by
  unfold m_X12_formHere at hm
  refine Ct.of (L := [some (tR 12 0 (some 51))]) (by decide) rfl rfl (Nat.le_of_ble_eq_true rfl) rfl ?_
  refine r_aload_n dX12_formHere_0 rfl rfl ?_
  refine r_callVI (d' := d - 1) (as := []) (st := []) cl_12 dX12_formHere_1 mi_X12_kindHere t_1583 t_1585 ts_60 rfl rfl (Nat.le_of_ble_eq_true rfl) (by omega) ⟨by decide, by decide⟩ ⟨rfl, rfl⟩ (s_X12_kindHere (by omega) hm) (fun x5 h6 hm => ?_)
  refine r_istore_n (L' := [some (tR 12 0 (some 51)), some (tI x5)]) dX12_formHere_4 rfl (by decide) rfl ?_
  refine r_iload_n dX12_formHere_5 rfl rfl ?_
  refine r_iconst (v := 0) dX12_formHere_6 rfl ?_
  refine r_iconst (v := 3) dX12_formHere_7 rfl ?_
  refine r_callSI (d' := d - 1) (as := [tI x5, tI 0, tI 3]) (st := []) dX12_formHere_8 mi_X12_within t_1557 t_1558 rfl rfl (Nat.le_of_ble_eq_true rfl) (by omega) ⟨by decide, by decide⟩ ⟨rfl, rfl⟩ (s_X12_within (by omega) hm) (fun x7 h8 hm => ?_)
  refine r_if_eq (tgt := 18) dX12_formHere_11 rfl (fun hc => ?_) (fun hc => ?_)
  · replace hm := hm.1 hc
    refine r_aload_n dX12_formHere_18 rfl rfl ?_
    refine r_ldc2_w dX12_formHere_19 t_1887 ?_
    refine r_callVI (d' := d - 1) (as := [tJ 1132]) (st := []) cl_12 dX12_formHere_22 mi_X12_is t_1635 t_1637 ts_69 rfl rfl (Nat.le_of_ble_eq_true rfl) (by omega) ⟨by decide, by decide⟩ ⟨rfl, rfl⟩ (s_X12_is (by omega) hm) (fun x9 h10 hm => ?_)
    refine r_if_eq (tgt := 32) dX12_formHere_25 rfl (fun hc => ?_) (fun hc => ?_)
    · replace hm := hm.1 hc
      refine r_iconst (v := (-1)) dX12_formHere_32 rfl ?_
      refine r_keep (L' := [some (tR 12 0 (some 51))]) [true] rfl ?_
      exact s_X12_formHere_33 hd hm
    · replace hm := hm.2 hc
      refine r_iconst (v := 4) dX12_formHere_28 rfl ?_
      refine r_goto (tgt := 33) dX12_formHere_29 rfl ?_
      refine r_keep (L' := [some (tR 12 0 (some 51))]) [true] rfl ?_
      exact s_X12_formHere_33 hd hm
  · replace hm := hm.2 hc
    refine r_iload_n dX12_formHere_14 rfl rfl ?_
    refine r_goto (tgt := 33) dX12_formHere_15 rfl ?_
    refine r_keep (L' := [some (tR 12 0 (some 51))]) [true] rfl ?_
    exact s_X12_formHere_33 hd hm
theorem dX12_ofHere_0 : decode cX12_ofHere 0 = .ok (.aload_n 0, 1) := rfl
theorem dX12_ofHere_1 : decode cX12_ofHere 1 = .ok (.getfield 220, 3) := rfl
theorem dX12_ofHere_4 : decode cX12_ofHere 4 = .ok (.ifCond .ne 13, 3) := by decide +kernel
theorem dX12_ofHere_7 : decode cX12_ofHere 7 = .ok (.aload_n 0, 1) := rfl
theorem dX12_ofHere_8 : decode cX12_ofHere 8 = .ok (.ldc2_w 511, 3) := rfl
theorem dX12_ofHere_11 : decode cX12_ofHere 11 = .ok (.invokevirtual 224, 3) := rfl
theorem dX12_ofHere_14 : decode cX12_ofHere 14 = .ok (.ifCond .ne 5, 3) := by decide +kernel
theorem dX12_ofHere_17 : decode cX12_ofHere 17 = .ok (.iconst (-1), 1) := rfl
theorem dX12_ofHere_18 : decode cX12_ofHere 18 = .ok (.ireturn, 1) := rfl
theorem dX12_ofHere_19 : decode cX12_ofHere 19 = .ok (.aload_n 0, 1) := rfl
theorem dX12_ofHere_20 : decode cX12_ofHere 20 = .ok (.invokevirtual 228, 3) := rfl
theorem dX12_ofHere_23 : decode cX12_ofHere 23 = .ok (.aload_n 0, 1) := rfl
theorem dX12_ofHere_24 : decode cX12_ofHere 24 = .ok (.invokevirtual 296, 3) := rfl
theorem dX12_ofHere_27 : decode cX12_ofHere 27 = .ok (.ireturn, 1) := rfl
def m_X12_ofHere  (h : Hp) (Q : Int32 → Hp → Prop) : Prop := (¬ (hI h 51 29) = 0 → Q (-1) h) ∧ ((hI h 51 29) = 0 → m_X12_is 411 h (fun (x1 : Int32) (h2 : Hp) => (¬ x1 = 0 → m_X12_next h2 (fun (h4 : Hp) => m_X12_thingOf h4 (fun (x5 : Int32) (h6 : Hp) => Q x5 h6))) ∧ (x1 = 0 → Q (-1) h2)))
set_option maxHeartbeats 4000000 in
set_option maxRecDepth 100000 in
theorem s_X12_ofHere {l : Launch} {G : Cx} {d : Nat} (hd : 8 ≤ d) {h : Hp} {Q : Int32 → Hp → Prop} (hm : m_X12_ofHere h Q) : Ct l G d 0 0 yX12_ofHere MX12_ofHere [tR 12 0 (some 51)] h (qI Q) := by
  unfold m_X12_ofHere at hm
  refine Ct.of (L := [some (tR 12 0 (some 51))]) (by decide) rfl rfl (Nat.le_of_ble_eq_true rfl) rfl ?_
  refine r_aload_n dX12_ofHere_0 rfl rfl ?_
  refine r_getI (k := 29) cl_12 dX12_ofHere_1 t_1301 (Or.inl rfl) gf_12_29 ?_
  refine r_if_ne (tgt := 17) dX12_ofHere_4 rfl (fun hc => ?_) (fun hc => ?_)
  · replace hm := hm.1 hc
    refine r_iconst (v := (-1)) dX12_ofHere_17 rfl ?_
    exact r_ireturn dX12_ofHere_18 rfl ⟨by decide, by decide⟩ ⟨_, rfl, hm⟩
  · replace hm := hm.2 hc
    refine r_aload_n dX12_ofHere_7 rfl rfl ?_
    refine r_ldc2_w dX12_ofHere_8 t_1892 ?_
    refine r_callVI (d' := d - 1) (as := [tJ 411]) (st := []) cl_12 dX12_ofHere_11 mi_X12_is t_1635 t_1637 ts_69 rfl rfl (Nat.le_of_ble_eq_true rfl) (by omega) ⟨by decide, by decide⟩ ⟨rfl, rfl⟩ (s_X12_is (by omega) hm) (fun x1 h2 hm => ?_)
    refine r_if_ne (tgt := 19) dX12_ofHere_14 rfl (fun hc => ?_) (fun hc => ?_)
    · replace hm := hm.1 hc
      refine r_aload_n dX12_ofHere_19 rfl rfl ?_
      refine r_callVU (d' := d - 1) (as := []) (st := []) cl_12 dX12_ofHere_20 mi_X12_next t_1572 t_1574 ts_58 rfl rfl (Nat.le_of_ble_eq_true rfl) (by omega) ⟨by decide, by decide⟩ ⟨rfl, rfl⟩ (s_X12_next (by omega) hm) (fun h4 hm => ?_)
      refine r_aload_n dX12_ofHere_23 rfl rfl ?_
      refine r_callVI (d' := d - 1) (as := []) (st := []) cl_12 dX12_ofHere_24 mi_X12_thingOf t_1612 t_1614 ts_65 rfl rfl (Nat.le_of_ble_eq_true rfl) (by omega) ⟨by decide, by decide⟩ ⟨rfl, rfl⟩ (s_X12_thingOf (by omega) hm) (fun x5 h6 hm => ?_)
      exact r_ireturn dX12_ofHere_27 rfl ⟨by decide, by decide⟩ ⟨_, rfl, hm⟩
    · replace hm := hm.2 hc
      refine r_iconst (v := (-1)) dX12_ofHere_17 rfl ?_
      exact r_ireturn dX12_ofHere_18 rfl ⟨by decide, by decide⟩ ⟨_, rfl, hm⟩
theorem dX12_askedHere_0 : decode cX12_askedHere 0 = .ok (.aload_n 0, 1) := rfl
theorem dX12_askedHere_1 : decode cX12_askedHere 1 = .ok (.getfield 220, 3) := rfl
theorem dX12_askedHere_4 : decode cX12_askedHere 4 = .ok (.ifCond .eq 7, 3) := by decide +kernel
theorem dX12_askedHere_7 : decode cX12_askedHere 7 = .ok (.iconst (-1), 1) := rfl
theorem dX12_askedHere_8 : decode cX12_askedHere 8 = .ok (.goto 46, 3) := by decide +kernel
theorem dX12_askedHere_11 : decode cX12_askedHere 11 = .ok (.aload_n 0, 1) := rfl
theorem dX12_askedHere_12 : decode cX12_askedHere 12 = .ok (.ldc2_w 313, 3) := rfl
theorem dX12_askedHere_15 : decode cX12_askedHere 15 = .ok (.invokevirtual 224, 3) := rfl
theorem dX12_askedHere_18 : decode cX12_askedHere 18 = .ok (.ifCond .eq 7, 3) := by decide +kernel
theorem dX12_askedHere_21 : decode cX12_askedHere 21 = .ok (.iconst 0, 1) := rfl
theorem dX12_askedHere_22 : decode cX12_askedHere 22 = .ok (.goto 32, 3) := by decide +kernel
theorem dX12_askedHere_25 : decode cX12_askedHere 25 = .ok (.aload_n 0, 1) := rfl
theorem dX12_askedHere_26 : decode cX12_askedHere 26 = .ok (.ldc2_w 513, 3) := rfl
theorem dX12_askedHere_29 : decode cX12_askedHere 29 = .ok (.invokevirtual 224, 3) := rfl
theorem dX12_askedHere_32 : decode cX12_askedHere 32 = .ok (.ifCond .eq 7, 3) := by decide +kernel
theorem dX12_askedHere_35 : decode cX12_askedHere 35 = .ok (.iconst 1, 1) := rfl
theorem dX12_askedHere_36 : decode cX12_askedHere 36 = .ok (.goto 18, 3) := by decide +kernel
theorem dX12_askedHere_39 : decode cX12_askedHere 39 = .ok (.aload_n 0, 1) := rfl
theorem dX12_askedHere_40 : decode cX12_askedHere 40 = .ok (.ldc2_w 515, 3) := rfl
theorem dX12_askedHere_43 : decode cX12_askedHere 43 = .ok (.invokevirtual 224, 3) := rfl
theorem dX12_askedHere_46 : decode cX12_askedHere 46 = .ok (.ifCond .eq 7, 3) := by decide +kernel
theorem dX12_askedHere_49 : decode cX12_askedHere 49 = .ok (.iconst 2, 1) := rfl
theorem dX12_askedHere_50 : decode cX12_askedHere 50 = .ok (.goto 4, 3) := by decide +kernel
theorem dX12_askedHere_53 : decode cX12_askedHere 53 = .ok (.iconst (-1), 1) := rfl
theorem dX12_askedHere_54 : decode cX12_askedHere 54 = .ok (.ireturn, 1) := rfl
def m_X12_askedHere  (h : Hp) (Q : Int32 → Hp → Prop) : Prop := ((hI h 51 29) = 0 → m_X12_is 40187 h (fun (x1 : Int32) (h2 : Hp) => (x1 = 0 → m_X12_is 375062 h2 (fun (x3 : Int32) (h4 : Hp) => (x3 = 0 → m_X12_is 267305 h4 (fun (x5 : Int32) (h6 : Hp) => (x5 = 0 → Q (-1) h6) ∧ (¬ x5 = 0 → Q 2 h6))) ∧ (¬ x3 = 0 → Q 1 h4))) ∧ (¬ x1 = 0 → Q 0 h2))) ∧ (¬ (hI h 51 29) = 0 → Q (-1) h)
set_option maxHeartbeats 4000000 in
set_option maxRecDepth 100000 in
theorem s_X12_askedHere {l : Launch} {G : Cx} {d : Nat} (hd : 4 ≤ d) {h : Hp} {Q : Int32 → Hp → Prop} (hm : m_X12_askedHere h Q) : Ct l G d 0 0 yX12_askedHere MX12_askedHere [tR 12 0 (some 51)] h (qI Q) := by
  unfold m_X12_askedHere at hm
  refine Ct.of (L := [some (tR 12 0 (some 51))]) (by decide) rfl rfl (Nat.le_of_ble_eq_true rfl) rfl ?_
  refine r_aload_n dX12_askedHere_0 rfl rfl ?_
  refine r_getI (k := 29) cl_12 dX12_askedHere_1 t_1301 (Or.inl rfl) gf_12_29 ?_
  refine r_if_eq (tgt := 11) dX12_askedHere_4 rfl (fun hc => ?_) (fun hc => ?_)
  · replace hm := hm.1 hc
    refine r_aload_n dX12_askedHere_11 rfl rfl ?_
    refine r_ldc2_w dX12_askedHere_12 t_1641 ?_
    refine r_callVI (d' := d - 1) (as := [tJ 40187]) (st := []) cl_12 dX12_askedHere_15 mi_X12_is t_1635 t_1637 ts_69 rfl rfl (Nat.le_of_ble_eq_true rfl) (by omega) ⟨by decide, by decide⟩ ⟨rfl, rfl⟩ (s_X12_is (by omega) hm) (fun x1 h2 hm => ?_)
    refine r_if_eq (tgt := 25) dX12_askedHere_18 rfl (fun hc => ?_) (fun hc => ?_)
    · replace hm := hm.1 hc
      refine r_aload_n dX12_askedHere_25 rfl rfl ?_
      refine r_ldc2_w dX12_askedHere_26 t_1898 ?_
      refine r_callVI (d' := d - 1) (as := [tJ 375062]) (st := []) cl_12 dX12_askedHere_29 mi_X12_is t_1635 t_1637 ts_69 rfl rfl (Nat.le_of_ble_eq_true rfl) (by omega) ⟨by decide, by decide⟩ ⟨rfl, rfl⟩ (s_X12_is (by omega) hm) (fun x3 h4 hm => ?_)
      refine r_if_eq (tgt := 39) dX12_askedHere_32 rfl (fun hc => ?_) (fun hc => ?_)
      · replace hm := hm.1 hc
        refine r_aload_n dX12_askedHere_39 rfl rfl ?_
        refine r_ldc2_w dX12_askedHere_40 t_1899 ?_
        refine r_callVI (d' := d - 1) (as := [tJ 267305]) (st := []) cl_12 dX12_askedHere_43 mi_X12_is t_1635 t_1637 ts_69 rfl rfl (Nat.le_of_ble_eq_true rfl) (by omega) ⟨by decide, by decide⟩ ⟨rfl, rfl⟩ (s_X12_is (by omega) hm) (fun x5 h6 hm => ?_)
        refine r_if_eq (tgt := 53) dX12_askedHere_46 rfl (fun hc => ?_) (fun hc => ?_)
        · replace hm := hm.1 hc
          refine r_iconst (v := (-1)) dX12_askedHere_53 rfl ?_
          exact r_ireturn dX12_askedHere_54 rfl ⟨by decide, by decide⟩ ⟨_, rfl, hm⟩
        · replace hm := hm.2 hc
          refine r_iconst (v := 2) dX12_askedHere_49 rfl ?_
          refine r_goto (tgt := 54) dX12_askedHere_50 rfl ?_
          exact r_ireturn dX12_askedHere_54 rfl ⟨by decide, by decide⟩ ⟨_, rfl, hm⟩
      · replace hm := hm.2 hc
        refine r_iconst (v := 1) dX12_askedHere_35 rfl ?_
        refine r_goto (tgt := 54) dX12_askedHere_36 rfl ?_
        exact r_ireturn dX12_askedHere_54 rfl ⟨by decide, by decide⟩ ⟨_, rfl, hm⟩
    · replace hm := hm.2 hc
      refine r_iconst (v := 0) dX12_askedHere_21 rfl ?_
      refine r_goto (tgt := 54) dX12_askedHere_22 rfl ?_
      exact r_ireturn dX12_askedHere_54 rfl ⟨by decide, by decide⟩ ⟨_, rfl, hm⟩
  · replace hm := hm.2 hc
    refine r_iconst (v := (-1)) dX12_askedHere_7 rfl ?_
    refine r_goto (tgt := 54) dX12_askedHere_8 rfl ?_
    exact r_ireturn dX12_askedHere_54 rfl ⟨by decide, by decide⟩ ⟨_, rfl, hm⟩
theorem dX12_readBar_0 : decode cX12_readBar 0 = .ok (.aload_n 0, 1) := by decide +kernel
theorem dX12_readBar_1 : decode cX12_readBar 1 = .ok (.ldc2_w 517, 3) := by decide +kernel
theorem dX12_readBar_4 : decode cX12_readBar 4 = .ok (.invokevirtual 305, 3) := by decide +kernel
theorem dX12_readBar_7 : decode cX12_readBar 7 = .ok (.aload_n 0, 1) := by decide +kernel
theorem dX12_readBar_8 : decode cX12_readBar 8 = .ok (.getfield 140, 3) := by decide +kernel
theorem dX12_readBar_11 : decode cX12_readBar 11 = .ok (.iload_n 1, 1) := by decide +kernel
theorem dX12_readBar_12 : decode cX12_readBar 12 = .ok (.aload_n 0, 1) := by decide +kernel
theorem dX12_readBar_13 : decode cX12_readBar 13 = .ok (.invokevirtual 519, 3) := by decide +kernel
theorem dX12_readBar_16 : decode cX12_readBar 16 = .ok (.iastore, 1) := by decide +kernel
theorem dX12_readBar_17 : decode cX12_readBar 17 = .ok (.aload_n 0, 1) := by decide +kernel
theorem dX12_readBar_18 : decode cX12_readBar 18 = .ok (.getfield 143, 3) := by decide +kernel
theorem dX12_readBar_21 : decode cX12_readBar 21 = .ok (.iload_n 1, 1) := by decide +kernel
theorem dX12_readBar_22 : decode cX12_readBar 22 = .ok (.aload_n 0, 1) := by decide +kernel
theorem dX12_readBar_23 : decode cX12_readBar 23 = .ok (.invokevirtual 522, 3) := by decide +kernel
theorem dX12_readBar_26 : decode cX12_readBar 26 = .ok (.iastore, 1) := by decide +kernel
theorem dX12_readBar_27 : decode cX12_readBar 27 = .ok (.aload_n 0, 1) := by decide +kernel
theorem dX12_readBar_28 : decode cX12_readBar 28 = .ok (.getfield 158, 3) := by decide +kernel
theorem dX12_readBar_31 : decode cX12_readBar 31 = .ok (.iload_n 1, 1) := by decide +kernel
theorem dX12_readBar_32 : decode cX12_readBar 32 = .ok (.aload_n 0, 1) := by decide +kernel
theorem dX12_readBar_33 : decode cX12_readBar 33 = .ok (.getfield 220, 3) := by decide +kernel
theorem dX12_readBar_36 : decode cX12_readBar 36 = .ok (.ifCond .ne 17, 3) := by decide +kernel
theorem dX12_readBar_39 : decode cX12_readBar 39 = .ok (.aload_n 0, 1) := by decide +kernel
theorem dX12_readBar_40 : decode cX12_readBar 40 = .ok (.ldc2_w 525, 3) := by decide +kernel
theorem dX12_readBar_43 : decode cX12_readBar 43 = .ok (.invokevirtual 224, 3) := by decide +kernel
theorem dX12_readBar_46 : decode cX12_readBar 46 = .ok (.ifCond .eq 7, 3) := by decide +kernel
theorem dX12_readBar_49 : decode cX12_readBar 49 = .ok (.iconst 1, 1) := by decide +kernel
theorem dX12_readBar_50 : decode cX12_readBar 50 = .ok (.goto 4, 3) := by decide +kernel
theorem dX12_readBar_53 : decode cX12_readBar 53 = .ok (.iconst 0, 1) := by decide +kernel
theorem dX12_readBar_54 : decode cX12_readBar 54 = .ok (.bastore, 1) := by decide +kernel
theorem dX12_readBar_55 : decode cX12_readBar 55 = .ok (.aload_n 0, 1) := by decide +kernel
theorem dX12_readBar_56 : decode cX12_readBar 56 = .ok (.getfield 152, 3) := by decide +kernel
theorem dX12_readBar_59 : decode cX12_readBar 59 = .ok (.iload_n 1, 1) := by decide +kernel
theorem dX12_readBar_60 : decode cX12_readBar 60 = .ok (.iconst 0, 1) := by decide +kernel
theorem dX12_readBar_61 : decode cX12_readBar 61 = .ok (.iastore, 1) := by decide +kernel
theorem dX12_readBar_62 : decode cX12_readBar 62 = .ok (.aload_n 0, 1) := by decide +kernel
theorem dX12_readBar_63 : decode cX12_readBar 63 = .ok (.getfield 155, 3) := by decide +kernel
theorem dX12_readBar_66 : decode cX12_readBar 66 = .ok (.iload_n 1, 1) := by decide +kernel
theorem dX12_readBar_67 : decode cX12_readBar 67 = .ok (.iconst (-1), 1) := by decide +kernel
theorem dX12_readBar_68 : decode cX12_readBar 68 = .ok (.iastore, 1) := by decide +kernel
theorem dX12_readBar_69 : decode cX12_readBar 69 = .ok (.aload_n 0, 1) := by decide +kernel
theorem dX12_readBar_70 : decode cX12_readBar 70 = .ok (.getfield 158, 3) := by decide +kernel
theorem dX12_readBar_73 : decode cX12_readBar 73 = .ok (.iload_n 1, 1) := by decide +kernel
theorem dX12_readBar_74 : decode cX12_readBar 74 = .ok (.baload, 1) := by decide +kernel
theorem dX12_readBar_75 : decode cX12_readBar 75 = .ok (.ifCond .eq 91, 3) := by decide +kernel
theorem dX12_readBar_78 : decode cX12_readBar 78 = .ok (.aload_n 0, 1) := by decide +kernel
theorem dX12_readBar_79 : decode cX12_readBar 79 = .ok (.invokevirtual 228, 3) := by decide +kernel
theorem dX12_readBar_82 : decode cX12_readBar 82 = .ok (.aload_n 0, 1) := by decide +kernel
theorem dX12_readBar_83 : decode cX12_readBar 83 = .ok (.getfield 146, 3) := by decide +kernel
theorem dX12_readBar_86 : decode cX12_readBar 86 = .ok (.iload_n 1, 1) := by decide +kernel
theorem dX12_readBar_87 : decode cX12_readBar 87 = .ok (.aload_n 0, 1) := by decide +kernel
theorem dX12_readBar_88 : decode cX12_readBar 88 = .ok (.invokevirtual 519, 3) := by decide +kernel
theorem dX12_readBar_91 : decode cX12_readBar 91 = .ok (.iastore, 1) := by decide +kernel
theorem dX12_readBar_92 : decode cX12_readBar 92 = .ok (.aload_n 0, 1) := by decide +kernel
theorem dX12_readBar_93 : decode cX12_readBar 93 = .ok (.getfield 149, 3) := by decide +kernel
theorem dX12_readBar_96 : decode cX12_readBar 96 = .ok (.iload_n 1, 1) := by decide +kernel
theorem dX12_readBar_97 : decode cX12_readBar 97 = .ok (.aload_n 0, 1) := by decide +kernel
theorem dX12_readBar_98 : decode cX12_readBar 98 = .ok (.invokevirtual 522, 3) := by decide +kernel
theorem dX12_readBar_101 : decode cX12_readBar 101 = .ok (.iastore, 1) := by decide +kernel
theorem dX12_readBar_102 : decode cX12_readBar 102 = .ok (.aload_n 0, 1) := by decide +kernel
theorem dX12_readBar_103 : decode cX12_readBar 103 = .ok (.invokevirtual 527, 3) := by decide +kernel
theorem dX12_readBar_106 : decode cX12_readBar 106 = .ok (.ifCond .lt 25, 3) := by decide +kernel
theorem dX12_readBar_109 : decode cX12_readBar 109 = .ok (.aload_n 0, 1) := by decide +kernel
theorem dX12_readBar_110 : decode cX12_readBar 110 = .ok (.getfield 152, 3) := by decide +kernel
theorem dX12_readBar_113 : decode cX12_readBar 113 = .ok (.iload_n 1, 1) := by decide +kernel
theorem dX12_readBar_114 : decode cX12_readBar 114 = .ok (.dup2, 1) := by decide +kernel
theorem dX12_readBar_115 : decode cX12_readBar 115 = .ok (.iaload, 1) := by decide +kernel
theorem dX12_readBar_116 : decode cX12_readBar 116 = .ok (.iconst 1, 1) := by decide +kernel
theorem dX12_readBar_117 : decode cX12_readBar 117 = .ok (.aload_n 0, 1) := by decide +kernel
theorem dX12_readBar_118 : decode cX12_readBar 118 = .ok (.invokevirtual 527, 3) := by decide +kernel
theorem dX12_readBar_121 : decode cX12_readBar 121 = .ok (.ishl, 1) := by decide +kernel
theorem dX12_readBar_122 : decode cX12_readBar 122 = .ok (.ior, 1) := by decide +kernel
theorem dX12_readBar_123 : decode cX12_readBar 123 = .ok (.iastore, 1) := by decide +kernel
theorem dX12_readBar_124 : decode cX12_readBar 124 = .ok (.aload_n 0, 1) := by decide +kernel
theorem dX12_readBar_125 : decode cX12_readBar 125 = .ok (.invokevirtual 228, 3) := by decide +kernel
theorem dX12_readBar_128 : decode cX12_readBar 128 = .ok (.goto (-26), 3) := by decide +kernel
theorem dX12_readBar_131 : decode cX12_readBar 131 = .ok (.aload_n 0, 1) := by decide +kernel
theorem dX12_readBar_132 : decode cX12_readBar 132 = .ok (.getfield 220, 3) := by decide +kernel
theorem dX12_readBar_135 : decode cX12_readBar 135 = .ok (.ifCond .ne 31, 3) := by decide +kernel
theorem dX12_readBar_138 : decode cX12_readBar 138 = .ok (.aload_n 0, 1) := by decide +kernel
theorem dX12_readBar_139 : decode cX12_readBar 139 = .ok (.ldc2_w 530, 3) := by decide +kernel
theorem dX12_readBar_142 : decode cX12_readBar 142 = .ok (.invokevirtual 224, 3) := by decide +kernel
theorem dX12_readBar_145 : decode cX12_readBar 145 = .ok (.ifCond .eq 21, 3) := by decide +kernel
theorem dX12_readBar_148 : decode cX12_readBar 148 = .ok (.aload_n 0, 1) := by decide +kernel
theorem dX12_readBar_149 : decode cX12_readBar 149 = .ok (.invokevirtual 228, 3) := by decide +kernel
theorem dX12_readBar_152 : decode cX12_readBar 152 = .ok (.aload_n 0, 1) := by decide +kernel
theorem dX12_readBar_153 : decode cX12_readBar 153 = .ok (.getfield 155, 3) := by decide +kernel
theorem dX12_readBar_156 : decode cX12_readBar 156 = .ok (.iload_n 1, 1) := by decide +kernel
theorem dX12_readBar_157 : decode cX12_readBar 157 = .ok (.aload_n 0, 1) := by decide +kernel
theorem dX12_readBar_158 : decode cX12_readBar 158 = .ok (.iconst 0, 1) := by decide +kernel
theorem dX12_readBar_159 : decode cX12_readBar 159 = .ok (.sipush 9999, 3) := by decide +kernel
theorem dX12_readBar_162 : decode cX12_readBar 162 = .ok (.invokevirtual 299, 3) := by decide +kernel
theorem dX12_readBar_165 : decode cX12_readBar 165 = .ok (.iastore, 1) := by decide +kernel
theorem dX12_readBar_166 : decode cX12_readBar 166 = .ok (.aload_n 0, 1) := by decide +kernel
theorem dX12_readBar_167 : decode cX12_readBar 167 = .ok (.getfield 220, 3) := by decide +kernel
theorem dX12_readBar_170 : decode cX12_readBar 170 = .ok (.ifCond .eq 4, 3) := by decide +kernel
theorem dX12_readBar_173 : decode cX12_readBar 173 = .ok (.return_, 1) := by decide +kernel
theorem dX12_readBar_174 : decode cX12_readBar 174 = .ok (.aload_n 0, 1) := by decide +kernel
theorem dX12_readBar_175 : decode cX12_readBar 175 = .ok (.getfield 214, 3) := by decide +kernel
theorem dX12_readBar_178 : decode cX12_readBar 178 = .ok (.bipush 59, 2) := by decide +kernel
theorem dX12_readBar_180 : decode cX12_readBar 180 = .ok (.if_icmp .ne 10, 3) := by decide +kernel
theorem dX12_readBar_183 : decode cX12_readBar 183 = .ok (.aload_n 0, 1) := by decide +kernel
theorem dX12_readBar_184 : decode cX12_readBar 184 = .ok (.invokevirtual 228, 3) := by decide +kernel
theorem dX12_readBar_187 : decode cX12_readBar 187 = .ok (.goto 7, 3) := by decide +kernel
theorem dX12_readBar_190 : decode cX12_readBar 190 = .ok (.aload_n 0, 1) := by decide +kernel
theorem dX12_readBar_191 : decode cX12_readBar 191 = .ok (.invokevirtual 231, 3) := by decide +kernel
theorem dX12_readBar_194 : decode cX12_readBar 194 = .ok (.return_, 1) := by decide +kernel
def m_X12_readBar_166  (Q : Hp → Prop) (h : Hp) : Prop := ((hI h 51 29) = 0 → (¬ (hI h 51 26) = 59 → m_X12_errs h (fun (h2 : Hp) => Q h2)) ∧ ((hI h 51 26) = 59 → m_X12_next h (fun (h4 : Hp) => Q h4))) ∧ (¬ (hI h 51 29) = 0 → Q h)
set_option maxHeartbeats 4000000 in
set_option maxRecDepth 100000 in
theorem s_X12_readBar_166 {l : Launch} {G : Cx} {d : Nat} {h0 : Hp} (hd : 10 ≤ d) {Q : Hp → Prop} {h : Hp} (hm : m_X12_readBar_166 Q h) : Rn l G d 0 0 MX12_readBar h0 (qV Q) 166 [some (tR 12 0 (some 51))] [] h 0 0 := by
  unfold m_X12_readBar_166 at hm
  refine r_aload_n dX12_readBar_166 rfl rfl ?_
  refine r_getI (k := 29) cl_12 dX12_readBar_167 t_1301 (Or.inl rfl) gf_12_29 ?_
  refine r_if_eq (tgt := 174) dX12_readBar_170 rfl (fun hc => ?_) (fun hc => ?_)
  · replace hm := hm.1 hc
    refine r_aload_n dX12_readBar_174 rfl rfl ?_
    refine r_getI (k := 26) cl_12 dX12_readBar_175 t_1298 (Or.inl rfl) gf_12_26 ?_
    refine r_bipush (v := 59) dX12_readBar_178 rfl ?_
    refine r_icmp_ne (tgt := 190) dX12_readBar_180 rfl (fun hc => ?_) (fun hc => ?_)
    · replace hm := hm.1 hc
      refine r_aload_n dX12_readBar_190 rfl rfl ?_
      refine r_callVU (d' := d - 1) (as := []) (st := []) cl_12 dX12_readBar_191 mi_X12_errs t_1595 t_1597 ts_61 rfl rfl (Nat.le_of_ble_eq_true rfl) (by omega) ⟨by decide, by decide⟩ ⟨rfl, rfl⟩ (s_X12_errs (by omega) hm) (fun h2 hm => ?_)
      exact r_return dX12_readBar_194 rfl ⟨by decide, by decide⟩ ⟨rfl, hm⟩
    · replace hm := hm.2 hc
      refine r_aload_n dX12_readBar_183 rfl rfl ?_
      refine r_callVU (d' := d - 1) (as := []) (st := []) cl_12 dX12_readBar_184 mi_X12_next t_1572 t_1574 ts_58 rfl rfl (Nat.le_of_ble_eq_true rfl) (by omega) ⟨by decide, by decide⟩ ⟨rfl, rfl⟩ (s_X12_next (by omega) hm) (fun h4 hm => ?_)
      refine r_goto (tgt := 194) dX12_readBar_187 rfl ?_
      exact r_return dX12_readBar_194 rfl ⟨by decide, by decide⟩ ⟨rfl, hm⟩
  · replace hm := hm.2 hc
    exact r_return dX12_readBar_173 rfl ⟨by decide, by decide⟩ ⟨rfl, hm⟩
def m_X12_readBar_131  (Q : Hp → Prop) (v1 : Int32) (h : Hp) : Prop := (¬ (hI h 51 29) = 0 → m_X12_readBar_166 Q h) ∧ ((hI h 51 29) = 0 → m_X12_is 335207579 h (fun (x5 : Int32) (h6 : Hp) => (x5 = 0 → m_X12_readBar_166 Q h6) ∧ (¬ x5 = 0 → m_X12_next h6 (fun (h8 : Hp) => m_X12_numeral 0 9999 h8 (fun (x9 : Int32) (h10 : Hp) => vp_in v1 240 ∧ (m_X12_readBar_166 Q (wI h10 98 (ix v1) x9)))))))
set_option maxHeartbeats 4000000 in
set_option maxRecDepth 100000 in
theorem s_X12_readBar_131 {l : Launch} {G : Cx} {d : Nat} {h0 : Hp} (hd : 10 ≤ d) {Q : Hp → Prop} {v1 : Int32} {h : Hp} (hm : m_X12_readBar_131 Q v1 h) : Rn l G d 0 0 MX12_readBar h0 (qV Q) 131 [some (tR 12 0 (some 51)), some (tI v1)] [] h 0 0 := by
  unfold m_X12_readBar_131 at hm
  refine r_aload_n dX12_readBar_131 rfl rfl ?_
  refine r_getI (k := 29) cl_12 dX12_readBar_132 t_1301 (Or.inl rfl) gf_12_29 ?_
  refine r_if_ne (tgt := 166) dX12_readBar_135 rfl (fun hc => ?_) (fun hc => ?_)
  · replace hm := hm.1 hc
    refine r_keep (L' := [some (tR 12 0 (some 51))]) [true] rfl ?_
    exact s_X12_readBar_166 hd hm
  · replace hm := hm.2 hc
    refine r_aload_n dX12_readBar_138 rfl rfl ?_
    refine r_ldc2_w dX12_readBar_139 t_1900 ?_
    refine r_callVI (d' := d - 1) (as := [tJ 335207579]) (st := []) cl_12 dX12_readBar_142 mi_X12_is t_1635 t_1637 ts_69 rfl rfl (Nat.le_of_ble_eq_true rfl) (by omega) ⟨by decide, by decide⟩ ⟨rfl, rfl⟩ (s_X12_is (by omega) hm) (fun x5 h6 hm => ?_)
    refine r_if_eq (tgt := 166) dX12_readBar_145 rfl (fun hc => ?_) (fun hc => ?_)
    · replace hm := hm.1 hc
      refine r_keep (L' := [some (tR 12 0 (some 51))]) [true] rfl ?_
      exact s_X12_readBar_166 hd hm
    · replace hm := hm.2 hc
      refine r_aload_n dX12_readBar_148 rfl rfl ?_
      refine r_callVU (d' := d - 1) (as := []) (st := []) cl_12 dX12_readBar_149 mi_X12_next t_1572 t_1574 ts_58 rfl rfl (Nat.le_of_ble_eq_true rfl) (by omega) ⟨by decide, by decide⟩ ⟨rfl, rfl⟩ (s_X12_next (by omega) hm) (fun h8 hm => ?_)
      refine r_aload_n dX12_readBar_152 rfl rfl ?_
      refine r_getC (k := 76) cl_12 dX12_readBar_153 t_1348 gf_12_76.1 gf_12_76.2 (gc_12_76 _) ?_
      refine r_iload_n dX12_readBar_156 rfl rfl ?_
      refine r_aload_n dX12_readBar_157 rfl rfl ?_
      refine r_iconst (v := 0) dX12_readBar_158 rfl ?_
      refine r_sipush (v := 9999) dX12_readBar_159 rfl ?_
      refine r_callVI (d' := d - 1) (as := [tI 0, tI 9999]) (st := [tI v1, tR 40 240 (some 98)]) cl_12 dX12_readBar_162 mi_X12_numeral t_1626 t_1628 ts_67 rfl rfl (Nat.le_of_ble_eq_true rfl) (by omega) ⟨by decide, by decide⟩ ⟨rfl, rfl⟩ (s_X12_numeral (by omega) hm) (fun x9 h10 hm => ?_)
      refine r_iast dX12_readBar_165 hm.1 ?_
      replace hm := hm.2
      refine r_keep (L' := [some (tR 12 0 (some 51))]) [true] rfl ?_
      exact s_X12_readBar_166 hd hm
def m_X12_readBar_102 : Nat → (Int32 → Hp → Prop) → (Hp → Prop) → Int32 → Hp → Prop
  | 0, _, _, _, _ => False
  | n + 1, k131, Q, v1, h => m_X12_askedHere h (fun (x11 : Int32) (h12 : Hp) => (x11 < 0 → k131 v1 h12) ∧ (¬ x11 < 0 → vp_in v1 240 ∧ (m_X12_askedHere h12 (fun (x13 : Int32) (h14 : Hp) => vp_in v1 240 ∧ (m_X12_next (wI h14 97 (ix v1) ((hI h12 97 (ix v1)) ||| (1 <<< (x13 &&& 31)))) (fun (h16 : Hp) => m_X12_readBar_102 n k131 Q v1 h16))))))
set_option maxHeartbeats 4000000 in
set_option maxRecDepth 100000 in
theorem s_X12_readBar_102 {l : Launch} {G : Cx} {d : Nat} {h0 : Hp} (hd : 10 ≤ d) {k131 : Int32 → Hp → Prop} {Q : Hp → Prop} (hk131 : ∀ (v1 : Int32) (hh : Hp), k131 v1 hh → Rn l G d 0 0 MX12_readBar h0 (qV Q) 131 [some (tR 12 0 (some 51)), some (tI v1)] [] hh 0 0) : ∀ {n : Nat} {v1 : Int32} {h : Hp}, m_X12_readBar_102 n k131 Q v1 h → Rn l G d 0 0 MX12_readBar h0 (qV Q) 102 [some (tR 12 0 (some 51)), some (tI v1)] [] h 0 0 := by
  intro n
  induction n with
  | zero => intro v1 h hm; exact hm.elim
  | succ n ih =>
    intro v1 h hm
    have hk102 := fun (v1 : Int32) (hh : Hp) (hm : m_X12_readBar_102 n k131 Q v1 hh) => ih hm
    rw [m_X12_readBar_102] at hm
    refine r_aload_n dX12_readBar_102 rfl rfl ?_
    refine r_callVI (d' := d - 1) (as := []) (st := []) cl_12 dX12_readBar_103 mi_X12_askedHere t_1894 t_1896 ts_110 rfl rfl (Nat.le_of_ble_eq_true rfl) (by omega) ⟨by decide, by decide⟩ ⟨rfl, rfl⟩ (s_X12_askedHere (by omega) hm) (fun x11 h12 hm => ?_)
    refine r_if_lt (tgt := 131) dX12_readBar_106 rfl (fun hc => ?_) (fun hc => ?_)
    · replace hm := hm.1 hc
      refine r_keep (L' := [some (tR 12 0 (some 51)), some (tI v1)]) [true, true] rfl ?_
      exact hk131 _ _ hm
    · replace hm := hm.2 hc
      refine r_aload_n dX12_readBar_109 rfl rfl ?_
      refine r_getC (k := 75) cl_12 dX12_readBar_110 t_1347 gf_12_75.1 gf_12_75.2 (gc_12_75 _) ?_
      refine r_iload_n dX12_readBar_113 rfl rfl ?_
      refine r_dup2 dX12_readBar_114 rfl cv_cat1R ?_
      refine r_iald dX12_readBar_115 hm.1 ?_
      replace hm := hm.2
      refine r_iconst (v := 1) dX12_readBar_116 rfl ?_
      refine r_aload_n dX12_readBar_117 rfl rfl ?_
      refine r_callVI (d' := d - 1) (as := []) (st := [tI 1, tI (hI h12 97 (ix v1)), tI v1, tR 40 240 (some 97)]) cl_12 dX12_readBar_118 mi_X12_askedHere t_1894 t_1896 ts_110 rfl rfl (Nat.le_of_ble_eq_true rfl) (by omega) ⟨by decide, by decide⟩ ⟨rfl, rfl⟩ (s_X12_askedHere (by omega) hm) (fun x13 h14 hm => ?_)
      refine r_ishl dX12_readBar_121 ?_
      refine r_ior dX12_readBar_122 ?_
      refine r_iast dX12_readBar_123 hm.1 ?_
      replace hm := hm.2
      refine r_aload_n dX12_readBar_124 rfl rfl ?_
      refine r_callVU (d' := d - 1) (as := []) (st := []) cl_12 dX12_readBar_125 mi_X12_next t_1572 t_1574 ts_58 rfl rfl (Nat.le_of_ble_eq_true rfl) (by omega) ⟨by decide, by decide⟩ ⟨rfl, rfl⟩ (s_X12_next (by omega) hm) (fun h16 hm => ?_)
      refine r_goto (tgt := 102) dX12_readBar_128 rfl ?_
      refine r_keep (L' := [some (tR 12 0 (some 51)), some (tI v1)]) [true, true] rfl ?_
      exact hk102 _ _ hm
def m_X12_readBar_54  (Q : Hp → Prop) (v1 : Int32) (s1 : Int32) (s2 : Int32) (h : Hp) : Prop := vp_in s1 240 ∧ (vp_in v1 240 ∧ (vp_in v1 240 ∧ (vp_in v1 240 ∧ (((hI (wI (wI (wI h 99 (ix s1) (s2 &&& 1)) 97 (ix v1) 0) 98 (ix v1) (-1)) 99 (ix v1)) = 0 → m_X12_readBar_166 Q (wI (wI (wI h 99 (ix s1) (s2 &&& 1)) 97 (ix v1) 0) 98 (ix v1) (-1))) ∧ (¬ (hI (wI (wI (wI h 99 (ix s1) (s2 &&& 1)) 97 (ix v1) 0) 98 (ix v1) (-1)) 99 (ix v1)) = 0 → m_X12_next (wI (wI (wI h 99 (ix s1) (s2 &&& 1)) 97 (ix v1) 0) 98 (ix v1) (-1)) (fun (h18 : Hp) => m_X12_formHere h18 (fun (x19 : Int32) (h20 : Hp) => vp_in v1 240 ∧ (m_X12_ofHere (wI h20 95 (ix v1) x19) (fun (x21 : Int32) (h22 : Hp) => vp_in v1 240 ∧ (∃ n102, m_X12_readBar_102 n102 (m_X12_readBar_131 Q) Q v1 (wI h22 96 (ix v1) x21)))))))))))
set_option maxHeartbeats 4000000 in
set_option maxRecDepth 100000 in
theorem s_X12_readBar_54 {l : Launch} {G : Cx} {d : Nat} {h0 : Hp} (hd : 10 ≤ d) {Q : Hp → Prop} {v1 : Int32} {s1 : Int32} {s2 : Int32} {h : Hp} (hm : m_X12_readBar_54 Q v1 s1 s2 h) : Rn l G d 0 0 MX12_readBar h0 (qV Q) 54 [some (tR 12 0 (some 51)), some (tI v1)] [tI s2, tI s1, tR 42 240 (some 99)] h 0 0 := by
  unfold m_X12_readBar_54 at hm
  refine r_zast dX12_readBar_54 hm.1 ?_
  replace hm := hm.2
  refine r_aload_n dX12_readBar_55 rfl rfl ?_
  refine r_getC (k := 75) cl_12 dX12_readBar_56 t_1347 gf_12_75.1 gf_12_75.2 (gc_12_75 _) ?_
  refine r_iload_n dX12_readBar_59 rfl rfl ?_
  refine r_iconst (v := 0) dX12_readBar_60 rfl ?_
  refine r_iast dX12_readBar_61 hm.1 ?_
  replace hm := hm.2
  refine r_aload_n dX12_readBar_62 rfl rfl ?_
  refine r_getC (k := 76) cl_12 dX12_readBar_63 t_1348 gf_12_76.1 gf_12_76.2 (gc_12_76 _) ?_
  refine r_iload_n dX12_readBar_66 rfl rfl ?_
  refine r_iconst (v := (-1)) dX12_readBar_67 rfl ?_
  refine r_iast dX12_readBar_68 hm.1 ?_
  replace hm := hm.2
  refine r_aload_n dX12_readBar_69 rfl rfl ?_
  refine r_getC (k := 77) cl_12 dX12_readBar_70 t_1349 gf_12_77.1 gf_12_77.2 (gc_12_77 _) ?_
  refine r_iload_n dX12_readBar_73 rfl rfl ?_
  refine r_zald dX12_readBar_74 hm.1 ?_
  replace hm := hm.2
  refine r_if_eq (tgt := 166) dX12_readBar_75 rfl (fun hc => ?_) (fun hc => ?_)
  · replace hm := hm.1 hc
    refine r_keep (L' := [some (tR 12 0 (some 51))]) [true] rfl ?_
    exact s_X12_readBar_166 hd hm
  · replace hm := hm.2 hc
    refine r_aload_n dX12_readBar_78 rfl rfl ?_
    refine r_callVU (d' := d - 1) (as := []) (st := []) cl_12 dX12_readBar_79 mi_X12_next t_1572 t_1574 ts_58 rfl rfl (Nat.le_of_ble_eq_true rfl) (by omega) ⟨by decide, by decide⟩ ⟨rfl, rfl⟩ (s_X12_next (by omega) hm) (fun h18 hm => ?_)
    refine r_aload_n dX12_readBar_82 rfl rfl ?_
    refine r_getC (k := 73) cl_12 dX12_readBar_83 t_1345 gf_12_73.1 gf_12_73.2 (gc_12_73 _) ?_
    refine r_iload_n dX12_readBar_86 rfl rfl ?_
    refine r_aload_n dX12_readBar_87 rfl rfl ?_
    refine r_callVI (d' := d - 1) (as := []) (st := [tI v1, tR 40 240 (some 95)]) cl_12 dX12_readBar_88 mi_X12_formHere t_1883 t_1885 ts_108 rfl rfl (Nat.le_of_ble_eq_true rfl) (by omega) ⟨by decide, by decide⟩ ⟨rfl, rfl⟩ (s_X12_formHere (by omega) hm) (fun x19 h20 hm => ?_)
    refine r_iast dX12_readBar_91 hm.1 ?_
    replace hm := hm.2
    refine r_aload_n dX12_readBar_92 rfl rfl ?_
    refine r_getC (k := 74) cl_12 dX12_readBar_93 t_1346 gf_12_74.1 gf_12_74.2 (gc_12_74 _) ?_
    refine r_iload_n dX12_readBar_96 rfl rfl ?_
    refine r_aload_n dX12_readBar_97 rfl rfl ?_
    refine r_callVI (d' := d - 1) (as := []) (st := [tI v1, tR 40 240 (some 96)]) cl_12 dX12_readBar_98 mi_X12_ofHere t_1888 t_1890 ts_109 rfl rfl (Nat.le_of_ble_eq_true rfl) (by omega) ⟨by decide, by decide⟩ ⟨rfl, rfl⟩ (s_X12_ofHere (by omega) hm) (fun x21 h22 hm => ?_)
    refine r_iast dX12_readBar_101 hm.1 ?_
    replace hm := hm.2
    refine r_keep (L' := [some (tR 12 0 (some 51)), some (tI v1)]) [true, true] rfl ?_
    obtain ⟨n, hm⟩ := hm
    refine s_X12_readBar_102 hd ?_ hm
    · exact (fun _ _ hm => s_X12_readBar_131 hd hm)
def m_X12_readBar_53  (Q : Hp → Prop) (v1 : Int32) (s1 : Int32) (h : Hp) : Prop := m_X12_readBar_54 Q v1 s1 0 h
set_option maxHeartbeats 4000000 in
set_option maxRecDepth 100000 in
theorem s_X12_readBar_53 {l : Launch} {G : Cx} {d : Nat} {h0 : Hp} (hd : 10 ≤ d) {Q : Hp → Prop} {v1 : Int32} {s1 : Int32} {h : Hp} (hm : m_X12_readBar_53 Q v1 s1 h) : Rn l G d 0 0 MX12_readBar h0 (qV Q) 53 [some (tR 12 0 (some 51)), some (tI v1)] [tI s1, tR 42 240 (some 99)] h 0 0 := by
  unfold m_X12_readBar_53 at hm
  refine r_iconst (v := 0) dX12_readBar_53 rfl ?_
  refine r_keep (L' := [some (tR 12 0 (some 51)), some (tI v1)]) [true, true] rfl ?_
  exact s_X12_readBar_54 hd hm
def m_X12_readBar (v1 : Int32) (h : Hp) (Q : Hp → Prop) : Prop := m_X12_mustBe 1503 h (fun (h24 : Hp) => m_X12_formHere h24 (fun (x25 : Int32) (h26 : Hp) => vp_in v1 240 ∧ (m_X12_ofHere (wI h26 93 (ix v1) x25) (fun (x27 : Int32) (h28 : Hp) => vp_in v1 240 ∧ ((¬ (hI (wI h28 94 (ix v1) x27) 51 29) = 0 → m_X12_readBar_53 Q v1 v1 (wI h28 94 (ix v1) x27)) ∧ ((hI (wI h28 94 (ix v1) x27) 51 29) = 0 → m_X12_is 399641 (wI h28 94 (ix v1) x27) (fun (x29 : Int32) (h30 : Hp) => (x29 = 0 → m_X12_readBar_53 Q v1 v1 h30) ∧ (¬ x29 = 0 → m_X12_readBar_54 Q v1 v1 1 h30))))))))
set_option maxHeartbeats 4000000 in
set_option maxRecDepth 100000 in
theorem s_X12_readBar {l : Launch} {G : Cx} {d : Nat} (hd : 10 ≤ d) {v1 : Int32} {h : Hp} {Q : Hp → Prop} (hm : m_X12_readBar v1 h Q) : Ct l G d 0 0 yX12_readBar MX12_readBar [tR 12 0 (some 51), tI v1] h (qV Q) := by
  unfold m_X12_readBar at hm
  refine Ct.of (L := [some (tR 12 0 (some 51)), some (tI v1)]) (by decide) rfl rfl (Nat.le_of_ble_eq_true rfl) rfl ?_
  refine r_aload_n dX12_readBar_0 rfl rfl ?_
  refine r_ldc2_w dX12_readBar_1 t_1882 ?_
  refine r_callVU (d' := d - 1) (as := [tJ 1503]) (st := []) cl_12 dX12_readBar_4 mi_X12_mustBe t_1631 t_1633 ts_68 rfl rfl (Nat.le_of_ble_eq_true rfl) (by omega) ⟨by decide, by decide⟩ ⟨rfl, rfl⟩ (s_X12_mustBe (by omega) hm) (fun h24 hm => ?_)
  refine r_aload_n dX12_readBar_7 rfl rfl ?_
  refine r_getC (k := 71) cl_12 dX12_readBar_8 t_1343 gf_12_71.1 gf_12_71.2 (gc_12_71 _) ?_
  refine r_iload_n dX12_readBar_11 rfl rfl ?_
  refine r_aload_n dX12_readBar_12 rfl rfl ?_
  refine r_callVI (d' := d - 1) (as := []) (st := [tI v1, tR 40 240 (some 93)]) cl_12 dX12_readBar_13 mi_X12_formHere t_1883 t_1885 ts_108 rfl rfl (Nat.le_of_ble_eq_true rfl) (by omega) ⟨by decide, by decide⟩ ⟨rfl, rfl⟩ (s_X12_formHere (by omega) hm) (fun x25 h26 hm => ?_)
  refine r_iast dX12_readBar_16 hm.1 ?_
  replace hm := hm.2
  refine r_aload_n dX12_readBar_17 rfl rfl ?_
  refine r_getC (k := 72) cl_12 dX12_readBar_18 t_1344 gf_12_72.1 gf_12_72.2 (gc_12_72 _) ?_
  refine r_iload_n dX12_readBar_21 rfl rfl ?_
  refine r_aload_n dX12_readBar_22 rfl rfl ?_
  refine r_callVI (d' := d - 1) (as := []) (st := [tI v1, tR 40 240 (some 94)]) cl_12 dX12_readBar_23 mi_X12_ofHere t_1888 t_1890 ts_109 rfl rfl (Nat.le_of_ble_eq_true rfl) (by omega) ⟨by decide, by decide⟩ ⟨rfl, rfl⟩ (s_X12_ofHere (by omega) hm) (fun x27 h28 hm => ?_)
  refine r_iast dX12_readBar_26 hm.1 ?_
  replace hm := hm.2
  refine r_aload_n dX12_readBar_27 rfl rfl ?_
  refine r_getC (k := 77) cl_12 dX12_readBar_28 t_1349 gf_12_77.1 gf_12_77.2 (gc_12_77 _) ?_
  refine r_iload_n dX12_readBar_31 rfl rfl ?_
  refine r_aload_n dX12_readBar_32 rfl rfl ?_
  refine r_getI (k := 29) cl_12 dX12_readBar_33 t_1301 (Or.inl rfl) gf_12_29 ?_
  refine r_if_ne (tgt := 53) dX12_readBar_36 rfl (fun hc => ?_) (fun hc => ?_)
  · replace hm := hm.1 hc
    refine r_keep (L' := [some (tR 12 0 (some 51)), some (tI v1)]) [true, true] rfl ?_
    exact s_X12_readBar_53 hd hm
  · replace hm := hm.2 hc
    refine r_aload_n dX12_readBar_39 rfl rfl ?_
    refine r_ldc2_w dX12_readBar_40 t_1893 ?_
    refine r_callVI (d' := d - 1) (as := [tJ 399641]) (st := [tI v1, tR 42 240 (some 99)]) cl_12 dX12_readBar_43 mi_X12_is t_1635 t_1637 ts_69 rfl rfl (Nat.le_of_ble_eq_true rfl) (by omega) ⟨by decide, by decide⟩ ⟨rfl, rfl⟩ (s_X12_is (by omega) hm) (fun x29 h30 hm => ?_)
    refine r_if_eq (tgt := 53) dX12_readBar_46 rfl (fun hc => ?_) (fun hc => ?_)
    · replace hm := hm.1 hc
      refine r_keep (L' := [some (tR 12 0 (some 51)), some (tI v1)]) [true, true] rfl ?_
      exact s_X12_readBar_53 hd hm
    · replace hm := hm.2 hc
      refine r_iconst (v := 1) dX12_readBar_49 rfl ?_
      refine r_goto (tgt := 54) dX12_readBar_50 rfl ?_
      refine r_keep (L' := [some (tR 12 0 (some 51)), some (tI v1)]) [true, true] rfl ?_
      exact s_X12_readBar_54 hd hm
theorem dX12_readBars_0 : decode cX12_readBars 0 = .ok (.iconst 0, 1) := rfl
theorem dX12_readBars_1 : decode cX12_readBars 1 = .ok (.istore_n 3, 1) := rfl
theorem dX12_readBars_2 : decode cX12_readBars 2 = .ok (.aload_n 0, 1) := rfl
theorem dX12_readBars_3 : decode cX12_readBars 3 = .ok (.getfield 214, 3) := rfl
theorem dX12_readBars_6 : decode cX12_readBars 6 = .ok (.ifCond .eq 35, 3) := by decide +kernel
theorem dX12_readBars_9 : decode cX12_readBars 9 = .ok (.aload_n 0, 1) := rfl
theorem dX12_readBars_10 : decode cX12_readBars 10 = .ok (.getfield 220, 3) := rfl
theorem dX12_readBars_13 : decode cX12_readBars 13 = .ok (.ifCond .ne 28, 3) := by decide +kernel
theorem dX12_readBars_16 : decode cX12_readBars 16 = .ok (.iload_n 3, 1) := rfl
theorem dX12_readBars_17 : decode cX12_readBars 17 = .ok (.iload_n 2, 1) := rfl
theorem dX12_readBars_18 : decode cX12_readBars 18 = .ok (.if_icmp .ne 10, 3) := by decide +kernel
theorem dX12_readBars_21 : decode cX12_readBars 21 = .ok (.aload_n 0, 1) := rfl
theorem dX12_readBars_22 : decode cX12_readBars 22 = .ok (.invokevirtual 231, 3) := rfl
theorem dX12_readBars_25 : decode cX12_readBars 25 = .ok (.goto 10, 3) := by decide +kernel
theorem dX12_readBars_28 : decode cX12_readBars 28 = .ok (.aload_n 0, 1) := rfl
theorem dX12_readBars_29 : decode cX12_readBars 29 = .ok (.iload_n 1, 1) := rfl
theorem dX12_readBars_30 : decode cX12_readBars 30 = .ok (.iload_n 3, 1) := rfl
theorem dX12_readBars_31 : decode cX12_readBars 31 = .ok (.iadd, 1) := rfl
theorem dX12_readBars_32 : decode cX12_readBars 32 = .ok (.invokevirtual 532, 3) := rfl
theorem dX12_readBars_35 : decode cX12_readBars 35 = .ok (.iinc 3 1, 3) := by decide +kernel
theorem dX12_readBars_38 : decode cX12_readBars 38 = .ok (.goto (-36), 3) := by decide +kernel
theorem dX12_readBars_41 : decode cX12_readBars 41 = .ok (.aload_n 0, 1) := rfl
theorem dX12_readBars_42 : decode cX12_readBars 42 = .ok (.getfield 220, 3) := rfl
theorem dX12_readBars_45 : decode cX12_readBars 45 = .ok (.ifCond .eq 7, 3) := by decide +kernel
theorem dX12_readBars_48 : decode cX12_readBars 48 = .ok (.iconst (-1), 1) := rfl
theorem dX12_readBars_49 : decode cX12_readBars 49 = .ok (.goto 4, 3) := by decide +kernel
theorem dX12_readBars_52 : decode cX12_readBars 52 = .ok (.iload_n 3, 1) := rfl
theorem dX12_readBars_53 : decode cX12_readBars 53 = .ok (.ireturn, 1) := rfl
def m_X12_readBars_41  (Q : Int32 → Hp → Prop) (v3 : Int32) (h : Hp) : Prop := ((hI h 51 29) = 0 → Q v3 h) ∧ (¬ (hI h 51 29) = 0 → Q (-1) h)
set_option maxHeartbeats 4000000 in
set_option maxRecDepth 100000 in
theorem s_X12_readBars_41 {l : Launch} {G : Cx} {d : Nat} {h0 : Hp} (hd : 12 ≤ d) {Q : Int32 → Hp → Prop} {v3 : Int32} {h : Hp} (hm : m_X12_readBars_41 Q v3 h) : Rn l G d 0 0 MX12_readBars h0 (qI Q) 41 [some (tR 12 0 (some 51)), none, none, some (tI v3)] [] h 0 0 := by
  unfold m_X12_readBars_41 at hm
  refine r_aload_n dX12_readBars_41 rfl rfl ?_
  refine r_getI (k := 29) cl_12 dX12_readBars_42 t_1301 (Or.inl rfl) gf_12_29 ?_
  refine r_if_eq (tgt := 52) dX12_readBars_45 rfl (fun hc => ?_) (fun hc => ?_)
  · replace hm := hm.1 hc
    refine r_iload_n dX12_readBars_52 rfl rfl ?_
    exact r_ireturn dX12_readBars_53 rfl ⟨by decide, by decide⟩ ⟨_, rfl, hm⟩
  · replace hm := hm.2 hc
    refine r_iconst (v := (-1)) dX12_readBars_48 rfl ?_
    refine r_goto (tgt := 53) dX12_readBars_49 rfl ?_
    exact r_ireturn dX12_readBars_53 rfl ⟨by decide, by decide⟩ ⟨_, rfl, hm⟩
def m_X12_readBars_35 (k2 : Int32 → Int32 → Int32 → Hp → Prop) (k41 : Int32 → Hp → Prop) (Q : Int32 → Hp → Prop) (v1 : Int32) (v2 : Int32) (v3 : Int32) (h : Hp) : Prop := ∀ x1 : Int32, x1 = v3 + 1 → k2 v1 v2 x1 h
set_option maxHeartbeats 4000000 in
set_option maxRecDepth 100000 in
theorem s_X12_readBars_35 {l : Launch} {G : Cx} {d : Nat} {h0 : Hp} (hd : 12 ≤ d) {k2 : Int32 → Int32 → Int32 → Hp → Prop} {k41 : Int32 → Hp → Prop} {Q : Int32 → Hp → Prop} (hk2 : ∀ (v1 : Int32) (v2 : Int32) (v3 : Int32) (hh : Hp), k2 v1 v2 v3 hh → Rn l G d 0 0 MX12_readBars h0 (qI Q) 2 [some (tR 12 0 (some 51)), some (tI v1), some (tI v2), some (tI v3)] [] hh 0 0) (hk41 : ∀ (v3 : Int32) (hh : Hp), k41 v3 hh → Rn l G d 0 0 MX12_readBars h0 (qI Q) 41 [some (tR 12 0 (some 51)), none, none, some (tI v3)] [] hh 0 0) {v1 : Int32} {v2 : Int32} {v3 : Int32} {h : Hp} (hm : m_X12_readBars_35 k2 k41 Q v1 v2 v3 h) : Rn l G d 0 0 MX12_readBars h0 (qI Q) 35 [some (tR 12 0 (some 51)), some (tI v1), some (tI v2), some (tI v3)] [] h 0 0 := by
  unfold m_X12_readBars_35 at hm
  obtain ⟨x1, e_x1⟩ : ∃ y : Int32, y = v3 + 1 := ⟨_, rfl⟩
  replace hm := hm x1 e_x1
  refine r_iinc (L' := [some (tR 12 0 (some 51)), some (tI v1), some (tI v2), some (tI x1)]) dX12_readBars_35 rfl (by rw [e_x1]; rfl) (by decide) rfl ?_
  refine r_goto (tgt := 2) dX12_readBars_38 rfl ?_
  refine r_keep (L' := [some (tR 12 0 (some 51)), some (tI v1), some (tI v2), some (tI x1)]) [true, true, true, true] rfl ?_
  exact hk2 _ _ _ _ hm
def m_X12_readBars_2 : Nat → (Int32 → Hp → Prop) → (Int32 → Hp → Prop) → Int32 → Int32 → Int32 → Hp → Prop
  | 0, _, _, _, _, _, _ => False
  | n + 1, k41, Q, v1, v2, v3, h => ((hI h 51 26) = 0 → k41 v3 h) ∧ (¬ (hI h 51 26) = 0 → (¬ (hI h 51 29) = 0 → k41 v3 h) ∧ ((hI h 51 29) = 0 → (¬ v3 = v2 → m_X12_readBar (v1 + v3) h (fun (h3 : Hp) => m_X12_readBars_35 (fun (v1 : Int32) (v2 : Int32) (v3 : Int32) (hh : Hp) => m_X12_readBars_2 n k41 Q v1 v2 v3 hh) k41 Q v1 v2 v3 h3)) ∧ (v3 = v2 → m_X12_errs h (fun (h5 : Hp) => m_X12_readBars_35 (fun (v1 : Int32) (v2 : Int32) (v3 : Int32) (hh : Hp) => m_X12_readBars_2 n k41 Q v1 v2 v3 hh) k41 Q v1 v2 v3 h5))))
set_option maxHeartbeats 4000000 in
set_option maxRecDepth 100000 in
theorem s_X12_readBars_2 {l : Launch} {G : Cx} {d : Nat} {h0 : Hp} (hd : 12 ≤ d) {k41 : Int32 → Hp → Prop} {Q : Int32 → Hp → Prop} (hk41 : ∀ (v3 : Int32) (hh : Hp), k41 v3 hh → Rn l G d 0 0 MX12_readBars h0 (qI Q) 41 [some (tR 12 0 (some 51)), none, none, some (tI v3)] [] hh 0 0) : ∀ {n : Nat} {v1 : Int32} {v2 : Int32} {v3 : Int32} {h : Hp}, m_X12_readBars_2 n k41 Q v1 v2 v3 h → Rn l G d 0 0 MX12_readBars h0 (qI Q) 2 [some (tR 12 0 (some 51)), some (tI v1), some (tI v2), some (tI v3)] [] h 0 0 := by
  intro n
  induction n with
  | zero => intro v1 v2 v3 h hm; exact hm.elim
  | succ n ih =>
    intro v1 v2 v3 h hm
    have hk2 := fun (v1 : Int32) (v2 : Int32) (v3 : Int32) (hh : Hp) (hm : m_X12_readBars_2 n k41 Q v1 v2 v3 hh) => ih hm
    rw [m_X12_readBars_2] at hm
    refine r_aload_n dX12_readBars_2 rfl rfl ?_
    refine r_getI (k := 26) cl_12 dX12_readBars_3 t_1298 (Or.inl rfl) gf_12_26 ?_
    refine r_if_eq (tgt := 41) dX12_readBars_6 rfl (fun hc => ?_) (fun hc => ?_)
    · replace hm := hm.1 hc
      refine r_keep (L' := [some (tR 12 0 (some 51)), none, none, some (tI v3)]) [true, false, false, true] rfl ?_
      exact hk41 _ _ hm
    · replace hm := hm.2 hc
      refine r_aload_n dX12_readBars_9 rfl rfl ?_
      refine r_getI (k := 29) cl_12 dX12_readBars_10 t_1301 (Or.inl rfl) gf_12_29 ?_
      refine r_if_ne (tgt := 41) dX12_readBars_13 rfl (fun hc => ?_) (fun hc => ?_)
      · replace hm := hm.1 hc
        refine r_keep (L' := [some (tR 12 0 (some 51)), none, none, some (tI v3)]) [true, false, false, true] rfl ?_
        exact hk41 _ _ hm
      · replace hm := hm.2 hc
        refine r_iload_n dX12_readBars_16 rfl rfl ?_
        refine r_iload_n dX12_readBars_17 rfl rfl ?_
        refine r_icmp_ne (tgt := 28) dX12_readBars_18 rfl (fun hc => ?_) (fun hc => ?_)
        · replace hm := hm.1 hc
          refine r_aload_n dX12_readBars_28 rfl rfl ?_
          refine r_iload_n dX12_readBars_29 rfl rfl ?_
          refine r_iload_n dX12_readBars_30 rfl rfl ?_
          refine r_iadd dX12_readBars_31 ?_
          refine r_callVU (d' := d - 1) (as := [tI (v1 + v3)]) (st := []) cl_12 dX12_readBars_32 mi_X12_readBar t_1878 t_1880 ts_107 rfl rfl (Nat.le_of_ble_eq_true rfl) (by omega) ⟨by decide, by decide⟩ ⟨rfl, rfl⟩ (s_X12_readBar (by omega) hm) (fun h3 hm => ?_)
          refine r_keep (L' := [some (tR 12 0 (some 51)), some (tI v1), some (tI v2), some (tI v3)]) [true, true, true, true] rfl ?_
          exact s_X12_readBars_35 hd hk2 hk41 hm
        · replace hm := hm.2 hc
          refine r_aload_n dX12_readBars_21 rfl rfl ?_
          refine r_callVU (d' := d - 1) (as := []) (st := []) cl_12 dX12_readBars_22 mi_X12_errs t_1595 t_1597 ts_61 rfl rfl (Nat.le_of_ble_eq_true rfl) (by omega) ⟨by decide, by decide⟩ ⟨rfl, rfl⟩ (s_X12_errs (by omega) hm) (fun h5 hm => ?_)
          refine r_goto (tgt := 35) dX12_readBars_25 rfl ?_
          refine r_keep (L' := [some (tR 12 0 (some 51)), some (tI v1), some (tI v2), some (tI v3)]) [true, true, true, true] rfl ?_
          exact s_X12_readBars_35 hd hk2 hk41 hm
def m_X12_readBars (v1 : Int32) (v2 : Int32) (h : Hp) (Q : Int32 → Hp → Prop) : Prop := ∃ n2, m_X12_readBars_2 n2 (m_X12_readBars_41 Q) Q v1 v2 0 h
set_option maxHeartbeats 4000000 in
set_option maxRecDepth 100000 in
theorem s_X12_readBars {l : Launch} {G : Cx} {d : Nat} (hd : 12 ≤ d) {v1 : Int32} {v2 : Int32} {h : Hp} {Q : Int32 → Hp → Prop} (hm : m_X12_readBars v1 v2 h Q) : Ct l G d 0 0 yX12_readBars MX12_readBars [tR 12 0 (some 51), tI v1, tI v2] h (qI Q) := by
  unfold m_X12_readBars at hm
  refine Ct.of (L := [some (tR 12 0 (some 51)), some (tI v1), some (tI v2)]) (by decide) rfl rfl (Nat.le_of_ble_eq_true rfl) rfl ?_
  refine r_iconst (v := 0) dX12_readBars_0 rfl ?_
  refine r_istore_n (L' := [some (tR 12 0 (some 51)), some (tI v1), some (tI v2), some (tI 0)]) dX12_readBars_1 rfl (by decide) rfl ?_
  refine r_keep (L' := [some (tR 12 0 (some 51)), some (tI v1), some (tI v2), some (tI 0)]) [true, true, true, true] rfl ?_
  obtain ⟨n, hm⟩ := hm
  refine s_X12_readBars_2 hd ?_ hm
  · exact (fun _ _ hm => s_X12_readBars_41 hd hm)
theorem dX12_law_0 : decode cX12_law 0 = .ok (.iload_n 1, 1) := rfl
theorem dX12_law_1 : decode cX12_law 1 = .ok (.ifCond .lt 11, 3) := by decide +kernel
theorem dX12_law_4 : decode cX12_law 4 = .ok (.iload_n 1, 1) := rfl
theorem dX12_law_5 : decode cX12_law 5 = .ok (.aload_n 0, 1) := rfl
theorem dX12_law_6 : decode cX12_law 6 = .ok (.getfield 189, 3) := rfl
theorem dX12_law_9 : decode cX12_law 9 = .ok (.if_icmp .le 6, 3) := by decide +kernel
theorem dX12_law_12 : decode cX12_law 12 = .ok (.bipush (-2), 2) := by decide +kernel
theorem dX12_law_14 : decode cX12_law 14 = .ok (.ireturn, 1) := rfl
theorem dX12_law_15 : decode cX12_law 15 = .ok (.aload_n 0, 1) := rfl
theorem dX12_law_16 : decode cX12_law 16 = .ok (.getfield 535, 3) := rfl
theorem dX12_law_19 : decode cX12_law 19 = .ok (.bipush 6, 2) := by decide +kernel
theorem dX12_law_21 : decode cX12_law 21 = .ok (.if_icmp .ne 6, 3) := by decide +kernel
theorem dX12_law_24 : decode cX12_law 24 = .ok (.bipush (-3), 2) := by decide +kernel
theorem dX12_law_26 : decode cX12_law 26 = .ok (.ireturn, 1) := rfl
theorem dX12_law_27 : decode cX12_law 27 = .ok (.aload_n 0, 1) := rfl
theorem dX12_law_28 : decode cX12_law 28 = .ok (.iload_n 1, 1) := rfl
theorem dX12_law_29 : decode cX12_law 29 = .ok (.invokevirtual 335, 3) := rfl
theorem dX12_law_32 : decode cX12_law 32 = .ok (.aload_n 0, 1) := rfl
theorem dX12_law_33 : decode cX12_law 33 = .ok (.bipush 16, 2) := by decide +kernel
theorem dX12_law_35 : decode cX12_law 35 = .ok (.aload_n 0, 1) := rfl
theorem dX12_law_36 : decode cX12_law 36 = .ok (.getfield 535, 3) := rfl
theorem dX12_law_39 : decode cX12_law 39 = .ok (.imul, 1) := rfl
theorem dX12_law_40 : decode cX12_law 40 = .ok (.bipush 16, 2) := by decide +kernel
theorem dX12_law_42 : decode cX12_law 42 = .ok (.invokevirtual 538, 3) := rfl
theorem dX12_law_45 : decode cX12_law 45 = .ok (.istore_n 2, 1) := rfl
theorem dX12_law_46 : decode cX12_law 46 = .ok (.iload_n 2, 1) := rfl
theorem dX12_law_47 : decode cX12_law 47 = .ok (.ifCond .ge 5, 3) := by decide +kernel
theorem dX12_law_50 : decode cX12_law 50 = .ok (.iconst (-1), 1) := rfl
theorem dX12_law_51 : decode cX12_law 51 = .ok (.ireturn, 1) := rfl
theorem dX12_law_52 : decode cX12_law 52 = .ok (.aload_n 0, 1) := rfl
theorem dX12_law_53 : decode cX12_law 53 = .ok (.getfield 134, 3) := rfl
theorem dX12_law_56 : decode cX12_law 56 = .ok (.aload_n 0, 1) := rfl
theorem dX12_law_57 : decode cX12_law 57 = .ok (.getfield 535, 3) := rfl
theorem dX12_law_60 : decode cX12_law 60 = .ok (.iload_n 2, 1) := rfl
theorem dX12_law_61 : decode cX12_law 61 = .ok (.iastore, 1) := rfl
theorem dX12_law_62 : decode cX12_law 62 = .ok (.aload_n 0, 1) := rfl
theorem dX12_law_63 : decode cX12_law 63 = .ok (.dup, 1) := rfl
theorem dX12_law_64 : decode cX12_law 64 = .ok (.getfield 535, 3) := rfl
theorem dX12_law_67 : decode cX12_law 67 = .ok (.iconst 1, 1) := rfl
theorem dX12_law_68 : decode cX12_law 68 = .ok (.iadd, 1) := rfl
theorem dX12_law_69 : decode cX12_law 69 = .ok (.putfield 535, 3) := rfl
theorem dX12_law_72 : decode cX12_law 72 = .ok (.aload_n 0, 1) := rfl
theorem dX12_law_73 : decode cX12_law 73 = .ok (.getfield 535, 3) := rfl
theorem dX12_law_76 : decode cX12_law 76 = .ok (.iconst 1, 1) := rfl
theorem dX12_law_77 : decode cX12_law 77 = .ok (.isub, 1) := rfl
theorem dX12_law_78 : decode cX12_law 78 = .ok (.ireturn, 1) := rfl
def m_X12_law (v1 : Int32) (h : Hp) (Q : Int32 → Hp → Prop) : Prop := (v1 < 0 → Q (-2) h) ∧ (¬ v1 < 0 → (v1 ≤ (hI h 51 21) → (¬ (hI h 51 67) = 6 → m_X12_beginsText v1 h (fun (h2 : Hp) => m_X12_readBars (16 * (hI h2 51 67)) 16 h2 (fun (x3 : Int32) (h4 : Hp) => (0 ≤ x3 → vp_in (hI h4 51 67) 6 ∧ (Q ((hI (wI (wI h4 91 (ix (hI h4 51 67)) x3) 51 67 ((hI (wI h4 91 (ix (hI h4 51 67)) x3) 51 67) + 1)) 51 67) - 1) (wI (wI h4 91 (ix (hI h4 51 67)) x3) 51 67 ((hI (wI h4 91 (ix (hI h4 51 67)) x3) 51 67) + 1)))) ∧ (¬ 0 ≤ x3 → Q (-1) h4)))) ∧ ((hI h 51 67) = 6 → Q (-3) h)) ∧ (¬ v1 ≤ (hI h 51 21) → Q (-2) h))
set_option maxHeartbeats 4000000 in
set_option maxRecDepth 100000 in
theorem s_X12_law {l : Launch} {G : Cx} {d : Nat} (hd : 14 ≤ d) {v1 : Int32} {h : Hp} {Q : Int32 → Hp → Prop} (hm : m_X12_law v1 h Q) : Ct l G d 0 0 yX12_law MX12_law [tR 12 0 (some 51), tI v1] h (qI Q) := by
  unfold m_X12_law at hm
  refine Ct.of (L := [some (tR 12 0 (some 51)), some (tI v1)]) (by decide) rfl rfl (Nat.le_of_ble_eq_true rfl) rfl ?_
  refine r_iload_n dX12_law_0 rfl rfl ?_
  refine r_if_lt (tgt := 12) dX12_law_1 rfl (fun hc => ?_) (fun hc => ?_)
  · replace hm := hm.1 hc
    refine r_bipush (v := (-2)) dX12_law_12 rfl ?_
    exact r_ireturn dX12_law_14 rfl ⟨by decide, by decide⟩ ⟨_, rfl, hm⟩
  · replace hm := hm.2 hc
    refine r_iload_n dX12_law_4 rfl rfl ?_
    refine r_aload_n dX12_law_5 rfl rfl ?_
    refine r_getI (k := 21) cl_12 dX12_law_6 t_1293 (Or.inl rfl) gf_12_21 ?_
    refine r_icmp_le (tgt := 15) dX12_law_9 rfl (fun hc => ?_) (fun hc => ?_)
    · replace hm := hm.1 hc
      refine r_aload_n dX12_law_15 rfl rfl ?_
      refine r_getI (k := 67) cl_12 dX12_law_16 t_1339 (Or.inl rfl) gf_12_67 ?_
      refine r_bipush (v := 6) dX12_law_19 rfl ?_
      refine r_icmp_ne (tgt := 27) dX12_law_21 rfl (fun hc => ?_) (fun hc => ?_)
      · replace hm := hm.1 hc
        refine r_aload_n dX12_law_27 rfl rfl ?_
        refine r_iload_n dX12_law_28 rfl rfl ?_
        refine r_callVU (d' := d - 1) (as := [tI v1]) (st := []) cl_12 dX12_law_29 mi_X12_beginsText t_1568 t_1570 ts_57 rfl rfl (Nat.le_of_ble_eq_true rfl) (by omega) ⟨by decide, by decide⟩ ⟨rfl, rfl⟩ (s_X12_beginsText (by omega) hm) (fun h2 hm => ?_)
        refine r_aload_n dX12_law_32 rfl rfl ?_
        refine r_bipush (v := 16) dX12_law_33 rfl ?_
        refine r_aload_n dX12_law_35 rfl rfl ?_
        refine r_getI (k := 67) cl_12 dX12_law_36 t_1339 (Or.inl rfl) gf_12_67 ?_
        refine r_imul dX12_law_39 ?_
        refine r_bipush (v := 16) dX12_law_40 rfl ?_
        refine r_callVI (d' := d - 1) (as := [tI (16 * (hI h2 51 67)), tI 16]) (st := []) cl_12 dX12_law_42 mi_X12_readBars t_1874 t_1876 ts_106 rfl rfl (Nat.le_of_ble_eq_true rfl) (by omega) ⟨by decide, by decide⟩ ⟨rfl, rfl⟩ (s_X12_readBars (by omega) hm) (fun x3 h4 hm => ?_)
        refine r_istore_n (L' := [some (tR 12 0 (some 51)), some (tI v1), some (tI x3)]) dX12_law_45 rfl (by decide) rfl ?_
        refine r_iload_n dX12_law_46 rfl rfl ?_
        refine r_if_ge (tgt := 52) dX12_law_47 rfl (fun hc => ?_) (fun hc => ?_)
        · replace hm := hm.1 hc
          refine r_aload_n dX12_law_52 rfl rfl ?_
          refine r_getC (k := 69) cl_12 dX12_law_53 t_1341 gf_12_69.1 gf_12_69.2 (gc_12_69 _) ?_
          refine r_aload_n dX12_law_56 rfl rfl ?_
          refine r_getI (k := 67) cl_12 dX12_law_57 t_1339 (Or.inl rfl) gf_12_67 ?_
          refine r_iload_n dX12_law_60 rfl rfl ?_
          refine r_iast dX12_law_61 hm.1 ?_
          replace hm := hm.2
          refine r_aload_n dX12_law_62 rfl rfl ?_
          refine r_dup dX12_law_63 cv_cat1R ?_
          refine r_getI (k := 67) cl_12 dX12_law_64 t_1339 (Or.inl rfl) gf_12_67 ?_
          refine r_iconst (v := 1) dX12_law_67 rfl ?_
          refine r_iadd dX12_law_68 ?_
          refine r_putI0 (k := 67) cl_12 dX12_law_69 t_1339 (Or.inl rfl) gf_12_67 pf_12_67.1 (Or.inl pf_12_67.2) ?_
          refine r_aload_n dX12_law_72 rfl rfl ?_
          refine r_getI (k := 67) cl_12 dX12_law_73 t_1339 (Or.inl rfl) gf_12_67 ?_
          refine r_iconst (v := 1) dX12_law_76 rfl ?_
          refine r_isub dX12_law_77 ?_
          exact r_ireturn dX12_law_78 rfl ⟨by decide, by decide⟩ ⟨_, rfl, hm⟩
        · replace hm := hm.2 hc
          refine r_iconst (v := (-1)) dX12_law_50 rfl ?_
          exact r_ireturn dX12_law_51 rfl ⟨by decide, by decide⟩ ⟨_, rfl, hm⟩
      · replace hm := hm.2 hc
        refine r_bipush (v := (-3)) dX12_law_24 rfl ?_
        exact r_ireturn dX12_law_26 rfl ⟨by decide, by decide⟩ ⟨_, rfl, hm⟩
    · replace hm := hm.2 hc
      refine r_bipush (v := (-2)) dX12_law_12 rfl ?_
      exact r_ireturn dX12_law_14 rfl ⟨by decide, by decide⟩ ⟨_, rfl, hm⟩
theorem dX12_word_0 : decode cX12_word 0 = .ok (.iload_n 1, 1) := by decide +kernel
theorem dX12_word_1 : decode cX12_word 1 = .ok (.ifCond .lt 11, 3) := by decide +kernel
theorem dX12_word_4 : decode cX12_word 4 = .ok (.iload_n 1, 1) := by decide +kernel
theorem dX12_word_5 : decode cX12_word 5 = .ok (.aload_n 0, 1) := by decide +kernel
theorem dX12_word_6 : decode cX12_word 6 = .ok (.getfield 189, 3) := by decide +kernel
theorem dX12_word_9 : decode cX12_word 9 = .ok (.if_icmp .le 6, 3) := by decide +kernel
theorem dX12_word_12 : decode cX12_word 12 = .ok (.bipush (-2), 2) := by decide +kernel
theorem dX12_word_14 : decode cX12_word 14 = .ok (.ireturn, 1) := by decide +kernel
theorem dX12_word_15 : decode cX12_word 15 = .ok (.aload_n 0, 1) := by decide +kernel
theorem dX12_word_16 : decode cX12_word 16 = .ok (.getfield 541, 3) := by decide +kernel
theorem dX12_word_19 : decode cX12_word 19 = .ok (.bipush 12, 2) := by decide +kernel
theorem dX12_word_21 : decode cX12_word 21 = .ok (.if_icmp .ne 6, 3) := by decide +kernel
theorem dX12_word_24 : decode cX12_word 24 = .ok (.bipush (-3), 2) := by decide +kernel
theorem dX12_word_26 : decode cX12_word 26 = .ok (.ireturn, 1) := by decide +kernel
theorem dX12_word_27 : decode cX12_word 27 = .ok (.aload_n 0, 1) := by decide +kernel
theorem dX12_word_28 : decode cX12_word 28 = .ok (.iload_n 1, 1) := by decide +kernel
theorem dX12_word_29 : decode cX12_word 29 = .ok (.invokevirtual 335, 3) := by decide +kernel
theorem dX12_word_32 : decode cX12_word 32 = .ok (.aload_n 0, 1) := by decide +kernel
theorem dX12_word_33 : decode cX12_word 33 = .ok (.getfield 214, 3) := by decide +kernel
theorem dX12_word_36 : decode cX12_word 36 = .ok (.ifCond .ne 7, 3) := by decide +kernel
theorem dX12_word_39 : decode cX12_word 39 = .ok (.aload_n 0, 1) := by decide +kernel
theorem dX12_word_40 : decode cX12_word 40 = .ok (.invokevirtual 231, 3) := by decide +kernel
theorem dX12_word_43 : decode cX12_word 43 = .ok (.aload_n 0, 1) := by decide +kernel
theorem dX12_word_44 : decode cX12_word 44 = .ok (.bipush 96, 2) := by decide +kernel
theorem dX12_word_46 : decode cX12_word 46 = .ok (.bipush 12, 2) := by decide +kernel
theorem dX12_word_48 : decode cX12_word 48 = .ok (.aload_n 0, 1) := by decide +kernel
theorem dX12_word_49 : decode cX12_word 49 = .ok (.getfield 541, 3) := by decide +kernel
theorem dX12_word_52 : decode cX12_word 52 = .ok (.imul, 1) := by decide +kernel
theorem dX12_word_53 : decode cX12_word 53 = .ok (.iadd, 1) := by decide +kernel
theorem dX12_word_54 : decode cX12_word 54 = .ok (.bipush 12, 2) := by decide +kernel
theorem dX12_word_56 : decode cX12_word 56 = .ok (.invokevirtual 538, 3) := by decide +kernel
theorem dX12_word_59 : decode cX12_word 59 = .ok (.istore_n 2, 1) := by decide +kernel
theorem dX12_word_60 : decode cX12_word 60 = .ok (.iload_n 2, 1) := by decide +kernel
theorem dX12_word_61 : decode cX12_word 61 = .ok (.ifCond .ge 5, 3) := by decide +kernel
theorem dX12_word_64 : decode cX12_word 64 = .ok (.iconst (-1), 1) := by decide +kernel
theorem dX12_word_65 : decode cX12_word 65 = .ok (.ireturn, 1) := by decide +kernel
theorem dX12_word_66 : decode cX12_word 66 = .ok (.aload_n 0, 1) := by decide +kernel
theorem dX12_word_67 : decode cX12_word 67 = .ok (.getfield 137, 3) := by decide +kernel
theorem dX12_word_70 : decode cX12_word 70 = .ok (.aload_n 0, 1) := by decide +kernel
theorem dX12_word_71 : decode cX12_word 71 = .ok (.getfield 541, 3) := by decide +kernel
theorem dX12_word_74 : decode cX12_word 74 = .ok (.iload_n 2, 1) := by decide +kernel
theorem dX12_word_75 : decode cX12_word 75 = .ok (.iastore, 1) := by decide +kernel
theorem dX12_word_76 : decode cX12_word 76 = .ok (.aload_n 0, 1) := by decide +kernel
theorem dX12_word_77 : decode cX12_word 77 = .ok (.dup, 1) := by decide +kernel
theorem dX12_word_78 : decode cX12_word 78 = .ok (.getfield 541, 3) := by decide +kernel
theorem dX12_word_81 : decode cX12_word 81 = .ok (.iconst 1, 1) := by decide +kernel
theorem dX12_word_82 : decode cX12_word 82 = .ok (.iadd, 1) := by decide +kernel
theorem dX12_word_83 : decode cX12_word 83 = .ok (.putfield 541, 3) := by decide +kernel
theorem dX12_word_86 : decode cX12_word 86 = .ok (.aload_n 0, 1) := by decide +kernel
theorem dX12_word_87 : decode cX12_word 87 = .ok (.getfield 541, 3) := by decide +kernel
theorem dX12_word_90 : decode cX12_word 90 = .ok (.iconst 1, 1) := by decide +kernel
theorem dX12_word_91 : decode cX12_word 91 = .ok (.isub, 1) := by decide +kernel
theorem dX12_word_92 : decode cX12_word 92 = .ok (.ireturn, 1) := by decide +kernel
def m_X12_word_43  (Q : Int32 → Hp → Prop) (h : Hp) : Prop := m_X12_readBars (96 + (12 * (hI h 51 68))) 12 h (fun (x1 : Int32) (h2 : Hp) => (0 ≤ x1 → vp_in (hI h2 51 68) 12 ∧ (Q ((hI (wI (wI h2 92 (ix (hI h2 51 68)) x1) 51 68 ((hI (wI h2 92 (ix (hI h2 51 68)) x1) 51 68) + 1)) 51 68) - 1) (wI (wI h2 92 (ix (hI h2 51 68)) x1) 51 68 ((hI (wI h2 92 (ix (hI h2 51 68)) x1) 51 68) + 1)))) ∧ (¬ 0 ≤ x1 → Q (-1) h2))
set_option maxHeartbeats 4000000 in
set_option maxRecDepth 100000 in
theorem s_X12_word_43 {l : Launch} {G : Cx} {d : Nat} {h0 : Hp} (hd : 14 ≤ d) {Q : Int32 → Hp → Prop} {h : Hp} (hm : m_X12_word_43 Q h) : Rn l G d 0 0 MX12_word h0 (qI Q) 43 [some (tR 12 0 (some 51))] [] h 0 0 := by
  unfold m_X12_word_43 at hm
  refine r_aload_n dX12_word_43 rfl rfl ?_
  refine r_bipush (v := 96) dX12_word_44 rfl ?_
  refine r_bipush (v := 12) dX12_word_46 rfl ?_
  refine r_aload_n dX12_word_48 rfl rfl ?_
  refine r_getI (k := 68) cl_12 dX12_word_49 t_1340 (Or.inl rfl) gf_12_68 ?_
  refine r_imul dX12_word_52 ?_
  refine r_iadd dX12_word_53 ?_
  refine r_bipush (v := 12) dX12_word_54 rfl ?_
  refine r_callVI (d' := d - 1) (as := [tI (96 + (12 * (hI h 51 68))), tI 12]) (st := []) cl_12 dX12_word_56 mi_X12_readBars t_1874 t_1876 ts_106 rfl rfl (Nat.le_of_ble_eq_true rfl) (by omega) ⟨by decide, by decide⟩ ⟨rfl, rfl⟩ (s_X12_readBars (by omega) hm) (fun x1 h2 hm => ?_)
  refine r_istore_n (L' := [some (tR 12 0 (some 51)), none, some (tI x1)]) dX12_word_59 rfl (by decide) rfl ?_
  refine r_iload_n dX12_word_60 rfl rfl ?_
  refine r_if_ge (tgt := 66) dX12_word_61 rfl (fun hc => ?_) (fun hc => ?_)
  · replace hm := hm.1 hc
    refine r_aload_n dX12_word_66 rfl rfl ?_
    refine r_getC (k := 70) cl_12 dX12_word_67 t_1342 gf_12_70.1 gf_12_70.2 (gc_12_70 _) ?_
    refine r_aload_n dX12_word_70 rfl rfl ?_
    refine r_getI (k := 68) cl_12 dX12_word_71 t_1340 (Or.inl rfl) gf_12_68 ?_
    refine r_iload_n dX12_word_74 rfl rfl ?_
    refine r_iast dX12_word_75 hm.1 ?_
    replace hm := hm.2
    refine r_aload_n dX12_word_76 rfl rfl ?_
    refine r_dup dX12_word_77 cv_cat1R ?_
    refine r_getI (k := 68) cl_12 dX12_word_78 t_1340 (Or.inl rfl) gf_12_68 ?_
    refine r_iconst (v := 1) dX12_word_81 rfl ?_
    refine r_iadd dX12_word_82 ?_
    refine r_putI0 (k := 68) cl_12 dX12_word_83 t_1340 (Or.inl rfl) gf_12_68 pf_12_68.1 (Or.inl pf_12_68.2) ?_
    refine r_aload_n dX12_word_86 rfl rfl ?_
    refine r_getI (k := 68) cl_12 dX12_word_87 t_1340 (Or.inl rfl) gf_12_68 ?_
    refine r_iconst (v := 1) dX12_word_90 rfl ?_
    refine r_isub dX12_word_91 ?_
    exact r_ireturn dX12_word_92 rfl ⟨by decide, by decide⟩ ⟨_, rfl, hm⟩
  · replace hm := hm.2 hc
    refine r_iconst (v := (-1)) dX12_word_64 rfl ?_
    exact r_ireturn dX12_word_65 rfl ⟨by decide, by decide⟩ ⟨_, rfl, hm⟩
def m_X12_word (v1 : Int32) (h : Hp) (Q : Int32 → Hp → Prop) : Prop := (v1 < 0 → Q (-2) h) ∧ (¬ v1 < 0 → (v1 ≤ (hI h 51 21) → (¬ (hI h 51 68) = 12 → m_X12_beginsText v1 h (fun (h4 : Hp) => (¬ (hI h4 51 26) = 0 → m_X12_word_43 Q h4) ∧ ((hI h4 51 26) = 0 → m_X12_errs h4 (fun (h6 : Hp) => m_X12_word_43 Q h6)))) ∧ ((hI h 51 68) = 12 → Q (-3) h)) ∧ (¬ v1 ≤ (hI h 51 21) → Q (-2) h))
set_option maxHeartbeats 4000000 in
set_option maxRecDepth 100000 in
theorem s_X12_word {l : Launch} {G : Cx} {d : Nat} (hd : 14 ≤ d) {v1 : Int32} {h : Hp} {Q : Int32 → Hp → Prop} (hm : m_X12_word v1 h Q) : Ct l G d 0 0 yX12_word MX12_word [tR 12 0 (some 51), tI v1] h (qI Q) := by
  unfold m_X12_word at hm
  refine Ct.of (L := [some (tR 12 0 (some 51)), some (tI v1)]) (by decide) rfl rfl (Nat.le_of_ble_eq_true rfl) rfl ?_
  refine r_iload_n dX12_word_0 rfl rfl ?_
  refine r_if_lt (tgt := 12) dX12_word_1 rfl (fun hc => ?_) (fun hc => ?_)
  · replace hm := hm.1 hc
    refine r_bipush (v := (-2)) dX12_word_12 rfl ?_
    exact r_ireturn dX12_word_14 rfl ⟨by decide, by decide⟩ ⟨_, rfl, hm⟩
  · replace hm := hm.2 hc
    refine r_iload_n dX12_word_4 rfl rfl ?_
    refine r_aload_n dX12_word_5 rfl rfl ?_
    refine r_getI (k := 21) cl_12 dX12_word_6 t_1293 (Or.inl rfl) gf_12_21 ?_
    refine r_icmp_le (tgt := 15) dX12_word_9 rfl (fun hc => ?_) (fun hc => ?_)
    · replace hm := hm.1 hc
      refine r_aload_n dX12_word_15 rfl rfl ?_
      refine r_getI (k := 68) cl_12 dX12_word_16 t_1340 (Or.inl rfl) gf_12_68 ?_
      refine r_bipush (v := 12) dX12_word_19 rfl ?_
      refine r_icmp_ne (tgt := 27) dX12_word_21 rfl (fun hc => ?_) (fun hc => ?_)
      · replace hm := hm.1 hc
        refine r_aload_n dX12_word_27 rfl rfl ?_
        refine r_iload_n dX12_word_28 rfl rfl ?_
        refine r_callVU (d' := d - 1) (as := [tI v1]) (st := []) cl_12 dX12_word_29 mi_X12_beginsText t_1568 t_1570 ts_57 rfl rfl (Nat.le_of_ble_eq_true rfl) (by omega) ⟨by decide, by decide⟩ ⟨rfl, rfl⟩ (s_X12_beginsText (by omega) hm) (fun h4 hm => ?_)
        refine r_aload_n dX12_word_32 rfl rfl ?_
        refine r_getI (k := 26) cl_12 dX12_word_33 t_1298 (Or.inl rfl) gf_12_26 ?_
        refine r_if_ne (tgt := 43) dX12_word_36 rfl (fun hc => ?_) (fun hc => ?_)
        · replace hm := hm.1 hc
          refine r_keep (L' := [some (tR 12 0 (some 51))]) [true] rfl ?_
          exact s_X12_word_43 hd hm
        · replace hm := hm.2 hc
          refine r_aload_n dX12_word_39 rfl rfl ?_
          refine r_callVU (d' := d - 1) (as := []) (st := []) cl_12 dX12_word_40 mi_X12_errs t_1595 t_1597 ts_61 rfl rfl (Nat.le_of_ble_eq_true rfl) (by omega) ⟨by decide, by decide⟩ ⟨rfl, rfl⟩ (s_X12_errs (by omega) hm) (fun h6 hm => ?_)
          refine r_keep (L' := [some (tR 12 0 (some 51))]) [true] rfl ?_
          exact s_X12_word_43 hd hm
      · replace hm := hm.2 hc
        refine r_bipush (v := (-3)) dX12_word_24 rfl ?_
        exact r_ireturn dX12_word_26 rfl ⟨by decide, by decide⟩ ⟨_, rfl, hm⟩
    · replace hm := hm.2 hc
      refine r_bipush (v := (-2)) dX12_word_12 rfl ?_
      exact r_ireturn dX12_word_14 rfl ⟨by decide, by decide⟩ ⟨_, rfl, hm⟩
theorem dX12_findLeaves_0 : decode cX12_findLeaves 0 = .ok (.aload_n 0, 1) := by decide +kernel
theorem dX12_findLeaves_1 : decode cX12_findLeaves 1 = .ok (.iconst 0, 1) := by decide +kernel
theorem dX12_findLeaves_2 : decode cX12_findLeaves 2 = .ok (.putfield 544, 3) := by decide +kernel
theorem dX12_findLeaves_5 : decode cX12_findLeaves 5 = .ok (.iconst 0, 1) := by decide +kernel
theorem dX12_findLeaves_6 : decode cX12_findLeaves 6 = .ok (.istore_n 1, 1) := by decide +kernel
theorem dX12_findLeaves_7 : decode cX12_findLeaves 7 = .ok (.iload_n 1, 1) := by decide +kernel
theorem dX12_findLeaves_8 : decode cX12_findLeaves 8 = .ok (.aload_n 0, 1) := by decide +kernel
theorem dX12_findLeaves_9 : decode cX12_findLeaves 9 = .ok (.getfield 425, 3) := by decide +kernel
theorem dX12_findLeaves_12 : decode cX12_findLeaves 12 = .ok (.if_icmp .ge 102, 3) := by decide +kernel
theorem dX12_findLeaves_15 : decode cX12_findLeaves 15 = .ok (.bipush 96, 2) := by decide +kernel
theorem dX12_findLeaves_17 : decode cX12_findLeaves 17 = .ok (.aload_n 0, 1) := by decide +kernel
theorem dX12_findLeaves_18 : decode cX12_findLeaves 18 = .ok (.getfield 116, 3) := by decide +kernel
theorem dX12_findLeaves_21 : decode cX12_findLeaves 21 = .ok (.iload_n 1, 1) := by decide +kernel
theorem dX12_findLeaves_22 : decode cX12_findLeaves 22 = .ok (.iaload, 1) := by decide +kernel
theorem dX12_findLeaves_23 : decode cX12_findLeaves 23 = .ok (.imul, 1) := by decide +kernel
theorem dX12_findLeaves_24 : decode cX12_findLeaves 24 = .ok (.istore_n 2, 1) := by decide +kernel
theorem dX12_findLeaves_25 : decode cX12_findLeaves 25 = .ok (.iload_n 2, 1) := by decide +kernel
theorem dX12_findLeaves_26 : decode cX12_findLeaves 26 = .ok (.bipush 96, 2) := by decide +kernel
theorem dX12_findLeaves_28 : decode cX12_findLeaves 28 = .ok (.aload_n 0, 1) := by decide +kernel
theorem dX12_findLeaves_29 : decode cX12_findLeaves 29 = .ok (.getfield 116, 3) := by decide +kernel
theorem dX12_findLeaves_32 : decode cX12_findLeaves 32 = .ok (.iload_n 1, 1) := by decide +kernel
theorem dX12_findLeaves_33 : decode cX12_findLeaves 33 = .ok (.iaload, 1) := by decide +kernel
theorem dX12_findLeaves_34 : decode cX12_findLeaves 34 = .ok (.imul, 1) := by decide +kernel
theorem dX12_findLeaves_35 : decode cX12_findLeaves 35 = .ok (.aload_n 0, 1) := by decide +kernel
theorem dX12_findLeaves_36 : decode cX12_findLeaves 36 = .ok (.getfield 13, 3) := by decide +kernel
theorem dX12_findLeaves_39 : decode cX12_findLeaves 39 = .ok (.aload_n 0, 1) := by decide +kernel
theorem dX12_findLeaves_40 : decode cX12_findLeaves 40 = .ok (.getfield 116, 3) := by decide +kernel
theorem dX12_findLeaves_43 : decode cX12_findLeaves 43 = .ok (.iload_n 1, 1) := by decide +kernel
theorem dX12_findLeaves_44 : decode cX12_findLeaves 44 = .ok (.iaload, 1) := by decide +kernel
theorem dX12_findLeaves_45 : decode cX12_findLeaves 45 = .ok (.iaload, 1) := by decide +kernel
theorem dX12_findLeaves_46 : decode cX12_findLeaves 46 = .ok (.iadd, 1) := by decide +kernel
theorem dX12_findLeaves_47 : decode cX12_findLeaves 47 = .ok (.if_icmp .ge 61, 3) := by decide +kernel
theorem dX12_findLeaves_50 : decode cX12_findLeaves 50 = .ok (.aload_n 0, 1) := by decide +kernel
theorem dX12_findLeaves_51 : decode cX12_findLeaves 51 = .ok (.iload_n 2, 1) := by decide +kernel
theorem dX12_findLeaves_52 : decode cX12_findLeaves 52 = .ok (.invokevirtual 356, 3) := by decide +kernel
theorem dX12_findLeaves_55 : decode cX12_findLeaves 55 = .ok (.ifCond .ne 6, 3) := by decide +kernel
theorem dX12_findLeaves_58 : decode cX12_findLeaves 58 = .ok (.goto 44, 3) := by decide +kernel
theorem dX12_findLeaves_61 : decode cX12_findLeaves 61 = .ok (.aload_n 0, 1) := by decide +kernel
theorem dX12_findLeaves_62 : decode cX12_findLeaves 62 = .ok (.getfield 161, 3) := by decide +kernel
theorem dX12_findLeaves_65 : decode cX12_findLeaves 65 = .ok (.aload_n 0, 1) := by decide +kernel
theorem dX12_findLeaves_66 : decode cX12_findLeaves 66 = .ok (.getfield 544, 3) := by decide +kernel
theorem dX12_findLeaves_69 : decode cX12_findLeaves 69 = .ok (.iload_n 2, 1) := by decide +kernel
theorem dX12_findLeaves_70 : decode cX12_findLeaves 70 = .ok (.iastore, 1) := by decide +kernel
theorem dX12_findLeaves_71 : decode cX12_findLeaves 71 = .ok (.aload_n 0, 1) := by decide +kernel
theorem dX12_findLeaves_72 : decode cX12_findLeaves 72 = .ok (.getfield 164, 3) := by decide +kernel
theorem dX12_findLeaves_75 : decode cX12_findLeaves 75 = .ok (.aload_n 0, 1) := by decide +kernel
theorem dX12_findLeaves_76 : decode cX12_findLeaves 76 = .ok (.getfield 544, 3) := by decide +kernel
theorem dX12_findLeaves_79 : decode cX12_findLeaves 79 = .ok (.aload_n 0, 1) := by decide +kernel
theorem dX12_findLeaves_80 : decode cX12_findLeaves 80 = .ok (.getfield 61, 3) := by decide +kernel
theorem dX12_findLeaves_83 : decode cX12_findLeaves 83 = .ok (.iload_n 2, 1) := by decide +kernel
theorem dX12_findLeaves_84 : decode cX12_findLeaves 84 = .ok (.iaload, 1) := by decide +kernel
theorem dX12_findLeaves_85 : decode cX12_findLeaves 85 = .ok (.aload_n 0, 1) := by decide +kernel
theorem dX12_findLeaves_86 : decode cX12_findLeaves 86 = .ok (.iload_n 2, 1) := by decide +kernel
theorem dX12_findLeaves_87 : decode cX12_findLeaves 87 = .ok (.invokevirtual 362, 3) := by decide +kernel
theorem dX12_findLeaves_90 : decode cX12_findLeaves 90 = .ok (.iadd, 1) := by decide +kernel
theorem dX12_findLeaves_91 : decode cX12_findLeaves 91 = .ok (.iastore, 1) := by decide +kernel
theorem dX12_findLeaves_92 : decode cX12_findLeaves 92 = .ok (.aload_n 0, 1) := by decide +kernel
theorem dX12_findLeaves_93 : decode cX12_findLeaves 93 = .ok (.dup, 1) := by decide +kernel
theorem dX12_findLeaves_94 : decode cX12_findLeaves 94 = .ok (.getfield 544, 3) := by decide +kernel
theorem dX12_findLeaves_97 : decode cX12_findLeaves 97 = .ok (.iconst 1, 1) := by decide +kernel
theorem dX12_findLeaves_98 : decode cX12_findLeaves 98 = .ok (.iadd, 1) := by decide +kernel
theorem dX12_findLeaves_99 : decode cX12_findLeaves 99 = .ok (.putfield 544, 3) := by decide +kernel
theorem dX12_findLeaves_102 : decode cX12_findLeaves 102 = .ok (.iinc 2 1, 3) := by decide +kernel
theorem dX12_findLeaves_105 : decode cX12_findLeaves 105 = .ok (.goto (-80), 3) := by decide +kernel
theorem dX12_findLeaves_108 : decode cX12_findLeaves 108 = .ok (.iinc 1 1, 3) := by decide +kernel
theorem dX12_findLeaves_111 : decode cX12_findLeaves 111 = .ok (.goto (-104), 3) := by decide +kernel
theorem dX12_findLeaves_114 : decode cX12_findLeaves 114 = .ok (.return_, 1) := by decide +kernel
def m_X12_findLeaves_108 (k7 : Int32 → Hp → Prop) (Q : Hp → Prop) (v1 : Int32) (h : Hp) : Prop := ∀ x1 : Int32, x1 = v1 + 1 → k7 x1 h
set_option maxHeartbeats 4000000 in
set_option maxRecDepth 100000 in
theorem s_X12_findLeaves_108 {l : Launch} {G : Cx} {d : Nat} {h0 : Hp} (hd : 4 ≤ d) {k7 : Int32 → Hp → Prop} {Q : Hp → Prop} (hk7 : ∀ (v1 : Int32) (hh : Hp), k7 v1 hh → Rn l G d 0 0 MX12_findLeaves h0 (qV Q) 7 [some (tR 12 0 (some 51)), some (tI v1)] [] hh 0 0) {v1 : Int32} {h : Hp} (hm : m_X12_findLeaves_108 k7 Q v1 h) : Rn l G d 0 0 MX12_findLeaves h0 (qV Q) 108 [some (tR 12 0 (some 51)), some (tI v1)] [] h 0 0 := by
  unfold m_X12_findLeaves_108 at hm
  obtain ⟨x1, e_x1⟩ : ∃ y : Int32, y = v1 + 1 := ⟨_, rfl⟩
  replace hm := hm x1 e_x1
  refine r_iinc (L' := [some (tR 12 0 (some 51)), some (tI x1)]) dX12_findLeaves_108 rfl (by rw [e_x1]; rfl) (by decide) rfl ?_
  refine r_goto (tgt := 7) dX12_findLeaves_111 rfl ?_
  refine r_keep (L' := [some (tR 12 0 (some 51)), some (tI x1)]) [true, true] rfl ?_
  exact hk7 _ _ hm
def m_X12_findLeaves_102 (k25 : Int32 → Int32 → Hp → Prop) (k108 : Int32 → Hp → Prop) (Q : Hp → Prop) (v1 : Int32) (v2 : Int32) (h : Hp) : Prop := ∀ x2 : Int32, x2 = v2 + 1 → k25 v1 x2 h
set_option maxHeartbeats 4000000 in
set_option maxRecDepth 100000 in
theorem s_X12_findLeaves_102 {l : Launch} {G : Cx} {d : Nat} {h0 : Hp} (hd : 4 ≤ d) {k25 : Int32 → Int32 → Hp → Prop} {k108 : Int32 → Hp → Prop} {Q : Hp → Prop} (hk25 : ∀ (v1 : Int32) (v2 : Int32) (hh : Hp), k25 v1 v2 hh → Rn l G d 0 0 MX12_findLeaves h0 (qV Q) 25 [some (tR 12 0 (some 51)), some (tI v1), some (tI v2)] [] hh 0 0) (hk108 : ∀ (v1 : Int32) (hh : Hp), k108 v1 hh → Rn l G d 0 0 MX12_findLeaves h0 (qV Q) 108 [some (tR 12 0 (some 51)), some (tI v1)] [] hh 0 0) {v1 : Int32} {v2 : Int32} {h : Hp} (hm : m_X12_findLeaves_102 k25 k108 Q v1 v2 h) : Rn l G d 0 0 MX12_findLeaves h0 (qV Q) 102 [some (tR 12 0 (some 51)), some (tI v1), some (tI v2)] [] h 0 0 := by
  unfold m_X12_findLeaves_102 at hm
  obtain ⟨x2, e_x2⟩ : ∃ y : Int32, y = v2 + 1 := ⟨_, rfl⟩
  replace hm := hm x2 e_x2
  refine r_iinc (L' := [some (tR 12 0 (some 51)), some (tI v1), some (tI x2)]) dX12_findLeaves_102 rfl (by rw [e_x2]; rfl) (by decide) rfl ?_
  refine r_goto (tgt := 25) dX12_findLeaves_105 rfl ?_
  refine r_keep (L' := [some (tR 12 0 (some 51)), some (tI v1), some (tI x2)]) [true, true, true] rfl ?_
  exact hk25 _ _ _ hm
def m_X12_findLeaves_25 : Nat → (Int32 → Hp → Prop) → (Hp → Prop) → Int32 → Int32 → Hp → Prop
  | 0, _, _, _, _, _ => False
  | n + 1, k108, Q, v1, v2, h => vp_in v1 6 ∧ (vp_in v1 6 ∧ (vp_in (hI h 85 (ix v1)) 24 ∧ ((((96 * (hI h 85 (ix v1))) + (hI h 53 (ix (hI h 85 (ix v1))))) ≤ v2 → k108 v1 h) ∧ (¬ ((96 * (hI h 85 (ix v1))) + (hI h 53 (ix (hI h 85 (ix v1))))) ≤ v2 → m_X12_isLeaf v2 h (fun (x3 : Int32) (h4 : Hp) => (¬ x3 = 0 → vp_in (hI h4 51 78) 72 ∧ (vp_in v2 2304 ∧ (m_X12_later v2 (wI h4 100 (ix (hI h4 51 78)) v2) (fun (x5 : Int32) (h6 : Hp) => vp_in (hI (wI h4 100 (ix (hI h4 51 78)) v2) 51 78) 72 ∧ (m_X12_findLeaves_102 (fun (v1 : Int32) (v2 : Int32) (hh : Hp) => m_X12_findLeaves_25 n k108 Q v1 v2 hh) k108 Q v1 v2 (wI (wI h6 101 (ix (hI (wI h4 100 (ix (hI h4 51 78)) v2) 51 78)) ((hI (wI h4 100 (ix (hI h4 51 78)) v2) 69 (ix v2)) + x5)) 51 78 ((hI (wI h6 101 (ix (hI (wI h4 100 (ix (hI h4 51 78)) v2) 51 78)) ((hI (wI h4 100 (ix (hI h4 51 78)) v2) 69 (ix v2)) + x5)) 51 78) + 1))))))) ∧ (x3 = 0 → m_X12_findLeaves_102 (fun (v1 : Int32) (v2 : Int32) (hh : Hp) => m_X12_findLeaves_25 n k108 Q v1 v2 hh) k108 Q v1 v2 h4))))))
set_option maxHeartbeats 4000000 in
set_option maxRecDepth 100000 in
theorem s_X12_findLeaves_25 {l : Launch} {G : Cx} {d : Nat} {h0 : Hp} (hd : 4 ≤ d) {k108 : Int32 → Hp → Prop} {Q : Hp → Prop} (hk108 : ∀ (v1 : Int32) (hh : Hp), k108 v1 hh → Rn l G d 0 0 MX12_findLeaves h0 (qV Q) 108 [some (tR 12 0 (some 51)), some (tI v1)] [] hh 0 0) : ∀ {n : Nat} {v1 : Int32} {v2 : Int32} {h : Hp}, m_X12_findLeaves_25 n k108 Q v1 v2 h → Rn l G d 0 0 MX12_findLeaves h0 (qV Q) 25 [some (tR 12 0 (some 51)), some (tI v1), some (tI v2)] [] h 0 0 := by
  intro n
  induction n with
  | zero => intro v1 v2 h hm; exact hm.elim
  | succ n ih =>
    intro v1 v2 h hm
    have hk25 := fun (v1 : Int32) (v2 : Int32) (hh : Hp) (hm : m_X12_findLeaves_25 n k108 Q v1 v2 hh) => ih hm
    rw [m_X12_findLeaves_25] at hm
    refine r_iload_n dX12_findLeaves_25 rfl rfl ?_
    refine r_bipush (v := 96) dX12_findLeaves_26 rfl ?_
    refine r_aload_n dX12_findLeaves_28 rfl rfl ?_
    refine r_getC (k := 57) cl_12 dX12_findLeaves_29 t_1329 gf_12_57.1 gf_12_57.2 (gc_12_57 _) ?_
    refine r_iload_n dX12_findLeaves_32 rfl rfl ?_
    refine r_iald dX12_findLeaves_33 hm.1 ?_
    replace hm := hm.2
    refine r_imul dX12_findLeaves_34 ?_
    refine r_aload_n dX12_findLeaves_35 rfl rfl ?_
    refine r_getC (k := 2) cl_12 dX12_findLeaves_36 t_1274 gf_12_2.1 gf_12_2.2 (gc_12_2 _) ?_
    refine r_aload_n dX12_findLeaves_39 rfl rfl ?_
    refine r_getC (k := 57) cl_12 dX12_findLeaves_40 t_1329 gf_12_57.1 gf_12_57.2 (gc_12_57 _) ?_
    refine r_iload_n dX12_findLeaves_43 rfl rfl ?_
    refine r_iald dX12_findLeaves_44 hm.1 ?_
    replace hm := hm.2
    refine r_iald dX12_findLeaves_45 hm.1 ?_
    replace hm := hm.2
    refine r_iadd dX12_findLeaves_46 ?_
    refine r_icmp_ge (tgt := 108) dX12_findLeaves_47 rfl (fun hc => ?_) (fun hc => ?_)
    · replace hm := hm.1 hc
      refine r_keep (L' := [some (tR 12 0 (some 51)), some (tI v1)]) [true, true] rfl ?_
      exact hk108 _ _ hm
    · replace hm := hm.2 hc
      refine r_aload_n dX12_findLeaves_50 rfl rfl ?_
      refine r_iload_n dX12_findLeaves_51 rfl rfl ?_
      refine r_callVI (d' := d - 1) (as := [tI v2]) (st := []) cl_12 dX12_findLeaves_52 mi_X12_isLeaf t_1677 t_1679 ts_75 rfl rfl (Nat.le_of_ble_eq_true rfl) (by omega) ⟨by decide, by decide⟩ ⟨rfl, rfl⟩ (s_X12_isLeaf (by omega) hm) (fun x3 h4 hm => ?_)
      refine r_if_ne (tgt := 61) dX12_findLeaves_55 rfl (fun hc => ?_) (fun hc => ?_)
      · replace hm := hm.1 hc
        refine r_aload_n dX12_findLeaves_61 rfl rfl ?_
        refine r_getC (k := 81) cl_12 dX12_findLeaves_62 t_1353 gf_12_81.1 gf_12_81.2 (gc_12_81 _) ?_
        refine r_aload_n dX12_findLeaves_65 rfl rfl ?_
        refine r_getI (k := 78) cl_12 dX12_findLeaves_66 t_1350 (Or.inl rfl) gf_12_78 ?_
        refine r_iload_n dX12_findLeaves_69 rfl rfl ?_
        refine r_iast dX12_findLeaves_70 hm.1 ?_
        replace hm := hm.2
        refine r_aload_n dX12_findLeaves_71 rfl rfl ?_
        refine r_getC (k := 82) cl_12 dX12_findLeaves_72 t_1354 gf_12_82.1 gf_12_82.2 (gc_12_82 _) ?_
        refine r_aload_n dX12_findLeaves_75 rfl rfl ?_
        refine r_getI (k := 78) cl_12 dX12_findLeaves_76 t_1350 (Or.inl rfl) gf_12_78 ?_
        refine r_aload_n dX12_findLeaves_79 rfl rfl ?_
        refine r_getC (k := 18) cl_12 dX12_findLeaves_80 t_1290 gf_12_18.1 gf_12_18.2 (gc_12_18 _) ?_
        refine r_iload_n dX12_findLeaves_83 rfl rfl ?_
        refine r_iald dX12_findLeaves_84 hm.1 ?_
        replace hm := hm.2
        refine r_aload_n dX12_findLeaves_85 rfl rfl ?_
        refine r_iload_n dX12_findLeaves_86 rfl rfl ?_
        refine r_callVI (d' := d - 1) (as := [tI v2]) (st := [tI (hI (wI h4 100 (ix (hI h4 51 78)) v2) 69 (ix v2)), tI (hI (wI h4 100 (ix (hI h4 51 78)) v2) 51 78), tR 40 72 (some 101)]) cl_12 dX12_findLeaves_87 mi_X12_later t_1689 t_1691 ts_77 rfl rfl (Nat.le_of_ble_eq_true rfl) (by omega) ⟨by decide, by decide⟩ ⟨rfl, rfl⟩ (s_X12_later (by omega) hm) (fun x5 h6 hm => ?_)
        refine r_iadd dX12_findLeaves_90 ?_
        refine r_iast dX12_findLeaves_91 hm.1 ?_
        replace hm := hm.2
        refine r_aload_n dX12_findLeaves_92 rfl rfl ?_
        refine r_dup dX12_findLeaves_93 cv_cat1R ?_
        refine r_getI (k := 78) cl_12 dX12_findLeaves_94 t_1350 (Or.inl rfl) gf_12_78 ?_
        refine r_iconst (v := 1) dX12_findLeaves_97 rfl ?_
        refine r_iadd dX12_findLeaves_98 ?_
        refine r_putI0 (k := 78) cl_12 dX12_findLeaves_99 t_1350 (Or.inl rfl) gf_12_78 pf_12_78.1 (Or.inl pf_12_78.2) ?_
        refine r_keep (L' := [some (tR 12 0 (some 51)), some (tI v1), some (tI v2)]) [true, true, true] rfl ?_
        exact s_X12_findLeaves_102 hd hk25 hk108 hm
      · replace hm := hm.2 hc
        refine r_goto (tgt := 102) dX12_findLeaves_58 rfl ?_
        refine r_keep (L' := [some (tR 12 0 (some 51)), some (tI v1), some (tI v2)]) [true, true, true] rfl ?_
        exact s_X12_findLeaves_102 hd hk25 hk108 hm
def m_X12_findLeaves_7 : Nat → (Hp → Prop) → Int32 → Hp → Prop
  | 0, _, _, _ => False
  | n + 1, Q, v1, h => ((hI h 51 55) ≤ v1 → Q h) ∧ (¬ (hI h 51 55) ≤ v1 → vp_in v1 6 ∧ (∀ x7 : Int32, x7 = (96 * (hI h 85 (ix v1))) → ∃ n25, m_X12_findLeaves_25 n25 (m_X12_findLeaves_108 (fun (v1 : Int32) (hh : Hp) => m_X12_findLeaves_7 n Q v1 hh) Q) Q v1 x7 h))
set_option maxHeartbeats 4000000 in
set_option maxRecDepth 100000 in
theorem s_X12_findLeaves_7 {l : Launch} {G : Cx} {d : Nat} {h0 : Hp} (hd : 4 ≤ d) {Q : Hp → Prop} : ∀ {n : Nat} {v1 : Int32} {h : Hp}, m_X12_findLeaves_7 n Q v1 h → Rn l G d 0 0 MX12_findLeaves h0 (qV Q) 7 [some (tR 12 0 (some 51)), some (tI v1)] [] h 0 0 := by
  intro n
  induction n with
  | zero => intro v1 h hm; exact hm.elim
  | succ n ih =>
    intro v1 h hm
    have hk7 := fun (v1 : Int32) (hh : Hp) (hm : m_X12_findLeaves_7 n Q v1 hh) => ih hm
    rw [m_X12_findLeaves_7] at hm
    refine r_iload_n dX12_findLeaves_7 rfl rfl ?_
    refine r_aload_n dX12_findLeaves_8 rfl rfl ?_
    refine r_getI (k := 55) cl_12 dX12_findLeaves_9 t_1327 (Or.inl rfl) gf_12_55 ?_
    refine r_icmp_ge (tgt := 114) dX12_findLeaves_12 rfl (fun hc => ?_) (fun hc => ?_)
    · replace hm := hm.1 hc
      exact r_return dX12_findLeaves_114 rfl ⟨by decide, by decide⟩ ⟨rfl, hm⟩
    · replace hm := hm.2 hc
      refine r_bipush (v := 96) dX12_findLeaves_15 rfl ?_
      refine r_aload_n dX12_findLeaves_17 rfl rfl ?_
      refine r_getC (k := 57) cl_12 dX12_findLeaves_18 t_1329 gf_12_57.1 gf_12_57.2 (gc_12_57 _) ?_
      refine r_iload_n dX12_findLeaves_21 rfl rfl ?_
      refine r_iald dX12_findLeaves_22 hm.1 ?_
      replace hm := hm.2
      refine r_imul dX12_findLeaves_23 ?_
      refine r_nmI (fun x7 e_x7 => ?_)
      replace hm := hm x7 e_x7
      refine r_istore_n (L' := [some (tR 12 0 (some 51)), some (tI v1), some (tI x7)]) dX12_findLeaves_24 rfl (by decide) rfl ?_
      refine r_keep (L' := [some (tR 12 0 (some 51)), some (tI v1), some (tI x7)]) [true, true, true] rfl ?_
      obtain ⟨n, hm⟩ := hm
      refine s_X12_findLeaves_25 hd ?_ hm
      · exact (fun _ _ hm => s_X12_findLeaves_108 hd hk7 hm)
def m_X12_findLeaves  (h : Hp) (Q : Hp → Prop) : Prop := ∃ n7, m_X12_findLeaves_7 n7 Q 0 (wI h 51 78 0)
set_option maxHeartbeats 4000000 in
set_option maxRecDepth 100000 in
theorem s_X12_findLeaves {l : Launch} {G : Cx} {d : Nat} (hd : 4 ≤ d) {h : Hp} {Q : Hp → Prop} (hm : m_X12_findLeaves h Q) : Ct l G d 0 0 yX12_findLeaves MX12_findLeaves [tR 12 0 (some 51)] h (qV Q) := by
  unfold m_X12_findLeaves at hm
  refine Ct.of (L := [some (tR 12 0 (some 51))]) (by decide) rfl rfl (Nat.le_of_ble_eq_true rfl) rfl ?_
  refine r_aload_n dX12_findLeaves_0 rfl rfl ?_
  refine r_iconst (v := 0) dX12_findLeaves_1 rfl ?_
  refine r_putI0 (k := 78) cl_12 dX12_findLeaves_2 t_1350 (Or.inl rfl) gf_12_78 pf_12_78.1 (Or.inl pf_12_78.2) ?_
  refine r_iconst (v := 0) dX12_findLeaves_5 rfl ?_
  refine r_istore_n (L' := [some (tR 12 0 (some 51)), some (tI 0)]) dX12_findLeaves_6 rfl (by decide) rfl ?_
  refine r_keep (L' := [some (tR 12 0 (some 51)), some (tI 0)]) [true, true] rfl ?_
  obtain ⟨n, hm⟩ := hm
  refine s_X12_findLeaves_7 hd hm
theorem dX12_isOf_0 : decode cX12_isOf 0 = .ok (.aload_n 0, 1) := rfl
theorem dX12_isOf_1 : decode cX12_isOf 1 = .ok (.getfield 161, 3) := rfl
theorem dX12_isOf_4 : decode cX12_isOf 4 = .ok (.iload_n 1, 1) := rfl
theorem dX12_isOf_5 : decode cX12_isOf 5 = .ok (.iaload, 1) := rfl
theorem dX12_isOf_6 : decode cX12_isOf 6 = .ok (.istore 4, 2) := rfl
theorem dX12_isOf_8 : decode cX12_isOf 8 = .ok (.iload_n 2, 1) := rfl
theorem dX12_isOf_9 : decode cX12_isOf 9 = .ok (.iconst 4, 1) := rfl
theorem dX12_isOf_10 : decode cX12_isOf 10 = .ok (.if_icmp .eq 14, 3) := by decide +kernel
theorem dX12_isOf_13 : decode cX12_isOf 13 = .ok (.aload_n 0, 1) := rfl
theorem dX12_isOf_14 : decode cX12_isOf 14 = .ok (.getfield 28, 3) := rfl
theorem dX12_isOf_17 : decode cX12_isOf 17 = .ok (.iload 4, 2) := rfl
theorem dX12_isOf_19 : decode cX12_isOf 19 = .ok (.iaload, 1) := rfl
theorem dX12_isOf_20 : decode cX12_isOf 20 = .ok (.iload_n 2, 1) := rfl
theorem dX12_isOf_21 : decode cX12_isOf 21 = .ok (.if_icmp .ne 22, 3) := by decide +kernel
theorem dX12_isOf_24 : decode cX12_isOf 24 = .ok (.iload_n 3, 1) := rfl
theorem dX12_isOf_25 : decode cX12_isOf 25 = .ok (.ifCond .lt 14, 3) := by decide +kernel
theorem dX12_isOf_28 : decode cX12_isOf 28 = .ok (.aload_n 0, 1) := rfl
theorem dX12_isOf_29 : decode cX12_isOf 29 = .ok (.getfield 52, 3) := rfl
theorem dX12_isOf_32 : decode cX12_isOf 32 = .ok (.iload 4, 2) := rfl
theorem dX12_isOf_34 : decode cX12_isOf 34 = .ok (.iaload, 1) := rfl
theorem dX12_isOf_35 : decode cX12_isOf 35 = .ok (.iload_n 3, 1) := rfl
theorem dX12_isOf_36 : decode cX12_isOf 36 = .ok (.if_icmp .ne 7, 3) := by decide +kernel
theorem dX12_isOf_39 : decode cX12_isOf 39 = .ok (.iconst 1, 1) := rfl
theorem dX12_isOf_40 : decode cX12_isOf 40 = .ok (.goto 4, 3) := by decide +kernel
theorem dX12_isOf_43 : decode cX12_isOf 43 = .ok (.iconst 0, 1) := rfl
theorem dX12_isOf_44 : decode cX12_isOf 44 = .ok (.ireturn, 1) := rfl
def m_X12_isOf_24  (Q : Int32 → Hp → Prop) (v3 : Int32) (v4 : Int32) (h : Hp) : Prop := (v3 < 0 → Q 1 h) ∧ (¬ v3 < 0 → vp_in v4 2304 ∧ ((¬ (hI h 66 (ix v4)) = v3 → Q 0 h) ∧ ((hI h 66 (ix v4)) = v3 → Q 1 h)))
set_option maxHeartbeats 4000000 in
set_option maxRecDepth 100000 in
theorem s_X12_isOf_24 {l : Launch} {G : Cx} {d : Nat} {h0 : Hp} (hd : 2 ≤ d) {Q : Int32 → Hp → Prop} {v3 : Int32} {v4 : Int32} {h : Hp} (hm : m_X12_isOf_24 Q v3 v4 h) : Rn l G d 0 0 MX12_isOf h0 (qI Q) 24 [some (tR 12 0 (some 51)), none, none, some (tI v3), some (tI v4)] [] h 0 0 := by
  unfold m_X12_isOf_24 at hm
  refine r_iload_n dX12_isOf_24 rfl rfl ?_
  refine r_if_lt (tgt := 39) dX12_isOf_25 rfl (fun hc => ?_) (fun hc => ?_)
  · replace hm := hm.1 hc
    refine r_iconst (v := 1) dX12_isOf_39 rfl ?_
    refine r_goto (tgt := 44) dX12_isOf_40 rfl ?_
    exact r_bret dX12_isOf_44 rfl ⟨by decide, by decide⟩ (by unfold bz; decide) ⟨_, rfl, hm⟩
  · replace hm := hm.2 hc
    refine r_aload_n dX12_isOf_28 rfl rfl ?_
    refine r_getC (k := 15) cl_12 dX12_isOf_29 t_1287 gf_12_15.1 gf_12_15.2 (gc_12_15 _) ?_
    refine r_iload dX12_isOf_32 rfl ?_
    refine r_iald dX12_isOf_34 hm.1 ?_
    replace hm := hm.2
    refine r_iload_n dX12_isOf_35 rfl rfl ?_
    refine r_icmp_ne (tgt := 43) dX12_isOf_36 rfl (fun hc => ?_) (fun hc => ?_)
    · replace hm := hm.1 hc
      refine r_iconst (v := 0) dX12_isOf_43 rfl ?_
      exact r_bret dX12_isOf_44 rfl ⟨by decide, by decide⟩ (by unfold bz; decide) ⟨_, rfl, hm⟩
    · replace hm := hm.2 hc
      refine r_iconst (v := 1) dX12_isOf_39 rfl ?_
      refine r_goto (tgt := 44) dX12_isOf_40 rfl ?_
      exact r_bret dX12_isOf_44 rfl ⟨by decide, by decide⟩ (by unfold bz; decide) ⟨_, rfl, hm⟩
def m_X12_isOf (v1 : Int32) (v2 : Int32) (v3 : Int32) (h : Hp) (Q : Int32 → Hp → Prop) : Prop := vp_in v1 72 ∧ (∀ x1 : Int32, x1 = (hI h 100 (ix v1)) → (v2 = 4 → m_X12_isOf_24 Q v3 x1 h) ∧ (¬ v2 = 4 → vp_in x1 2304 ∧ ((¬ (hI h 58 (ix x1)) = v2 → Q 0 h) ∧ ((hI h 58 (ix x1)) = v2 → m_X12_isOf_24 Q v3 x1 h))))
set_option maxHeartbeats 4000000 in
set_option maxRecDepth 100000 in
theorem s_X12_isOf {l : Launch} {G : Cx} {d : Nat} (hd : 2 ≤ d) {v1 : Int32} {v2 : Int32} {v3 : Int32} {h : Hp} {Q : Int32 → Hp → Prop} (hm : m_X12_isOf v1 v2 v3 h Q) : Ct l G d 0 0 yX12_isOf MX12_isOf [tR 12 0 (some 51), tI v1, tI v2, tI v3] h (qI Q) := by
  unfold m_X12_isOf at hm
  refine Ct.of (L := [some (tR 12 0 (some 51)), some (tI v1), some (tI v2), some (tI v3)]) (by decide) rfl rfl (Nat.le_of_ble_eq_true rfl) rfl ?_
  refine r_aload_n dX12_isOf_0 rfl rfl ?_
  refine r_getC (k := 81) cl_12 dX12_isOf_1 t_1353 gf_12_81.1 gf_12_81.2 (gc_12_81 _) ?_
  refine r_iload_n dX12_isOf_4 rfl rfl ?_
  refine r_iald dX12_isOf_5 hm.1 ?_
  replace hm := hm.2
  refine r_nmI (fun x1 e_x1 => ?_)
  replace hm := hm x1 e_x1
  refine r_istore (L' := [some (tR 12 0 (some 51)), some (tI v1), some (tI v2), some (tI v3), some (tI x1)]) dX12_isOf_6 (by decide) rfl ?_
  refine r_iload_n dX12_isOf_8 rfl rfl ?_
  refine r_iconst (v := 4) dX12_isOf_9 rfl ?_
  refine r_icmp_eq (tgt := 24) dX12_isOf_10 rfl (fun hc => ?_) (fun hc => ?_)
  · replace hm := hm.1 hc
    refine r_keep (L' := [some (tR 12 0 (some 51)), none, none, some (tI v3), some (tI x1)]) [true, false, false, true, true] rfl ?_
    exact s_X12_isOf_24 hd hm
  · replace hm := hm.2 hc
    refine r_aload_n dX12_isOf_13 rfl rfl ?_
    refine r_getC (k := 7) cl_12 dX12_isOf_14 t_1279 gf_12_7.1 gf_12_7.2 (gc_12_7 _) ?_
    refine r_iload dX12_isOf_17 rfl ?_
    refine r_iald dX12_isOf_19 hm.1 ?_
    replace hm := hm.2
    refine r_iload_n dX12_isOf_20 rfl rfl ?_
    refine r_icmp_ne (tgt := 43) dX12_isOf_21 rfl (fun hc => ?_) (fun hc => ?_)
    · replace hm := hm.1 hc
      refine r_iconst (v := 0) dX12_isOf_43 rfl ?_
      exact r_bret dX12_isOf_44 rfl ⟨by decide, by decide⟩ (by unfold bz; decide) ⟨_, rfl, hm⟩
    · replace hm := hm.2 hc
      refine r_keep (L' := [some (tR 12 0 (some 51)), none, none, some (tI v3), some (tI x1)]) [true, false, false, true, true] rfl ?_
      exact s_X12_isOf_24 hd hm
theorem dX12_isPair_0 : decode cX12_isPair 0 = .ok (.aload_n 0, 1) := by decide +kernel
theorem dX12_isPair_1 : decode cX12_isPair 1 = .ok (.getfield 164, 3) := by decide +kernel
theorem dX12_isPair_4 : decode cX12_isPair 4 = .ok (.iload_n 3, 1) := by decide +kernel
theorem dX12_isPair_5 : decode cX12_isPair 5 = .ok (.iaload, 1) := by decide +kernel
theorem dX12_isPair_6 : decode cX12_isPair 6 = .ok (.aload_n 0, 1) := by decide +kernel
theorem dX12_isPair_7 : decode cX12_isPair 7 = .ok (.getfield 164, 3) := by decide +kernel
theorem dX12_isPair_10 : decode cX12_isPair 10 = .ok (.iload_n 2, 1) := by decide +kernel
theorem dX12_isPair_11 : decode cX12_isPair 11 = .ok (.iaload, 1) := by decide +kernel
theorem dX12_isPair_12 : decode cX12_isPair 12 = .ok (.isub, 1) := by decide +kernel
theorem dX12_isPair_13 : decode cX12_isPair 13 = .ok (.istore 4, 2) := by decide +kernel
theorem dX12_isPair_15 : decode cX12_isPair 15 = .ok (.aload_n 0, 1) := by decide +kernel
theorem dX12_isPair_16 : decode cX12_isPair 16 = .ok (.iload_n 3, 1) := by decide +kernel
theorem dX12_isPair_17 : decode cX12_isPair 17 = .ok (.aload_n 0, 1) := by decide +kernel
theorem dX12_isPair_18 : decode cX12_isPair 18 = .ok (.getfield 146, 3) := by decide +kernel
theorem dX12_isPair_21 : decode cX12_isPair 21 = .ok (.iload_n 1, 1) := by decide +kernel
theorem dX12_isPair_22 : decode cX12_isPair 22 = .ok (.iaload, 1) := by decide +kernel
theorem dX12_isPair_23 : decode cX12_isPair 23 = .ok (.aload_n 0, 1) := by decide +kernel
theorem dX12_isPair_24 : decode cX12_isPair 24 = .ok (.getfield 149, 3) := by decide +kernel
theorem dX12_isPair_27 : decode cX12_isPair 27 = .ok (.iload_n 1, 1) := by decide +kernel
theorem dX12_isPair_28 : decode cX12_isPair 28 = .ok (.iaload, 1) := by decide +kernel
theorem dX12_isPair_29 : decode cX12_isPair 29 = .ok (.invokevirtual 547, 3) := by decide +kernel
theorem dX12_isPair_32 : decode cX12_isPair 32 = .ok (.ifCond .eq 38, 3) := by decide +kernel
theorem dX12_isPair_35 : decode cX12_isPair 35 = .ok (.iload 4, 2) := by decide +kernel
theorem dX12_isPair_37 : decode cX12_isPair 37 = .ok (.ifCond .lt 33, 3) := by decide +kernel
theorem dX12_isPair_40 : decode cX12_isPair 40 = .ok (.iload 4, 2) := by decide +kernel
theorem dX12_isPair_42 : decode cX12_isPair 42 = .ok (.ifCond .ne 8, 3) := by decide +kernel
theorem dX12_isPair_45 : decode cX12_isPair 45 = .ok (.iload_n 3, 1) := by decide +kernel
theorem dX12_isPair_46 : decode cX12_isPair 46 = .ok (.iload_n 2, 1) := by decide +kernel
theorem dX12_isPair_47 : decode cX12_isPair 47 = .ok (.if_icmp .le 23, 3) := by decide +kernel
theorem dX12_isPair_50 : decode cX12_isPair 50 = .ok (.aload_n 0, 1) := by decide +kernel
theorem dX12_isPair_51 : decode cX12_isPair 51 = .ok (.getfield 155, 3) := by decide +kernel
theorem dX12_isPair_54 : decode cX12_isPair 54 = .ok (.iload_n 1, 1) := by decide +kernel
theorem dX12_isPair_55 : decode cX12_isPair 55 = .ok (.iaload, 1) := by decide +kernel
theorem dX12_isPair_56 : decode cX12_isPair 56 = .ok (.ifCond .lt 16, 3) := by decide +kernel
theorem dX12_isPair_59 : decode cX12_isPair 59 = .ok (.iload 4, 2) := by decide +kernel
theorem dX12_isPair_61 : decode cX12_isPair 61 = .ok (.aload_n 0, 1) := by decide +kernel
theorem dX12_isPair_62 : decode cX12_isPair 62 = .ok (.getfield 155, 3) := by decide +kernel
theorem dX12_isPair_65 : decode cX12_isPair 65 = .ok (.iload_n 1, 1) := by decide +kernel
theorem dX12_isPair_66 : decode cX12_isPair 66 = .ok (.iaload, 1) := by decide +kernel
theorem dX12_isPair_67 : decode cX12_isPair 67 = .ok (.if_icmp .le 5, 3) := by decide +kernel
theorem dX12_isPair_70 : decode cX12_isPair 70 = .ok (.iconst 0, 1) := by decide +kernel
theorem dX12_isPair_71 : decode cX12_isPair 71 = .ok (.ireturn, 1) := by decide +kernel
theorem dX12_isPair_72 : decode cX12_isPair 72 = .ok (.aload_n 0, 1) := by decide +kernel
theorem dX12_isPair_73 : decode cX12_isPair 73 = .ok (.getfield 161, 3) := by decide +kernel
theorem dX12_isPair_76 : decode cX12_isPair 76 = .ok (.iload_n 2, 1) := by decide +kernel
theorem dX12_isPair_77 : decode cX12_isPair 77 = .ok (.iaload, 1) := by decide +kernel
theorem dX12_isPair_78 : decode cX12_isPair 78 = .ok (.istore 5, 2) := by decide +kernel
theorem dX12_isPair_80 : decode cX12_isPair 80 = .ok (.aload_n 0, 1) := by decide +kernel
theorem dX12_isPair_81 : decode cX12_isPair 81 = .ok (.getfield 161, 3) := by decide +kernel
theorem dX12_isPair_84 : decode cX12_isPair 84 = .ok (.iload_n 3, 1) := by decide +kernel
theorem dX12_isPair_85 : decode cX12_isPair 85 = .ok (.iaload, 1) := by decide +kernel
theorem dX12_isPair_86 : decode cX12_isPair 86 = .ok (.istore 6, 2) := by decide +kernel
theorem dX12_isPair_88 : decode cX12_isPair 88 = .ok (.aload_n 0, 1) := by decide +kernel
theorem dX12_isPair_89 : decode cX12_isPair 89 = .ok (.getfield 152, 3) := by decide +kernel
theorem dX12_isPair_92 : decode cX12_isPair 92 = .ok (.iload_n 1, 1) := by decide +kernel
theorem dX12_isPair_93 : decode cX12_isPair 93 = .ok (.iaload, 1) := by decide +kernel
theorem dX12_isPair_94 : decode cX12_isPair 94 = .ok (.iconst 1, 1) := by decide +kernel
theorem dX12_isPair_95 : decode cX12_isPair 95 = .ok (.iand, 1) := by decide +kernel
theorem dX12_isPair_96 : decode cX12_isPair 96 = .ok (.iconst 1, 1) := by decide +kernel
theorem dX12_isPair_97 : decode cX12_isPair 97 = .ok (.if_icmp .ne 59, 3) := by decide +kernel
theorem dX12_isPair_100 : decode cX12_isPair 100 = .ok (.aload_n 0, 1) := by decide +kernel
theorem dX12_isPair_101 : decode cX12_isPair 101 = .ok (.getfield 7, 3) := by decide +kernel
theorem dX12_isPair_104 : decode cX12_isPair 104 = .ok (.aload_n 0, 1) := by decide +kernel
theorem dX12_isPair_105 : decode cX12_isPair 105 = .ok (.getfield 49, 3) := by decide +kernel
theorem dX12_isPair_108 : decode cX12_isPair 108 = .ok (.iload 6, 2) := by decide +kernel
theorem dX12_isPair_110 : decode cX12_isPair 110 = .ok (.iaload, 1) := by decide +kernel
theorem dX12_isPair_111 : decode cX12_isPair 111 = .ok (.iaload, 1) := by decide +kernel
theorem dX12_isPair_112 : decode cX12_isPair 112 = .ok (.aload_n 0, 1) := by decide +kernel
theorem dX12_isPair_113 : decode cX12_isPair 113 = .ok (.getfield 7, 3) := by decide +kernel
theorem dX12_isPair_116 : decode cX12_isPair 116 = .ok (.aload_n 0, 1) := by decide +kernel
theorem dX12_isPair_117 : decode cX12_isPair 117 = .ok (.getfield 46, 3) := by decide +kernel
theorem dX12_isPair_120 : decode cX12_isPair 120 = .ok (.iload 5, 2) := by decide +kernel
theorem dX12_isPair_122 : decode cX12_isPair 122 = .ok (.iaload, 1) := by decide +kernel
theorem dX12_isPair_123 : decode cX12_isPair 123 = .ok (.iaload, 1) := by decide +kernel
theorem dX12_isPair_124 : decode cX12_isPair 124 = .ok (.if_icmp .ne 30, 3) := by decide +kernel
theorem dX12_isPair_127 : decode cX12_isPair 127 = .ok (.aload_n 0, 1) := by decide +kernel
theorem dX12_isPair_128 : decode cX12_isPair 128 = .ok (.getfield 7, 3) := by decide +kernel
theorem dX12_isPair_131 : decode cX12_isPair 131 = .ok (.aload_n 0, 1) := by decide +kernel
theorem dX12_isPair_132 : decode cX12_isPair 132 = .ok (.getfield 46, 3) := by decide +kernel
theorem dX12_isPair_135 : decode cX12_isPair 135 = .ok (.iload 6, 2) := by decide +kernel
theorem dX12_isPair_137 : decode cX12_isPair 137 = .ok (.iaload, 1) := by decide +kernel
theorem dX12_isPair_138 : decode cX12_isPair 138 = .ok (.iaload, 1) := by decide +kernel
theorem dX12_isPair_139 : decode cX12_isPair 139 = .ok (.aload_n 0, 1) := by decide +kernel
theorem dX12_isPair_140 : decode cX12_isPair 140 = .ok (.getfield 7, 3) := by decide +kernel
theorem dX12_isPair_143 : decode cX12_isPair 143 = .ok (.aload_n 0, 1) := by decide +kernel
theorem dX12_isPair_144 : decode cX12_isPair 144 = .ok (.getfield 49, 3) := by decide +kernel
theorem dX12_isPair_147 : decode cX12_isPair 147 = .ok (.iload 5, 2) := by decide +kernel
theorem dX12_isPair_149 : decode cX12_isPair 149 = .ok (.iaload, 1) := by decide +kernel
theorem dX12_isPair_150 : decode cX12_isPair 150 = .ok (.iaload, 1) := by decide +kernel
theorem dX12_isPair_151 : decode cX12_isPair 151 = .ok (.if_icmp .eq 5, 3) := by decide +kernel
theorem dX12_isPair_154 : decode cX12_isPair 154 = .ok (.iconst 0, 1) := by decide +kernel
theorem dX12_isPair_155 : decode cX12_isPair 155 = .ok (.ireturn, 1) := by decide +kernel
theorem dX12_isPair_156 : decode cX12_isPair 156 = .ok (.aload_n 0, 1) := by decide +kernel
theorem dX12_isPair_157 : decode cX12_isPair 157 = .ok (.getfield 152, 3) := by decide +kernel
theorem dX12_isPair_160 : decode cX12_isPair 160 = .ok (.iload_n 1, 1) := by decide +kernel
theorem dX12_isPair_161 : decode cX12_isPair 161 = .ok (.iaload, 1) := by decide +kernel
theorem dX12_isPair_162 : decode cX12_isPair 162 = .ok (.iconst 2, 1) := by decide +kernel
theorem dX12_isPair_163 : decode cX12_isPair 163 = .ok (.iand, 1) := by decide +kernel
theorem dX12_isPair_164 : decode cX12_isPair 164 = .ok (.ifCond .eq 20, 3) := by decide +kernel
theorem dX12_isPair_167 : decode cX12_isPair 167 = .ok (.aload_n 0, 1) := by decide +kernel
theorem dX12_isPair_168 : decode cX12_isPair 168 = .ok (.getfield 52, 3) := by decide +kernel
theorem dX12_isPair_171 : decode cX12_isPair 171 = .ok (.iload 5, 2) := by decide +kernel
theorem dX12_isPair_173 : decode cX12_isPair 173 = .ok (.iaload, 1) := by decide +kernel
theorem dX12_isPair_174 : decode cX12_isPair 174 = .ok (.aload_n 0, 1) := by decide +kernel
theorem dX12_isPair_175 : decode cX12_isPair 175 = .ok (.getfield 52, 3) := by decide +kernel
theorem dX12_isPair_178 : decode cX12_isPair 178 = .ok (.iload 6, 2) := by decide +kernel
theorem dX12_isPair_180 : decode cX12_isPair 180 = .ok (.iaload, 1) := by decide +kernel
theorem dX12_isPair_181 : decode cX12_isPair 181 = .ok (.if_icmp .ne 35, 3) := by decide +kernel
theorem dX12_isPair_184 : decode cX12_isPair 184 = .ok (.aload_n 0, 1) := by decide +kernel
theorem dX12_isPair_185 : decode cX12_isPair 185 = .ok (.getfield 152, 3) := by decide +kernel
theorem dX12_isPair_188 : decode cX12_isPair 188 = .ok (.iload_n 1, 1) := by decide +kernel
theorem dX12_isPair_189 : decode cX12_isPair 189 = .ok (.iaload, 1) := by decide +kernel
theorem dX12_isPair_190 : decode cX12_isPair 190 = .ok (.iconst 4, 1) := by decide +kernel
theorem dX12_isPair_191 : decode cX12_isPair 191 = .ok (.iand, 1) := by decide +kernel
theorem dX12_isPair_192 : decode cX12_isPair 192 = .ok (.ifCond .eq 20, 3) := by decide +kernel
theorem dX12_isPair_195 : decode cX12_isPair 195 = .ok (.aload_n 0, 1) := by decide +kernel
theorem dX12_isPair_196 : decode cX12_isPair 196 = .ok (.getfield 58, 3) := by decide +kernel
theorem dX12_isPair_199 : decode cX12_isPair 199 = .ok (.iload 6, 2) := by decide +kernel
theorem dX12_isPair_201 : decode cX12_isPair 201 = .ok (.iaload, 1) := by decide +kernel
theorem dX12_isPair_202 : decode cX12_isPair 202 = .ok (.aload_n 0, 1) := by decide +kernel
theorem dX12_isPair_203 : decode cX12_isPair 203 = .ok (.getfield 58, 3) := by decide +kernel
theorem dX12_isPair_206 : decode cX12_isPair 206 = .ok (.iload 5, 2) := by decide +kernel
theorem dX12_isPair_208 : decode cX12_isPair 208 = .ok (.iaload, 1) := by decide +kernel
theorem dX12_isPair_209 : decode cX12_isPair 209 = .ok (.if_icmp .le 7, 3) := by decide +kernel
theorem dX12_isPair_212 : decode cX12_isPair 212 = .ok (.iconst 1, 1) := by decide +kernel
theorem dX12_isPair_213 : decode cX12_isPair 213 = .ok (.goto 4, 3) := by decide +kernel
theorem dX12_isPair_216 : decode cX12_isPair 216 = .ok (.iconst 0, 1) := by decide +kernel
theorem dX12_isPair_217 : decode cX12_isPair 217 = .ok (.ireturn, 1) := by decide +kernel
def m_X12_isPair_184  (Q : Int32 → Hp → Prop) (v1 : Int32) (v5 : Int32) (v6 : Int32) (h : Hp) : Prop := vp_in v1 240 ∧ ((((hI h 97 (ix v1)) &&& 4) = 0 → Q 1 h) ∧ (¬ ((hI h 97 (ix v1)) &&& 4) = 0 → vp_in v6 2304 ∧ (vp_in v5 2304 ∧ (((hI h 68 (ix v6)) ≤ (hI h 68 (ix v5)) → Q 0 h) ∧ (¬ (hI h 68 (ix v6)) ≤ (hI h 68 (ix v5)) → Q 1 h)))))
set_option maxHeartbeats 4000000 in
set_option maxRecDepth 100000 in
theorem s_X12_isPair_184 {l : Launch} {G : Cx} {d : Nat} {h0 : Hp} (hd : 4 ≤ d) {Q : Int32 → Hp → Prop} {v1 : Int32} {v5 : Int32} {v6 : Int32} {h : Hp} (hm : m_X12_isPair_184 Q v1 v5 v6 h) : Rn l G d 0 0 MX12_isPair h0 (qI Q) 184 [some (tR 12 0 (some 51)), some (tI v1), none, none, none, some (tI v5), some (tI v6)] [] h 0 0 := by
  unfold m_X12_isPair_184 at hm
  refine r_aload_n dX12_isPair_184 rfl rfl ?_
  refine r_getC (k := 75) cl_12 dX12_isPair_185 t_1347 gf_12_75.1 gf_12_75.2 (gc_12_75 _) ?_
  refine r_iload_n dX12_isPair_188 rfl rfl ?_
  refine r_iald dX12_isPair_189 hm.1 ?_
  replace hm := hm.2
  refine r_iconst (v := 4) dX12_isPair_190 rfl ?_
  refine r_iand dX12_isPair_191 ?_
  refine r_if_eq (tgt := 212) dX12_isPair_192 rfl (fun hc => ?_) (fun hc => ?_)
  · replace hm := hm.1 hc
    refine r_iconst (v := 1) dX12_isPair_212 rfl ?_
    refine r_goto (tgt := 217) dX12_isPair_213 rfl ?_
    exact r_bret dX12_isPair_217 rfl ⟨by decide, by decide⟩ (by unfold bz; decide) ⟨_, rfl, hm⟩
  · replace hm := hm.2 hc
    refine r_aload_n dX12_isPair_195 rfl rfl ?_
    refine r_getC (k := 17) cl_12 dX12_isPair_196 t_1289 gf_12_17.1 gf_12_17.2 (gc_12_17 _) ?_
    refine r_iload dX12_isPair_199 rfl ?_
    refine r_iald dX12_isPair_201 hm.1 ?_
    replace hm := hm.2
    refine r_aload_n dX12_isPair_202 rfl rfl ?_
    refine r_getC (k := 17) cl_12 dX12_isPair_203 t_1289 gf_12_17.1 gf_12_17.2 (gc_12_17 _) ?_
    refine r_iload dX12_isPair_206 rfl ?_
    refine r_iald dX12_isPair_208 hm.1 ?_
    replace hm := hm.2
    refine r_icmp_le (tgt := 216) dX12_isPair_209 rfl (fun hc => ?_) (fun hc => ?_)
    · replace hm := hm.1 hc
      refine r_iconst (v := 0) dX12_isPair_216 rfl ?_
      exact r_bret dX12_isPair_217 rfl ⟨by decide, by decide⟩ (by unfold bz; decide) ⟨_, rfl, hm⟩
    · replace hm := hm.2 hc
      refine r_iconst (v := 1) dX12_isPair_212 rfl ?_
      refine r_goto (tgt := 217) dX12_isPair_213 rfl ?_
      exact r_bret dX12_isPair_217 rfl ⟨by decide, by decide⟩ (by unfold bz; decide) ⟨_, rfl, hm⟩
def m_X12_isPair_156  (Q : Int32 → Hp → Prop) (v1 : Int32) (v5 : Int32) (v6 : Int32) (h : Hp) : Prop := vp_in v1 240 ∧ ((((hI h 97 (ix v1)) &&& 2) = 0 → m_X12_isPair_184 Q v1 v5 v6 h) ∧ (¬ ((hI h 97 (ix v1)) &&& 2) = 0 → vp_in v5 2304 ∧ (vp_in v6 2304 ∧ ((¬ (hI h 66 (ix v5)) = (hI h 66 (ix v6)) → Q 0 h) ∧ ((hI h 66 (ix v5)) = (hI h 66 (ix v6)) → m_X12_isPair_184 Q v1 v5 v6 h)))))
set_option maxHeartbeats 4000000 in
set_option maxRecDepth 100000 in
theorem s_X12_isPair_156 {l : Launch} {G : Cx} {d : Nat} {h0 : Hp} (hd : 4 ≤ d) {Q : Int32 → Hp → Prop} {v1 : Int32} {v5 : Int32} {v6 : Int32} {h : Hp} (hm : m_X12_isPair_156 Q v1 v5 v6 h) : Rn l G d 0 0 MX12_isPair h0 (qI Q) 156 [some (tR 12 0 (some 51)), some (tI v1), none, none, none, some (tI v5), some (tI v6)] [] h 0 0 := by
  unfold m_X12_isPair_156 at hm
  refine r_aload_n dX12_isPair_156 rfl rfl ?_
  refine r_getC (k := 75) cl_12 dX12_isPair_157 t_1347 gf_12_75.1 gf_12_75.2 (gc_12_75 _) ?_
  refine r_iload_n dX12_isPair_160 rfl rfl ?_
  refine r_iald dX12_isPair_161 hm.1 ?_
  replace hm := hm.2
  refine r_iconst (v := 2) dX12_isPair_162 rfl ?_
  refine r_iand dX12_isPair_163 ?_
  refine r_if_eq (tgt := 184) dX12_isPair_164 rfl (fun hc => ?_) (fun hc => ?_)
  · replace hm := hm.1 hc
    refine r_keep (L' := [some (tR 12 0 (some 51)), some (tI v1), none, none, none, some (tI v5), some (tI v6)]) [true, true, false, false, false, true, true] rfl ?_
    exact s_X12_isPair_184 hd hm
  · replace hm := hm.2 hc
    refine r_aload_n dX12_isPair_167 rfl rfl ?_
    refine r_getC (k := 15) cl_12 dX12_isPair_168 t_1287 gf_12_15.1 gf_12_15.2 (gc_12_15 _) ?_
    refine r_iload dX12_isPair_171 rfl ?_
    refine r_iald dX12_isPair_173 hm.1 ?_
    replace hm := hm.2
    refine r_aload_n dX12_isPair_174 rfl rfl ?_
    refine r_getC (k := 15) cl_12 dX12_isPair_175 t_1287 gf_12_15.1 gf_12_15.2 (gc_12_15 _) ?_
    refine r_iload dX12_isPair_178 rfl ?_
    refine r_iald dX12_isPair_180 hm.1 ?_
    replace hm := hm.2
    refine r_icmp_ne (tgt := 216) dX12_isPair_181 rfl (fun hc => ?_) (fun hc => ?_)
    · replace hm := hm.1 hc
      refine r_iconst (v := 0) dX12_isPair_216 rfl ?_
      exact r_bret dX12_isPair_217 rfl ⟨by decide, by decide⟩ (by unfold bz; decide) ⟨_, rfl, hm⟩
    · replace hm := hm.2 hc
      refine r_keep (L' := [some (tR 12 0 (some 51)), some (tI v1), none, none, none, some (tI v5), some (tI v6)]) [true, true, false, false, false, true, true] rfl ?_
      exact s_X12_isPair_184 hd hm
def m_X12_isPair_72  (Q : Int32 → Hp → Prop) (v1 : Int32) (v2 : Int32) (v3 : Int32) (h : Hp) : Prop := vp_in v2 72 ∧ (∀ x1 : Int32, x1 = (hI h 100 (ix v2)) → vp_in v3 72 ∧ (∀ x2 : Int32, x2 = (hI h 100 (ix v3)) → vp_in v1 240 ∧ ((¬ ((hI h 97 (ix v1)) &&& 1) = 1 → m_X12_isPair_156 Q v1 x1 x2 h) ∧ (((hI h 97 (ix v1)) &&& 1) = 1 → vp_in x2 2304 ∧ (vp_in (hI h 65 (ix x2)) 8 ∧ (vp_in x1 2304 ∧ (vp_in (hI h 64 (ix x1)) 8 ∧ ((¬ (hI h 52 (ix (hI h 65 (ix x2)))) = (hI h 52 (ix (hI h 64 (ix x1)))) → Q 0 h) ∧ ((hI h 52 (ix (hI h 65 (ix x2)))) = (hI h 52 (ix (hI h 64 (ix x1)))) → vp_in x2 2304 ∧ (vp_in (hI h 64 (ix x2)) 8 ∧ (vp_in x1 2304 ∧ (vp_in (hI h 65 (ix x1)) 8 ∧ (((hI h 52 (ix (hI h 64 (ix x2)))) = (hI h 52 (ix (hI h 65 (ix x1)))) → m_X12_isPair_156 Q v1 x1 x2 h) ∧ (¬ (hI h 52 (ix (hI h 64 (ix x2)))) = (hI h 52 (ix (hI h 65 (ix x1)))) → Q 0 h))))))))))))))
set_option maxHeartbeats 4000000 in
set_option maxRecDepth 100000 in
theorem s_X12_isPair_72 {l : Launch} {G : Cx} {d : Nat} {h0 : Hp} (hd : 4 ≤ d) {Q : Int32 → Hp → Prop} {v1 : Int32} {v2 : Int32} {v3 : Int32} {h : Hp} (hm : m_X12_isPair_72 Q v1 v2 v3 h) : Rn l G d 0 0 MX12_isPair h0 (qI Q) 72 [some (tR 12 0 (some 51)), some (tI v1), some (tI v2), some (tI v3)] [] h 0 0 := by
  unfold m_X12_isPair_72 at hm
  refine r_aload_n dX12_isPair_72 rfl rfl ?_
  refine r_getC (k := 81) cl_12 dX12_isPair_73 t_1353 gf_12_81.1 gf_12_81.2 (gc_12_81 _) ?_
  refine r_iload_n dX12_isPair_76 rfl rfl ?_
  refine r_iald dX12_isPair_77 hm.1 ?_
  replace hm := hm.2
  refine r_nmI (fun x1 e_x1 => ?_)
  replace hm := hm x1 e_x1
  refine r_istore (L' := [some (tR 12 0 (some 51)), some (tI v1), some (tI v2), some (tI v3), none, some (tI x1)]) dX12_isPair_78 (by decide) rfl ?_
  refine r_aload_n dX12_isPair_80 rfl rfl ?_
  refine r_getC (k := 81) cl_12 dX12_isPair_81 t_1353 gf_12_81.1 gf_12_81.2 (gc_12_81 _) ?_
  refine r_iload_n dX12_isPair_84 rfl rfl ?_
  refine r_iald dX12_isPair_85 hm.1 ?_
  replace hm := hm.2
  refine r_nmI (fun x2 e_x2 => ?_)
  replace hm := hm x2 e_x2
  refine r_istore (L' := [some (tR 12 0 (some 51)), some (tI v1), some (tI v2), some (tI v3), none, some (tI x1), some (tI x2)]) dX12_isPair_86 (by decide) rfl ?_
  refine r_aload_n dX12_isPair_88 rfl rfl ?_
  refine r_getC (k := 75) cl_12 dX12_isPair_89 t_1347 gf_12_75.1 gf_12_75.2 (gc_12_75 _) ?_
  refine r_iload_n dX12_isPair_92 rfl rfl ?_
  refine r_iald dX12_isPair_93 hm.1 ?_
  replace hm := hm.2
  refine r_iconst (v := 1) dX12_isPair_94 rfl ?_
  refine r_iand dX12_isPair_95 ?_
  refine r_iconst (v := 1) dX12_isPair_96 rfl ?_
  refine r_icmp_ne (tgt := 156) dX12_isPair_97 rfl (fun hc => ?_) (fun hc => ?_)
  · replace hm := hm.1 hc
    refine r_keep (L' := [some (tR 12 0 (some 51)), some (tI v1), none, none, none, some (tI x1), some (tI x2)]) [true, true, false, false, false, true, true] rfl ?_
    exact s_X12_isPair_156 hd hm
  · replace hm := hm.2 hc
    refine r_aload_n dX12_isPair_100 rfl rfl ?_
    refine r_getC (k := 0) cl_12 dX12_isPair_101 t_1272 gf_12_0.1 gf_12_0.2 (gc_12_0 _) ?_
    refine r_aload_n dX12_isPair_104 rfl rfl ?_
    refine r_getC (k := 14) cl_12 dX12_isPair_105 t_1286 gf_12_14.1 gf_12_14.2 (gc_12_14 _) ?_
    refine r_iload dX12_isPair_108 rfl ?_
    refine r_iald dX12_isPair_110 hm.1 ?_
    replace hm := hm.2
    refine r_iald dX12_isPair_111 hm.1 ?_
    replace hm := hm.2
    refine r_aload_n dX12_isPair_112 rfl rfl ?_
    refine r_getC (k := 0) cl_12 dX12_isPair_113 t_1272 gf_12_0.1 gf_12_0.2 (gc_12_0 _) ?_
    refine r_aload_n dX12_isPair_116 rfl rfl ?_
    refine r_getC (k := 13) cl_12 dX12_isPair_117 t_1285 gf_12_13.1 gf_12_13.2 (gc_12_13 _) ?_
    refine r_iload dX12_isPair_120 rfl ?_
    refine r_iald dX12_isPair_122 hm.1 ?_
    replace hm := hm.2
    refine r_iald dX12_isPair_123 hm.1 ?_
    replace hm := hm.2
    refine r_icmp_ne (tgt := 154) dX12_isPair_124 rfl (fun hc => ?_) (fun hc => ?_)
    · replace hm := hm.1 hc
      refine r_iconst (v := 0) dX12_isPair_154 rfl ?_
      exact r_bret dX12_isPair_155 rfl ⟨by decide, by decide⟩ (by unfold bz; decide) ⟨_, rfl, hm⟩
    · replace hm := hm.2 hc
      refine r_aload_n dX12_isPair_127 rfl rfl ?_
      refine r_getC (k := 0) cl_12 dX12_isPair_128 t_1272 gf_12_0.1 gf_12_0.2 (gc_12_0 _) ?_
      refine r_aload_n dX12_isPair_131 rfl rfl ?_
      refine r_getC (k := 13) cl_12 dX12_isPair_132 t_1285 gf_12_13.1 gf_12_13.2 (gc_12_13 _) ?_
      refine r_iload dX12_isPair_135 rfl ?_
      refine r_iald dX12_isPair_137 hm.1 ?_
      replace hm := hm.2
      refine r_iald dX12_isPair_138 hm.1 ?_
      replace hm := hm.2
      refine r_aload_n dX12_isPair_139 rfl rfl ?_
      refine r_getC (k := 0) cl_12 dX12_isPair_140 t_1272 gf_12_0.1 gf_12_0.2 (gc_12_0 _) ?_
      refine r_aload_n dX12_isPair_143 rfl rfl ?_
      refine r_getC (k := 14) cl_12 dX12_isPair_144 t_1286 gf_12_14.1 gf_12_14.2 (gc_12_14 _) ?_
      refine r_iload dX12_isPair_147 rfl ?_
      refine r_iald dX12_isPair_149 hm.1 ?_
      replace hm := hm.2
      refine r_iald dX12_isPair_150 hm.1 ?_
      replace hm := hm.2
      refine r_icmp_eq (tgt := 156) dX12_isPair_151 rfl (fun hc => ?_) (fun hc => ?_)
      · replace hm := hm.1 hc
        refine r_keep (L' := [some (tR 12 0 (some 51)), some (tI v1), none, none, none, some (tI x1), some (tI x2)]) [true, true, false, false, false, true, true] rfl ?_
        exact s_X12_isPair_156 hd hm
      · replace hm := hm.2 hc
        refine r_iconst (v := 0) dX12_isPair_154 rfl ?_
        exact r_bret dX12_isPair_155 rfl ⟨by decide, by decide⟩ (by unfold bz; decide) ⟨_, rfl, hm⟩
def m_X12_isPair_50  (Q : Int32 → Hp → Prop) (v1 : Int32) (v2 : Int32) (v3 : Int32) (v4 : Int32) (h : Hp) : Prop := vp_in v1 240 ∧ (((hI h 98 (ix v1)) < 0 → m_X12_isPair_72 Q v1 v2 v3 h) ∧ (¬ (hI h 98 (ix v1)) < 0 → vp_in v1 240 ∧ ((v4 ≤ (hI h 98 (ix v1)) → m_X12_isPair_72 Q v1 v2 v3 h) ∧ (¬ v4 ≤ (hI h 98 (ix v1)) → Q 0 h))))
set_option maxHeartbeats 4000000 in
set_option maxRecDepth 100000 in
theorem s_X12_isPair_50 {l : Launch} {G : Cx} {d : Nat} {h0 : Hp} (hd : 4 ≤ d) {Q : Int32 → Hp → Prop} {v1 : Int32} {v2 : Int32} {v3 : Int32} {v4 : Int32} {h : Hp} (hm : m_X12_isPair_50 Q v1 v2 v3 v4 h) : Rn l G d 0 0 MX12_isPair h0 (qI Q) 50 [some (tR 12 0 (some 51)), some (tI v1), some (tI v2), some (tI v3), some (tI v4)] [] h 0 0 := by
  unfold m_X12_isPair_50 at hm
  refine r_aload_n dX12_isPair_50 rfl rfl ?_
  refine r_getC (k := 76) cl_12 dX12_isPair_51 t_1348 gf_12_76.1 gf_12_76.2 (gc_12_76 _) ?_
  refine r_iload_n dX12_isPair_54 rfl rfl ?_
  refine r_iald dX12_isPair_55 hm.1 ?_
  replace hm := hm.2
  refine r_if_lt (tgt := 72) dX12_isPair_56 rfl (fun hc => ?_) (fun hc => ?_)
  · replace hm := hm.1 hc
    refine r_keep (L' := [some (tR 12 0 (some 51)), some (tI v1), some (tI v2), some (tI v3)]) [true, true, true, true] rfl ?_
    exact s_X12_isPair_72 hd hm
  · replace hm := hm.2 hc
    refine r_iload dX12_isPair_59 rfl ?_
    refine r_aload_n dX12_isPair_61 rfl rfl ?_
    refine r_getC (k := 76) cl_12 dX12_isPair_62 t_1348 gf_12_76.1 gf_12_76.2 (gc_12_76 _) ?_
    refine r_iload_n dX12_isPair_65 rfl rfl ?_
    refine r_iald dX12_isPair_66 hm.1 ?_
    replace hm := hm.2
    refine r_icmp_le (tgt := 72) dX12_isPair_67 rfl (fun hc => ?_) (fun hc => ?_)
    · replace hm := hm.1 hc
      refine r_keep (L' := [some (tR 12 0 (some 51)), some (tI v1), some (tI v2), some (tI v3)]) [true, true, true, true] rfl ?_
      exact s_X12_isPair_72 hd hm
    · replace hm := hm.2 hc
      refine r_iconst (v := 0) dX12_isPair_70 rfl ?_
      exact r_bret dX12_isPair_71 rfl ⟨by decide, by decide⟩ (by unfold bz; decide) ⟨_, rfl, hm⟩
def m_X12_isPair (v1 : Int32) (v2 : Int32) (v3 : Int32) (h : Hp) (Q : Int32 → Hp → Prop) : Prop := vp_in v3 72 ∧ (vp_in v2 72 ∧ (∀ x3 : Int32, x3 = ((hI h 101 (ix v3)) - (hI h 101 (ix v2))) → vp_in v1 240 ∧ (vp_in v1 240 ∧ (m_X12_isOf v3 (hI h 95 (ix v1)) (hI h 96 (ix v1)) h (fun (x4 : Int32) (h5 : Hp) => (x4 = 0 → Q 0 h5) ∧ (¬ x4 = 0 → (x3 < 0 → Q 0 h5) ∧ (¬ x3 < 0 → (¬ x3 = 0 → m_X12_isPair_50 Q v1 v2 v3 x3 h5) ∧ (x3 = 0 → (v3 ≤ v2 → Q 0 h5) ∧ (¬ v3 ≤ v2 → m_X12_isPair_50 Q v1 v2 v3 x3 h5)))))))))
set_option maxHeartbeats 4000000 in
set_option maxRecDepth 100000 in
theorem s_X12_isPair {l : Launch} {G : Cx} {d : Nat} (hd : 4 ≤ d) {v1 : Int32} {v2 : Int32} {v3 : Int32} {h : Hp} {Q : Int32 → Hp → Prop} (hm : m_X12_isPair v1 v2 v3 h Q) : Ct l G d 0 0 yX12_isPair MX12_isPair [tR 12 0 (some 51), tI v1, tI v2, tI v3] h (qI Q) := by
  unfold m_X12_isPair at hm
  refine Ct.of (L := [some (tR 12 0 (some 51)), some (tI v1), some (tI v2), some (tI v3)]) (by decide) rfl rfl (Nat.le_of_ble_eq_true rfl) rfl ?_
  refine r_aload_n dX12_isPair_0 rfl rfl ?_
  refine r_getC (k := 82) cl_12 dX12_isPair_1 t_1354 gf_12_82.1 gf_12_82.2 (gc_12_82 _) ?_
  refine r_iload_n dX12_isPair_4 rfl rfl ?_
  refine r_iald dX12_isPair_5 hm.1 ?_
  replace hm := hm.2
  refine r_aload_n dX12_isPair_6 rfl rfl ?_
  refine r_getC (k := 82) cl_12 dX12_isPair_7 t_1354 gf_12_82.1 gf_12_82.2 (gc_12_82 _) ?_
  refine r_iload_n dX12_isPair_10 rfl rfl ?_
  refine r_iald dX12_isPair_11 hm.1 ?_
  replace hm := hm.2
  refine r_isub dX12_isPair_12 ?_
  refine r_nmI (fun x3 e_x3 => ?_)
  replace hm := hm x3 e_x3
  refine r_istore (L' := [some (tR 12 0 (some 51)), some (tI v1), some (tI v2), some (tI v3), some (tI x3)]) dX12_isPair_13 (by decide) rfl ?_
  refine r_aload_n dX12_isPair_15 rfl rfl ?_
  refine r_iload_n dX12_isPair_16 rfl rfl ?_
  refine r_aload_n dX12_isPair_17 rfl rfl ?_
  refine r_getC (k := 73) cl_12 dX12_isPair_18 t_1345 gf_12_73.1 gf_12_73.2 (gc_12_73 _) ?_
  refine r_iload_n dX12_isPair_21 rfl rfl ?_
  refine r_iald dX12_isPair_22 hm.1 ?_
  replace hm := hm.2
  refine r_aload_n dX12_isPair_23 rfl rfl ?_
  refine r_getC (k := 74) cl_12 dX12_isPair_24 t_1346 gf_12_74.1 gf_12_74.2 (gc_12_74 _) ?_
  refine r_iload_n dX12_isPair_27 rfl rfl ?_
  refine r_iald dX12_isPair_28 hm.1 ?_
  replace hm := hm.2
  refine r_callVI (d' := d - 1) (as := [tI v3, tI (hI h 95 (ix v1)), tI (hI h 96 (ix v1))]) (st := []) cl_12 dX12_isPair_29 mi_X12_isOf t_1921 t_1923 ts_114 rfl rfl (Nat.le_of_ble_eq_true rfl) (by omega) ⟨by decide, by decide⟩ ⟨rfl, rfl⟩ (s_X12_isOf (by omega) hm) (fun x4 h5 hm => ?_)
  refine r_if_eq (tgt := 70) dX12_isPair_32 rfl (fun hc => ?_) (fun hc => ?_)
  · replace hm := hm.1 hc
    refine r_iconst (v := 0) dX12_isPair_70 rfl ?_
    exact r_bret dX12_isPair_71 rfl ⟨by decide, by decide⟩ (by unfold bz; decide) ⟨_, rfl, hm⟩
  · replace hm := hm.2 hc
    refine r_iload dX12_isPair_35 rfl ?_
    refine r_if_lt (tgt := 70) dX12_isPair_37 rfl (fun hc => ?_) (fun hc => ?_)
    · replace hm := hm.1 hc
      refine r_iconst (v := 0) dX12_isPair_70 rfl ?_
      exact r_bret dX12_isPair_71 rfl ⟨by decide, by decide⟩ (by unfold bz; decide) ⟨_, rfl, hm⟩
    · replace hm := hm.2 hc
      refine r_iload dX12_isPair_40 rfl ?_
      refine r_if_ne (tgt := 50) dX12_isPair_42 rfl (fun hc => ?_) (fun hc => ?_)
      · replace hm := hm.1 hc
        refine r_keep (L' := [some (tR 12 0 (some 51)), some (tI v1), some (tI v2), some (tI v3), some (tI x3)]) [true, true, true, true, true] rfl ?_
        exact s_X12_isPair_50 hd hm
      · replace hm := hm.2 hc
        refine r_iload_n dX12_isPair_45 rfl rfl ?_
        refine r_iload_n dX12_isPair_46 rfl rfl ?_
        refine r_icmp_le (tgt := 70) dX12_isPair_47 rfl (fun hc => ?_) (fun hc => ?_)
        · replace hm := hm.1 hc
          refine r_iconst (v := 0) dX12_isPair_70 rfl ?_
          exact r_bret dX12_isPair_71 rfl ⟨by decide, by decide⟩ (by unfold bz; decide) ⟨_, rfl, hm⟩
        · replace hm := hm.2 hc
          refine r_keep (L' := [some (tR 12 0 (some 51)), some (tI v1), some (tI v2), some (tI v3), some (tI x3)]) [true, true, true, true, true] rfl ?_
          exact s_X12_isPair_50 hd hm
theorem dX12_doesBar_0 : decode cX12_doesBar 0 = .ok (.iconst 0, 1) := by decide +kernel
theorem dX12_doesBar_1 : decode cX12_doesBar 1 = .ok (.istore_n 2, 1) := by decide +kernel
theorem dX12_doesBar_2 : decode cX12_doesBar 2 = .ok (.iload_n 2, 1) := by decide +kernel
theorem dX12_doesBar_3 : decode cX12_doesBar 3 = .ok (.aload_n 0, 1) := by decide +kernel
theorem dX12_doesBar_4 : decode cX12_doesBar 4 = .ok (.getfield 544, 3) := by decide +kernel
theorem dX12_doesBar_7 : decode cX12_doesBar 7 = .ok (.if_icmp .ge 89, 3) := by decide +kernel
theorem dX12_doesBar_10 : decode cX12_doesBar 10 = .ok (.aload_n 0, 1) := by decide +kernel
theorem dX12_doesBar_11 : decode cX12_doesBar 11 = .ok (.iload_n 2, 1) := by decide +kernel
theorem dX12_doesBar_12 : decode cX12_doesBar 12 = .ok (.aload_n 0, 1) := by decide +kernel
theorem dX12_doesBar_13 : decode cX12_doesBar 13 = .ok (.getfield 140, 3) := by decide +kernel
theorem dX12_doesBar_16 : decode cX12_doesBar 16 = .ok (.iload_n 1, 1) := by decide +kernel
theorem dX12_doesBar_17 : decode cX12_doesBar 17 = .ok (.iaload, 1) := by decide +kernel
theorem dX12_doesBar_18 : decode cX12_doesBar 18 = .ok (.aload_n 0, 1) := by decide +kernel
theorem dX12_doesBar_19 : decode cX12_doesBar 19 = .ok (.getfield 143, 3) := by decide +kernel
theorem dX12_doesBar_22 : decode cX12_doesBar 22 = .ok (.iload_n 1, 1) := by decide +kernel
theorem dX12_doesBar_23 : decode cX12_doesBar 23 = .ok (.iaload, 1) := by decide +kernel
theorem dX12_doesBar_24 : decode cX12_doesBar 24 = .ok (.invokevirtual 547, 3) := by decide +kernel
theorem dX12_doesBar_27 : decode cX12_doesBar 27 = .ok (.ifCond .ne 6, 3) := by decide +kernel
theorem dX12_doesBar_30 : decode cX12_doesBar 30 = .ok (.goto 60, 3) := by decide +kernel
theorem dX12_doesBar_33 : decode cX12_doesBar 33 = .ok (.aload_n 0, 1) := by decide +kernel
theorem dX12_doesBar_34 : decode cX12_doesBar 34 = .ok (.iload_n 2, 1) := by decide +kernel
theorem dX12_doesBar_35 : decode cX12_doesBar 35 = .ok (.putfield 550, 3) := by decide +kernel
theorem dX12_doesBar_38 : decode cX12_doesBar 38 = .ok (.aload_n 0, 1) := by decide +kernel
theorem dX12_doesBar_39 : decode cX12_doesBar 39 = .ok (.iconst (-1), 1) := by decide +kernel
theorem dX12_doesBar_40 : decode cX12_doesBar 40 = .ok (.putfield 553, 3) := by decide +kernel
theorem dX12_doesBar_43 : decode cX12_doesBar 43 = .ok (.aload_n 0, 1) := by decide +kernel
theorem dX12_doesBar_44 : decode cX12_doesBar 44 = .ok (.getfield 158, 3) := by decide +kernel
theorem dX12_doesBar_47 : decode cX12_doesBar 47 = .ok (.iload_n 1, 1) := by decide +kernel
theorem dX12_doesBar_48 : decode cX12_doesBar 48 = .ok (.baload, 1) := by decide +kernel
theorem dX12_doesBar_49 : decode cX12_doesBar 49 = .ok (.ifCond .ne 5, 3) := by decide +kernel
theorem dX12_doesBar_52 : decode cX12_doesBar 52 = .ok (.iconst 1, 1) := by decide +kernel
theorem dX12_doesBar_53 : decode cX12_doesBar 53 = .ok (.ireturn, 1) := by decide +kernel
theorem dX12_doesBar_54 : decode cX12_doesBar 54 = .ok (.iconst 0, 1) := by decide +kernel
theorem dX12_doesBar_55 : decode cX12_doesBar 55 = .ok (.istore_n 3, 1) := by decide +kernel
theorem dX12_doesBar_56 : decode cX12_doesBar 56 = .ok (.iload_n 3, 1) := by decide +kernel
theorem dX12_doesBar_57 : decode cX12_doesBar 57 = .ok (.aload_n 0, 1) := by decide +kernel
theorem dX12_doesBar_58 : decode cX12_doesBar 58 = .ok (.getfield 544, 3) := by decide +kernel
theorem dX12_doesBar_61 : decode cX12_doesBar 61 = .ok (.if_icmp .ge 29, 3) := by decide +kernel
theorem dX12_doesBar_64 : decode cX12_doesBar 64 = .ok (.aload_n 0, 1) := by decide +kernel
theorem dX12_doesBar_65 : decode cX12_doesBar 65 = .ok (.iload_n 1, 1) := by decide +kernel
theorem dX12_doesBar_66 : decode cX12_doesBar 66 = .ok (.iload_n 2, 1) := by decide +kernel
theorem dX12_doesBar_67 : decode cX12_doesBar 67 = .ok (.iload_n 3, 1) := by decide +kernel
theorem dX12_doesBar_68 : decode cX12_doesBar 68 = .ok (.invokevirtual 556, 3) := by decide +kernel
theorem dX12_doesBar_71 : decode cX12_doesBar 71 = .ok (.ifCond .ne 6, 3) := by decide +kernel
theorem dX12_doesBar_74 : decode cX12_doesBar 74 = .ok (.goto 10, 3) := by decide +kernel
theorem dX12_doesBar_77 : decode cX12_doesBar 77 = .ok (.aload_n 0, 1) := by decide +kernel
theorem dX12_doesBar_78 : decode cX12_doesBar 78 = .ok (.iload_n 3, 1) := by decide +kernel
theorem dX12_doesBar_79 : decode cX12_doesBar 79 = .ok (.putfield 553, 3) := by decide +kernel
theorem dX12_doesBar_82 : decode cX12_doesBar 82 = .ok (.iconst 1, 1) := by decide +kernel
theorem dX12_doesBar_83 : decode cX12_doesBar 83 = .ok (.ireturn, 1) := by decide +kernel
theorem dX12_doesBar_84 : decode cX12_doesBar 84 = .ok (.iinc 3 1, 3) := by decide +kernel
theorem dX12_doesBar_87 : decode cX12_doesBar 87 = .ok (.goto (-31), 3) := by decide +kernel
theorem dX12_doesBar_90 : decode cX12_doesBar 90 = .ok (.iinc 2 1, 3) := by decide +kernel
theorem dX12_doesBar_93 : decode cX12_doesBar 93 = .ok (.goto (-91), 3) := by decide +kernel
theorem dX12_doesBar_96 : decode cX12_doesBar 96 = .ok (.iconst 0, 1) := by decide +kernel
theorem dX12_doesBar_97 : decode cX12_doesBar 97 = .ok (.ireturn, 1) := by decide +kernel
def m_X12_doesBar_90 (k2 : Int32 → Int32 → Hp → Prop) (Q : Int32 → Hp → Prop) (v1 : Int32) (v2 : Int32) (h : Hp) : Prop := ∀ x1 : Int32, x1 = v2 + 1 → k2 v1 x1 h
set_option maxHeartbeats 4000000 in
set_option maxRecDepth 100000 in
theorem s_X12_doesBar_90 {l : Launch} {G : Cx} {d : Nat} {h0 : Hp} (hd : 6 ≤ d) {k2 : Int32 → Int32 → Hp → Prop} {Q : Int32 → Hp → Prop} (hk2 : ∀ (v1 : Int32) (v2 : Int32) (hh : Hp), k2 v1 v2 hh → Rn l G d 0 0 MX12_doesBar h0 (qI Q) 2 [some (tR 12 0 (some 51)), some (tI v1), some (tI v2)] [] hh 0 0) {v1 : Int32} {v2 : Int32} {h : Hp} (hm : m_X12_doesBar_90 k2 Q v1 v2 h) : Rn l G d 0 0 MX12_doesBar h0 (qI Q) 90 [some (tR 12 0 (some 51)), some (tI v1), some (tI v2)] [] h 0 0 := by
  unfold m_X12_doesBar_90 at hm
  obtain ⟨x1, e_x1⟩ : ∃ y : Int32, y = v2 + 1 := ⟨_, rfl⟩
  replace hm := hm x1 e_x1
  refine r_iinc (L' := [some (tR 12 0 (some 51)), some (tI v1), some (tI x1)]) dX12_doesBar_90 rfl (by rw [e_x1]; rfl) (by decide) rfl ?_
  refine r_goto (tgt := 2) dX12_doesBar_93 rfl ?_
  refine r_keep (L' := [some (tR 12 0 (some 51)), some (tI v1), some (tI x1)]) [true, true, true] rfl ?_
  exact hk2 _ _ _ hm
def m_X12_doesBar_56 : Nat → (Int32 → Int32 → Hp → Prop) → (Int32 → Hp → Prop) → Int32 → Int32 → Int32 → Hp → Prop
  | 0, _, _, _, _, _, _ => False
  | n + 1, k90, Q, v1, v2, v3, h => ((hI h 51 78) ≤ v3 → k90 v1 v2 h) ∧ (¬ (hI h 51 78) ≤ v3 → m_X12_isPair v1 v2 v3 h (fun (x2 : Int32) (h3 : Hp) => (¬ x2 = 0 → Q 1 (wI h3 51 80 v3)) ∧ (x2 = 0 → ∀ x4 : Int32, x4 = v3 + 1 → m_X12_doesBar_56 n k90 Q v1 v2 x4 h3)))
set_option maxHeartbeats 4000000 in
set_option maxRecDepth 100000 in
theorem s_X12_doesBar_56 {l : Launch} {G : Cx} {d : Nat} {h0 : Hp} (hd : 6 ≤ d) {k90 : Int32 → Int32 → Hp → Prop} {Q : Int32 → Hp → Prop} (hk90 : ∀ (v1 : Int32) (v2 : Int32) (hh : Hp), k90 v1 v2 hh → Rn l G d 0 0 MX12_doesBar h0 (qI Q) 90 [some (tR 12 0 (some 51)), some (tI v1), some (tI v2)] [] hh 0 0) : ∀ {n : Nat} {v1 : Int32} {v2 : Int32} {v3 : Int32} {h : Hp}, m_X12_doesBar_56 n k90 Q v1 v2 v3 h → Rn l G d 0 0 MX12_doesBar h0 (qI Q) 56 [some (tR 12 0 (some 51)), some (tI v1), some (tI v2), some (tI v3)] [] h 0 0 := by
  intro n
  induction n with
  | zero => intro v1 v2 v3 h hm; exact hm.elim
  | succ n ih =>
    intro v1 v2 v3 h hm
    have hk56 := fun (v1 : Int32) (v2 : Int32) (v3 : Int32) (hh : Hp) (hm : m_X12_doesBar_56 n k90 Q v1 v2 v3 hh) => ih hm
    rw [m_X12_doesBar_56] at hm
    refine r_iload_n dX12_doesBar_56 rfl rfl ?_
    refine r_aload_n dX12_doesBar_57 rfl rfl ?_
    refine r_getI (k := 78) cl_12 dX12_doesBar_58 t_1350 (Or.inl rfl) gf_12_78 ?_
    refine r_icmp_ge (tgt := 90) dX12_doesBar_61 rfl (fun hc => ?_) (fun hc => ?_)
    · replace hm := hm.1 hc
      refine r_keep (L' := [some (tR 12 0 (some 51)), some (tI v1), some (tI v2)]) [true, true, true] rfl ?_
      exact hk90 _ _ _ hm
    · replace hm := hm.2 hc
      refine r_aload_n dX12_doesBar_64 rfl rfl ?_
      refine r_iload_n dX12_doesBar_65 rfl rfl ?_
      refine r_iload_n dX12_doesBar_66 rfl rfl ?_
      refine r_iload_n dX12_doesBar_67 rfl rfl ?_
      refine r_callVI (d' := d - 1) (as := [tI v1, tI v2, tI v3]) (st := []) cl_12 dX12_doesBar_68 mi_X12_isPair t_1925 t_1927 ts_115 rfl rfl (Nat.le_of_ble_eq_true rfl) (by omega) ⟨by decide, by decide⟩ ⟨rfl, rfl⟩ (s_X12_isPair (by omega) hm) (fun x2 h3 hm => ?_)
      refine r_if_ne (tgt := 77) dX12_doesBar_71 rfl (fun hc => ?_) (fun hc => ?_)
      · replace hm := hm.1 hc
        refine r_aload_n dX12_doesBar_77 rfl rfl ?_
        refine r_iload_n dX12_doesBar_78 rfl rfl ?_
        refine r_putI0 (k := 80) cl_12 dX12_doesBar_79 t_1352 (Or.inl rfl) gf_12_80 pf_12_80.1 (Or.inl pf_12_80.2) ?_
        refine r_iconst (v := 1) dX12_doesBar_82 rfl ?_
        exact r_bret dX12_doesBar_83 rfl ⟨by decide, by decide⟩ (by unfold bz; decide) ⟨_, rfl, hm⟩
      · replace hm := hm.2 hc
        refine r_goto (tgt := 84) dX12_doesBar_74 rfl ?_
        obtain ⟨x4, e_x4⟩ : ∃ y : Int32, y = v3 + 1 := ⟨_, rfl⟩
        replace hm := hm x4 e_x4
        refine r_iinc (L' := [some (tR 12 0 (some 51)), some (tI v1), some (tI v2), some (tI x4)]) dX12_doesBar_84 rfl (by rw [e_x4]; rfl) (by decide) rfl ?_
        refine r_goto (tgt := 56) dX12_doesBar_87 rfl ?_
        refine r_keep (L' := [some (tR 12 0 (some 51)), some (tI v1), some (tI v2), some (tI x4)]) [true, true, true, true] rfl ?_
        exact hk56 _ _ _ _ hm
def m_X12_doesBar_2 : Nat → (Int32 → Hp → Prop) → Int32 → Int32 → Hp → Prop
  | 0, _, _, _, _ => False
  | n + 1, Q, v1, v2, h => ((hI h 51 78) ≤ v2 → Q 0 h) ∧ (¬ (hI h 51 78) ≤ v2 → vp_in v1 240 ∧ (vp_in v1 240 ∧ (m_X12_isOf v2 (hI h 93 (ix v1)) (hI h 94 (ix v1)) h (fun (x5 : Int32) (h6 : Hp) => (¬ x5 = 0 → vp_in v1 240 ∧ ((¬ (hI (wI (wI h6 51 79 v2) 51 80 (-1)) 99 (ix v1)) = 0 → ∃ n56, m_X12_doesBar_56 n56 (m_X12_doesBar_90 (fun (v1 : Int32) (v2 : Int32) (hh : Hp) => m_X12_doesBar_2 n Q v1 v2 hh) Q) Q v1 v2 0 (wI (wI h6 51 79 v2) 51 80 (-1))) ∧ ((hI (wI (wI h6 51 79 v2) 51 80 (-1)) 99 (ix v1)) = 0 → Q 1 (wI (wI h6 51 79 v2) 51 80 (-1))))) ∧ (x5 = 0 → m_X12_doesBar_90 (fun (v1 : Int32) (v2 : Int32) (hh : Hp) => m_X12_doesBar_2 n Q v1 v2 hh) Q v1 v2 h6)))))
set_option maxHeartbeats 4000000 in
set_option maxRecDepth 100000 in
theorem s_X12_doesBar_2 {l : Launch} {G : Cx} {d : Nat} {h0 : Hp} (hd : 6 ≤ d) {Q : Int32 → Hp → Prop} : ∀ {n : Nat} {v1 : Int32} {v2 : Int32} {h : Hp}, m_X12_doesBar_2 n Q v1 v2 h → Rn l G d 0 0 MX12_doesBar h0 (qI Q) 2 [some (tR 12 0 (some 51)), some (tI v1), some (tI v2)] [] h 0 0 := by
  intro n
  induction n with
  | zero => intro v1 v2 h hm; exact hm.elim
  | succ n ih =>
    intro v1 v2 h hm
    have hk2 := fun (v1 : Int32) (v2 : Int32) (hh : Hp) (hm : m_X12_doesBar_2 n Q v1 v2 hh) => ih hm
    rw [m_X12_doesBar_2] at hm
    refine r_iload_n dX12_doesBar_2 rfl rfl ?_
    refine r_aload_n dX12_doesBar_3 rfl rfl ?_
    refine r_getI (k := 78) cl_12 dX12_doesBar_4 t_1350 (Or.inl rfl) gf_12_78 ?_
    refine r_icmp_ge (tgt := 96) dX12_doesBar_7 rfl (fun hc => ?_) (fun hc => ?_)
    · replace hm := hm.1 hc
      refine r_iconst (v := 0) dX12_doesBar_96 rfl ?_
      exact r_bret dX12_doesBar_97 rfl ⟨by decide, by decide⟩ (by unfold bz; decide) ⟨_, rfl, hm⟩
    · replace hm := hm.2 hc
      refine r_aload_n dX12_doesBar_10 rfl rfl ?_
      refine r_iload_n dX12_doesBar_11 rfl rfl ?_
      refine r_aload_n dX12_doesBar_12 rfl rfl ?_
      refine r_getC (k := 71) cl_12 dX12_doesBar_13 t_1343 gf_12_71.1 gf_12_71.2 (gc_12_71 _) ?_
      refine r_iload_n dX12_doesBar_16 rfl rfl ?_
      refine r_iald dX12_doesBar_17 hm.1 ?_
      replace hm := hm.2
      refine r_aload_n dX12_doesBar_18 rfl rfl ?_
      refine r_getC (k := 72) cl_12 dX12_doesBar_19 t_1344 gf_12_72.1 gf_12_72.2 (gc_12_72 _) ?_
      refine r_iload_n dX12_doesBar_22 rfl rfl ?_
      refine r_iald dX12_doesBar_23 hm.1 ?_
      replace hm := hm.2
      refine r_callVI (d' := d - 1) (as := [tI v2, tI (hI h 93 (ix v1)), tI (hI h 94 (ix v1))]) (st := []) cl_12 dX12_doesBar_24 mi_X12_isOf t_1921 t_1923 ts_114 rfl rfl (Nat.le_of_ble_eq_true rfl) (by omega) ⟨by decide, by decide⟩ ⟨rfl, rfl⟩ (s_X12_isOf (by omega) hm) (fun x5 h6 hm => ?_)
      refine r_if_ne (tgt := 33) dX12_doesBar_27 rfl (fun hc => ?_) (fun hc => ?_)
      · replace hm := hm.1 hc
        refine r_aload_n dX12_doesBar_33 rfl rfl ?_
        refine r_iload_n dX12_doesBar_34 rfl rfl ?_
        refine r_putI0 (k := 79) cl_12 dX12_doesBar_35 t_1351 (Or.inl rfl) gf_12_79 pf_12_79.1 (Or.inl pf_12_79.2) ?_
        refine r_aload_n dX12_doesBar_38 rfl rfl ?_
        refine r_iconst (v := (-1)) dX12_doesBar_39 rfl ?_
        refine r_putI0 (k := 80) cl_12 dX12_doesBar_40 t_1352 (Or.inl rfl) gf_12_80 pf_12_80.1 (Or.inl pf_12_80.2) ?_
        refine r_aload_n dX12_doesBar_43 rfl rfl ?_
        refine r_getC (k := 77) cl_12 dX12_doesBar_44 t_1349 gf_12_77.1 gf_12_77.2 (gc_12_77 _) ?_
        refine r_iload_n dX12_doesBar_47 rfl rfl ?_
        refine r_zald dX12_doesBar_48 hm.1 ?_
        replace hm := hm.2
        refine r_if_ne (tgt := 54) dX12_doesBar_49 rfl (fun hc => ?_) (fun hc => ?_)
        · replace hm := hm.1 hc
          refine r_iconst (v := 0) dX12_doesBar_54 rfl ?_
          refine r_istore_n (L' := [some (tR 12 0 (some 51)), some (tI v1), some (tI v2), some (tI 0)]) dX12_doesBar_55 rfl (by decide) rfl ?_
          refine r_keep (L' := [some (tR 12 0 (some 51)), some (tI v1), some (tI v2), some (tI 0)]) [true, true, true, true] rfl ?_
          obtain ⟨n, hm⟩ := hm
          refine s_X12_doesBar_56 hd ?_ hm
          · exact (fun _ _ _ hm => s_X12_doesBar_90 hd hk2 hm)
        · replace hm := hm.2 hc
          refine r_iconst (v := 1) dX12_doesBar_52 rfl ?_
          exact r_bret dX12_doesBar_53 rfl ⟨by decide, by decide⟩ (by unfold bz; decide) ⟨_, rfl, hm⟩
      · replace hm := hm.2 hc
        refine r_goto (tgt := 90) dX12_doesBar_30 rfl ?_
        refine r_keep (L' := [some (tR 12 0 (some 51)), some (tI v1), some (tI v2)]) [true, true, true] rfl ?_
        exact s_X12_doesBar_90 hd hk2 hm
def m_X12_doesBar (v1 : Int32) (h : Hp) (Q : Int32 → Hp → Prop) : Prop := ∃ n2, m_X12_doesBar_2 n2 Q v1 0 h
set_option maxHeartbeats 4000000 in
set_option maxRecDepth 100000 in
theorem s_X12_doesBar {l : Launch} {G : Cx} {d : Nat} (hd : 6 ≤ d) {v1 : Int32} {h : Hp} {Q : Int32 → Hp → Prop} (hm : m_X12_doesBar v1 h Q) : Ct l G d 0 0 yX12_doesBar MX12_doesBar [tR 12 0 (some 51), tI v1] h (qI Q) := by
  unfold m_X12_doesBar at hm
  refine Ct.of (L := [some (tR 12 0 (some 51)), some (tI v1)]) (by decide) rfl rfl (Nat.le_of_ble_eq_true rfl) rfl ?_
  refine r_iconst (v := 0) dX12_doesBar_0 rfl ?_
  refine r_istore_n (L' := [some (tR 12 0 (some 51)), some (tI v1), some (tI 0)]) dX12_doesBar_1 rfl (by decide) rfl ?_
  refine r_keep (L' := [some (tR 12 0 (some 51)), some (tI v1), some (tI 0)]) [true, true, true] rfl ?_
  obtain ⟨n, hm⟩ := hm
  refine s_X12_doesBar_2 hd hm
theorem dX12_breachNow_0 : decode cX12_breachNow 0 = .ok (.aload_n 0, 1) := rfl
theorem dX12_breachNow_1 : decode cX12_breachNow 1 = .ok (.invokevirtual 559, 3) := rfl
theorem dX12_breachNow_4 : decode cX12_breachNow 4 = .ok (.aload_n 0, 1) := rfl
theorem dX12_breachNow_5 : decode cX12_breachNow 5 = .ok (.getfield 535, 3) := rfl
theorem dX12_breachNow_8 : decode cX12_breachNow 8 = .ok (.ifCond .ne 7, 3) := by decide +kernel
theorem dX12_breachNow_11 : decode cX12_breachNow 11 = .ok (.iconst 0, 1) := rfl
theorem dX12_breachNow_12 : decode cX12_breachNow 12 = .ok (.goto 14, 3) := by decide +kernel
theorem dX12_breachNow_15 : decode cX12_breachNow 15 = .ok (.aload_n 0, 1) := rfl
theorem dX12_breachNow_16 : decode cX12_breachNow 16 = .ok (.getfield 134, 3) := rfl
theorem dX12_breachNow_19 : decode cX12_breachNow 19 = .ok (.aload_n 0, 1) := rfl
theorem dX12_breachNow_20 : decode cX12_breachNow 20 = .ok (.getfield 535, 3) := rfl
theorem dX12_breachNow_23 : decode cX12_breachNow 23 = .ok (.iconst 1, 1) := rfl
theorem dX12_breachNow_24 : decode cX12_breachNow 24 = .ok (.isub, 1) := rfl
theorem dX12_breachNow_25 : decode cX12_breachNow 25 = .ok (.iaload, 1) := rfl
theorem dX12_breachNow_26 : decode cX12_breachNow 26 = .ok (.istore_n 1, 1) := rfl
theorem dX12_breachNow_27 : decode cX12_breachNow 27 = .ok (.iconst 0, 1) := rfl
theorem dX12_breachNow_28 : decode cX12_breachNow 28 = .ok (.istore_n 2, 1) := rfl
theorem dX12_breachNow_29 : decode cX12_breachNow 29 = .ok (.iload_n 2, 1) := rfl
theorem dX12_breachNow_30 : decode cX12_breachNow 30 = .ok (.iload_n 1, 1) := rfl
theorem dX12_breachNow_31 : decode cX12_breachNow 31 = .ok (.if_icmp .ge 29, 3) := by decide +kernel
theorem dX12_breachNow_34 : decode cX12_breachNow 34 = .ok (.aload_n 0, 1) := rfl
theorem dX12_breachNow_35 : decode cX12_breachNow 35 = .ok (.bipush 16, 2) := by decide +kernel
theorem dX12_breachNow_37 : decode cX12_breachNow 37 = .ok (.aload_n 0, 1) := rfl
theorem dX12_breachNow_38 : decode cX12_breachNow 38 = .ok (.getfield 535, 3) := rfl
theorem dX12_breachNow_41 : decode cX12_breachNow 41 = .ok (.iconst 1, 1) := rfl
theorem dX12_breachNow_42 : decode cX12_breachNow 42 = .ok (.isub, 1) := rfl
theorem dX12_breachNow_43 : decode cX12_breachNow 43 = .ok (.imul, 1) := rfl
theorem dX12_breachNow_44 : decode cX12_breachNow 44 = .ok (.iload_n 2, 1) := rfl
theorem dX12_breachNow_45 : decode cX12_breachNow 45 = .ok (.iadd, 1) := rfl
theorem dX12_breachNow_46 : decode cX12_breachNow 46 = .ok (.invokevirtual 562, 3) := rfl
theorem dX12_breachNow_49 : decode cX12_breachNow 49 = .ok (.ifCond .eq 5, 3) := by decide +kernel
theorem dX12_breachNow_52 : decode cX12_breachNow 52 = .ok (.iload_n 2, 1) := rfl
theorem dX12_breachNow_53 : decode cX12_breachNow 53 = .ok (.ireturn, 1) := rfl
theorem dX12_breachNow_54 : decode cX12_breachNow 54 = .ok (.iinc 2 1, 3) := by decide +kernel
theorem dX12_breachNow_57 : decode cX12_breachNow 57 = .ok (.goto (-28), 3) := by decide +kernel
theorem dX12_breachNow_60 : decode cX12_breachNow 60 = .ok (.iconst (-1), 1) := rfl
theorem dX12_breachNow_61 : decode cX12_breachNow 61 = .ok (.ireturn, 1) := rfl
def m_X12_breachNow_29 : Nat → (Int32 → Hp → Prop) → Int32 → Int32 → Hp → Prop
  | 0, _, _, _, _ => False
  | n + 1, Q, v1, v2, h => (v1 ≤ v2 → Q (-1) h) ∧ (¬ v1 ≤ v2 → m_X12_doesBar ((16 * ((hI h 51 67) - 1)) + v2) h (fun (x1 : Int32) (h2 : Hp) => (x1 = 0 → ∀ x3 : Int32, x3 = v2 + 1 → m_X12_breachNow_29 n Q v1 x3 h2) ∧ (¬ x1 = 0 → Q v2 h2)))
set_option maxHeartbeats 4000000 in
set_option maxRecDepth 100000 in
theorem s_X12_breachNow_29 {l : Launch} {G : Cx} {d : Nat} {h0 : Hp} (hd : 8 ≤ d) {Q : Int32 → Hp → Prop} : ∀ {n : Nat} {v1 : Int32} {v2 : Int32} {h : Hp}, m_X12_breachNow_29 n Q v1 v2 h → Rn l G d 0 0 MX12_breachNow h0 (qI Q) 29 [some (tR 12 0 (some 51)), some (tI v1), some (tI v2)] [] h 0 0 := by
  intro n
  induction n with
  | zero => intro v1 v2 h hm; exact hm.elim
  | succ n ih =>
    intro v1 v2 h hm
    have hk29 := fun (v1 : Int32) (v2 : Int32) (hh : Hp) (hm : m_X12_breachNow_29 n Q v1 v2 hh) => ih hm
    rw [m_X12_breachNow_29] at hm
    refine r_iload_n dX12_breachNow_29 rfl rfl ?_
    refine r_iload_n dX12_breachNow_30 rfl rfl ?_
    refine r_icmp_ge (tgt := 60) dX12_breachNow_31 rfl (fun hc => ?_) (fun hc => ?_)
    · replace hm := hm.1 hc
      refine r_iconst (v := (-1)) dX12_breachNow_60 rfl ?_
      exact r_ireturn dX12_breachNow_61 rfl ⟨by decide, by decide⟩ ⟨_, rfl, hm⟩
    · replace hm := hm.2 hc
      refine r_aload_n dX12_breachNow_34 rfl rfl ?_
      refine r_bipush (v := 16) dX12_breachNow_35 rfl ?_
      refine r_aload_n dX12_breachNow_37 rfl rfl ?_
      refine r_getI (k := 67) cl_12 dX12_breachNow_38 t_1339 (Or.inl rfl) gf_12_67 ?_
      refine r_iconst (v := 1) dX12_breachNow_41 rfl ?_
      refine r_isub dX12_breachNow_42 ?_
      refine r_imul dX12_breachNow_43 ?_
      refine r_iload_n dX12_breachNow_44 rfl rfl ?_
      refine r_iadd dX12_breachNow_45 ?_
      refine r_callVI (d' := d - 1) (as := [tI ((16 * ((hI h 51 67) - 1)) + v2)]) (st := []) cl_12 dX12_breachNow_46 mi_X12_doesBar t_1917 t_1919 ts_113 rfl rfl (Nat.le_of_ble_eq_true rfl) (by omega) ⟨by decide, by decide⟩ ⟨rfl, rfl⟩ (s_X12_doesBar (by omega) hm) (fun x1 h2 hm => ?_)
      refine r_if_eq (tgt := 54) dX12_breachNow_49 rfl (fun hc => ?_) (fun hc => ?_)
      · replace hm := hm.1 hc
        obtain ⟨x3, e_x3⟩ : ∃ y : Int32, y = v2 + 1 := ⟨_, rfl⟩
        replace hm := hm x3 e_x3
        refine r_iinc (L' := [some (tR 12 0 (some 51)), some (tI v1), some (tI x3)]) dX12_breachNow_54 rfl (by rw [e_x3]; rfl) (by decide) rfl ?_
        refine r_goto (tgt := 29) dX12_breachNow_57 rfl ?_
        refine r_keep (L' := [some (tR 12 0 (some 51)), some (tI v1), some (tI x3)]) [true, true, true] rfl ?_
        exact hk29 _ _ _ hm
      · replace hm := hm.2 hc
        refine r_iload_n dX12_breachNow_52 rfl rfl ?_
        exact r_ireturn dX12_breachNow_53 rfl ⟨by decide, by decide⟩ ⟨_, rfl, hm⟩
def m_X12_breachNow_26  (Q : Int32 → Hp → Prop) (s0 : Int32) (h : Hp) : Prop := ∃ n29, m_X12_breachNow_29 n29 Q s0 0 h
set_option maxHeartbeats 4000000 in
set_option maxRecDepth 100000 in
theorem s_X12_breachNow_26 {l : Launch} {G : Cx} {d : Nat} {h0 : Hp} (hd : 8 ≤ d) {Q : Int32 → Hp → Prop} {s0 : Int32} {h : Hp} (hm : m_X12_breachNow_26 Q s0 h) : Rn l G d 0 0 MX12_breachNow h0 (qI Q) 26 [some (tR 12 0 (some 51))] [tI s0] h 0 0 := by
  unfold m_X12_breachNow_26 at hm
  refine r_istore_n (L' := [some (tR 12 0 (some 51)), some (tI s0)]) dX12_breachNow_26 rfl (by decide) rfl ?_
  refine r_iconst (v := 0) dX12_breachNow_27 rfl ?_
  refine r_istore_n (L' := [some (tR 12 0 (some 51)), some (tI s0), some (tI 0)]) dX12_breachNow_28 rfl (by decide) rfl ?_
  refine r_keep (L' := [some (tR 12 0 (some 51)), some (tI s0), some (tI 0)]) [true, true, true] rfl ?_
  obtain ⟨n, hm⟩ := hm
  refine s_X12_breachNow_29 hd hm
def m_X12_breachNow  (h : Hp) (Q : Int32 → Hp → Prop) : Prop := m_X12_findLeaves h (fun (h5 : Hp) => (¬ (hI h5 51 67) = 0 → vp_in ((hI h5 51 67) - 1) 6 ∧ (m_X12_breachNow_26 Q (hI h5 91 (ix ((hI h5 51 67) - 1))) h5)) ∧ ((hI h5 51 67) = 0 → m_X12_breachNow_26 Q 0 h5))
set_option maxHeartbeats 4000000 in
set_option maxRecDepth 100000 in
theorem s_X12_breachNow {l : Launch} {G : Cx} {d : Nat} (hd : 8 ≤ d) {h : Hp} {Q : Int32 → Hp → Prop} (hm : m_X12_breachNow h Q) : Ct l G d 0 0 yX12_breachNow MX12_breachNow [tR 12 0 (some 51)] h (qI Q) := by
  unfold m_X12_breachNow at hm
  refine Ct.of (L := [some (tR 12 0 (some 51))]) (by decide) rfl rfl (Nat.le_of_ble_eq_true rfl) rfl ?_
  refine r_aload_n dX12_breachNow_0 rfl rfl ?_
  refine r_callVU (d' := d - 1) (as := []) (st := []) cl_12 dX12_breachNow_1 mi_X12_findLeaves t_1913 t_1915 ts_112 rfl rfl (Nat.le_of_ble_eq_true rfl) (by omega) ⟨by decide, by decide⟩ ⟨rfl, rfl⟩ (s_X12_findLeaves (by omega) hm) (fun h5 hm => ?_)
  refine r_aload_n dX12_breachNow_4 rfl rfl ?_
  refine r_getI (k := 67) cl_12 dX12_breachNow_5 t_1339 (Or.inl rfl) gf_12_67 ?_
  refine r_if_ne (tgt := 15) dX12_breachNow_8 rfl (fun hc => ?_) (fun hc => ?_)
  · replace hm := hm.1 hc
    refine r_aload_n dX12_breachNow_15 rfl rfl ?_
    refine r_getC (k := 69) cl_12 dX12_breachNow_16 t_1341 gf_12_69.1 gf_12_69.2 (gc_12_69 _) ?_
    refine r_aload_n dX12_breachNow_19 rfl rfl ?_
    refine r_getI (k := 67) cl_12 dX12_breachNow_20 t_1339 (Or.inl rfl) gf_12_67 ?_
    refine r_iconst (v := 1) dX12_breachNow_23 rfl ?_
    refine r_isub dX12_breachNow_24 ?_
    refine r_iald dX12_breachNow_25 hm.1 ?_
    replace hm := hm.2
    refine r_keep (L' := [some (tR 12 0 (some 51))]) [true] rfl ?_
    exact s_X12_breachNow_26 hd hm
  · replace hm := hm.2 hc
    refine r_iconst (v := 0) dX12_breachNow_11 rfl ?_
    refine r_goto (tgt := 26) dX12_breachNow_12 rfl ?_
    refine r_keep (L' := [some (tR 12 0 (some 51))]) [true] rfl ?_
    exact s_X12_breachNow_26 hd hm
theorem dX12_breach_0 : decode cX12_breach 0 = .ok (.iload_n 1, 1) := rfl
theorem dX12_breach_1 : decode cX12_breach 1 = .ok (.iconst 0, 1) := rfl
theorem dX12_breach_2 : decode cX12_breach 2 = .ok (.iconst 2, 1) := rfl
theorem dX12_breach_3 : decode cX12_breach 3 = .ok (.invokestatic 185, 3) := rfl
theorem dX12_breach_6 : decode cX12_breach 6 = .ok (.ifCond .ne 5, 3) := by decide +kernel
theorem dX12_breach_9 : decode cX12_breach 9 = .ok (.iconst (-1), 1) := rfl
theorem dX12_breach_10 : decode cX12_breach 10 = .ok (.ireturn, 1) := rfl
theorem dX12_breach_11 : decode cX12_breach 11 = .ok (.aload_n 0, 1) := rfl
theorem dX12_breach_12 : decode cX12_breach 12 = .ok (.invokevirtual 452, 3) := rfl
theorem dX12_breach_15 : decode cX12_breach 15 = .ok (.aload_n 0, 1) := rfl
theorem dX12_breach_16 : decode cX12_breach 16 = .ok (.invokevirtual 565, 3) := rfl
theorem dX12_breach_19 : decode cX12_breach 19 = .ok (.istore_n 2, 1) := rfl
theorem dX12_breach_20 : decode cX12_breach 20 = .ok (.iload_n 2, 1) := rfl
theorem dX12_breach_21 : decode cX12_breach 21 = .ok (.ifCond .ge 7, 3) := by decide +kernel
theorem dX12_breach_24 : decode cX12_breach 24 = .ok (.iconst (-1), 1) := rfl
theorem dX12_breach_25 : decode cX12_breach 25 = .ok (.goto 27, 3) := by decide +kernel
theorem dX12_breach_28 : decode cX12_breach 28 = .ok (.iload_n 1, 1) := rfl
theorem dX12_breach_29 : decode cX12_breach 29 = .ok (.ifCond .ne 7, 3) := by decide +kernel
theorem dX12_breach_32 : decode cX12_breach 32 = .ok (.iload_n 2, 1) := rfl
theorem dX12_breach_33 : decode cX12_breach 33 = .ok (.goto 19, 3) := by decide +kernel
theorem dX12_breach_36 : decode cX12_breach 36 = .ok (.iload_n 1, 1) := rfl
theorem dX12_breach_37 : decode cX12_breach 37 = .ok (.iconst 1, 1) := rfl
theorem dX12_breach_38 : decode cX12_breach 38 = .ok (.if_icmp .ne 10, 3) := by decide +kernel
theorem dX12_breach_41 : decode cX12_breach 41 = .ok (.aload_n 0, 1) := rfl
theorem dX12_breach_42 : decode cX12_breach 42 = .ok (.getfield 550, 3) := rfl
theorem dX12_breach_45 : decode cX12_breach 45 = .ok (.goto 7, 3) := by decide +kernel
theorem dX12_breach_48 : decode cX12_breach 48 = .ok (.aload_n 0, 1) := rfl
theorem dX12_breach_49 : decode cX12_breach 49 = .ok (.getfield 553, 3) := rfl
theorem dX12_breach_52 : decode cX12_breach 52 = .ok (.ireturn, 1) := rfl
def m_X12_breach (v1 : Int32) (h : Hp) (Q : Int32 → Hp → Prop) : Prop := m_X12_within v1 0 2 h (fun (x1 : Int32) (h2 : Hp) => (¬ x1 = 0 → m_X12_bundleAtHand h2 (fun (h4 : Hp) => m_X12_breachNow h4 (fun (x5 : Int32) (h6 : Hp) => (0 ≤ x5 → (¬ v1 = 0 → (¬ v1 = 1 → Q (hI h6 51 80) h6) ∧ (v1 = 1 → Q (hI h6 51 79) h6)) ∧ (v1 = 0 → Q x5 h6)) ∧ (¬ 0 ≤ x5 → Q (-1) h6)))) ∧ (x1 = 0 → Q (-1) h2))
set_option maxHeartbeats 4000000 in
set_option maxRecDepth 100000 in
theorem s_X12_breach {l : Launch} {G : Cx} {d : Nat} (hd : 10 ≤ d) {v1 : Int32} {h : Hp} {Q : Int32 → Hp → Prop} (hm : m_X12_breach v1 h Q) : Ct l G d 0 0 yX12_breach MX12_breach [tR 12 0 (some 51), tI v1] h (qI Q) := by
  unfold m_X12_breach at hm
  refine Ct.of (L := [some (tR 12 0 (some 51)), some (tI v1)]) (by decide) rfl rfl (Nat.le_of_ble_eq_true rfl) rfl ?_
  refine r_iload_n dX12_breach_0 rfl rfl ?_
  refine r_iconst (v := 0) dX12_breach_1 rfl ?_
  refine r_iconst (v := 2) dX12_breach_2 rfl ?_
  refine r_callSI (d' := d - 1) (as := [tI v1, tI 0, tI 2]) (st := []) dX12_breach_3 mi_X12_within t_1557 t_1558 rfl rfl (Nat.le_of_ble_eq_true rfl) (by omega) ⟨by decide, by decide⟩ ⟨rfl, rfl⟩ (s_X12_within (by omega) hm) (fun x1 h2 hm => ?_)
  refine r_if_ne (tgt := 11) dX12_breach_6 rfl (fun hc => ?_) (fun hc => ?_)
  · replace hm := hm.1 hc
    refine r_aload_n dX12_breach_11 rfl rfl ?_
    refine r_callVU (d' := d - 1) (as := []) (st := []) cl_12 dX12_breach_12 mi_X12_bundleAtHand t_1757 t_1759 ts_89 rfl rfl (Nat.le_of_ble_eq_true rfl) (by omega) ⟨by decide, by decide⟩ ⟨rfl, rfl⟩ (s_X12_bundleAtHand (by omega) hm) (fun h4 hm => ?_)
    refine r_aload_n dX12_breach_15 rfl rfl ?_
    refine r_callVI (d' := d - 1) (as := []) (st := []) cl_12 dX12_breach_16 mi_X12_breachNow t_1909 t_1911 ts_111 rfl rfl (Nat.le_of_ble_eq_true rfl) (by omega) ⟨by decide, by decide⟩ ⟨rfl, rfl⟩ (s_X12_breachNow (by omega) hm) (fun x5 h6 hm => ?_)
    refine r_istore_n (L' := [some (tR 12 0 (some 51)), some (tI v1), some (tI x5)]) dX12_breach_19 rfl (by decide) rfl ?_
    refine r_iload_n dX12_breach_20 rfl rfl ?_
    refine r_if_ge (tgt := 28) dX12_breach_21 rfl (fun hc => ?_) (fun hc => ?_)
    · replace hm := hm.1 hc
      refine r_iload_n dX12_breach_28 rfl rfl ?_
      refine r_if_ne (tgt := 36) dX12_breach_29 rfl (fun hc => ?_) (fun hc => ?_)
      · replace hm := hm.1 hc
        refine r_iload_n dX12_breach_36 rfl rfl ?_
        refine r_iconst (v := 1) dX12_breach_37 rfl ?_
        refine r_icmp_ne (tgt := 48) dX12_breach_38 rfl (fun hc => ?_) (fun hc => ?_)
        · replace hm := hm.1 hc
          refine r_aload_n dX12_breach_48 rfl rfl ?_
          refine r_getI (k := 80) cl_12 dX12_breach_49 t_1352 (Or.inl rfl) gf_12_80 ?_
          exact r_ireturn dX12_breach_52 rfl ⟨by decide, by decide⟩ ⟨_, rfl, hm⟩
        · replace hm := hm.2 hc
          refine r_aload_n dX12_breach_41 rfl rfl ?_
          refine r_getI (k := 79) cl_12 dX12_breach_42 t_1351 (Or.inl rfl) gf_12_79 ?_
          refine r_goto (tgt := 52) dX12_breach_45 rfl ?_
          exact r_ireturn dX12_breach_52 rfl ⟨by decide, by decide⟩ ⟨_, rfl, hm⟩
      · replace hm := hm.2 hc
        refine r_iload_n dX12_breach_32 rfl rfl ?_
        refine r_goto (tgt := 52) dX12_breach_33 rfl ?_
        exact r_ireturn dX12_breach_52 rfl ⟨by decide, by decide⟩ ⟨_, rfl, hm⟩
    · replace hm := hm.2 hc
      refine r_iconst (v := (-1)) dX12_breach_24 rfl ?_
      refine r_goto (tgt := 52) dX12_breach_25 rfl ?_
      exact r_ireturn dX12_breach_52 rfl ⟨by decide, by decide⟩ ⟨_, rfl, hm⟩
  · replace hm := hm.2 hc
    refine r_iconst (v := (-1)) dX12_breach_9 rfl ?_
    exact r_ireturn dX12_breach_10 rfl ⟨by decide, by decide⟩ ⟨_, rfl, hm⟩
theorem dX12_doesWordBar_0 : decode cX12_doesWordBar 0 = .ok (.iconst 0, 1) := rfl
theorem dX12_doesWordBar_1 : decode cX12_doesWordBar 1 = .ok (.istore_n 2, 1) := rfl
theorem dX12_doesWordBar_2 : decode cX12_doesWordBar 2 = .ok (.iload_n 2, 1) := rfl
theorem dX12_doesWordBar_3 : decode cX12_doesWordBar 3 = .ok (.aload_n 0, 1) := rfl
theorem dX12_doesWordBar_4 : decode cX12_doesWordBar 4 = .ok (.getfield 137, 3) := rfl
theorem dX12_doesWordBar_7 : decode cX12_doesWordBar 7 = .ok (.iload_n 1, 1) := rfl
theorem dX12_doesWordBar_8 : decode cX12_doesWordBar 8 = .ok (.iaload, 1) := rfl
theorem dX12_doesWordBar_9 : decode cX12_doesWordBar 9 = .ok (.if_icmp .ge 27, 3) := by decide +kernel
theorem dX12_doesWordBar_12 : decode cX12_doesWordBar 12 = .ok (.aload_n 0, 1) := rfl
theorem dX12_doesWordBar_13 : decode cX12_doesWordBar 13 = .ok (.bipush 96, 2) := by decide +kernel
theorem dX12_doesWordBar_15 : decode cX12_doesWordBar 15 = .ok (.bipush 12, 2) := by decide +kernel
theorem dX12_doesWordBar_17 : decode cX12_doesWordBar 17 = .ok (.iload_n 1, 1) := rfl
theorem dX12_doesWordBar_18 : decode cX12_doesWordBar 18 = .ok (.imul, 1) := rfl
theorem dX12_doesWordBar_19 : decode cX12_doesWordBar 19 = .ok (.iadd, 1) := rfl
theorem dX12_doesWordBar_20 : decode cX12_doesWordBar 20 = .ok (.iload_n 2, 1) := rfl
theorem dX12_doesWordBar_21 : decode cX12_doesWordBar 21 = .ok (.iadd, 1) := rfl
theorem dX12_doesWordBar_22 : decode cX12_doesWordBar 22 = .ok (.invokevirtual 562, 3) := rfl
theorem dX12_doesWordBar_25 : decode cX12_doesWordBar 25 = .ok (.ifCond .eq 5, 3) := by decide +kernel
theorem dX12_doesWordBar_28 : decode cX12_doesWordBar 28 = .ok (.iconst 1, 1) := rfl
theorem dX12_doesWordBar_29 : decode cX12_doesWordBar 29 = .ok (.ireturn, 1) := rfl
theorem dX12_doesWordBar_30 : decode cX12_doesWordBar 30 = .ok (.iinc 2 1, 3) := by decide +kernel
theorem dX12_doesWordBar_33 : decode cX12_doesWordBar 33 = .ok (.goto (-31), 3) := by decide +kernel
theorem dX12_doesWordBar_36 : decode cX12_doesWordBar 36 = .ok (.iconst 0, 1) := rfl
theorem dX12_doesWordBar_37 : decode cX12_doesWordBar 37 = .ok (.ireturn, 1) := rfl
def m_X12_doesWordBar_2 : Nat → (Int32 → Hp → Prop) → Int32 → Int32 → Hp → Prop
  | 0, _, _, _, _ => False
  | n + 1, Q, v1, v2, h => vp_in v1 12 ∧ (((hI h 92 (ix v1)) ≤ v2 → Q 0 h) ∧ (¬ (hI h 92 (ix v1)) ≤ v2 → m_X12_doesBar ((96 + (12 * v1)) + v2) h (fun (x1 : Int32) (h2 : Hp) => (x1 = 0 → ∀ x3 : Int32, x3 = v2 + 1 → m_X12_doesWordBar_2 n Q v1 x3 h2) ∧ (¬ x1 = 0 → Q 1 h2))))
set_option maxHeartbeats 4000000 in
set_option maxRecDepth 100000 in
theorem s_X12_doesWordBar_2 {l : Launch} {G : Cx} {d : Nat} {h0 : Hp} (hd : 8 ≤ d) {Q : Int32 → Hp → Prop} : ∀ {n : Nat} {v1 : Int32} {v2 : Int32} {h : Hp}, m_X12_doesWordBar_2 n Q v1 v2 h → Rn l G d 0 0 MX12_doesWordBar h0 (qI Q) 2 [some (tR 12 0 (some 51)), some (tI v1), some (tI v2)] [] h 0 0 := by
  intro n
  induction n with
  | zero => intro v1 v2 h hm; exact hm.elim
  | succ n ih =>
    intro v1 v2 h hm
    have hk2 := fun (v1 : Int32) (v2 : Int32) (hh : Hp) (hm : m_X12_doesWordBar_2 n Q v1 v2 hh) => ih hm
    rw [m_X12_doesWordBar_2] at hm
    refine r_iload_n dX12_doesWordBar_2 rfl rfl ?_
    refine r_aload_n dX12_doesWordBar_3 rfl rfl ?_
    refine r_getC (k := 70) cl_12 dX12_doesWordBar_4 t_1342 gf_12_70.1 gf_12_70.2 (gc_12_70 _) ?_
    refine r_iload_n dX12_doesWordBar_7 rfl rfl ?_
    refine r_iald dX12_doesWordBar_8 hm.1 ?_
    replace hm := hm.2
    refine r_icmp_ge (tgt := 36) dX12_doesWordBar_9 rfl (fun hc => ?_) (fun hc => ?_)
    · replace hm := hm.1 hc
      refine r_iconst (v := 0) dX12_doesWordBar_36 rfl ?_
      exact r_bret dX12_doesWordBar_37 rfl ⟨by decide, by decide⟩ (by unfold bz; decide) ⟨_, rfl, hm⟩
    · replace hm := hm.2 hc
      refine r_aload_n dX12_doesWordBar_12 rfl rfl ?_
      refine r_bipush (v := 96) dX12_doesWordBar_13 rfl ?_
      refine r_bipush (v := 12) dX12_doesWordBar_15 rfl ?_
      refine r_iload_n dX12_doesWordBar_17 rfl rfl ?_
      refine r_imul dX12_doesWordBar_18 ?_
      refine r_iadd dX12_doesWordBar_19 ?_
      refine r_iload_n dX12_doesWordBar_20 rfl rfl ?_
      refine r_iadd dX12_doesWordBar_21 ?_
      refine r_callVI (d' := d - 1) (as := [tI ((96 + (12 * v1)) + v2)]) (st := []) cl_12 dX12_doesWordBar_22 mi_X12_doesBar t_1917 t_1919 ts_113 rfl rfl (Nat.le_of_ble_eq_true rfl) (by omega) ⟨by decide, by decide⟩ ⟨rfl, rfl⟩ (s_X12_doesBar (by omega) hm) (fun x1 h2 hm => ?_)
      refine r_if_eq (tgt := 30) dX12_doesWordBar_25 rfl (fun hc => ?_) (fun hc => ?_)
      · replace hm := hm.1 hc
        obtain ⟨x3, e_x3⟩ : ∃ y : Int32, y = v2 + 1 := ⟨_, rfl⟩
        replace hm := hm x3 e_x3
        refine r_iinc (L' := [some (tR 12 0 (some 51)), some (tI v1), some (tI x3)]) dX12_doesWordBar_30 rfl (by rw [e_x3]; rfl) (by decide) rfl ?_
        refine r_goto (tgt := 2) dX12_doesWordBar_33 rfl ?_
        refine r_keep (L' := [some (tR 12 0 (some 51)), some (tI v1), some (tI x3)]) [true, true, true] rfl ?_
        exact hk2 _ _ _ hm
      · replace hm := hm.2 hc
        refine r_iconst (v := 1) dX12_doesWordBar_28 rfl ?_
        exact r_bret dX12_doesWordBar_29 rfl ⟨by decide, by decide⟩ (by unfold bz; decide) ⟨_, rfl, hm⟩
def m_X12_doesWordBar (v1 : Int32) (h : Hp) (Q : Int32 → Hp → Prop) : Prop := ∃ n2, m_X12_doesWordBar_2 n2 Q v1 0 h
set_option maxHeartbeats 4000000 in
set_option maxRecDepth 100000 in
theorem s_X12_doesWordBar {l : Launch} {G : Cx} {d : Nat} (hd : 8 ≤ d) {v1 : Int32} {h : Hp} {Q : Int32 → Hp → Prop} (hm : m_X12_doesWordBar v1 h Q) : Ct l G d 0 0 yX12_doesWordBar MX12_doesWordBar [tR 12 0 (some 51), tI v1] h (qI Q) := by
  unfold m_X12_doesWordBar at hm
  refine Ct.of (L := [some (tR 12 0 (some 51)), some (tI v1)]) (by decide) rfl rfl (Nat.le_of_ble_eq_true rfl) rfl ?_
  refine r_iconst (v := 0) dX12_doesWordBar_0 rfl ?_
  refine r_istore_n (L' := [some (tR 12 0 (some 51)), some (tI v1), some (tI 0)]) dX12_doesWordBar_1 rfl (by decide) rfl ?_
  refine r_keep (L' := [some (tR 12 0 (some 51)), some (tI v1), some (tI 0)]) [true, true, true] rfl ?_
  obtain ⟨n, hm⟩ := hm
  refine s_X12_doesWordBar_2 hd hm
theorem dX12_bars_0 : decode cX12_bars 0 = .ok (.iload_n 1, 1) := rfl
theorem dX12_bars_1 : decode cX12_bars 1 = .ok (.iconst 0, 1) := rfl
theorem dX12_bars_2 : decode cX12_bars 2 = .ok (.aload_n 0, 1) := rfl
theorem dX12_bars_3 : decode cX12_bars 3 = .ok (.getfield 541, 3) := rfl
theorem dX12_bars_6 : decode cX12_bars 6 = .ok (.iconst 1, 1) := rfl
theorem dX12_bars_7 : decode cX12_bars 7 = .ok (.isub, 1) := rfl
theorem dX12_bars_8 : decode cX12_bars 8 = .ok (.invokestatic 185, 3) := rfl
theorem dX12_bars_11 : decode cX12_bars 11 = .ok (.ifCond .ne 5, 3) := by decide +kernel
theorem dX12_bars_14 : decode cX12_bars 14 = .ok (.iconst (-1), 1) := rfl
theorem dX12_bars_15 : decode cX12_bars 15 = .ok (.ireturn, 1) := rfl
theorem dX12_bars_16 : decode cX12_bars 16 = .ok (.aload_n 0, 1) := rfl
theorem dX12_bars_17 : decode cX12_bars 17 = .ok (.invokevirtual 452, 3) := rfl
theorem dX12_bars_20 : decode cX12_bars 20 = .ok (.aload_n 0, 1) := rfl
theorem dX12_bars_21 : decode cX12_bars 21 = .ok (.invokevirtual 559, 3) := rfl
theorem dX12_bars_24 : decode cX12_bars 24 = .ok (.aload_n 0, 1) := rfl
theorem dX12_bars_25 : decode cX12_bars 25 = .ok (.iload_n 1, 1) := rfl
theorem dX12_bars_26 : decode cX12_bars 26 = .ok (.invokevirtual 568, 3) := rfl
theorem dX12_bars_29 : decode cX12_bars 29 = .ok (.ifCond .eq 7, 3) := by decide +kernel
theorem dX12_bars_32 : decode cX12_bars 32 = .ok (.iconst 1, 1) := rfl
theorem dX12_bars_33 : decode cX12_bars 33 = .ok (.goto 4, 3) := by decide +kernel
theorem dX12_bars_36 : decode cX12_bars 36 = .ok (.iconst 0, 1) := rfl
theorem dX12_bars_37 : decode cX12_bars 37 = .ok (.ireturn, 1) := rfl
def m_X12_bars (v1 : Int32) (h : Hp) (Q : Int32 → Hp → Prop) : Prop := m_X12_within v1 0 ((hI h 51 68) - 1) h (fun (x1 : Int32) (h2 : Hp) => (¬ x1 = 0 → m_X12_bundleAtHand h2 (fun (h4 : Hp) => m_X12_findLeaves h4 (fun (h6 : Hp) => m_X12_doesWordBar v1 h6 (fun (x7 : Int32) (h8 : Hp) => (x7 = 0 → Q 0 h8) ∧ (¬ x7 = 0 → Q 1 h8))))) ∧ (x1 = 0 → Q (-1) h2))
set_option maxHeartbeats 4000000 in
set_option maxRecDepth 100000 in
theorem s_X12_bars {l : Launch} {G : Cx} {d : Nat} (hd : 10 ≤ d) {v1 : Int32} {h : Hp} {Q : Int32 → Hp → Prop} (hm : m_X12_bars v1 h Q) : Ct l G d 0 0 yX12_bars MX12_bars [tR 12 0 (some 51), tI v1] h (qI Q) := by
  unfold m_X12_bars at hm
  refine Ct.of (L := [some (tR 12 0 (some 51)), some (tI v1)]) (by decide) rfl rfl (Nat.le_of_ble_eq_true rfl) rfl ?_
  refine r_iload_n dX12_bars_0 rfl rfl ?_
  refine r_iconst (v := 0) dX12_bars_1 rfl ?_
  refine r_aload_n dX12_bars_2 rfl rfl ?_
  refine r_getI (k := 68) cl_12 dX12_bars_3 t_1340 (Or.inl rfl) gf_12_68 ?_
  refine r_iconst (v := 1) dX12_bars_6 rfl ?_
  refine r_isub dX12_bars_7 ?_
  refine r_callSI (d' := d - 1) (as := [tI v1, tI 0, tI ((hI h 51 68) - 1)]) (st := []) dX12_bars_8 mi_X12_within t_1557 t_1558 rfl rfl (Nat.le_of_ble_eq_true rfl) (by omega) ⟨by decide, by decide⟩ ⟨rfl, rfl⟩ (s_X12_within (by omega) hm) (fun x1 h2 hm => ?_)
  refine r_if_ne (tgt := 16) dX12_bars_11 rfl (fun hc => ?_) (fun hc => ?_)
  · replace hm := hm.1 hc
    refine r_aload_n dX12_bars_16 rfl rfl ?_
    refine r_callVU (d' := d - 1) (as := []) (st := []) cl_12 dX12_bars_17 mi_X12_bundleAtHand t_1757 t_1759 ts_89 rfl rfl (Nat.le_of_ble_eq_true rfl) (by omega) ⟨by decide, by decide⟩ ⟨rfl, rfl⟩ (s_X12_bundleAtHand (by omega) hm) (fun h4 hm => ?_)
    refine r_aload_n dX12_bars_20 rfl rfl ?_
    refine r_callVU (d' := d - 1) (as := []) (st := []) cl_12 dX12_bars_21 mi_X12_findLeaves t_1913 t_1915 ts_112 rfl rfl (Nat.le_of_ble_eq_true rfl) (by omega) ⟨by decide, by decide⟩ ⟨rfl, rfl⟩ (s_X12_findLeaves (by omega) hm) (fun h6 hm => ?_)
    refine r_aload_n dX12_bars_24 rfl rfl ?_
    refine r_iload_n dX12_bars_25 rfl rfl ?_
    refine r_callVI (d' := d - 1) (as := [tI v1]) (st := []) cl_12 dX12_bars_26 mi_X12_doesWordBar t_1933 t_1935 ts_116 rfl rfl (Nat.le_of_ble_eq_true rfl) (by omega) ⟨by decide, by decide⟩ ⟨rfl, rfl⟩ (s_X12_doesWordBar (by omega) hm) (fun x7 h8 hm => ?_)
    refine r_if_eq (tgt := 36) dX12_bars_29 rfl (fun hc => ?_) (fun hc => ?_)
    · replace hm := hm.1 hc
      refine r_iconst (v := 0) dX12_bars_36 rfl ?_
      exact r_ireturn dX12_bars_37 rfl ⟨by decide, by decide⟩ ⟨_, rfl, hm⟩
    · replace hm := hm.2 hc
      refine r_iconst (v := 1) dX12_bars_32 rfl ?_
      refine r_goto (tgt := 37) dX12_bars_33 rfl ?_
      exact r_ireturn dX12_bars_37 rfl ⟨by decide, by decide⟩ ⟨_, rfl, hm⟩
  · replace hm := hm.2 hc
    refine r_iconst (v := (-1)) dX12_bars_14 rfl ?_
    exact r_ireturn dX12_bars_15 rfl ⟨by decide, by decide⟩ ⟨_, rfl, hm⟩
theorem dX12_offer_0 : decode cX12_offer 0 = .ok (.aload_n 0, 1) := rfl
theorem dX12_offer_1 : decode cX12_offer 1 = .ok (.iload_n 1, 1) := rfl
theorem dX12_offer_2 : decode cX12_offer 2 = .ok (.invokevirtual 352, 3) := rfl
theorem dX12_offer_5 : decode cX12_offer 5 = .ok (.ifCond .eq 12, 3) := by decide +kernel
theorem dX12_offer_8 : decode cX12_offer 8 = .ok (.aload_n 0, 1) := rfl
theorem dX12_offer_9 : decode cX12_offer 9 = .ok (.getfield 571, 3) := rfl
theorem dX12_offer_12 : decode cX12_offer 12 = .ok (.bipush 10, 2) := by decide +kernel
theorem dX12_offer_14 : decode cX12_offer 14 = .ok (.if_icmp .ne 5, 3) := by decide +kernel
theorem dX12_offer_17 : decode cX12_offer 17 = .ok (.iconst (-1), 1) := rfl
theorem dX12_offer_18 : decode cX12_offer 18 = .ok (.ireturn, 1) := rfl
theorem dX12_offer_19 : decode cX12_offer 19 = .ok (.iconst 0, 1) := rfl
theorem dX12_offer_20 : decode cX12_offer 20 = .ok (.istore_n 2, 1) := rfl
theorem dX12_offer_21 : decode cX12_offer 21 = .ok (.iload_n 2, 1) := rfl
theorem dX12_offer_22 : decode cX12_offer 22 = .ok (.aload_n 0, 1) := rfl
theorem dX12_offer_23 : decode cX12_offer 23 = .ok (.getfield 571, 3) := rfl
theorem dX12_offer_26 : decode cX12_offer 26 = .ok (.if_icmp .ge 21, 3) := by decide +kernel
theorem dX12_offer_29 : decode cX12_offer 29 = .ok (.aload_n 0, 1) := rfl
theorem dX12_offer_30 : decode cX12_offer 30 = .ok (.getfield 167, 3) := rfl
theorem dX12_offer_33 : decode cX12_offer 33 = .ok (.iload_n 2, 1) := rfl
theorem dX12_offer_34 : decode cX12_offer 34 = .ok (.iaload, 1) := rfl
theorem dX12_offer_35 : decode cX12_offer 35 = .ok (.iload_n 1, 1) := rfl
theorem dX12_offer_36 : decode cX12_offer 36 = .ok (.if_icmp .ne 5, 3) := by decide +kernel
theorem dX12_offer_39 : decode cX12_offer 39 = .ok (.iconst (-1), 1) := rfl
theorem dX12_offer_40 : decode cX12_offer 40 = .ok (.ireturn, 1) := rfl
theorem dX12_offer_41 : decode cX12_offer 41 = .ok (.iinc 2 1, 3) := by decide +kernel
theorem dX12_offer_44 : decode cX12_offer 44 = .ok (.goto (-23), 3) := by decide +kernel
theorem dX12_offer_47 : decode cX12_offer 47 = .ok (.aload_n 0, 1) := rfl
theorem dX12_offer_48 : decode cX12_offer 48 = .ok (.getfield 167, 3) := rfl
theorem dX12_offer_51 : decode cX12_offer 51 = .ok (.aload_n 0, 1) := rfl
theorem dX12_offer_52 : decode cX12_offer 52 = .ok (.getfield 571, 3) := rfl
theorem dX12_offer_55 : decode cX12_offer 55 = .ok (.iload_n 1, 1) := rfl
theorem dX12_offer_56 : decode cX12_offer 56 = .ok (.iastore, 1) := rfl
theorem dX12_offer_57 : decode cX12_offer 57 = .ok (.aload_n 0, 1) := rfl
theorem dX12_offer_58 : decode cX12_offer 58 = .ok (.dup, 1) := rfl
theorem dX12_offer_59 : decode cX12_offer 59 = .ok (.getfield 571, 3) := rfl
theorem dX12_offer_62 : decode cX12_offer 62 = .ok (.iconst 1, 1) := rfl
theorem dX12_offer_63 : decode cX12_offer 63 = .ok (.iadd, 1) := rfl
theorem dX12_offer_64 : decode cX12_offer 64 = .ok (.putfield 571, 3) := rfl
theorem dX12_offer_67 : decode cX12_offer 67 = .ok (.aload_n 0, 1) := rfl
theorem dX12_offer_68 : decode cX12_offer 68 = .ok (.getfield 571, 3) := rfl
theorem dX12_offer_71 : decode cX12_offer 71 = .ok (.ireturn, 1) := rfl
def m_X12_offer_47  (Q : Int32 → Hp → Prop) (v1 : Int32) (h : Hp) : Prop := vp_in (hI h 51 83) 10 ∧ (Q (hI (wI (wI h 102 (ix (hI h 51 83)) v1) 51 83 ((hI (wI h 102 (ix (hI h 51 83)) v1) 51 83) + 1)) 51 83) (wI (wI h 102 (ix (hI h 51 83)) v1) 51 83 ((hI (wI h 102 (ix (hI h 51 83)) v1) 51 83) + 1)))
set_option maxHeartbeats 4000000 in
set_option maxRecDepth 100000 in
theorem s_X12_offer_47 {l : Launch} {G : Cx} {d : Nat} {h0 : Hp} (hd : 4 ≤ d) {Q : Int32 → Hp → Prop} {v1 : Int32} {h : Hp} (hm : m_X12_offer_47 Q v1 h) : Rn l G d 0 0 MX12_offer h0 (qI Q) 47 [some (tR 12 0 (some 51)), some (tI v1)] [] h 0 0 := by
  unfold m_X12_offer_47 at hm
  refine r_aload_n dX12_offer_47 rfl rfl ?_
  refine r_getC (k := 86) cl_12 dX12_offer_48 t_1358 gf_12_86.1 gf_12_86.2 (gc_12_86 _) ?_
  refine r_aload_n dX12_offer_51 rfl rfl ?_
  refine r_getI (k := 83) cl_12 dX12_offer_52 t_1355 (Or.inl rfl) gf_12_83 ?_
  refine r_iload_n dX12_offer_55 rfl rfl ?_
  refine r_iast dX12_offer_56 hm.1 ?_
  replace hm := hm.2
  refine r_aload_n dX12_offer_57 rfl rfl ?_
  refine r_dup dX12_offer_58 cv_cat1R ?_
  refine r_getI (k := 83) cl_12 dX12_offer_59 t_1355 (Or.inl rfl) gf_12_83 ?_
  refine r_iconst (v := 1) dX12_offer_62 rfl ?_
  refine r_iadd dX12_offer_63 ?_
  refine r_putI0 (k := 83) cl_12 dX12_offer_64 t_1355 (Or.inl rfl) gf_12_83 pf_12_83.1 (Or.inl pf_12_83.2) ?_
  refine r_aload_n dX12_offer_67 rfl rfl ?_
  refine r_getI (k := 83) cl_12 dX12_offer_68 t_1355 (Or.inl rfl) gf_12_83 ?_
  exact r_ireturn dX12_offer_71 rfl ⟨by decide, by decide⟩ ⟨_, rfl, hm⟩
def m_X12_offer_21 : Nat → (Int32 → Hp → Prop) → (Int32 → Hp → Prop) → Int32 → Int32 → Hp → Prop
  | 0, _, _, _, _, _ => False
  | n + 1, k47, Q, v1, v2, h => ((hI h 51 83) ≤ v2 → k47 v1 h) ∧ (¬ (hI h 51 83) ≤ v2 → vp_in v2 10 ∧ ((¬ (hI h 102 (ix v2)) = v1 → ∀ x1 : Int32, x1 = v2 + 1 → m_X12_offer_21 n k47 Q v1 x1 h) ∧ ((hI h 102 (ix v2)) = v1 → Q (-1) h)))
set_option maxHeartbeats 4000000 in
set_option maxRecDepth 100000 in
theorem s_X12_offer_21 {l : Launch} {G : Cx} {d : Nat} {h0 : Hp} (hd : 4 ≤ d) {k47 : Int32 → Hp → Prop} {Q : Int32 → Hp → Prop} (hk47 : ∀ (v1 : Int32) (hh : Hp), k47 v1 hh → Rn l G d 0 0 MX12_offer h0 (qI Q) 47 [some (tR 12 0 (some 51)), some (tI v1)] [] hh 0 0) : ∀ {n : Nat} {v1 : Int32} {v2 : Int32} {h : Hp}, m_X12_offer_21 n k47 Q v1 v2 h → Rn l G d 0 0 MX12_offer h0 (qI Q) 21 [some (tR 12 0 (some 51)), some (tI v1), some (tI v2)] [] h 0 0 := by
  intro n
  induction n with
  | zero => intro v1 v2 h hm; exact hm.elim
  | succ n ih =>
    intro v1 v2 h hm
    have hk21 := fun (v1 : Int32) (v2 : Int32) (hh : Hp) (hm : m_X12_offer_21 n k47 Q v1 v2 hh) => ih hm
    rw [m_X12_offer_21] at hm
    refine r_iload_n dX12_offer_21 rfl rfl ?_
    refine r_aload_n dX12_offer_22 rfl rfl ?_
    refine r_getI (k := 83) cl_12 dX12_offer_23 t_1355 (Or.inl rfl) gf_12_83 ?_
    refine r_icmp_ge (tgt := 47) dX12_offer_26 rfl (fun hc => ?_) (fun hc => ?_)
    · replace hm := hm.1 hc
      refine r_keep (L' := [some (tR 12 0 (some 51)), some (tI v1)]) [true, true] rfl ?_
      exact hk47 _ _ hm
    · replace hm := hm.2 hc
      refine r_aload_n dX12_offer_29 rfl rfl ?_
      refine r_getC (k := 86) cl_12 dX12_offer_30 t_1358 gf_12_86.1 gf_12_86.2 (gc_12_86 _) ?_
      refine r_iload_n dX12_offer_33 rfl rfl ?_
      refine r_iald dX12_offer_34 hm.1 ?_
      replace hm := hm.2
      refine r_iload_n dX12_offer_35 rfl rfl ?_
      refine r_icmp_ne (tgt := 41) dX12_offer_36 rfl (fun hc => ?_) (fun hc => ?_)
      · replace hm := hm.1 hc
        obtain ⟨x1, e_x1⟩ : ∃ y : Int32, y = v2 + 1 := ⟨_, rfl⟩
        replace hm := hm x1 e_x1
        refine r_iinc (L' := [some (tR 12 0 (some 51)), some (tI v1), some (tI x1)]) dX12_offer_41 rfl (by rw [e_x1]; rfl) (by decide) rfl ?_
        refine r_goto (tgt := 21) dX12_offer_44 rfl ?_
        refine r_keep (L' := [some (tR 12 0 (some 51)), some (tI v1), some (tI x1)]) [true, true, true] rfl ?_
        exact hk21 _ _ _ hm
      · replace hm := hm.2 hc
        refine r_iconst (v := (-1)) dX12_offer_39 rfl ?_
        exact r_ireturn dX12_offer_40 rfl ⟨by decide, by decide⟩ ⟨_, rfl, hm⟩
def m_X12_offer (v1 : Int32) (h : Hp) (Q : Int32 → Hp → Prop) : Prop := m_X12_isDeal v1 h (fun (x2 : Int32) (h3 : Hp) => (x2 = 0 → Q (-1) h3) ∧ (¬ x2 = 0 → (¬ (hI h3 51 83) = 10 → ∃ n21, m_X12_offer_21 n21 (m_X12_offer_47 Q) Q v1 0 h3) ∧ ((hI h3 51 83) = 10 → Q (-1) h3)))
set_option maxHeartbeats 4000000 in
set_option maxRecDepth 100000 in
theorem s_X12_offer {l : Launch} {G : Cx} {d : Nat} (hd : 4 ≤ d) {v1 : Int32} {h : Hp} {Q : Int32 → Hp → Prop} (hm : m_X12_offer v1 h Q) : Ct l G d 0 0 yX12_offer MX12_offer [tR 12 0 (some 51), tI v1] h (qI Q) := by
  unfold m_X12_offer at hm
  refine Ct.of (L := [some (tR 12 0 (some 51)), some (tI v1)]) (by decide) rfl rfl (Nat.le_of_ble_eq_true rfl) rfl ?_
  refine r_aload_n dX12_offer_0 rfl rfl ?_
  refine r_iload_n dX12_offer_1 rfl rfl ?_
  refine r_callVI (d' := d - 1) (as := [tI v1]) (st := []) cl_12 dX12_offer_2 mi_X12_isDeal t_1673 t_1675 ts_74 rfl rfl (Nat.le_of_ble_eq_true rfl) (by omega) ⟨by decide, by decide⟩ ⟨rfl, rfl⟩ (s_X12_isDeal (by omega) hm) (fun x2 h3 hm => ?_)
  refine r_if_eq (tgt := 17) dX12_offer_5 rfl (fun hc => ?_) (fun hc => ?_)
  · replace hm := hm.1 hc
    refine r_iconst (v := (-1)) dX12_offer_17 rfl ?_
    exact r_ireturn dX12_offer_18 rfl ⟨by decide, by decide⟩ ⟨_, rfl, hm⟩
  · replace hm := hm.2 hc
    refine r_aload_n dX12_offer_8 rfl rfl ?_
    refine r_getI (k := 83) cl_12 dX12_offer_9 t_1355 (Or.inl rfl) gf_12_83 ?_
    refine r_bipush (v := 10) dX12_offer_12 rfl ?_
    refine r_icmp_ne (tgt := 19) dX12_offer_14 rfl (fun hc => ?_) (fun hc => ?_)
    · replace hm := hm.1 hc
      refine r_iconst (v := 0) dX12_offer_19 rfl ?_
      refine r_istore_n (L' := [some (tR 12 0 (some 51)), some (tI v1), some (tI 0)]) dX12_offer_20 rfl (by decide) rfl ?_
      refine r_keep (L' := [some (tR 12 0 (some 51)), some (tI v1), some (tI 0)]) [true, true, true] rfl ?_
      obtain ⟨n, hm⟩ := hm
      refine s_X12_offer_21 hd ?_ hm
      · exact (fun _ _ hm => s_X12_offer_47 hd hm)
    · replace hm := hm.2 hc
      refine r_iconst (v := (-1)) dX12_offer_17 rfl ?_
      exact r_ireturn dX12_offer_18 rfl ⟨by decide, by decide⟩ ⟨_, rfl, hm⟩
theorem dX12_wordsThatBar_0 : decode cX12_wordsThatBar 0 = .ok (.iconst 0, 1) := rfl
theorem dX12_wordsThatBar_1 : decode cX12_wordsThatBar 1 = .ok (.istore_n 1, 1) := rfl
theorem dX12_wordsThatBar_2 : decode cX12_wordsThatBar 2 = .ok (.aload_n 0, 1) := rfl
theorem dX12_wordsThatBar_3 : decode cX12_wordsThatBar 3 = .ok (.invokevirtual 559, 3) := rfl
theorem dX12_wordsThatBar_6 : decode cX12_wordsThatBar 6 = .ok (.iconst 0, 1) := rfl
theorem dX12_wordsThatBar_7 : decode cX12_wordsThatBar 7 = .ok (.istore_n 2, 1) := rfl
theorem dX12_wordsThatBar_8 : decode cX12_wordsThatBar 8 = .ok (.iload_n 2, 1) := rfl
theorem dX12_wordsThatBar_9 : decode cX12_wordsThatBar 9 = .ok (.aload_n 0, 1) := rfl
theorem dX12_wordsThatBar_10 : decode cX12_wordsThatBar 10 = .ok (.getfield 541, 3) := rfl
theorem dX12_wordsThatBar_13 : decode cX12_wordsThatBar 13 = .ok (.if_icmp .ge 27, 3) := by decide +kernel
theorem dX12_wordsThatBar_16 : decode cX12_wordsThatBar 16 = .ok (.iload_n 1, 1) := rfl
theorem dX12_wordsThatBar_17 : decode cX12_wordsThatBar 17 = .ok (.aload_n 0, 1) := rfl
theorem dX12_wordsThatBar_18 : decode cX12_wordsThatBar 18 = .ok (.iload_n 2, 1) := rfl
theorem dX12_wordsThatBar_19 : decode cX12_wordsThatBar 19 = .ok (.invokevirtual 568, 3) := rfl
theorem dX12_wordsThatBar_22 : decode cX12_wordsThatBar 22 = .ok (.ifCond .eq 9, 3) := by decide +kernel
theorem dX12_wordsThatBar_25 : decode cX12_wordsThatBar 25 = .ok (.iconst 1, 1) := rfl
theorem dX12_wordsThatBar_26 : decode cX12_wordsThatBar 26 = .ok (.iload_n 2, 1) := rfl
theorem dX12_wordsThatBar_27 : decode cX12_wordsThatBar 27 = .ok (.ishl, 1) := rfl
theorem dX12_wordsThatBar_28 : decode cX12_wordsThatBar 28 = .ok (.goto 4, 3) := by decide +kernel
theorem dX12_wordsThatBar_31 : decode cX12_wordsThatBar 31 = .ok (.iconst 0, 1) := rfl
theorem dX12_wordsThatBar_32 : decode cX12_wordsThatBar 32 = .ok (.ior, 1) := rfl
theorem dX12_wordsThatBar_33 : decode cX12_wordsThatBar 33 = .ok (.istore_n 1, 1) := rfl
theorem dX12_wordsThatBar_34 : decode cX12_wordsThatBar 34 = .ok (.iinc 2 1, 3) := by decide +kernel
theorem dX12_wordsThatBar_37 : decode cX12_wordsThatBar 37 = .ok (.goto (-29), 3) := by decide +kernel
theorem dX12_wordsThatBar_40 : decode cX12_wordsThatBar 40 = .ok (.iload_n 1, 1) := rfl
theorem dX12_wordsThatBar_41 : decode cX12_wordsThatBar 41 = .ok (.ireturn, 1) := rfl
def m_X12_wordsThatBar_32 (k8 : Int32 → Int32 → Hp → Prop) (Q : Int32 → Hp → Prop) (v2 : Int32) (s0 : Int32) (s1 : Int32) (h : Hp) : Prop := ∀ x1 : Int32, x1 = (s0 ||| s1) → ∀ x2 : Int32, x2 = v2 + 1 → k8 x1 x2 h
set_option maxHeartbeats 4000000 in
set_option maxRecDepth 100000 in
theorem s_X12_wordsThatBar_32 {l : Launch} {G : Cx} {d : Nat} {h0 : Hp} (hd : 10 ≤ d) {k8 : Int32 → Int32 → Hp → Prop} {Q : Int32 → Hp → Prop} (hk8 : ∀ (v1 : Int32) (v2 : Int32) (hh : Hp), k8 v1 v2 hh → Rn l G d 0 0 MX12_wordsThatBar h0 (qI Q) 8 [some (tR 12 0 (some 51)), some (tI v1), some (tI v2)] [] hh 0 0) {v2 : Int32} {s0 : Int32} {s1 : Int32} {h : Hp} (hm : m_X12_wordsThatBar_32 k8 Q v2 s0 s1 h) : Rn l G d 0 0 MX12_wordsThatBar h0 (qI Q) 32 [some (tR 12 0 (some 51)), none, some (tI v2)] [tI s1, tI s0] h 0 0 := by
  unfold m_X12_wordsThatBar_32 at hm
  refine r_ior dX12_wordsThatBar_32 ?_
  refine r_nmI (fun x1 e_x1 => ?_)
  replace hm := hm x1 e_x1
  refine r_istore_n (L' := [some (tR 12 0 (some 51)), some (tI x1), some (tI v2)]) dX12_wordsThatBar_33 rfl (by decide) rfl ?_
  obtain ⟨x2, e_x2⟩ : ∃ y : Int32, y = v2 + 1 := ⟨_, rfl⟩
  replace hm := hm x2 e_x2
  refine r_iinc (L' := [some (tR 12 0 (some 51)), some (tI x1), some (tI x2)]) dX12_wordsThatBar_34 rfl (by rw [e_x2]; rfl) (by decide) rfl ?_
  refine r_goto (tgt := 8) dX12_wordsThatBar_37 rfl ?_
  refine r_keep (L' := [some (tR 12 0 (some 51)), some (tI x1), some (tI x2)]) [true, true, true] rfl ?_
  exact hk8 _ _ _ hm
def m_X12_wordsThatBar_8 : Nat → (Int32 → Hp → Prop) → Int32 → Int32 → Hp → Prop
  | 0, _, _, _, _ => False
  | n + 1, Q, v1, v2, h => ((hI h 51 68) ≤ v2 → Q v1 h) ∧ (¬ (hI h 51 68) ≤ v2 → m_X12_doesWordBar v2 h (fun (x3 : Int32) (h4 : Hp) => (x3 = 0 → m_X12_wordsThatBar_32 (fun (v1 : Int32) (v2 : Int32) (hh : Hp) => m_X12_wordsThatBar_8 n Q v1 v2 hh) Q v2 v1 0 h4) ∧ (¬ x3 = 0 → m_X12_wordsThatBar_32 (fun (v1 : Int32) (v2 : Int32) (hh : Hp) => m_X12_wordsThatBar_8 n Q v1 v2 hh) Q v2 v1 (1 <<< (v2 &&& 31)) h4)))
set_option maxHeartbeats 4000000 in
set_option maxRecDepth 100000 in
theorem s_X12_wordsThatBar_8 {l : Launch} {G : Cx} {d : Nat} {h0 : Hp} (hd : 10 ≤ d) {Q : Int32 → Hp → Prop} : ∀ {n : Nat} {v1 : Int32} {v2 : Int32} {h : Hp}, m_X12_wordsThatBar_8 n Q v1 v2 h → Rn l G d 0 0 MX12_wordsThatBar h0 (qI Q) 8 [some (tR 12 0 (some 51)), some (tI v1), some (tI v2)] [] h 0 0 := by
  intro n
  induction n with
  | zero => intro v1 v2 h hm; exact hm.elim
  | succ n ih =>
    intro v1 v2 h hm
    have hk8 := fun (v1 : Int32) (v2 : Int32) (hh : Hp) (hm : m_X12_wordsThatBar_8 n Q v1 v2 hh) => ih hm
    rw [m_X12_wordsThatBar_8] at hm
    refine r_iload_n dX12_wordsThatBar_8 rfl rfl ?_
    refine r_aload_n dX12_wordsThatBar_9 rfl rfl ?_
    refine r_getI (k := 68) cl_12 dX12_wordsThatBar_10 t_1340 (Or.inl rfl) gf_12_68 ?_
    refine r_icmp_ge (tgt := 40) dX12_wordsThatBar_13 rfl (fun hc => ?_) (fun hc => ?_)
    · replace hm := hm.1 hc
      refine r_iload_n dX12_wordsThatBar_40 rfl rfl ?_
      exact r_ireturn dX12_wordsThatBar_41 rfl ⟨by decide, by decide⟩ ⟨_, rfl, hm⟩
    · replace hm := hm.2 hc
      refine r_iload_n dX12_wordsThatBar_16 rfl rfl ?_
      refine r_aload_n dX12_wordsThatBar_17 rfl rfl ?_
      refine r_iload_n dX12_wordsThatBar_18 rfl rfl ?_
      refine r_callVI (d' := d - 1) (as := [tI v2]) (st := [tI v1]) cl_12 dX12_wordsThatBar_19 mi_X12_doesWordBar t_1933 t_1935 ts_116 rfl rfl (Nat.le_of_ble_eq_true rfl) (by omega) ⟨by decide, by decide⟩ ⟨rfl, rfl⟩ (s_X12_doesWordBar (by omega) hm) (fun x3 h4 hm => ?_)
      refine r_if_eq (tgt := 31) dX12_wordsThatBar_22 rfl (fun hc => ?_) (fun hc => ?_)
      · replace hm := hm.1 hc
        refine r_iconst (v := 0) dX12_wordsThatBar_31 rfl ?_
        refine r_keep (L' := [some (tR 12 0 (some 51)), none, some (tI v2)]) [true, false, true] rfl ?_
        exact s_X12_wordsThatBar_32 hd hk8 hm
      · replace hm := hm.2 hc
        refine r_iconst (v := 1) dX12_wordsThatBar_25 rfl ?_
        refine r_iload_n dX12_wordsThatBar_26 rfl rfl ?_
        refine r_ishl dX12_wordsThatBar_27 ?_
        refine r_goto (tgt := 32) dX12_wordsThatBar_28 rfl ?_
        refine r_keep (L' := [some (tR 12 0 (some 51)), none, some (tI v2)]) [true, false, true] rfl ?_
        exact s_X12_wordsThatBar_32 hd hk8 hm
def m_X12_wordsThatBar  (h : Hp) (Q : Int32 → Hp → Prop) : Prop := m_X12_findLeaves h (fun (h6 : Hp) => ∃ n8, m_X12_wordsThatBar_8 n8 Q 0 0 h6)
set_option maxHeartbeats 4000000 in
set_option maxRecDepth 100000 in
theorem s_X12_wordsThatBar {l : Launch} {G : Cx} {d : Nat} (hd : 10 ≤ d) {h : Hp} {Q : Int32 → Hp → Prop} (hm : m_X12_wordsThatBar h Q) : Ct l G d 0 0 yX12_wordsThatBar MX12_wordsThatBar [tR 12 0 (some 51)] h (qI Q) := by
  unfold m_X12_wordsThatBar at hm
  refine Ct.of (L := [some (tR 12 0 (some 51))]) (by decide) rfl rfl (Nat.le_of_ble_eq_true rfl) rfl ?_
  refine r_iconst (v := 0) dX12_wordsThatBar_0 rfl ?_
  refine r_istore_n (L' := [some (tR 12 0 (some 51)), some (tI 0)]) dX12_wordsThatBar_1 rfl (by decide) rfl ?_
  refine r_aload_n dX12_wordsThatBar_2 rfl rfl ?_
  refine r_callVU (d' := d - 1) (as := []) (st := []) cl_12 dX12_wordsThatBar_3 mi_X12_findLeaves t_1913 t_1915 ts_112 rfl rfl (Nat.le_of_ble_eq_true rfl) (by omega) ⟨by decide, by decide⟩ ⟨rfl, rfl⟩ (s_X12_findLeaves (by omega) hm) (fun h6 hm => ?_)
  refine r_iconst (v := 0) dX12_wordsThatBar_6 rfl ?_
  refine r_istore_n (L' := [some (tR 12 0 (some 51)), some (tI 0), some (tI 0)]) dX12_wordsThatBar_7 rfl (by decide) rfl ?_
  refine r_keep (L' := [some (tR 12 0 (some 51)), some (tI 0), some (tI 0)]) [true, true, true] rfl ?_
  obtain ⟨n, hm⟩ := hm
  refine s_X12_wordsThatBar_8 hd hm
theorem dX12_findSly_0 : decode cX12_findSly 0 = .ok (.aload_n 0, 1) := by decide +kernel
theorem dX12_findSly_1 : decode cX12_findSly 1 = .ok (.iconst 0, 1) := by decide +kernel
theorem dX12_findSly_2 : decode cX12_findSly 2 = .ok (.putfield 574, 3) := by decide +kernel
theorem dX12_findSly_5 : decode cX12_findSly 5 = .ok (.aload_n 0, 1) := by decide +kernel
theorem dX12_findSly_6 : decode cX12_findSly 6 = .ok (.iconst (-1), 1) := by decide +kernel
theorem dX12_findSly_7 : decode cX12_findSly 7 = .ok (.putfield 577, 3) := by decide +kernel
theorem dX12_findSly_10 : decode cX12_findSly 10 = .ok (.iconst 1, 1) := by decide +kernel
theorem dX12_findSly_11 : decode cX12_findSly 11 = .ok (.istore_n 2, 1) := by decide +kernel
theorem dX12_findSly_12 : decode cX12_findSly 12 = .ok (.iload_n 2, 1) := by decide +kernel
theorem dX12_findSly_13 : decode cX12_findSly 13 = .ok (.iconst 1, 1) := by decide +kernel
theorem dX12_findSly_14 : decode cX12_findSly 14 = .ok (.aload_n 0, 1) := by decide +kernel
theorem dX12_findSly_15 : decode cX12_findSly 15 = .ok (.getfield 571, 3) := by decide +kernel
theorem dX12_findSly_18 : decode cX12_findSly 18 = .ok (.ishl, 1) := by decide +kernel
theorem dX12_findSly_19 : decode cX12_findSly 19 = .ok (.if_icmp .ge 143, 3) := by decide +kernel
theorem dX12_findSly_22 : decode cX12_findSly 22 = .ok (.iload_n 2, 1) := by decide +kernel
theorem dX12_findSly_23 : decode cX12_findSly 23 = .ok (.invokestatic 431, 3) := by decide +kernel
theorem dX12_findSly_26 : decode cX12_findSly 26 = .ok (.iload_n 1, 1) := by decide +kernel
theorem dX12_findSly_27 : decode cX12_findSly 27 = .ok (.if_icmp .le 6, 3) := by decide +kernel
theorem dX12_findSly_30 : decode cX12_findSly 30 = .ok (.goto 126, 3) := by decide +kernel
theorem dX12_findSly_33 : decode cX12_findSly 33 = .ok (.aload_n 0, 1) := by decide +kernel
theorem dX12_findSly_34 : decode cX12_findSly 34 = .ok (.iconst 0, 1) := by decide +kernel
theorem dX12_findSly_35 : decode cX12_findSly 35 = .ok (.putfield 425, 3) := by decide +kernel
theorem dX12_findSly_38 : decode cX12_findSly 38 = .ok (.iconst 0, 1) := by decide +kernel
theorem dX12_findSly_39 : decode cX12_findSly 39 = .ok (.istore_n 3, 1) := by decide +kernel
theorem dX12_findSly_40 : decode cX12_findSly 40 = .ok (.iload_n 3, 1) := by decide +kernel
theorem dX12_findSly_41 : decode cX12_findSly 41 = .ok (.aload_n 0, 1) := by decide +kernel
theorem dX12_findSly_42 : decode cX12_findSly 42 = .ok (.getfield 571, 3) := by decide +kernel
theorem dX12_findSly_45 : decode cX12_findSly 45 = .ok (.if_icmp .ge 45, 3) := by decide +kernel
theorem dX12_findSly_48 : decode cX12_findSly 48 = .ok (.iload_n 2, 1) := by decide +kernel
theorem dX12_findSly_49 : decode cX12_findSly 49 = .ok (.iload_n 3, 1) := by decide +kernel
theorem dX12_findSly_50 : decode cX12_findSly 50 = .ok (.ishr, 1) := by decide +kernel
theorem dX12_findSly_51 : decode cX12_findSly 51 = .ok (.iconst 1, 1) := by decide +kernel
theorem dX12_findSly_52 : decode cX12_findSly 52 = .ok (.iand, 1) := by decide +kernel
theorem dX12_findSly_53 : decode cX12_findSly 53 = .ok (.ifCond .ne 6, 3) := by decide +kernel
theorem dX12_findSly_56 : decode cX12_findSly 56 = .ok (.goto 28, 3) := by decide +kernel
theorem dX12_findSly_59 : decode cX12_findSly 59 = .ok (.aload_n 0, 1) := by decide +kernel
theorem dX12_findSly_60 : decode cX12_findSly 60 = .ok (.getfield 116, 3) := by decide +kernel
theorem dX12_findSly_63 : decode cX12_findSly 63 = .ok (.aload_n 0, 1) := by decide +kernel
theorem dX12_findSly_64 : decode cX12_findSly 64 = .ok (.getfield 425, 3) := by decide +kernel
theorem dX12_findSly_67 : decode cX12_findSly 67 = .ok (.aload_n 0, 1) := by decide +kernel
theorem dX12_findSly_68 : decode cX12_findSly 68 = .ok (.getfield 167, 3) := by decide +kernel
theorem dX12_findSly_71 : decode cX12_findSly 71 = .ok (.iload_n 3, 1) := by decide +kernel
theorem dX12_findSly_72 : decode cX12_findSly 72 = .ok (.iaload, 1) := by decide +kernel
theorem dX12_findSly_73 : decode cX12_findSly 73 = .ok (.iastore, 1) := by decide +kernel
theorem dX12_findSly_74 : decode cX12_findSly 74 = .ok (.aload_n 0, 1) := by decide +kernel
theorem dX12_findSly_75 : decode cX12_findSly 75 = .ok (.dup, 1) := by decide +kernel
theorem dX12_findSly_76 : decode cX12_findSly 76 = .ok (.getfield 425, 3) := by decide +kernel
theorem dX12_findSly_79 : decode cX12_findSly 79 = .ok (.iconst 1, 1) := by decide +kernel
theorem dX12_findSly_80 : decode cX12_findSly 80 = .ok (.iadd, 1) := by decide +kernel
theorem dX12_findSly_81 : decode cX12_findSly 81 = .ok (.putfield 425, 3) := by decide +kernel
theorem dX12_findSly_84 : decode cX12_findSly 84 = .ok (.iinc 3 1, 3) := by decide +kernel
theorem dX12_findSly_87 : decode cX12_findSly 87 = .ok (.goto (-47), 3) := by decide +kernel
theorem dX12_findSly_90 : decode cX12_findSly 90 = .ok (.aload_n 0, 1) := by decide +kernel
theorem dX12_findSly_91 : decode cX12_findSly 91 = .ok (.invokevirtual 565, 3) := by decide +kernel
theorem dX12_findSly_94 : decode cX12_findSly 94 = .ok (.ifCond .ge 62, 3) := by decide +kernel
theorem dX12_findSly_97 : decode cX12_findSly 97 = .ok (.aload_n 0, 1) := by decide +kernel
theorem dX12_findSly_98 : decode cX12_findSly 98 = .ok (.invokevirtual 506, 3) := by decide +kernel
theorem dX12_findSly_101 : decode cX12_findSly 101 = .ok (.ifCond .ge 6, 3) := by decide +kernel
theorem dX12_findSly_104 : decode cX12_findSly 104 = .ok (.goto 52, 3) := by decide +kernel
theorem dX12_findSly_107 : decode cX12_findSly 107 = .ok (.aload_n 0, 1) := by decide +kernel
theorem dX12_findSly_108 : decode cX12_findSly 108 = .ok (.getfield 170, 3) := by decide +kernel
theorem dX12_findSly_111 : decode cX12_findSly 111 = .ok (.aload_n 0, 1) := by decide +kernel
theorem dX12_findSly_112 : decode cX12_findSly 112 = .ok (.getfield 574, 3) := by decide +kernel
theorem dX12_findSly_115 : decode cX12_findSly 115 = .ok (.aload_n 0, 1) := by decide +kernel
theorem dX12_findSly_116 : decode cX12_findSly 116 = .ok (.invokevirtual 580, 3) := by decide +kernel
theorem dX12_findSly_119 : decode cX12_findSly 119 = .ok (.iastore, 1) := by decide +kernel
theorem dX12_findSly_120 : decode cX12_findSly 120 = .ok (.aload_n 0, 1) := by decide +kernel
theorem dX12_findSly_121 : decode cX12_findSly 121 = .ok (.dup, 1) := by decide +kernel
theorem dX12_findSly_122 : decode cX12_findSly 122 = .ok (.getfield 574, 3) := by decide +kernel
theorem dX12_findSly_125 : decode cX12_findSly 125 = .ok (.iconst 1, 1) := by decide +kernel
theorem dX12_findSly_126 : decode cX12_findSly 126 = .ok (.iadd, 1) := by decide +kernel
theorem dX12_findSly_127 : decode cX12_findSly 127 = .ok (.putfield 574, 3) := by decide +kernel
theorem dX12_findSly_130 : decode cX12_findSly 130 = .ok (.aload_n 0, 1) := by decide +kernel
theorem dX12_findSly_131 : decode cX12_findSly 131 = .ok (.getfield 577, 3) := by decide +kernel
theorem dX12_findSly_134 : decode cX12_findSly 134 = .ok (.ifCond .lt 17, 3) := by decide +kernel
theorem dX12_findSly_137 : decode cX12_findSly 137 = .ok (.iload_n 2, 1) := by decide +kernel
theorem dX12_findSly_138 : decode cX12_findSly 138 = .ok (.invokestatic 431, 3) := by decide +kernel
theorem dX12_findSly_141 : decode cX12_findSly 141 = .ok (.aload_n 0, 1) := by decide +kernel
theorem dX12_findSly_142 : decode cX12_findSly 142 = .ok (.getfield 577, 3) := by decide +kernel
theorem dX12_findSly_145 : decode cX12_findSly 145 = .ok (.invokestatic 431, 3) := by decide +kernel
theorem dX12_findSly_148 : decode cX12_findSly 148 = .ok (.if_icmp .ge 8, 3) := by decide +kernel
theorem dX12_findSly_151 : decode cX12_findSly 151 = .ok (.aload_n 0, 1) := by decide +kernel
theorem dX12_findSly_152 : decode cX12_findSly 152 = .ok (.iload_n 2, 1) := by decide +kernel
theorem dX12_findSly_153 : decode cX12_findSly 153 = .ok (.putfield 577, 3) := by decide +kernel
theorem dX12_findSly_156 : decode cX12_findSly 156 = .ok (.iinc 2 1, 3) := by decide +kernel
theorem dX12_findSly_159 : decode cX12_findSly 159 = .ok (.goto (-147), 3) := by decide +kernel
theorem dX12_findSly_162 : decode cX12_findSly 162 = .ok (.return_, 1) := by decide +kernel
def m_X12_findSly_156 (k12 : Int32 → Int32 → Hp → Prop) (Q : Hp → Prop) (v1 : Int32) (v2 : Int32) (h : Hp) : Prop := ∀ x1 : Int32, x1 = v2 + 1 → k12 v1 x1 h
set_option maxHeartbeats 4000000 in
set_option maxRecDepth 100000 in
theorem s_X12_findSly_156 {l : Launch} {G : Cx} {d : Nat} {h0 : Hp} (hd : 12 ≤ d) {k12 : Int32 → Int32 → Hp → Prop} {Q : Hp → Prop} (hk12 : ∀ (v1 : Int32) (v2 : Int32) (hh : Hp), k12 v1 v2 hh → Rn l G d 0 0 MX12_findSly h0 (qV Q) 12 [some (tR 12 0 (some 51)), some (tI v1), some (tI v2)] [] hh 0 0) {v1 : Int32} {v2 : Int32} {h : Hp} (hm : m_X12_findSly_156 k12 Q v1 v2 h) : Rn l G d 0 0 MX12_findSly h0 (qV Q) 156 [some (tR 12 0 (some 51)), some (tI v1), some (tI v2)] [] h 0 0 := by
  unfold m_X12_findSly_156 at hm
  obtain ⟨x1, e_x1⟩ : ∃ y : Int32, y = v2 + 1 := ⟨_, rfl⟩
  replace hm := hm x1 e_x1
  refine r_iinc (L' := [some (tR 12 0 (some 51)), some (tI v1), some (tI x1)]) dX12_findSly_156 rfl (by rw [e_x1]; rfl) (by decide) rfl ?_
  refine r_goto (tgt := 12) dX12_findSly_159 rfl ?_
  refine r_keep (L' := [some (tR 12 0 (some 51)), some (tI v1), some (tI x1)]) [true, true, true] rfl ?_
  exact hk12 _ _ _ hm
def m_X12_findSly_151 (k12 : Int32 → Int32 → Hp → Prop) (Q : Hp → Prop) (v1 : Int32) (v2 : Int32) (h : Hp) : Prop := m_X12_findSly_156 k12 Q v1 v2 (wI h 51 85 v2)
set_option maxHeartbeats 4000000 in
set_option maxRecDepth 100000 in
theorem s_X12_findSly_151 {l : Launch} {G : Cx} {d : Nat} {h0 : Hp} (hd : 12 ≤ d) {k12 : Int32 → Int32 → Hp → Prop} {Q : Hp → Prop} (hk12 : ∀ (v1 : Int32) (v2 : Int32) (hh : Hp), k12 v1 v2 hh → Rn l G d 0 0 MX12_findSly h0 (qV Q) 12 [some (tR 12 0 (some 51)), some (tI v1), some (tI v2)] [] hh 0 0) {v1 : Int32} {v2 : Int32} {h : Hp} (hm : m_X12_findSly_151 k12 Q v1 v2 h) : Rn l G d 0 0 MX12_findSly h0 (qV Q) 151 [some (tR 12 0 (some 51)), some (tI v1), some (tI v2)] [] h 0 0 := by
  unfold m_X12_findSly_151 at hm
  refine r_aload_n dX12_findSly_151 rfl rfl ?_
  refine r_iload_n dX12_findSly_152 rfl rfl ?_
  refine r_putI0 (k := 85) cl_12 dX12_findSly_153 t_1357 (Or.inl rfl) gf_12_85 pf_12_85.1 (Or.inl pf_12_85.2) ?_
  refine r_keep (L' := [some (tR 12 0 (some 51)), some (tI v1), some (tI v2)]) [true, true, true] rfl ?_
  exact s_X12_findSly_156 hd hk12 hm
def m_X12_findSly_90 (k12 : Int32 → Int32 → Hp → Prop) (Q : Hp → Prop) (v1 : Int32) (v2 : Int32) (h : Hp) : Prop := m_X12_breachNow h (fun (x2 : Int32) (h3 : Hp) => (0 ≤ x2 → m_X12_findSly_156 k12 Q v1 v2 h3) ∧ (¬ 0 ≤ x2 → m_X12_loanAtHand h3 (fun (x4 : Int32) (h5 : Hp) => (0 ≤ x4 → m_X12_wordsThatBar h5 (fun (x6 : Int32) (h7 : Hp) => vp_in (hI h5 51 84) 1024 ∧ (((hI (wI (wI h7 103 (ix (hI h5 51 84)) x6) 51 84 ((hI (wI h7 103 (ix (hI h5 51 84)) x6) 51 84) + 1)) 51 85) < 0 → m_X12_findSly_151 k12 Q v1 v2 (wI (wI h7 103 (ix (hI h5 51 84)) x6) 51 84 ((hI (wI h7 103 (ix (hI h5 51 84)) x6) 51 84) + 1))) ∧ (¬ (hI (wI (wI h7 103 (ix (hI h5 51 84)) x6) 51 84 ((hI (wI h7 103 (ix (hI h5 51 84)) x6) 51 84) + 1)) 51 85) < 0 → m_X12_bitsOf v2 (wI (wI h7 103 (ix (hI h5 51 84)) x6) 51 84 ((hI (wI h7 103 (ix (hI h5 51 84)) x6) 51 84) + 1)) (fun (x8 : Int32) (h9 : Hp) => m_X12_bitsOf (hI h9 51 85) h9 (fun (x10 : Int32) (h11 : Hp) => (x10 ≤ x8 → m_X12_findSly_156 k12 Q v1 v2 h11) ∧ (¬ x10 ≤ x8 → m_X12_findSly_151 k12 Q v1 v2 h11))))))) ∧ (¬ 0 ≤ x4 → m_X12_findSly_156 k12 Q v1 v2 h5))))
set_option maxHeartbeats 4000000 in
set_option maxRecDepth 100000 in
theorem s_X12_findSly_90 {l : Launch} {G : Cx} {d : Nat} {h0 : Hp} (hd : 12 ≤ d) {k12 : Int32 → Int32 → Hp → Prop} {Q : Hp → Prop} (hk12 : ∀ (v1 : Int32) (v2 : Int32) (hh : Hp), k12 v1 v2 hh → Rn l G d 0 0 MX12_findSly h0 (qV Q) 12 [some (tR 12 0 (some 51)), some (tI v1), some (tI v2)] [] hh 0 0) {v1 : Int32} {v2 : Int32} {h : Hp} (hm : m_X12_findSly_90 k12 Q v1 v2 h) : Rn l G d 0 0 MX12_findSly h0 (qV Q) 90 [some (tR 12 0 (some 51)), some (tI v1), some (tI v2)] [] h 0 0 := by
  unfold m_X12_findSly_90 at hm
  refine r_aload_n dX12_findSly_90 rfl rfl ?_
  refine r_callVI (d' := d - 1) (as := []) (st := []) cl_12 dX12_findSly_91 mi_X12_breachNow t_1909 t_1911 ts_111 rfl rfl (Nat.le_of_ble_eq_true rfl) (by omega) ⟨by decide, by decide⟩ ⟨rfl, rfl⟩ (s_X12_breachNow (by omega) hm) (fun x2 h3 hm => ?_)
  refine r_if_ge (tgt := 156) dX12_findSly_94 rfl (fun hc => ?_) (fun hc => ?_)
  · replace hm := hm.1 hc
    refine r_keep (L' := [some (tR 12 0 (some 51)), some (tI v1), some (tI v2)]) [true, true, true] rfl ?_
    exact s_X12_findSly_156 hd hk12 hm
  · replace hm := hm.2 hc
    refine r_aload_n dX12_findSly_97 rfl rfl ?_
    refine r_callVI (d' := d - 1) (as := []) (st := []) cl_12 dX12_findSly_98 mi_X12_loanAtHand t_1854 t_1856 ts_105 rfl rfl (Nat.le_of_ble_eq_true rfl) (by omega) ⟨by decide, by decide⟩ ⟨rfl, rfl⟩ (s_X12_loanAtHand (by omega) hm) (fun x4 h5 hm => ?_)
    refine r_if_ge (tgt := 107) dX12_findSly_101 rfl (fun hc => ?_) (fun hc => ?_)
    · replace hm := hm.1 hc
      refine r_aload_n dX12_findSly_107 rfl rfl ?_
      refine r_getC (k := 87) cl_12 dX12_findSly_108 t_1359 gf_12_87.1 gf_12_87.2 (gc_12_87 _) ?_
      refine r_aload_n dX12_findSly_111 rfl rfl ?_
      refine r_getI (k := 84) cl_12 dX12_findSly_112 t_1356 (Or.inl rfl) gf_12_84 ?_
      refine r_aload_n dX12_findSly_115 rfl rfl ?_
      refine r_callVI (d' := d - 1) (as := []) (st := [tI (hI h5 51 84), tR 40 1024 (some 103)]) cl_12 dX12_findSly_116 mi_X12_wordsThatBar t_1949 t_1951 ts_118 rfl rfl (Nat.le_of_ble_eq_true rfl) (by omega) ⟨by decide, by decide⟩ ⟨rfl, rfl⟩ (s_X12_wordsThatBar (by omega) hm) (fun x6 h7 hm => ?_)
      refine r_iast dX12_findSly_119 hm.1 ?_
      replace hm := hm.2
      refine r_aload_n dX12_findSly_120 rfl rfl ?_
      refine r_dup dX12_findSly_121 cv_cat1R ?_
      refine r_getI (k := 84) cl_12 dX12_findSly_122 t_1356 (Or.inl rfl) gf_12_84 ?_
      refine r_iconst (v := 1) dX12_findSly_125 rfl ?_
      refine r_iadd dX12_findSly_126 ?_
      refine r_putI0 (k := 84) cl_12 dX12_findSly_127 t_1356 (Or.inl rfl) gf_12_84 pf_12_84.1 (Or.inl pf_12_84.2) ?_
      refine r_aload_n dX12_findSly_130 rfl rfl ?_
      refine r_getI (k := 85) cl_12 dX12_findSly_131 t_1357 (Or.inl rfl) gf_12_85 ?_
      refine r_if_lt (tgt := 151) dX12_findSly_134 rfl (fun hc => ?_) (fun hc => ?_)
      · replace hm := hm.1 hc
        refine r_keep (L' := [some (tR 12 0 (some 51)), some (tI v1), some (tI v2)]) [true, true, true] rfl ?_
        exact s_X12_findSly_151 hd hk12 hm
      · replace hm := hm.2 hc
        refine r_iload_n dX12_findSly_137 rfl rfl ?_
        refine r_callSI (d' := d - 1) (as := [tI v2]) (st := []) dX12_findSly_138 mi_X12_bitsOf t_1810 t_1811 rfl rfl (Nat.le_of_ble_eq_true rfl) (by omega) ⟨by decide, by decide⟩ ⟨rfl, rfl⟩ (s_X12_bitsOf (by omega) hm) (fun x8 h9 hm => ?_)
        refine r_aload_n dX12_findSly_141 rfl rfl ?_
        refine r_getI (k := 85) cl_12 dX12_findSly_142 t_1357 (Or.inl rfl) gf_12_85 ?_
        refine r_callSI (d' := d - 1) (as := [tI (hI h9 51 85)]) (st := [tI x8]) dX12_findSly_145 mi_X12_bitsOf t_1810 t_1811 rfl rfl (Nat.le_of_ble_eq_true rfl) (by omega) ⟨by decide, by decide⟩ ⟨rfl, rfl⟩ (s_X12_bitsOf (by omega) hm) (fun x10 h11 hm => ?_)
        refine r_icmp_ge (tgt := 156) dX12_findSly_148 rfl (fun hc => ?_) (fun hc => ?_)
        · replace hm := hm.1 hc
          refine r_keep (L' := [some (tR 12 0 (some 51)), some (tI v1), some (tI v2)]) [true, true, true] rfl ?_
          exact s_X12_findSly_156 hd hk12 hm
        · replace hm := hm.2 hc
          refine r_keep (L' := [some (tR 12 0 (some 51)), some (tI v1), some (tI v2)]) [true, true, true] rfl ?_
          exact s_X12_findSly_151 hd hk12 hm
    · replace hm := hm.2 hc
      refine r_goto (tgt := 156) dX12_findSly_104 rfl ?_
      refine r_keep (L' := [some (tR 12 0 (some 51)), some (tI v1), some (tI v2)]) [true, true, true] rfl ?_
      exact s_X12_findSly_156 hd hk12 hm
def m_X12_findSly_84 (k40 : Int32 → Int32 → Int32 → Hp → Prop) (k90 : Int32 → Int32 → Hp → Prop) (Q : Hp → Prop) (v1 : Int32) (v2 : Int32) (v3 : Int32) (h : Hp) : Prop := ∀ x12 : Int32, x12 = v3 + 1 → k40 v1 v2 x12 h
set_option maxHeartbeats 4000000 in
set_option maxRecDepth 100000 in
theorem s_X12_findSly_84 {l : Launch} {G : Cx} {d : Nat} {h0 : Hp} (hd : 12 ≤ d) {k40 : Int32 → Int32 → Int32 → Hp → Prop} {k90 : Int32 → Int32 → Hp → Prop} {Q : Hp → Prop} (hk40 : ∀ (v1 : Int32) (v2 : Int32) (v3 : Int32) (hh : Hp), k40 v1 v2 v3 hh → Rn l G d 0 0 MX12_findSly h0 (qV Q) 40 [some (tR 12 0 (some 51)), some (tI v1), some (tI v2), some (tI v3)] [] hh 0 0) (hk90 : ∀ (v1 : Int32) (v2 : Int32) (hh : Hp), k90 v1 v2 hh → Rn l G d 0 0 MX12_findSly h0 (qV Q) 90 [some (tR 12 0 (some 51)), some (tI v1), some (tI v2)] [] hh 0 0) {v1 : Int32} {v2 : Int32} {v3 : Int32} {h : Hp} (hm : m_X12_findSly_84 k40 k90 Q v1 v2 v3 h) : Rn l G d 0 0 MX12_findSly h0 (qV Q) 84 [some (tR 12 0 (some 51)), some (tI v1), some (tI v2), some (tI v3)] [] h 0 0 := by
  unfold m_X12_findSly_84 at hm
  obtain ⟨x12, e_x12⟩ : ∃ y : Int32, y = v3 + 1 := ⟨_, rfl⟩
  replace hm := hm x12 e_x12
  refine r_iinc (L' := [some (tR 12 0 (some 51)), some (tI v1), some (tI v2), some (tI x12)]) dX12_findSly_84 rfl (by rw [e_x12]; rfl) (by decide) rfl ?_
  refine r_goto (tgt := 40) dX12_findSly_87 rfl ?_
  refine r_keep (L' := [some (tR 12 0 (some 51)), some (tI v1), some (tI v2), some (tI x12)]) [true, true, true, true] rfl ?_
  exact hk40 _ _ _ _ hm
def m_X12_findSly_40 : Nat → (Int32 → Int32 → Hp → Prop) → (Hp → Prop) → Int32 → Int32 → Int32 → Hp → Prop
  | 0, _, _, _, _, _, _ => False
  | n + 1, k90, Q, v1, v2, v3, h => ((hI h 51 83) ≤ v3 → k90 v1 v2 h) ∧ (¬ (hI h 51 83) ≤ v3 → (¬ ((v2 >>> (v3 &&& 31)) &&& 1) = 0 → vp_in v3 10 ∧ (vp_in (hI h 51 55) 6 ∧ (m_X12_findSly_84 (fun (v1 : Int32) (v2 : Int32) (v3 : Int32) (hh : Hp) => m_X12_findSly_40 n k90 Q v1 v2 v3 hh) k90 Q v1 v2 v3 (wI (wI h 85 (ix (hI h 51 55)) (hI h 102 (ix v3))) 51 55 ((hI (wI h 85 (ix (hI h 51 55)) (hI h 102 (ix v3))) 51 55) + 1))))) ∧ (((v2 >>> (v3 &&& 31)) &&& 1) = 0 → m_X12_findSly_84 (fun (v1 : Int32) (v2 : Int32) (v3 : Int32) (hh : Hp) => m_X12_findSly_40 n k90 Q v1 v2 v3 hh) k90 Q v1 v2 v3 h))
set_option maxHeartbeats 4000000 in
set_option maxRecDepth 100000 in
theorem s_X12_findSly_40 {l : Launch} {G : Cx} {d : Nat} {h0 : Hp} (hd : 12 ≤ d) {k90 : Int32 → Int32 → Hp → Prop} {Q : Hp → Prop} (hk90 : ∀ (v1 : Int32) (v2 : Int32) (hh : Hp), k90 v1 v2 hh → Rn l G d 0 0 MX12_findSly h0 (qV Q) 90 [some (tR 12 0 (some 51)), some (tI v1), some (tI v2)] [] hh 0 0) : ∀ {n : Nat} {v1 : Int32} {v2 : Int32} {v3 : Int32} {h : Hp}, m_X12_findSly_40 n k90 Q v1 v2 v3 h → Rn l G d 0 0 MX12_findSly h0 (qV Q) 40 [some (tR 12 0 (some 51)), some (tI v1), some (tI v2), some (tI v3)] [] h 0 0 := by
  intro n
  induction n with
  | zero => intro v1 v2 v3 h hm; exact hm.elim
  | succ n ih =>
    intro v1 v2 v3 h hm
    have hk40 := fun (v1 : Int32) (v2 : Int32) (v3 : Int32) (hh : Hp) (hm : m_X12_findSly_40 n k90 Q v1 v2 v3 hh) => ih hm
    rw [m_X12_findSly_40] at hm
    refine r_iload_n dX12_findSly_40 rfl rfl ?_
    refine r_aload_n dX12_findSly_41 rfl rfl ?_
    refine r_getI (k := 83) cl_12 dX12_findSly_42 t_1355 (Or.inl rfl) gf_12_83 ?_
    refine r_icmp_ge (tgt := 90) dX12_findSly_45 rfl (fun hc => ?_) (fun hc => ?_)
    · replace hm := hm.1 hc
      refine r_keep (L' := [some (tR 12 0 (some 51)), some (tI v1), some (tI v2)]) [true, true, true] rfl ?_
      exact hk90 _ _ _ hm
    · replace hm := hm.2 hc
      refine r_iload_n dX12_findSly_48 rfl rfl ?_
      refine r_iload_n dX12_findSly_49 rfl rfl ?_
      refine r_ishr dX12_findSly_50 ?_
      refine r_iconst (v := 1) dX12_findSly_51 rfl ?_
      refine r_iand dX12_findSly_52 ?_
      refine r_if_ne (tgt := 59) dX12_findSly_53 rfl (fun hc => ?_) (fun hc => ?_)
      · replace hm := hm.1 hc
        refine r_aload_n dX12_findSly_59 rfl rfl ?_
        refine r_getC (k := 57) cl_12 dX12_findSly_60 t_1329 gf_12_57.1 gf_12_57.2 (gc_12_57 _) ?_
        refine r_aload_n dX12_findSly_63 rfl rfl ?_
        refine r_getI (k := 55) cl_12 dX12_findSly_64 t_1327 (Or.inl rfl) gf_12_55 ?_
        refine r_aload_n dX12_findSly_67 rfl rfl ?_
        refine r_getC (k := 86) cl_12 dX12_findSly_68 t_1358 gf_12_86.1 gf_12_86.2 (gc_12_86 _) ?_
        refine r_iload_n dX12_findSly_71 rfl rfl ?_
        refine r_iald dX12_findSly_72 hm.1 ?_
        replace hm := hm.2
        refine r_iast dX12_findSly_73 hm.1 ?_
        replace hm := hm.2
        refine r_aload_n dX12_findSly_74 rfl rfl ?_
        refine r_dup dX12_findSly_75 cv_cat1R ?_
        refine r_getI (k := 55) cl_12 dX12_findSly_76 t_1327 (Or.inl rfl) gf_12_55 ?_
        refine r_iconst (v := 1) dX12_findSly_79 rfl ?_
        refine r_iadd dX12_findSly_80 ?_
        refine r_putI0 (k := 55) cl_12 dX12_findSly_81 t_1327 (Or.inl rfl) gf_12_55 pf_12_55.1 (Or.inl pf_12_55.2) ?_
        refine r_keep (L' := [some (tR 12 0 (some 51)), some (tI v1), some (tI v2), some (tI v3)]) [true, true, true, true] rfl ?_
        exact s_X12_findSly_84 hd hk40 hk90 hm
      · replace hm := hm.2 hc
        refine r_goto (tgt := 84) dX12_findSly_56 rfl ?_
        refine r_keep (L' := [some (tR 12 0 (some 51)), some (tI v1), some (tI v2), some (tI v3)]) [true, true, true, true] rfl ?_
        exact s_X12_findSly_84 hd hk40 hk90 hm
def m_X12_findSly_12 : Nat → (Hp → Prop) → Int32 → Int32 → Hp → Prop
  | 0, _, _, _, _ => False
  | n + 1, Q, v1, v2, h => ((1 <<< ((hI h 51 83) &&& 31)) ≤ v2 → Q h) ∧ (¬ (1 <<< ((hI h 51 83) &&& 31)) ≤ v2 → m_X12_bitsOf v2 h (fun (x13 : Int32) (h14 : Hp) => (x13 ≤ v1 → ∃ n40, m_X12_findSly_40 n40 (m_X12_findSly_90 (fun (v1 : Int32) (v2 : Int32) (hh : Hp) => m_X12_findSly_12 n Q v1 v2 hh) Q) Q v1 v2 0 (wI h14 51 55 0)) ∧ (¬ x13 ≤ v1 → m_X12_findSly_156 (fun (v1 : Int32) (v2 : Int32) (hh : Hp) => m_X12_findSly_12 n Q v1 v2 hh) Q v1 v2 h14)))
set_option maxHeartbeats 4000000 in
set_option maxRecDepth 100000 in
theorem s_X12_findSly_12 {l : Launch} {G : Cx} {d : Nat} {h0 : Hp} (hd : 12 ≤ d) {Q : Hp → Prop} : ∀ {n : Nat} {v1 : Int32} {v2 : Int32} {h : Hp}, m_X12_findSly_12 n Q v1 v2 h → Rn l G d 0 0 MX12_findSly h0 (qV Q) 12 [some (tR 12 0 (some 51)), some (tI v1), some (tI v2)] [] h 0 0 := by
  intro n
  induction n with
  | zero => intro v1 v2 h hm; exact hm.elim
  | succ n ih =>
    intro v1 v2 h hm
    have hk12 := fun (v1 : Int32) (v2 : Int32) (hh : Hp) (hm : m_X12_findSly_12 n Q v1 v2 hh) => ih hm
    rw [m_X12_findSly_12] at hm
    refine r_iload_n dX12_findSly_12 rfl rfl ?_
    refine r_iconst (v := 1) dX12_findSly_13 rfl ?_
    refine r_aload_n dX12_findSly_14 rfl rfl ?_
    refine r_getI (k := 83) cl_12 dX12_findSly_15 t_1355 (Or.inl rfl) gf_12_83 ?_
    refine r_ishl dX12_findSly_18 ?_
    refine r_icmp_ge (tgt := 162) dX12_findSly_19 rfl (fun hc => ?_) (fun hc => ?_)
    · replace hm := hm.1 hc
      exact r_return dX12_findSly_162 rfl ⟨by decide, by decide⟩ ⟨rfl, hm⟩
    · replace hm := hm.2 hc
      refine r_iload_n dX12_findSly_22 rfl rfl ?_
      refine r_callSI (d' := d - 1) (as := [tI v2]) (st := []) dX12_findSly_23 mi_X12_bitsOf t_1810 t_1811 rfl rfl (Nat.le_of_ble_eq_true rfl) (by omega) ⟨by decide, by decide⟩ ⟨rfl, rfl⟩ (s_X12_bitsOf (by omega) hm) (fun x13 h14 hm => ?_)
      refine r_iload_n dX12_findSly_26 rfl rfl ?_
      refine r_icmp_le (tgt := 33) dX12_findSly_27 rfl (fun hc => ?_) (fun hc => ?_)
      · replace hm := hm.1 hc
        refine r_aload_n dX12_findSly_33 rfl rfl ?_
        refine r_iconst (v := 0) dX12_findSly_34 rfl ?_
        refine r_putI0 (k := 55) cl_12 dX12_findSly_35 t_1327 (Or.inl rfl) gf_12_55 pf_12_55.1 (Or.inl pf_12_55.2) ?_
        refine r_iconst (v := 0) dX12_findSly_38 rfl ?_
        refine r_istore_n (L' := [some (tR 12 0 (some 51)), some (tI v1), some (tI v2), some (tI 0)]) dX12_findSly_39 rfl (by decide) rfl ?_
        refine r_keep (L' := [some (tR 12 0 (some 51)), some (tI v1), some (tI v2), some (tI 0)]) [true, true, true, true] rfl ?_
        obtain ⟨n, hm⟩ := hm
        refine s_X12_findSly_40 hd ?_ hm
        · exact (fun _ _ _ hm => s_X12_findSly_90 hd hk12 hm)
      · replace hm := hm.2 hc
        refine r_goto (tgt := 156) dX12_findSly_30 rfl ?_
        refine r_keep (L' := [some (tR 12 0 (some 51)), some (tI v1), some (tI v2)]) [true, true, true] rfl ?_
        exact s_X12_findSly_156 hd hk12 hm
def m_X12_findSly (v1 : Int32) (h : Hp) (Q : Hp → Prop) : Prop := ∃ n12, m_X12_findSly_12 n12 Q v1 1 (wI (wI h 51 84 0) 51 85 (-1))
set_option maxHeartbeats 4000000 in
set_option maxRecDepth 100000 in
theorem s_X12_findSly {l : Launch} {G : Cx} {d : Nat} (hd : 12 ≤ d) {v1 : Int32} {h : Hp} {Q : Hp → Prop} (hm : m_X12_findSly v1 h Q) : Ct l G d 0 0 yX12_findSly MX12_findSly [tR 12 0 (some 51), tI v1] h (qV Q) := by
  unfold m_X12_findSly at hm
  refine Ct.of (L := [some (tR 12 0 (some 51)), some (tI v1)]) (by decide) rfl rfl (Nat.le_of_ble_eq_true rfl) rfl ?_
  refine r_aload_n dX12_findSly_0 rfl rfl ?_
  refine r_iconst (v := 0) dX12_findSly_1 rfl ?_
  refine r_putI0 (k := 84) cl_12 dX12_findSly_2 t_1356 (Or.inl rfl) gf_12_84 pf_12_84.1 (Or.inl pf_12_84.2) ?_
  refine r_aload_n dX12_findSly_5 rfl rfl ?_
  refine r_iconst (v := (-1)) dX12_findSly_6 rfl ?_
  refine r_putI0 (k := 85) cl_12 dX12_findSly_7 t_1357 (Or.inl rfl) gf_12_85 pf_12_85.1 (Or.inl pf_12_85.2) ?_
  refine r_iconst (v := 1) dX12_findSly_10 rfl ?_
  refine r_istore_n (L' := [some (tR 12 0 (some 51)), some (tI v1), some (tI 1)]) dX12_findSly_11 rfl (by decide) rfl ?_
  refine r_keep (L' := [some (tR 12 0 (some 51)), some (tI v1), some (tI 1)]) [true, true, true] rfl ?_
  obtain ⟨n, hm⟩ := hm
  refine s_X12_findSly_12 hd hm
theorem dX12_sly_0 : decode cX12_sly 0 = .ok (.iload_n 1, 1) := rfl
theorem dX12_sly_1 : decode cX12_sly 1 = .ok (.iconst 1, 1) := rfl
theorem dX12_sly_2 : decode cX12_sly 2 = .ok (.bipush 6, 2) := by decide +kernel
theorem dX12_sly_4 : decode cX12_sly 4 = .ok (.invokestatic 185, 3) := rfl
theorem dX12_sly_7 : decode cX12_sly 7 = .ok (.ifCond .eq 12, 3) := by decide +kernel
theorem dX12_sly_10 : decode cX12_sly 10 = .ok (.iload_n 2, 1) := rfl
theorem dX12_sly_11 : decode cX12_sly 11 = .ok (.iconst 0, 1) := rfl
theorem dX12_sly_12 : decode cX12_sly 12 = .ok (.iconst 1, 1) := rfl
theorem dX12_sly_13 : decode cX12_sly 13 = .ok (.invokestatic 185, 3) := rfl
theorem dX12_sly_16 : decode cX12_sly 16 = .ok (.ifCond .ne 5, 3) := by decide +kernel
theorem dX12_sly_19 : decode cX12_sly 19 = .ok (.iconst (-1), 1) := rfl
theorem dX12_sly_20 : decode cX12_sly 20 = .ok (.ireturn, 1) := rfl
theorem dX12_sly_21 : decode cX12_sly 21 = .ok (.aload_n 0, 1) := rfl
theorem dX12_sly_22 : decode cX12_sly 22 = .ok (.iload_n 1, 1) := rfl
theorem dX12_sly_23 : decode cX12_sly 23 = .ok (.invokevirtual 583, 3) := rfl
theorem dX12_sly_26 : decode cX12_sly 26 = .ok (.iload_n 2, 1) := rfl
theorem dX12_sly_27 : decode cX12_sly 27 = .ok (.ifCond .ne 10, 3) := by decide +kernel
theorem dX12_sly_30 : decode cX12_sly 30 = .ok (.aload_n 0, 1) := rfl
theorem dX12_sly_31 : decode cX12_sly 31 = .ok (.getfield 574, 3) := rfl
theorem dX12_sly_34 : decode cX12_sly 34 = .ok (.goto 7, 3) := by decide +kernel
theorem dX12_sly_37 : decode cX12_sly 37 = .ok (.aload_n 0, 1) := rfl
theorem dX12_sly_38 : decode cX12_sly 38 = .ok (.getfield 577, 3) := rfl
theorem dX12_sly_41 : decode cX12_sly 41 = .ok (.ireturn, 1) := rfl
def m_X12_sly (v1 : Int32) (v2 : Int32) (h : Hp) (Q : Int32 → Hp → Prop) : Prop := m_X12_within v1 1 6 h (fun (x1 : Int32) (h2 : Hp) => (x1 = 0 → Q (-1) h2) ∧ (¬ x1 = 0 → m_X12_within v2 0 1 h2 (fun (x3 : Int32) (h4 : Hp) => (¬ x3 = 0 → m_X12_findSly v1 h4 (fun (h6 : Hp) => (¬ v2 = 0 → Q (hI h6 51 85) h6) ∧ (v2 = 0 → Q (hI h6 51 84) h6))) ∧ (x3 = 0 → Q (-1) h4))))
set_option maxHeartbeats 4000000 in
set_option maxRecDepth 100000 in
theorem s_X12_sly {l : Launch} {G : Cx} {d : Nat} (hd : 14 ≤ d) {v1 : Int32} {v2 : Int32} {h : Hp} {Q : Int32 → Hp → Prop} (hm : m_X12_sly v1 v2 h Q) : Ct l G d 0 0 yX12_sly MX12_sly [tR 12 0 (some 51), tI v1, tI v2] h (qI Q) := by
  unfold m_X12_sly at hm
  refine Ct.of (L := [some (tR 12 0 (some 51)), some (tI v1), some (tI v2)]) (by decide) rfl rfl (Nat.le_of_ble_eq_true rfl) rfl ?_
  refine r_iload_n dX12_sly_0 rfl rfl ?_
  refine r_iconst (v := 1) dX12_sly_1 rfl ?_
  refine r_bipush (v := 6) dX12_sly_2 rfl ?_
  refine r_callSI (d' := d - 1) (as := [tI v1, tI 1, tI 6]) (st := []) dX12_sly_4 mi_X12_within t_1557 t_1558 rfl rfl (Nat.le_of_ble_eq_true rfl) (by omega) ⟨by decide, by decide⟩ ⟨rfl, rfl⟩ (s_X12_within (by omega) hm) (fun x1 h2 hm => ?_)
  refine r_if_eq (tgt := 19) dX12_sly_7 rfl (fun hc => ?_) (fun hc => ?_)
  · replace hm := hm.1 hc
    refine r_iconst (v := (-1)) dX12_sly_19 rfl ?_
    exact r_ireturn dX12_sly_20 rfl ⟨by decide, by decide⟩ ⟨_, rfl, hm⟩
  · replace hm := hm.2 hc
    refine r_iload_n dX12_sly_10 rfl rfl ?_
    refine r_iconst (v := 0) dX12_sly_11 rfl ?_
    refine r_iconst (v := 1) dX12_sly_12 rfl ?_
    refine r_callSI (d' := d - 1) (as := [tI v2, tI 0, tI 1]) (st := []) dX12_sly_13 mi_X12_within t_1557 t_1558 rfl rfl (Nat.le_of_ble_eq_true rfl) (by omega) ⟨by decide, by decide⟩ ⟨rfl, rfl⟩ (s_X12_within (by omega) hm) (fun x3 h4 hm => ?_)
    refine r_if_ne (tgt := 21) dX12_sly_16 rfl (fun hc => ?_) (fun hc => ?_)
    · replace hm := hm.1 hc
      refine r_aload_n dX12_sly_21 rfl rfl ?_
      refine r_iload_n dX12_sly_22 rfl rfl ?_
      refine r_callVU (d' := d - 1) (as := [tI v1]) (st := []) cl_12 dX12_sly_23 mi_X12_findSly t_1945 t_1947 ts_117 rfl rfl (Nat.le_of_ble_eq_true rfl) (by omega) ⟨by decide, by decide⟩ ⟨rfl, rfl⟩ (s_X12_findSly (by omega) hm) (fun h6 hm => ?_)
      refine r_iload_n dX12_sly_26 rfl rfl ?_
      refine r_if_ne (tgt := 37) dX12_sly_27 rfl (fun hc => ?_) (fun hc => ?_)
      · replace hm := hm.1 hc
        refine r_aload_n dX12_sly_37 rfl rfl ?_
        refine r_getI (k := 85) cl_12 dX12_sly_38 t_1357 (Or.inl rfl) gf_12_85 ?_
        exact r_ireturn dX12_sly_41 rfl ⟨by decide, by decide⟩ ⟨_, rfl, hm⟩
      · replace hm := hm.2 hc
        refine r_aload_n dX12_sly_30 rfl rfl ?_
        refine r_getI (k := 84) cl_12 dX12_sly_31 t_1356 (Or.inl rfl) gf_12_84 ?_
        refine r_goto (tgt := 41) dX12_sly_34 rfl ?_
        exact r_ireturn dX12_sly_41 rfl ⟨by decide, by decide⟩ ⟨_, rfl, hm⟩
    · replace hm := hm.2 hc
      refine r_iconst (v := (-1)) dX12_sly_19 rfl ?_
      exact r_ireturn dX12_sly_20 rfl ⟨by decide, by decide⟩ ⟨_, rfl, hm⟩
theorem dX12_honest_0 : decode cX12_honest 0 = .ok (.aload_n 0, 1) := rfl
theorem dX12_honest_1 : decode cX12_honest 1 = .ok (.getfield 586, 3) := rfl
theorem dX12_honest_4 : decode cX12_honest 4 = .ok (.bipush 6, 2) := by decide +kernel
theorem dX12_honest_6 : decode cX12_honest 6 = .ok (.if_icmp .eq 10, 3) := by decide +kernel
theorem dX12_honest_9 : decode cX12_honest 9 = .ok (.aload_n 0, 1) := rfl
theorem dX12_honest_10 : decode cX12_honest 10 = .ok (.getfield 422, 3) := rfl
theorem dX12_honest_13 : decode cX12_honest 13 = .ok (.ifCond .ne 5, 3) := by decide +kernel
theorem dX12_honest_16 : decode cX12_honest 16 = .ok (.iconst (-1), 1) := rfl
theorem dX12_honest_17 : decode cX12_honest 17 = .ok (.ireturn, 1) := rfl
theorem dX12_honest_18 : decode cX12_honest 18 = .ok (.aload_n 0, 1) := rfl
theorem dX12_honest_19 : decode cX12_honest 19 = .ok (.getfield 173, 3) := rfl
theorem dX12_honest_22 : decode cX12_honest 22 = .ok (.aload_n 0, 1) := rfl
theorem dX12_honest_23 : decode cX12_honest 23 = .ok (.getfield 586, 3) := rfl
theorem dX12_honest_26 : decode cX12_honest 26 = .ok (.aload_n 0, 1) := rfl
theorem dX12_honest_27 : decode cX12_honest 27 = .ok (.getfield 422, 3) := rfl
theorem dX12_honest_30 : decode cX12_honest 30 = .ok (.iastore, 1) := rfl
theorem dX12_honest_31 : decode cX12_honest 31 = .ok (.iconst 0, 1) := rfl
theorem dX12_honest_32 : decode cX12_honest 32 = .ok (.istore_n 1, 1) := rfl
theorem dX12_honest_33 : decode cX12_honest 33 = .ok (.iload_n 1, 1) := rfl
theorem dX12_honest_34 : decode cX12_honest 34 = .ok (.aload_n 0, 1) := rfl
theorem dX12_honest_35 : decode cX12_honest 35 = .ok (.getfield 422, 3) := rfl
theorem dX12_honest_38 : decode cX12_honest 38 = .ok (.if_icmp .ge 29, 3) := by decide +kernel
theorem dX12_honest_41 : decode cX12_honest 41 = .ok (.aload_n 0, 1) := rfl
theorem dX12_honest_42 : decode cX12_honest 42 = .ok (.getfield 176, 3) := rfl
theorem dX12_honest_45 : decode cX12_honest 45 = .ok (.bipush 6, 2) := by decide +kernel
theorem dX12_honest_47 : decode cX12_honest 47 = .ok (.aload_n 0, 1) := rfl
theorem dX12_honest_48 : decode cX12_honest 48 = .ok (.getfield 586, 3) := rfl
theorem dX12_honest_51 : decode cX12_honest 51 = .ok (.imul, 1) := rfl
theorem dX12_honest_52 : decode cX12_honest 52 = .ok (.iload_n 1, 1) := rfl
theorem dX12_honest_53 : decode cX12_honest 53 = .ok (.iadd, 1) := rfl
theorem dX12_honest_54 : decode cX12_honest 54 = .ok (.aload_n 0, 1) := rfl
theorem dX12_honest_55 : decode cX12_honest 55 = .ok (.getfield 113, 3) := rfl
theorem dX12_honest_58 : decode cX12_honest 58 = .ok (.iload_n 1, 1) := rfl
theorem dX12_honest_59 : decode cX12_honest 59 = .ok (.iaload, 1) := rfl
theorem dX12_honest_60 : decode cX12_honest 60 = .ok (.iastore, 1) := rfl
theorem dX12_honest_61 : decode cX12_honest 61 = .ok (.iinc 1 1, 3) := by decide +kernel
theorem dX12_honest_64 : decode cX12_honest 64 = .ok (.goto (-31), 3) := by decide +kernel
theorem dX12_honest_67 : decode cX12_honest 67 = .ok (.aload_n 0, 1) := rfl
theorem dX12_honest_68 : decode cX12_honest 68 = .ok (.dup, 1) := rfl
theorem dX12_honest_69 : decode cX12_honest 69 = .ok (.getfield 586, 3) := rfl
theorem dX12_honest_72 : decode cX12_honest 72 = .ok (.iconst 1, 1) := rfl
theorem dX12_honest_73 : decode cX12_honest 73 = .ok (.iadd, 1) := rfl
theorem dX12_honest_74 : decode cX12_honest 74 = .ok (.putfield 586, 3) := rfl
theorem dX12_honest_77 : decode cX12_honest 77 = .ok (.aload_n 0, 1) := rfl
theorem dX12_honest_78 : decode cX12_honest 78 = .ok (.getfield 586, 3) := rfl
theorem dX12_honest_81 : decode cX12_honest 81 = .ok (.iconst 1, 1) := rfl
theorem dX12_honest_82 : decode cX12_honest 82 = .ok (.isub, 1) := rfl
theorem dX12_honest_83 : decode cX12_honest 83 = .ok (.ireturn, 1) := rfl
def m_X12_honest_67  (Q : Int32 → Hp → Prop) (h : Hp) : Prop := Q ((hI (wI h 51 88 ((hI h 51 88) + 1)) 51 88) - 1) (wI h 51 88 ((hI h 51 88) + 1))
set_option maxHeartbeats 4000000 in
set_option maxRecDepth 100000 in
theorem s_X12_honest_67 {l : Launch} {G : Cx} {d : Nat} {h0 : Hp} (hd : 2 ≤ d) {Q : Int32 → Hp → Prop} {h : Hp} (hm : m_X12_honest_67 Q h) : Rn l G d 0 0 MX12_honest h0 (qI Q) 67 [some (tR 12 0 (some 51))] [] h 0 0 := by
  unfold m_X12_honest_67 at hm
  refine r_aload_n dX12_honest_67 rfl rfl ?_
  refine r_dup dX12_honest_68 cv_cat1R ?_
  refine r_getI (k := 88) cl_12 dX12_honest_69 t_1360 (Or.inl rfl) gf_12_88 ?_
  refine r_iconst (v := 1) dX12_honest_72 rfl ?_
  refine r_iadd dX12_honest_73 ?_
  refine r_putI0 (k := 88) cl_12 dX12_honest_74 t_1360 (Or.inl rfl) gf_12_88 pf_12_88.1 (Or.inl pf_12_88.2) ?_
  refine r_aload_n dX12_honest_77 rfl rfl ?_
  refine r_getI (k := 88) cl_12 dX12_honest_78 t_1360 (Or.inl rfl) gf_12_88 ?_
  refine r_iconst (v := 1) dX12_honest_81 rfl ?_
  refine r_isub dX12_honest_82 ?_
  exact r_ireturn dX12_honest_83 rfl ⟨by decide, by decide⟩ ⟨_, rfl, hm⟩
def m_X12_honest_33 : Nat → (Hp → Prop) → (Int32 → Hp → Prop) → Int32 → Hp → Prop
  | 0, _, _, _, _ => False
  | n + 1, k67, Q, v1, h => ((hI h 51 54) ≤ v1 → k67 h) ∧ (¬ (hI h 51 54) ≤ v1 → vp_in v1 6 ∧ (vp_in ((6 * (hI h 51 88)) + v1) 36 ∧ (∀ x1 : Int32, x1 = v1 + 1 → m_X12_honest_33 n k67 Q x1 (wI h 105 (ix ((6 * (hI h 51 88)) + v1)) (hI h 84 (ix v1))))))
set_option maxHeartbeats 4000000 in
set_option maxRecDepth 100000 in
theorem s_X12_honest_33 {l : Launch} {G : Cx} {d : Nat} {h0 : Hp} (hd : 2 ≤ d) {k67 : Hp → Prop} {Q : Int32 → Hp → Prop} (hk67 : ∀ (hh : Hp), k67 hh → Rn l G d 0 0 MX12_honest h0 (qI Q) 67 [some (tR 12 0 (some 51))] [] hh 0 0) : ∀ {n : Nat} {v1 : Int32} {h : Hp}, m_X12_honest_33 n k67 Q v1 h → Rn l G d 0 0 MX12_honest h0 (qI Q) 33 [some (tR 12 0 (some 51)), some (tI v1)] [] h 0 0 := by
  intro n
  induction n with
  | zero => intro v1 h hm; exact hm.elim
  | succ n ih =>
    intro v1 h hm
    have hk33 := fun (v1 : Int32) (hh : Hp) (hm : m_X12_honest_33 n k67 Q v1 hh) => ih hm
    rw [m_X12_honest_33] at hm
    refine r_iload_n dX12_honest_33 rfl rfl ?_
    refine r_aload_n dX12_honest_34 rfl rfl ?_
    refine r_getI (k := 54) cl_12 dX12_honest_35 t_1326 (Or.inl rfl) gf_12_54 ?_
    refine r_icmp_ge (tgt := 67) dX12_honest_38 rfl (fun hc => ?_) (fun hc => ?_)
    · replace hm := hm.1 hc
      refine r_keep (L' := [some (tR 12 0 (some 51))]) [true] rfl ?_
      exact hk67 _ hm
    · replace hm := hm.2 hc
      refine r_aload_n dX12_honest_41 rfl rfl ?_
      refine r_getC (k := 90) cl_12 dX12_honest_42 t_1362 gf_12_90.1 gf_12_90.2 (gc_12_90 _) ?_
      refine r_bipush (v := 6) dX12_honest_45 rfl ?_
      refine r_aload_n dX12_honest_47 rfl rfl ?_
      refine r_getI (k := 88) cl_12 dX12_honest_48 t_1360 (Or.inl rfl) gf_12_88 ?_
      refine r_imul dX12_honest_51 ?_
      refine r_iload_n dX12_honest_52 rfl rfl ?_
      refine r_iadd dX12_honest_53 ?_
      refine r_aload_n dX12_honest_54 rfl rfl ?_
      refine r_getC (k := 56) cl_12 dX12_honest_55 t_1328 gf_12_56.1 gf_12_56.2 (gc_12_56 _) ?_
      refine r_iload_n dX12_honest_58 rfl rfl ?_
      refine r_iald dX12_honest_59 hm.1 ?_
      replace hm := hm.2
      refine r_iast dX12_honest_60 hm.1 ?_
      replace hm := hm.2
      obtain ⟨x1, e_x1⟩ : ∃ y : Int32, y = v1 + 1 := ⟨_, rfl⟩
      replace hm := hm x1 e_x1
      refine r_iinc (L' := [some (tR 12 0 (some 51)), some (tI x1)]) dX12_honest_61 rfl (by rw [e_x1]; rfl) (by decide) rfl ?_
      refine r_goto (tgt := 33) dX12_honest_64 rfl ?_
      refine r_keep (L' := [some (tR 12 0 (some 51)), some (tI x1)]) [true, true] rfl ?_
      exact hk33 _ _ hm
def m_X12_honest  (h : Hp) (Q : Int32 → Hp → Prop) : Prop := ((hI h 51 88) = 6 → Q (-1) h) ∧ (¬ (hI h 51 88) = 6 → (¬ (hI h 51 54) = 0 → vp_in (hI h 51 88) 6 ∧ (∃ n33, m_X12_honest_33 n33 (m_X12_honest_67 Q) Q 0 (wI h 104 (ix (hI h 51 88)) (hI h 51 54)))) ∧ ((hI h 51 54) = 0 → Q (-1) h))
set_option maxHeartbeats 4000000 in
set_option maxRecDepth 100000 in
theorem s_X12_honest {l : Launch} {G : Cx} {d : Nat} (hd : 2 ≤ d) {h : Hp} {Q : Int32 → Hp → Prop} (hm : m_X12_honest h Q) : Ct l G d 0 0 yX12_honest MX12_honest [tR 12 0 (some 51)] h (qI Q) := by
  unfold m_X12_honest at hm
  refine Ct.of (L := [some (tR 12 0 (some 51))]) (by decide) rfl rfl (Nat.le_of_ble_eq_true rfl) rfl ?_
  refine r_aload_n dX12_honest_0 rfl rfl ?_
  refine r_getI (k := 88) cl_12 dX12_honest_1 t_1360 (Or.inl rfl) gf_12_88 ?_
  refine r_bipush (v := 6) dX12_honest_4 rfl ?_
  refine r_icmp_eq (tgt := 16) dX12_honest_6 rfl (fun hc => ?_) (fun hc => ?_)
  · replace hm := hm.1 hc
    refine r_iconst (v := (-1)) dX12_honest_16 rfl ?_
    exact r_ireturn dX12_honest_17 rfl ⟨by decide, by decide⟩ ⟨_, rfl, hm⟩
  · replace hm := hm.2 hc
    refine r_aload_n dX12_honest_9 rfl rfl ?_
    refine r_getI (k := 54) cl_12 dX12_honest_10 t_1326 (Or.inl rfl) gf_12_54 ?_
    refine r_if_ne (tgt := 18) dX12_honest_13 rfl (fun hc => ?_) (fun hc => ?_)
    · replace hm := hm.1 hc
      refine r_aload_n dX12_honest_18 rfl rfl ?_
      refine r_getC (k := 89) cl_12 dX12_honest_19 t_1361 gf_12_89.1 gf_12_89.2 (gc_12_89 _) ?_
      refine r_aload_n dX12_honest_22 rfl rfl ?_
      refine r_getI (k := 88) cl_12 dX12_honest_23 t_1360 (Or.inl rfl) gf_12_88 ?_
      refine r_aload_n dX12_honest_26 rfl rfl ?_
      refine r_getI (k := 54) cl_12 dX12_honest_27 t_1326 (Or.inl rfl) gf_12_54 ?_
      refine r_iast dX12_honest_30 hm.1 ?_
      replace hm := hm.2
      refine r_iconst (v := 0) dX12_honest_31 rfl ?_
      refine r_istore_n (L' := [some (tR 12 0 (some 51)), some (tI 0)]) dX12_honest_32 rfl (by decide) rfl ?_
      refine r_keep (L' := [some (tR 12 0 (some 51)), some (tI 0)]) [true, true] rfl ?_
      obtain ⟨n, hm⟩ := hm
      refine s_X12_honest_33 hd ?_ hm
      · exact (fun _ hm => s_X12_honest_67 hd hm)
    · replace hm := hm.2 hc
      refine r_iconst (v := (-1)) dX12_honest_16 rfl ?_
      exact r_ireturn dX12_honest_17 rfl ⟨by decide, by decide⟩ ⟨_, rfl, hm⟩
theorem dX12_honestAtHand_0 : decode cX12_honestAtHand 0 = .ok (.aload_n 0, 1) := rfl
theorem dX12_honestAtHand_1 : decode cX12_honestAtHand 1 = .ok (.aload_n 0, 1) := rfl
theorem dX12_honestAtHand_2 : decode cX12_honestAtHand 2 = .ok (.getfield 173, 3) := rfl
theorem dX12_honestAtHand_5 : decode cX12_honestAtHand 5 = .ok (.iload_n 1, 1) := rfl
theorem dX12_honestAtHand_6 : decode cX12_honestAtHand 6 = .ok (.iaload, 1) := rfl
theorem dX12_honestAtHand_7 : decode cX12_honestAtHand 7 = .ok (.putfield 425, 3) := rfl
theorem dX12_honestAtHand_10 : decode cX12_honestAtHand 10 = .ok (.iconst 0, 1) := rfl
theorem dX12_honestAtHand_11 : decode cX12_honestAtHand 11 = .ok (.istore_n 2, 1) := rfl
theorem dX12_honestAtHand_12 : decode cX12_honestAtHand 12 = .ok (.iload_n 2, 1) := rfl
theorem dX12_honestAtHand_13 : decode cX12_honestAtHand 13 = .ok (.aload_n 0, 1) := rfl
theorem dX12_honestAtHand_14 : decode cX12_honestAtHand 14 = .ok (.getfield 425, 3) := rfl
theorem dX12_honestAtHand_17 : decode cX12_honestAtHand 17 = .ok (.if_icmp .ge 26, 3) := by decide +kernel
theorem dX12_honestAtHand_20 : decode cX12_honestAtHand 20 = .ok (.aload_n 0, 1) := rfl
theorem dX12_honestAtHand_21 : decode cX12_honestAtHand 21 = .ok (.getfield 116, 3) := rfl
theorem dX12_honestAtHand_24 : decode cX12_honestAtHand 24 = .ok (.iload_n 2, 1) := rfl
theorem dX12_honestAtHand_25 : decode cX12_honestAtHand 25 = .ok (.aload_n 0, 1) := rfl
theorem dX12_honestAtHand_26 : decode cX12_honestAtHand 26 = .ok (.getfield 176, 3) := rfl
theorem dX12_honestAtHand_29 : decode cX12_honestAtHand 29 = .ok (.bipush 6, 2) := by decide +kernel
theorem dX12_honestAtHand_31 : decode cX12_honestAtHand 31 = .ok (.iload_n 1, 1) := rfl
theorem dX12_honestAtHand_32 : decode cX12_honestAtHand 32 = .ok (.imul, 1) := rfl
theorem dX12_honestAtHand_33 : decode cX12_honestAtHand 33 = .ok (.iload_n 2, 1) := rfl
theorem dX12_honestAtHand_34 : decode cX12_honestAtHand 34 = .ok (.iadd, 1) := rfl
theorem dX12_honestAtHand_35 : decode cX12_honestAtHand 35 = .ok (.iaload, 1) := rfl
theorem dX12_honestAtHand_36 : decode cX12_honestAtHand 36 = .ok (.iastore, 1) := rfl
theorem dX12_honestAtHand_37 : decode cX12_honestAtHand 37 = .ok (.iinc 2 1, 3) := by decide +kernel
theorem dX12_honestAtHand_40 : decode cX12_honestAtHand 40 = .ok (.goto (-28), 3) := by decide +kernel
theorem dX12_honestAtHand_43 : decode cX12_honestAtHand 43 = .ok (.return_, 1) := rfl
def m_X12_honestAtHand_12 : Nat → (Hp → Prop) → Int32 → Int32 → Hp → Prop
  | 0, _, _, _, _ => False
  | n + 1, Q, v1, v2, h => ((hI h 51 55) ≤ v2 → Q h) ∧ (¬ (hI h 51 55) ≤ v2 → vp_in ((6 * v1) + v2) 36 ∧ (vp_in v2 6 ∧ (∀ x1 : Int32, x1 = v2 + 1 → m_X12_honestAtHand_12 n Q v1 x1 (wI h 85 (ix v2) (hI h 105 (ix ((6 * v1) + v2)))))))
set_option maxHeartbeats 4000000 in
set_option maxRecDepth 100000 in
theorem s_X12_honestAtHand_12 {l : Launch} {G : Cx} {d : Nat} {h0 : Hp} (hd : 2 ≤ d) {Q : Hp → Prop} : ∀ {n : Nat} {v1 : Int32} {v2 : Int32} {h : Hp}, m_X12_honestAtHand_12 n Q v1 v2 h → Rn l G d 0 0 MX12_honestAtHand h0 (qV Q) 12 [some (tR 12 0 (some 51)), some (tI v1), some (tI v2)] [] h 0 0 := by
  intro n
  induction n with
  | zero => intro v1 v2 h hm; exact hm.elim
  | succ n ih =>
    intro v1 v2 h hm
    have hk12 := fun (v1 : Int32) (v2 : Int32) (hh : Hp) (hm : m_X12_honestAtHand_12 n Q v1 v2 hh) => ih hm
    rw [m_X12_honestAtHand_12] at hm
    refine r_iload_n dX12_honestAtHand_12 rfl rfl ?_
    refine r_aload_n dX12_honestAtHand_13 rfl rfl ?_
    refine r_getI (k := 55) cl_12 dX12_honestAtHand_14 t_1327 (Or.inl rfl) gf_12_55 ?_
    refine r_icmp_ge (tgt := 43) dX12_honestAtHand_17 rfl (fun hc => ?_) (fun hc => ?_)
    · replace hm := hm.1 hc
      exact r_return dX12_honestAtHand_43 rfl ⟨by decide, by decide⟩ ⟨rfl, hm⟩
    · replace hm := hm.2 hc
      refine r_aload_n dX12_honestAtHand_20 rfl rfl ?_
      refine r_getC (k := 57) cl_12 dX12_honestAtHand_21 t_1329 gf_12_57.1 gf_12_57.2 (gc_12_57 _) ?_
      refine r_iload_n dX12_honestAtHand_24 rfl rfl ?_
      refine r_aload_n dX12_honestAtHand_25 rfl rfl ?_
      refine r_getC (k := 90) cl_12 dX12_honestAtHand_26 t_1362 gf_12_90.1 gf_12_90.2 (gc_12_90 _) ?_
      refine r_bipush (v := 6) dX12_honestAtHand_29 rfl ?_
      refine r_iload_n dX12_honestAtHand_31 rfl rfl ?_
      refine r_imul dX12_honestAtHand_32 ?_
      refine r_iload_n dX12_honestAtHand_33 rfl rfl ?_
      refine r_iadd dX12_honestAtHand_34 ?_
      refine r_iald dX12_honestAtHand_35 hm.1 ?_
      replace hm := hm.2
      refine r_iast dX12_honestAtHand_36 hm.1 ?_
      replace hm := hm.2
      obtain ⟨x1, e_x1⟩ : ∃ y : Int32, y = v2 + 1 := ⟨_, rfl⟩
      replace hm := hm x1 e_x1
      refine r_iinc (L' := [some (tR 12 0 (some 51)), some (tI v1), some (tI x1)]) dX12_honestAtHand_37 rfl (by rw [e_x1]; rfl) (by decide) rfl ?_
      refine r_goto (tgt := 12) dX12_honestAtHand_40 rfl ?_
      refine r_keep (L' := [some (tR 12 0 (some 51)), some (tI v1), some (tI x1)]) [true, true, true] rfl ?_
      exact hk12 _ _ _ hm
def m_X12_honestAtHand (v1 : Int32) (h : Hp) (Q : Hp → Prop) : Prop := vp_in v1 6 ∧ (∃ n12, m_X12_honestAtHand_12 n12 Q v1 0 (wI h 51 55 (hI h 104 (ix v1))))
set_option maxHeartbeats 4000000 in
set_option maxRecDepth 100000 in
theorem s_X12_honestAtHand {l : Launch} {G : Cx} {d : Nat} (hd : 2 ≤ d) {v1 : Int32} {h : Hp} {Q : Hp → Prop} (hm : m_X12_honestAtHand v1 h Q) : Ct l G d 0 0 yX12_honestAtHand MX12_honestAtHand [tR 12 0 (some 51), tI v1] h (qV Q) := by
  unfold m_X12_honestAtHand at hm
  refine Ct.of (L := [some (tR 12 0 (some 51)), some (tI v1)]) (by decide) rfl rfl (Nat.le_of_ble_eq_true rfl) rfl ?_
  refine r_aload_n dX12_honestAtHand_0 rfl rfl ?_
  refine r_aload_n dX12_honestAtHand_1 rfl rfl ?_
  refine r_getC (k := 89) cl_12 dX12_honestAtHand_2 t_1361 gf_12_89.1 gf_12_89.2 (gc_12_89 _) ?_
  refine r_iload_n dX12_honestAtHand_5 rfl rfl ?_
  refine r_iald dX12_honestAtHand_6 hm.1 ?_
  replace hm := hm.2
  refine r_putI0 (k := 55) cl_12 dX12_honestAtHand_7 t_1327 (Or.inl rfl) gf_12_55 pf_12_55.1 (Or.inl pf_12_55.2) ?_
  refine r_iconst (v := 0) dX12_honestAtHand_10 rfl ?_
  refine r_istore_n (L' := [some (tR 12 0 (some 51)), some (tI v1), some (tI 0)]) dX12_honestAtHand_11 rfl (by decide) rfl ?_
  refine r_keep (L' := [some (tR 12 0 (some 51)), some (tI v1), some (tI 0)]) [true, true, true] rfl ?_
  obtain ⟨n, hm⟩ := hm
  refine s_X12_honestAtHand_12 hd hm
