theorem dX6_readRules_0 : decode cX6_readRules 0 = .ok (.aload_n 0, 1) := rfl
theorem dX6_readRules_1 : decode cX6_readRules 1 = .ok (.iconst 0, 1) := rfl
theorem dX6_readRules_2 : decode cX6_readRules 2 = .ok (.putfield 15, 3) := rfl
theorem dX6_readRules_5 : decode cX6_readRules 5 = .ok (.iconst 0, 1) := rfl
theorem dX6_readRules_6 : decode cX6_readRules 6 = .ok (.istore 4, 2) := rfl
theorem dX6_readRules_8 : decode cX6_readRules 8 = .ok (.iload 4, 2) := rfl
theorem dX6_readRules_10 : decode cX6_readRules 10 = .ok (.iload_n 3, 1) := rfl
theorem dX6_readRules_11 : decode cX6_readRules 11 = .ok (.if_icmp .ge 41, 3) := by decide +kernel
theorem dX6_readRules_14 : decode cX6_readRules 14 = .ok (.aload_n 1, 1) := rfl
theorem dX6_readRules_15 : decode cX6_readRules 15 = .ok (.invokevirtual 19, 3) := rfl
theorem dX6_readRules_18 : decode cX6_readRules 18 = .ok (.ifCond .ne 34, 3) := by decide +kernel
theorem dX6_readRules_21 : decode cX6_readRules 21 = .ok (.aload_n 0, 1) := rfl
theorem dX6_readRules_22 : decode cX6_readRules 22 = .ok (.aload_n 1, 1) := rfl
theorem dX6_readRules_23 : decode cX6_readRules 23 = .ok (.iload 4, 2) := rfl
theorem dX6_readRules_25 : decode cX6_readRules 25 = .ok (.bipush 6, 2) := by decide +kernel
theorem dX6_readRules_27 : decode cX6_readRules 27 = .ok (.imul, 1) := rfl
theorem dX6_readRules_28 : decode cX6_readRules 28 = .ok (.invokevirtual 25, 3) := rfl
theorem dX6_readRules_31 : decode cX6_readRules 31 = .ok (.ifCond .ne 5, 3) := by decide +kernel
theorem dX6_readRules_34 : decode cX6_readRules 34 = .ok (.iconst 0, 1) := rfl
theorem dX6_readRules_35 : decode cX6_readRules 35 = .ok (.ireturn, 1) := rfl
theorem dX6_readRules_36 : decode cX6_readRules 36 = .ok (.aload_n 0, 1) := rfl
theorem dX6_readRules_37 : decode cX6_readRules 37 = .ok (.dup, 1) := rfl
theorem dX6_readRules_38 : decode cX6_readRules 38 = .ok (.getfield 15, 3) := rfl
theorem dX6_readRules_41 : decode cX6_readRules 41 = .ok (.iconst 1, 1) := rfl
theorem dX6_readRules_42 : decode cX6_readRules 42 = .ok (.iadd, 1) := rfl
theorem dX6_readRules_43 : decode cX6_readRules 43 = .ok (.putfield 15, 3) := rfl
theorem dX6_readRules_46 : decode cX6_readRules 46 = .ok (.iinc 4 1, 3) := by decide +kernel
theorem dX6_readRules_49 : decode cX6_readRules 49 = .ok (.goto (-41), 3) := by decide +kernel
theorem dX6_readRules_52 : decode cX6_readRules 52 = .ok (.aload_n 0, 1) := rfl
theorem dX6_readRules_53 : decode cX6_readRules 53 = .ok (.getfield 15, 3) := rfl
theorem dX6_readRules_56 : decode cX6_readRules 56 = .ok (.iload_n 2, 1) := rfl
theorem dX6_readRules_57 : decode cX6_readRules 57 = .ok (.if_icmp .lt 10, 3) := by decide +kernel
theorem dX6_readRules_60 : decode cX6_readRules 60 = .ok (.aload_n 1, 1) := rfl
theorem dX6_readRules_61 : decode cX6_readRules 61 = .ok (.invokevirtual 19, 3) := rfl
theorem dX6_readRules_64 : decode cX6_readRules 64 = .ok (.ifCond .ne 10, 3) := by decide +kernel
theorem dX6_readRules_67 : decode cX6_readRules 67 = .ok (.aload_n 1, 1) := rfl
theorem dX6_readRules_68 : decode cX6_readRules 68 = .ok (.invokevirtual 29, 3) := rfl
theorem dX6_readRules_71 : decode cX6_readRules 71 = .ok (.ifCond .eq 7, 3) := by decide +kernel
theorem dX6_readRules_74 : decode cX6_readRules 74 = .ok (.iconst 1, 1) := rfl
theorem dX6_readRules_75 : decode cX6_readRules 75 = .ok (.goto 4, 3) := by decide +kernel
theorem dX6_readRules_78 : decode cX6_readRules 78 = .ok (.iconst 0, 1) := rfl
theorem dX6_readRules_79 : decode cX6_readRules 79 = .ok (.ireturn, 1) := rfl
def m_X6_readRules_67  (Q : Int32 → Hp → Prop) (h : Hp) : Prop := m_X10_refuse h (fun (x1 : Int32) (h2 : Hp) => (x1 = 0 → Q 0 h2) ∧ (¬ x1 = 0 → Q 1 h2))
set_option maxHeartbeats 4000000 in
set_option maxRecDepth 100000 in
theorem s_X6_readRules_67 {l : Launch} {G : Cx} {d : Nat} {h0 : Hp} (hd : 18 ≤ d) {Q : Int32 → Hp → Prop} {h : Hp} (hm : m_X6_readRules_67 Q h) : Rn l G d 0 0 MX6_readRules h0 (qI Q) 67 [none, some (tR 10 0 (some 2))] [] h 0 0 := by
  unfold m_X6_readRules_67 at hm
  refine r_aload_n dX6_readRules_67 rfl rfl ?_
  refine r_callVI (d' := d - 1) (as := []) (st := []) cl_10 dX6_readRules_68 mi_X10_refuse t_817 t_597 t_598 rfl rfl (Nat.le_of_ble_eq_true rfl) (by omega) ⟨by decide, by decide⟩ ⟨rfl, rfl⟩ (s_X10_refuse (by omega) hm) (fun x1 h2 hm => ?_)
  refine r_if_eq (tgt := 78) dX6_readRules_71 rfl (fun hc => ?_) (fun hc => ?_)
  · replace hm := hm.1 hc
    refine r_iconst (v := 0) dX6_readRules_78 rfl ?_
    exact r_bret dX6_readRules_79 rfl ⟨by decide, by decide⟩ (by unfold bz; decide) ⟨_, rfl, hm⟩
  · replace hm := hm.2 hc
    refine r_iconst (v := 1) dX6_readRules_74 rfl ?_
    refine r_goto (tgt := 79) dX6_readRules_75 rfl ?_
    exact r_bret dX6_readRules_79 rfl ⟨by decide, by decide⟩ (by unfold bz; decide) ⟨_, rfl, hm⟩
def m_X6_readRules_52  (Q : Int32 → Hp → Prop) (v0 : Nat) (v2 : Int32) (h : Hp) : Prop := ((hI h v0 1) < v2 → m_X6_readRules_67 Q h) ∧ (¬ (hI h v0 1) < v2 → m_X10_isAtEnd h (fun (x3 : Int32) (h4 : Hp) => (¬ x3 = 0 → Q 1 h4) ∧ (x3 = 0 → m_X6_readRules_67 Q h4)))
set_option maxHeartbeats 4000000 in
set_option maxRecDepth 100000 in
theorem s_X6_readRules_52 {l : Launch} {G : Cx} {d : Nat} {h0 : Hp} (hd : 18 ≤ d) {Q : Int32 → Hp → Prop} {v0 : Nat} {v2 : Int32} {h : Hp} (hm : m_X6_readRules_52 Q v0 v2 h) : Rn l G d 0 0 MX6_readRules h0 (qI Q) 52 [some (tR 6 0 (some v0)), some (tR 10 0 (some 2)), some (tI v2)] [] h 0 0 := by
  unfold m_X6_readRules_52 at hm
  refine r_aload_n dX6_readRules_52 rfl rfl ?_
  refine r_getI (k := 1) cl_6 dX6_readRules_53 t_774 (Or.inl rfl) gf_6_1 ?_
  refine r_iload_n dX6_readRules_56 rfl rfl ?_
  refine r_icmp_lt (tgt := 67) dX6_readRules_57 rfl (fun hc => ?_) (fun hc => ?_)
  · replace hm := hm.1 hc
    refine r_keep (L' := [none, some (tR 10 0 (some 2))]) [false, true] rfl ?_
    exact s_X6_readRules_67 hd hm
  · replace hm := hm.2 hc
    refine r_aload_n dX6_readRules_60 rfl rfl ?_
    refine r_callVI (d' := d - 1) (as := []) (st := []) cl_10 dX6_readRules_61 mi_X10_isAtEnd t_786 t_739 t_740 rfl rfl (Nat.le_of_ble_eq_true rfl) (by omega) ⟨by decide, by decide⟩ ⟨rfl, rfl⟩ (s_X10_isAtEnd (by omega) hm) (fun x3 h4 hm => ?_)
    refine r_if_ne (tgt := 74) dX6_readRules_64 rfl (fun hc => ?_) (fun hc => ?_)
    · replace hm := hm.1 hc
      refine r_iconst (v := 1) dX6_readRules_74 rfl ?_
      refine r_goto (tgt := 79) dX6_readRules_75 rfl ?_
      exact r_bret dX6_readRules_79 rfl ⟨by decide, by decide⟩ (by unfold bz; decide) ⟨_, rfl, hm⟩
    · replace hm := hm.2 hc
      refine r_keep (L' := [none, some (tR 10 0 (some 2))]) [false, true] rfl ?_
      exact s_X6_readRules_67 hd hm
def m_X6_readRules_8 : Nat → (Nat → Int32 → Hp → Prop) → (Int32 → Hp → Prop) → Nat → Int32 → Int32 → Int32 → Hp → Prop
  | 0, _, _, _, _, _, _, _ => False
  | n + 1, k52, Q, v0, v2, v3, v4, h => (v3 ≤ v4 → k52 v0 v2 h) ∧ (¬ v3 ≤ v4 → m_X10_isAtEnd h (fun (x5 : Int32) (h6 : Hp) => (¬ x5 = 0 → k52 v0 v2 h6) ∧ (x5 = 0 → m_X6_readStatement v0 (v4 * 6) h6 (fun (x7 : Int32) (h8 : Hp) => (¬ x7 = 0 → ∀ x9 : Int32, x9 = v4 + 1 → m_X6_readRules_8 n k52 Q v0 v2 v3 x9 (wI h8 v0 1 ((hI h8 v0 1) + 1))) ∧ (x7 = 0 → Q 0 h8)))))
set_option maxHeartbeats 4000000 in
set_option maxRecDepth 100000 in
theorem s_X6_readRules_8 {l : Launch} {G : Cx} {d : Nat} {h0 : Hp} (hd : 18 ≤ d) {k52 : Nat → Int32 → Hp → Prop} {Q : Int32 → Hp → Prop} (hk52 : ∀ (v0 : Nat) (v2 : Int32) (hh : Hp), k52 v0 v2 hh → Rn l G d 0 0 MX6_readRules h0 (qI Q) 52 [some (tR 6 0 (some v0)), some (tR 10 0 (some 2)), some (tI v2)] [] hh 0 0) : ∀ {n : Nat} {v0 : Nat} {v2 : Int32} {v3 : Int32} {v4 : Int32} {h : Hp}, m_X6_readRules_8 n k52 Q v0 v2 v3 v4 h → Rn l G d 0 0 MX6_readRules h0 (qI Q) 8 [some (tR 6 0 (some v0)), some (tR 10 0 (some 2)), some (tI v2), some (tI v3), some (tI v4)] [] h 0 0 := by
  intro n
  induction n with
  | zero => intro v0 v2 v3 v4 h hm; exact hm.elim
  | succ n ih =>
    intro v0 v2 v3 v4 h hm
    have hk8 := fun (v0 : Nat) (v2 : Int32) (v3 : Int32) (v4 : Int32) (hh : Hp) (hm : m_X6_readRules_8 n k52 Q v0 v2 v3 v4 hh) => ih hm
    rw [m_X6_readRules_8] at hm
    refine r_iload dX6_readRules_8 rfl ?_
    refine r_iload_n dX6_readRules_10 rfl rfl ?_
    refine r_icmp_ge (tgt := 52) dX6_readRules_11 rfl (fun hc => ?_) (fun hc => ?_)
    · replace hm := hm.1 hc
      refine r_keep (L' := [some (tR 6 0 (some v0)), some (tR 10 0 (some 2)), some (tI v2)]) [true, true, true] rfl ?_
      exact hk52 _ _ _ hm
    · replace hm := hm.2 hc
      refine r_aload_n dX6_readRules_14 rfl rfl ?_
      refine r_callVI (d' := d - 1) (as := []) (st := []) cl_10 dX6_readRules_15 mi_X10_isAtEnd t_786 t_739 t_740 rfl rfl (Nat.le_of_ble_eq_true rfl) (by omega) ⟨by decide, by decide⟩ ⟨rfl, rfl⟩ (s_X10_isAtEnd (by omega) hm) (fun x5 h6 hm => ?_)
      refine r_if_ne (tgt := 52) dX6_readRules_18 rfl (fun hc => ?_) (fun hc => ?_)
      · replace hm := hm.1 hc
        refine r_keep (L' := [some (tR 6 0 (some v0)), some (tR 10 0 (some 2)), some (tI v2)]) [true, true, true] rfl ?_
        exact hk52 _ _ _ hm
      · replace hm := hm.2 hc
        refine r_aload_n dX6_readRules_21 rfl rfl ?_
        refine r_aload_n dX6_readRules_22 rfl rfl ?_
        refine r_iload dX6_readRules_23 rfl ?_
        refine r_bipush (v := 6) dX6_readRules_25 rfl ?_
        refine r_imul dX6_readRules_27 ?_
        refine r_callVI (d' := d - 1) (as := [tR 10 0 (some 2), tI (v4 * 6)]) (st := []) cl_6 dX6_readRules_28 mi_X6_readStatement t_787 t_789 ts_23 rfl rfl (Nat.le_of_ble_eq_true rfl) (by omega) ⟨by decide, by decide⟩ ⟨rfl, rfl⟩ (s_X6_readStatement (by omega) hm) (fun x7 h8 hm => ?_)
        refine r_if_ne (tgt := 36) dX6_readRules_31 rfl (fun hc => ?_) (fun hc => ?_)
        · replace hm := hm.1 hc
          refine r_aload_n dX6_readRules_36 rfl rfl ?_
          refine r_dup dX6_readRules_37 cv_cat1R ?_
          refine r_getI (k := 1) cl_6 dX6_readRules_38 t_774 (Or.inl rfl) gf_6_1 ?_
          refine r_iconst (v := 1) dX6_readRules_41 rfl ?_
          refine r_iadd dX6_readRules_42 ?_
          refine r_putI0 (k := 1) cl_6 dX6_readRules_43 t_774 (Or.inl rfl) gf_6_1 pf_6_1.1 (Or.inl pf_6_1.2) ?_
          obtain ⟨x9, e_x9⟩ : ∃ y : Int32, y = v4 + 1 := ⟨_, rfl⟩
          replace hm := hm x9 e_x9
          refine r_iinc (L' := [some (tR 6 0 (some v0)), some (tR 10 0 (some 2)), some (tI v2), some (tI v3), some (tI x9)]) dX6_readRules_46 rfl (by rw [e_x9]; rfl) (by decide) rfl ?_
          refine r_goto (tgt := 8) dX6_readRules_49 rfl ?_
          refine r_keep (L' := [some (tR 6 0 (some v0)), some (tR 10 0 (some 2)), some (tI v2), some (tI v3), some (tI x9)]) [true, true, true, true, true] rfl ?_
          exact hk8 _ _ _ _ _ hm
        · replace hm := hm.2 hc
          refine r_iconst (v := 0) dX6_readRules_34 rfl ?_
          exact r_bret dX6_readRules_35 rfl ⟨by decide, by decide⟩ (by unfold bz; decide) ⟨_, rfl, hm⟩
def m_X6_readRules (v0 : Nat) (v2 : Int32) (v3 : Int32) (h : Hp) (Q : Int32 → Hp → Prop) : Prop := ∃ n8, m_X6_readRules_8 n8 (m_X6_readRules_52 Q) Q v0 v2 v3 0 (wI h v0 1 0)
set_option maxHeartbeats 4000000 in
set_option maxRecDepth 100000 in
theorem s_X6_readRules {l : Launch} {G : Cx} {d : Nat} (hd : 18 ≤ d) {v0 : Nat} {v2 : Int32} {v3 : Int32} {h : Hp} {Q : Int32 → Hp → Prop} (hm : m_X6_readRules v0 v2 v3 h Q) : Ct l G d 0 0 yX6_readRules MX6_readRules [tR 6 0 (some v0), tR 10 0 (some 2), tI v2, tI v3] h (qI Q) := by
  unfold m_X6_readRules at hm
  refine Ct.of (L := [some (tR 6 0 (some v0)), some (tR 10 0 (some 2)), some (tI v2), some (tI v3)]) (by decide) rfl rfl (Nat.le_of_ble_eq_true rfl) rfl ?_
  refine r_aload_n dX6_readRules_0 rfl rfl ?_
  refine r_iconst (v := 0) dX6_readRules_1 rfl ?_
  refine r_putI0 (k := 1) cl_6 dX6_readRules_2 t_774 (Or.inl rfl) gf_6_1 pf_6_1.1 (Or.inl pf_6_1.2) ?_
  refine r_iconst (v := 0) dX6_readRules_5 rfl ?_
  refine r_istore (L' := [some (tR 6 0 (some v0)), some (tR 10 0 (some 2)), some (tI v2), some (tI v3), some (tI 0)]) dX6_readRules_6 (by decide) rfl ?_
  refine r_keep (L' := [some (tR 6 0 (some v0)), some (tR 10 0 (some 2)), some (tI v2), some (tI v3), some (tI 0)]) [true, true, true, true, true] rfl ?_
  obtain ⟨n, hm⟩ := hm
  refine s_X6_readRules_8 hd ?_ hm
  · exact (fun _ _ _ hm => s_X6_readRules_52 hd hm)
theorem dX7_init_0 : decode cX7_init 0 = .ok (.aload_n 0, 1) := by decide +kernel
theorem dX7_init_1 : decode cX7_init 1 = .ok (.invokespecial 3, 3) := by decide +kernel
theorem dX7_init_4 : decode cX7_init 4 = .ok (.aload_n 0, 1) := by decide +kernel
theorem dX7_init_5 : decode cX7_init 5 = .ok (.bipush 10, 2) := by decide +kernel
theorem dX7_init_7 : decode cX7_init 7 = .ok (.anewarray 9, 3) := by decide +kernel
theorem dX7_init_10 : decode cX7_init 10 = .ok (.putfield 11, 3) := by decide +kernel
theorem dX7_init_13 : decode cX7_init 13 = .ok (.aload_n 0, 1) := by decide +kernel
theorem dX7_init_14 : decode cX7_init 14 = .ok (.sipush 1024, 3) := by decide +kernel
theorem dX7_init_17 : decode cX7_init 17 = .ok (.newarray .int, 2) := by decide +kernel
theorem dX7_init_19 : decode cX7_init 19 = .ok (.putfield 17, 3) := by decide +kernel
theorem dX7_init_22 : decode cX7_init 22 = .ok (.aload_n 0, 1) := by decide +kernel
theorem dX7_init_23 : decode cX7_init 23 = .ok (.sipush 1024, 3) := by decide +kernel
theorem dX7_init_26 : decode cX7_init 26 = .ok (.newarray .int, 2) := by decide +kernel
theorem dX7_init_28 : decode cX7_init 28 = .ok (.putfield 21, 3) := by decide +kernel
theorem dX7_init_31 : decode cX7_init 31 = .ok (.aload_n 0, 1) := by decide +kernel
theorem dX7_init_32 : decode cX7_init 32 = .ok (.bipush 10, 2) := by decide +kernel
theorem dX7_init_34 : decode cX7_init 34 = .ok (.newarray .int, 2) := by decide +kernel
theorem dX7_init_36 : decode cX7_init 36 = .ok (.putfield 24, 3) := by decide +kernel
theorem dX7_init_39 : decode cX7_init 39 = .ok (.aload_n 0, 1) := by decide +kernel
theorem dX7_init_40 : decode cX7_init 40 = .ok (.bipush 120, 2) := by decide +kernel
theorem dX7_init_42 : decode cX7_init 42 = .ok (.newarray .int, 2) := by decide +kernel
theorem dX7_init_44 : decode cX7_init 44 = .ok (.putfield 27, 3) := by decide +kernel
theorem dX7_init_47 : decode cX7_init 47 = .ok (.aload_n 0, 1) := by decide +kernel
theorem dX7_init_48 : decode cX7_init 48 = .ok (.sipush 1024, 3) := by decide +kernel
theorem dX7_init_51 : decode cX7_init 51 = .ok (.newarray .int, 2) := by decide +kernel
theorem dX7_init_53 : decode cX7_init 53 = .ok (.putfield 30, 3) := by decide +kernel
theorem dX7_init_56 : decode cX7_init 56 = .ok (.aload_n 0, 1) := by decide +kernel
theorem dX7_init_57 : decode cX7_init 57 = .ok (.new 33, 3) := by decide +kernel
theorem dX7_init_60 : decode cX7_init 60 = .ok (.dup, 1) := by decide +kernel
theorem dX7_init_61 : decode cX7_init 61 = .ok (.invokespecial 35, 3) := by decide +kernel
theorem dX7_init_64 : decode cX7_init 64 = .ok (.putfield 36, 3) := by decide +kernel
theorem dX7_init_67 : decode cX7_init 67 = .ok (.aload_n 0, 1) := by decide +kernel
theorem dX7_init_68 : decode cX7_init 68 = .ok (.sipush 480, 3) := by decide +kernel
theorem dX7_init_71 : decode cX7_init 71 = .ok (.newarray .long, 2) := by decide +kernel
theorem dX7_init_73 : decode cX7_init 73 = .ok (.putfield 40, 3) := by decide +kernel
theorem dX7_init_76 : decode cX7_init 76 = .ok (.aload_n 0, 1) := by decide +kernel
theorem dX7_init_77 : decode cX7_init 77 = .ok (.sipush 336, 3) := by decide +kernel
theorem dX7_init_80 : decode cX7_init 80 = .ok (.newarray .long, 2) := by decide +kernel
theorem dX7_init_82 : decode cX7_init 82 = .ok (.putfield 44, 3) := by decide +kernel
theorem dX7_init_85 : decode cX7_init 85 = .ok (.aload_n 0, 1) := by decide +kernel
theorem dX7_init_86 : decode cX7_init 86 = .ok (.aload_n 1, 1) := by decide +kernel
theorem dX7_init_87 : decode cX7_init 87 = .ok (.putfield 47, 3) := by decide +kernel
theorem dX7_init_90 : decode cX7_init 90 = .ok (.aload_n 0, 1) := by decide +kernel
theorem dX7_init_91 : decode cX7_init 91 = .ok (.aload_n 2, 1) := by decide +kernel
theorem dX7_init_92 : decode cX7_init 92 = .ok (.putfield 51, 3) := by decide +kernel
theorem dX7_init_95 : decode cX7_init 95 = .ok (.return_, 1) := by decide +kernel
def m_X7_init (v0 : Nat) (h : Hp) (Q : Hp → Prop) : Prop := ∀ a1 : Nat, a1 = hN h → ∀ h2 : Hp, h2 = nw h (51, 10) → ∀ a3 : Nat, a3 = hN (wR h2 v0 2 (some a1)) → ∀ h4 : Hp, h4 = nw (wR h2 v0 2 (some a1)) (40, 1024) → ∀ a5 : Nat, a5 = hN (wR h4 v0 4 (some a3)) → ∀ h6 : Hp, h6 = nw (wR h4 v0 4 (some a3)) (40, 1024) → ∀ a7 : Nat, a7 = hN (wR h6 v0 7 (some a5)) → ∀ h8 : Hp, h8 = nw (wR h6 v0 7 (some a5)) (40, 10) → ∀ a9 : Nat, a9 = hN (wR h8 v0 8 (some a7)) → ∀ h10 : Hp, h10 = nw (wR h8 v0 8 (some a7)) (40, 120) → ∀ a11 : Nat, a11 = hN (wR h10 v0 9 (some a9)) → ∀ h12 : Hp, h12 = nw (wR h10 v0 9 (some a9)) (40, 1024) → ∀ a13 : Nat, a13 = hN (wR h12 v0 10 (some a11)) → ∀ h14 : Hp, h14 = nw (wR h12 v0 10 (some a11)) (20, 0) → m_X0_init a13 h14 (fun h16 => hN h ≤ a13 ∧ sealOK h16 a13 0 ∧ ∀ h17 : Hp, h17 = wT h16 a13 (0, 0) → ∀ a18 : Nat, a18 = hN (wR h17 v0 12 (some a13)) → ∀ h19 : Hp, h19 = nw (wR h17 v0 12 (some a13)) (43, 480) → ∀ a20 : Nat, a20 = hN (wR h19 v0 13 (some a18)) → ∀ h21 : Hp, h21 = nw (wR h19 v0 13 (some a18)) (43, 336) → Q (wR (wR (wR h21 v0 14 (some a20)) v0 0 (some 14)) v0 1 (some 30)))
set_option maxHeartbeats 4000000 in
set_option maxRecDepth 100000 in
theorem s_X7_init {l : Launch} {G : Cx} {d : Nat} (hd : 4 ≤ d) {v0 : Nat} {h : Hp} {Q : Hp → Prop} (hm : m_X7_init v0 h Q) : Ct l G d 10 4036 yX7_init MX7_init [tR 27 0 (some v0), tR 5 0 (some 14), tR 3 0 (some 30)] h (qV Q) := by
  unfold m_X7_init at hm
  refine Ct.of (L := [some (tR 27 0 (some v0)), some (tR 5 0 (some 14)), some (tR 3 0 (some 30))]) (by decide) rfl rfl (Nat.le_of_ble_eq_true rfl) rfl ?_
  refine r_aload_n dX7_init_0 rfl rfl ?_
  refine r_objInit dX7_init_1 t_263 t_29 t_30 (by omega) (Nat.le_of_ble_eq_true rfl) ?_
  refine r_aload_n dX7_init_4 rfl rfl ?_
  refine r_bipush (v := 10) dX7_init_5 rfl ?_
  refine r_newA (kd := 1) (ti := 5) (N := 10) dX7_init_7 rfl t_264 (by decide) (by decide) rfl (by decide) ⟨by decide, by decide⟩ ?_
  refine r_nmA (fun a1 e_a1 h2 e_h2 => ?_)
  replace hm := hm a1 e_a1 h2 e_h2
  refine r_putR0 (k := 2) cl_7 dX7_init_10 t_269 (Or.inr rfl) gf_7_2.1 gf_7_2.2 (fun z => absurd z (by decide)) pf_7_2.1 (Or.inr ⟨pf_7_2.2, rfl, rfl⟩) ?_
  refine r_aload_n dX7_init_13 rfl rfl ?_
  refine r_sipush (v := 1024) dX7_init_14 rfl ?_
  refine r_newI (N := 1024) dX7_init_17 t_61 (by decide) rfl (by decide) ⟨by decide, by decide⟩ ?_
  refine r_nmA (fun a3 e_a3 h4 e_h4 => ?_)
  replace hm := hm a3 e_a3 h4 e_h4
  refine r_putR0 (k := 4) cl_7 dX7_init_19 t_272 (Or.inr rfl) gf_7_4.1 gf_7_4.2 (fun z => absurd z (by decide)) pf_7_4.1 (Or.inr ⟨pf_7_4.2, rfl, rfl⟩) ?_
  refine r_aload_n dX7_init_22 rfl rfl ?_
  refine r_sipush (v := 1024) dX7_init_23 rfl ?_
  refine r_newI (N := 1024) dX7_init_26 t_61 (by decide) rfl (by decide) ⟨by decide, by decide⟩ ?_
  refine r_nmA (fun a5 e_a5 h6 e_h6 => ?_)
  replace hm := hm a5 e_a5 h6 e_h6
  refine r_putR0 (k := 7) cl_7 dX7_init_28 t_275 (Or.inr rfl) gf_7_7.1 gf_7_7.2 (fun z => absurd z (by decide)) pf_7_7.1 (Or.inr ⟨pf_7_7.2, rfl, rfl⟩) ?_
  refine r_aload_n dX7_init_31 rfl rfl ?_
  refine r_bipush (v := 10) dX7_init_32 rfl ?_
  refine r_newI (N := 10) dX7_init_34 t_61 (by decide) rfl (by decide) ⟨by decide, by decide⟩ ?_
  refine r_nmA (fun a7 e_a7 h8 e_h8 => ?_)
  replace hm := hm a7 e_a7 h8 e_h8
  refine r_putR0 (k := 8) cl_7 dX7_init_36 t_276 (Or.inr rfl) gf_7_8.1 gf_7_8.2 (fun z => absurd z (by decide)) pf_7_8.1 (Or.inr ⟨pf_7_8.2, rfl, rfl⟩) ?_
  refine r_aload_n dX7_init_39 rfl rfl ?_
  refine r_bipush (v := 120) dX7_init_40 rfl ?_
  refine r_newI (N := 120) dX7_init_42 t_61 (by decide) rfl (by decide) ⟨by decide, by decide⟩ ?_
  refine r_nmA (fun a9 e_a9 h10 e_h10 => ?_)
  replace hm := hm a9 e_a9 h10 e_h10
  refine r_putR0 (k := 9) cl_7 dX7_init_44 t_277 (Or.inr rfl) gf_7_9.1 gf_7_9.2 (fun z => absurd z (by decide)) pf_7_9.1 (Or.inr ⟨pf_7_9.2, rfl, rfl⟩) ?_
  refine r_aload_n dX7_init_47 rfl rfl ?_
  refine r_sipush (v := 1024) dX7_init_48 rfl ?_
  refine r_newI (N := 1024) dX7_init_51 t_61 (by decide) rfl (by decide) ⟨by decide, by decide⟩ ?_
  refine r_nmA (fun a11 e_a11 h12 e_h12 => ?_)
  replace hm := hm a11 e_a11 h12 e_h12
  refine r_putR0 (k := 10) cl_7 dX7_init_53 t_278 (Or.inr rfl) gf_7_10.1 gf_7_10.2 (fun z => absurd z (by decide)) pf_7_10.1 (Or.inr ⟨pf_7_10.2, rfl, rfl⟩) ?_
  refine r_aload_n dX7_init_56 rfl rfl ?_
  refine r_new cl_0 dX7_init_57 t_265 (N := 2) rfl t_115 t_5 ⟨by decide, by decide⟩ ?_
  refine r_nmA (fun a13 e_a13 h14 e_h14 => ?_)
  replace hm := hm a13 e_a13 h14 e_h14
  refine r_dup dX7_init_60 cv_cat1R ?_
  refine r_callINU (d' := d - 1) (ci := 0) (host := RX11) (as := []) (st := [tR 20 0 (some a13), tR 27 0 (some v0)]) (mc' := 1) (ms' := 6) dX7_init_61 mi_X0_init rfl (by decide) t_117 rfl rfl rfl (Nat.le_of_ble_eq_true rfl) (by omega) ⟨by decide, by decide⟩ ⟨rfl, rfl⟩ (s_X0_init (by omega) hm) (fun h16 hm => ?_)
  obtain ⟨hz, hs, hm⟩ := hm
  refine r_seal (by decide) hz hs (by simp [noK]) (by simp [noK]) ?_
  refine r_nmH (fun h17 e_h17 => ?_)
  replace hm := hm h17 e_h17
  refine r_putR0 (k := 12) cl_7 dX7_init_64 t_280 (Or.inr rfl) gf_7_12.1 gf_7_12.2 (fun z => absurd z (by decide)) pf_7_12.1 (Or.inr ⟨pf_7_12.2, rfl, rfl⟩) ?_
  refine r_aload_n dX7_init_67 rfl rfl ?_
  refine r_sipush (v := 480) dX7_init_68 rfl ?_
  refine r_newJ (N := 480) dX7_init_71 t_206 (by decide) rfl (by decide) ⟨by decide, by decide⟩ ?_
  refine r_nmA (fun a18 e_a18 h19 e_h19 => ?_)
  replace hm := hm a18 e_a18 h19 e_h19
  refine r_putR0 (k := 13) cl_7 dX7_init_73 t_281 (Or.inr rfl) gf_7_13.1 gf_7_13.2 (fun z => absurd z (by decide)) pf_7_13.1 (Or.inr ⟨pf_7_13.2, rfl, rfl⟩) ?_
  refine r_aload_n dX7_init_76 rfl rfl ?_
  refine r_sipush (v := 336) dX7_init_77 rfl ?_
  refine r_newJ (N := 336) dX7_init_80 t_206 (by decide) rfl (by decide) ⟨by decide, by decide⟩ ?_
  refine r_nmA (fun a20 e_a20 h21 e_h21 => ?_)
  replace hm := hm a20 e_a20 h21 e_h21
  refine r_putR0 (k := 14) cl_7 dX7_init_82 t_282 (Or.inr rfl) gf_7_14.1 gf_7_14.2 (fun z => absurd z (by decide)) pf_7_14.1 (Or.inr ⟨pf_7_14.2, rfl, rfl⟩) ?_
  refine r_aload_n dX7_init_85 rfl rfl ?_
  refine r_aload_n dX7_init_86 rfl rfl ?_
  refine r_putR0 (k := 0) cl_7 dX7_init_87 t_267 (Or.inr rfl) gf_7_0.1 gf_7_0.2 (fun z => absurd z (by decide)) pf_7_0.1 (Or.inr ⟨pf_7_0.2, rfl, rfl⟩) ?_
  refine r_aload_n dX7_init_90 rfl rfl ?_
  refine r_aload_n dX7_init_91 rfl rfl ?_
  refine r_putR0 (k := 1) cl_7 dX7_init_92 t_268 (Or.inr rfl) gf_7_1.1 gf_7_1.2 (fun z => absurd z (by decide)) pf_7_1.1 (Or.inr ⟨pf_7_1.2, rfl, rfl⟩) ?_
  exact r_return dX7_init_95 rfl ⟨by decide, by decide⟩ ⟨rfl, hm⟩
theorem dX7_forget_0 : decode cX7_forget 0 = .ok (.aload_n 0, 1) := rfl
theorem dX7_forget_1 : decode cX7_forget 1 = .ok (.iconst 0, 1) := rfl
theorem dX7_forget_2 : decode cX7_forget 2 = .ok (.putfield 55, 3) := rfl
theorem dX7_forget_5 : decode cX7_forget 5 = .ok (.return_, 1) := rfl
def m_X7_forget  (h : Hp) (Q : Hp → Prop) : Prop := Q (wI h 32 6 0)
set_option maxHeartbeats 4000000 in
set_option maxRecDepth 100000 in
theorem s_X7_forget {l : Launch} {G : Cx} {d : Nat} (hd : 2 ≤ d) {h : Hp} {Q : Hp → Prop} (hm : m_X7_forget h Q) : Ct l G d 0 0 yX7_forget MX7_forget [tR 7 0 (some 32)] h (qV Q) := by
  unfold m_X7_forget at hm
  refine Ct.of (L := [some (tR 7 0 (some 32))]) (by decide) rfl rfl (Nat.le_of_ble_eq_true rfl) rfl ?_
  refine r_aload_n dX7_forget_0 rfl rfl ?_
  refine r_iconst (v := 0) dX7_forget_1 rfl ?_
  refine r_putI0 (k := 6) cl_7 dX7_forget_2 t_274 (Or.inl rfl) gf_7_6 pf_7_6.1 (Or.inl pf_7_6.2) ?_
  exact r_return dX7_forget_5 rfl ⟨by decide, by decide⟩ ⟨rfl, hm⟩
theorem dX7_forgetAll_0 : decode cX7_forgetAll 0 = .ok (.aload_n 0, 1) := rfl
theorem dX7_forgetAll_1 : decode cX7_forgetAll 1 = .ok (.iconst 0, 1) := rfl
theorem dX7_forgetAll_2 : decode cX7_forgetAll 2 = .ok (.putfield 55, 3) := rfl
theorem dX7_forgetAll_5 : decode cX7_forgetAll 5 = .ok (.aload_n 0, 1) := rfl
theorem dX7_forgetAll_6 : decode cX7_forgetAll 6 = .ok (.getfield 21, 3) := rfl
theorem dX7_forgetAll_9 : decode cX7_forgetAll 9 = .ok (.iconst 0, 1) := rfl
theorem dX7_forgetAll_10 : decode cX7_forgetAll 10 = .ok (.invokestatic 59, 3) := rfl
theorem dX7_forgetAll_13 : decode cX7_forgetAll 13 = .ok (.return_, 1) := rfl
def m_X7_forgetAll  (h : Hp) (Q : Hp → Prop) : Prop := m_J7_fill_53178 35 1024 0 (wI h 32 6 0) (fun (h2 : Hp) => Q h2)
set_option maxHeartbeats 4000000 in
set_option maxRecDepth 100000 in
theorem s_X7_forgetAll {l : Launch} {G : Cx} {d : Nat} (hd : 4 ≤ d) {h : Hp} {Q : Hp → Prop} (hm : m_X7_forgetAll h Q) : Ct l G d 0 0 yX7_forgetAll MX7_forgetAll [tR 7 0 (some 32)] h (qV Q) := by
  unfold m_X7_forgetAll at hm
  refine Ct.of (L := [some (tR 7 0 (some 32))]) (by decide) rfl rfl (Nat.le_of_ble_eq_true rfl) rfl ?_
  refine r_aload_n dX7_forgetAll_0 rfl rfl ?_
  refine r_iconst (v := 0) dX7_forgetAll_1 rfl ?_
  refine r_putI0 (k := 6) cl_7 dX7_forgetAll_2 t_274 (Or.inl rfl) gf_7_6 pf_7_6.1 (Or.inl pf_7_6.2) ?_
  refine r_aload_n dX7_forgetAll_5 rfl rfl ?_
  refine r_getC (k := 7) cl_7 dX7_forgetAll_6 t_275 gf_7_7.1 gf_7_7.2 (gc_7_7 _) ?_
  refine r_iconst (v := 0) dX7_forgetAll_9 rfl ?_
  refine r_callSU (d' := d - 1) (as := [tR 40 1024 (some 35), tI 0]) (st := []) dX7_forgetAll_10 mi_J7_fill_53178 t_412 t_413 rfl rfl (Nat.le_of_ble_eq_true rfl) (by omega) ⟨by decide, by decide⟩ ⟨rfl, rfl⟩ (s_J7_fill_53178 (by omega) hm) (fun h2 hm => ?_)
  exact r_return dX7_forgetAll_13 rfl ⟨by decide, by decide⟩ ⟨rfl, hm⟩
theorem dX7_putOffered_0 : decode cX7_putOffered 0 = .ok (.iconst 0, 1) := rfl
theorem dX7_putOffered_1 : decode cX7_putOffered 1 = .ok (.istore_n 2, 1) := rfl
theorem dX7_putOffered_2 : decode cX7_putOffered 2 = .ok (.iload_n 2, 1) := rfl
theorem dX7_putOffered_3 : decode cX7_putOffered 3 = .ok (.aload_n 0, 1) := rfl
theorem dX7_putOffered_4 : decode cX7_putOffered 4 = .ok (.getfield 65, 3) := rfl
theorem dX7_putOffered_7 : decode cX7_putOffered 7 = .ok (.if_icmp .ge 21, 3) := by decide +kernel
theorem dX7_putOffered_10 : decode cX7_putOffered 10 = .ok (.aload_n 0, 1) := rfl
theorem dX7_putOffered_11 : decode cX7_putOffered 11 = .ok (.getfield 11, 3) := rfl
theorem dX7_putOffered_14 : decode cX7_putOffered 14 = .ok (.iload_n 2, 1) := rfl
theorem dX7_putOffered_15 : decode cX7_putOffered 15 = .ok (.aaload, 1) := rfl
theorem dX7_putOffered_16 : decode cX7_putOffered 16 = .ok (.aload_n 1, 1) := rfl
theorem dX7_putOffered_17 : decode cX7_putOffered 17 = .ok (.if_acmp .ne 5, 3) := by decide +kernel
theorem dX7_putOffered_20 : decode cX7_putOffered 20 = .ok (.iconst 0, 1) := rfl
theorem dX7_putOffered_21 : decode cX7_putOffered 21 = .ok (.ireturn, 1) := rfl
theorem dX7_putOffered_22 : decode cX7_putOffered 22 = .ok (.iinc 2 1, 3) := by decide +kernel
theorem dX7_putOffered_25 : decode cX7_putOffered 25 = .ok (.goto (-23), 3) := by decide +kernel
theorem dX7_putOffered_28 : decode cX7_putOffered 28 = .ok (.aload_n 0, 1) := rfl
theorem dX7_putOffered_29 : decode cX7_putOffered 29 = .ok (.getfield 65, 3) := rfl
theorem dX7_putOffered_32 : decode cX7_putOffered 32 = .ok (.bipush 10, 2) := by decide +kernel
theorem dX7_putOffered_34 : decode cX7_putOffered 34 = .ok (.if_icmp .lt 5, 3) := by decide +kernel
theorem dX7_putOffered_37 : decode cX7_putOffered 37 = .ok (.iconst 0, 1) := rfl
theorem dX7_putOffered_38 : decode cX7_putOffered 38 = .ok (.ireturn, 1) := rfl
theorem dX7_putOffered_39 : decode cX7_putOffered 39 = .ok (.aload_n 0, 1) := rfl
theorem dX7_putOffered_40 : decode cX7_putOffered 40 = .ok (.getfield 11, 3) := rfl
theorem dX7_putOffered_43 : decode cX7_putOffered 43 = .ok (.aload_n 0, 1) := rfl
theorem dX7_putOffered_44 : decode cX7_putOffered 44 = .ok (.getfield 65, 3) := rfl
theorem dX7_putOffered_47 : decode cX7_putOffered 47 = .ok (.aload_n 1, 1) := rfl
theorem dX7_putOffered_48 : decode cX7_putOffered 48 = .ok (.aastore, 1) := rfl
theorem dX7_putOffered_49 : decode cX7_putOffered 49 = .ok (.aload_n 0, 1) := rfl
theorem dX7_putOffered_50 : decode cX7_putOffered 50 = .ok (.dup, 1) := rfl
theorem dX7_putOffered_51 : decode cX7_putOffered 51 = .ok (.getfield 65, 3) := rfl
theorem dX7_putOffered_54 : decode cX7_putOffered 54 = .ok (.iconst 1, 1) := rfl
theorem dX7_putOffered_55 : decode cX7_putOffered 55 = .ok (.iadd, 1) := rfl
theorem dX7_putOffered_56 : decode cX7_putOffered 56 = .ok (.putfield 65, 3) := rfl
theorem dX7_putOffered_59 : decode cX7_putOffered 59 = .ok (.aload_n 0, 1) := rfl
theorem dX7_putOffered_60 : decode cX7_putOffered 60 = .ok (.invokevirtual 68, 3) := rfl
theorem dX7_putOffered_63 : decode cX7_putOffered 63 = .ok (.iconst 1, 1) := rfl
theorem dX7_putOffered_64 : decode cX7_putOffered 64 = .ok (.ireturn, 1) := rfl
def m_X7_putOffered_28  (Q : Int32 → Hp → Prop) (v1 : Nat) (h : Hp) : Prop := ((hI h 32 3) < 10 → vp_in (hI h 32 3) 10 ∧ (m_X7_forget (wI (wR h 33 (ix (hI h 32 3)) (some v1)) 32 3 ((hI (wR h 33 (ix (hI h 32 3)) (some v1)) 32 3) + 1)) (fun (h2 : Hp) => Q 1 h2))) ∧ (¬ (hI h 32 3) < 10 → Q 0 h)
set_option maxHeartbeats 4000000 in
set_option maxRecDepth 100000 in
theorem s_X7_putOffered_28 {l : Launch} {G : Cx} {d : Nat} {h0 : Hp} (hd : 4 ≤ d) {Q : Int32 → Hp → Prop} {v1 : Nat} {h : Hp} (hm : m_X7_putOffered_28 Q v1 h) : Rn l G d 0 0 MX7_putOffered h0 (qI Q) 28 [some (tR 7 0 (some 32)), some (tR 1 0 (some v1))] [] h 0 0 := by
  unfold m_X7_putOffered_28 at hm
  refine r_aload_n dX7_putOffered_28 rfl rfl ?_
  refine r_getI (k := 3) cl_7 dX7_putOffered_29 t_270 (Or.inl rfl) gf_7_3 ?_
  refine r_bipush (v := 10) dX7_putOffered_32 rfl ?_
  refine r_icmp_lt (tgt := 39) dX7_putOffered_34 rfl (fun hc => ?_) (fun hc => ?_)
  · replace hm := hm.1 hc
    refine r_aload_n dX7_putOffered_39 rfl rfl ?_
    refine r_getC (k := 2) cl_7 dX7_putOffered_40 t_269 gf_7_2.1 gf_7_2.2 (gc_7_2 _) ?_
    refine r_aload_n dX7_putOffered_43 rfl rfl ?_
    refine r_getI (k := 3) cl_7 dX7_putOffered_44 t_270 (Or.inl rfl) gf_7_3 ?_
    refine r_aload_n dX7_putOffered_47 rfl rfl ?_
    refine r_aast (kd := 1) (ti := 5) cl_1 dX7_putOffered_48 rfl hm.1 ?_
    replace hm := hm.2
    refine r_aload_n dX7_putOffered_49 rfl rfl ?_
    refine r_dup dX7_putOffered_50 cv_cat1R ?_
    refine r_getI (k := 3) cl_7 dX7_putOffered_51 t_270 (Or.inl rfl) gf_7_3 ?_
    refine r_iconst (v := 1) dX7_putOffered_54 rfl ?_
    refine r_iadd dX7_putOffered_55 ?_
    refine r_putI0 (k := 3) cl_7 dX7_putOffered_56 t_270 (Or.inl rfl) gf_7_3 pf_7_3.1 (Or.inl pf_7_3.2) ?_
    refine r_aload_n dX7_putOffered_59 rfl rfl ?_
    refine r_callVU (d' := d - 1) (as := []) (st := []) cl_7 dX7_putOffered_60 mi_X7_forget t_1110 t_819 t_820 rfl rfl (Nat.le_of_ble_eq_true rfl) (by omega) ⟨by decide, by decide⟩ ⟨rfl, rfl⟩ (s_X7_forget (by omega) hm) (fun h2 hm => ?_)
    refine r_iconst (v := 1) dX7_putOffered_63 rfl ?_
    exact r_bret dX7_putOffered_64 rfl ⟨by decide, by decide⟩ (by unfold bz; decide) ⟨_, rfl, hm⟩
  · replace hm := hm.2 hc
    refine r_iconst (v := 0) dX7_putOffered_37 rfl ?_
    exact r_bret dX7_putOffered_38 rfl ⟨by decide, by decide⟩ (by unfold bz; decide) ⟨_, rfl, hm⟩
def m_X7_putOffered_2 : Nat → (Nat → Hp → Prop) → (Int32 → Hp → Prop) → Nat → Int32 → Hp → Prop
  | 0, _, _, _, _, _ => False
  | n + 1, k28, Q, v1, v2, h => ((hI h 32 3) ≤ v2 → k28 v1 h) ∧ (¬ (hI h 32 3) ≤ v2 → vp_in v2 10 ∧ ∃ b3 : Nat, hR h 33 (ix v2) = some b3 ∧ ((¬ (some b3) = (some v1) → ∀ x4 : Int32, x4 = v2 + 1 → m_X7_putOffered_2 n k28 Q v1 x4 h) ∧ ((some b3) = (some v1) → Q 0 h)))
set_option maxHeartbeats 4000000 in
set_option maxRecDepth 100000 in
theorem s_X7_putOffered_2 {l : Launch} {G : Cx} {d : Nat} {h0 : Hp} (hd : 4 ≤ d) {k28 : Nat → Hp → Prop} {Q : Int32 → Hp → Prop} (hk28 : ∀ (v1 : Nat) (hh : Hp), k28 v1 hh → Rn l G d 0 0 MX7_putOffered h0 (qI Q) 28 [some (tR 7 0 (some 32)), some (tR 1 0 (some v1))] [] hh 0 0) : ∀ {n : Nat} {v1 : Nat} {v2 : Int32} {h : Hp}, m_X7_putOffered_2 n k28 Q v1 v2 h → Rn l G d 0 0 MX7_putOffered h0 (qI Q) 2 [some (tR 7 0 (some 32)), some (tR 1 0 (some v1)), some (tI v2)] [] h 0 0 := by
  intro n
  induction n with
  | zero => intro v1 v2 h hm; exact hm.elim
  | succ n ih =>
    intro v1 v2 h hm
    have hk2 := fun (v1 : Nat) (v2 : Int32) (hh : Hp) (hm : m_X7_putOffered_2 n k28 Q v1 v2 hh) => ih hm
    rw [m_X7_putOffered_2] at hm
    refine r_iload_n dX7_putOffered_2 rfl rfl ?_
    refine r_aload_n dX7_putOffered_3 rfl rfl ?_
    refine r_getI (k := 3) cl_7 dX7_putOffered_4 t_270 (Or.inl rfl) gf_7_3 ?_
    refine r_icmp_ge (tgt := 28) dX7_putOffered_7 rfl (fun hc => ?_) (fun hc => ?_)
    · replace hm := hm.1 hc
      refine r_keep (L' := [some (tR 7 0 (some 32)), some (tR 1 0 (some v1))]) [true, true] rfl ?_
      exact hk28 _ _ hm
    · replace hm := hm.2 hc
      refine r_aload_n dX7_putOffered_10 rfl rfl ?_
      refine r_getC (k := 2) cl_7 dX7_putOffered_11 t_269 gf_7_2.1 gf_7_2.2 (gc_7_2 _) ?_
      refine r_iload_n dX7_putOffered_14 rfl rfl ?_
      obtain ⟨hi_b3, b3, hb_b3, hm⟩ := hm
      refine r_aaldS (kd := 1) (ti := 5) (cn := RX1) dX7_putOffered_15 rfl hi_b3 hb_b3 ?_
      refine r_aload_n dX7_putOffered_16 rfl rfl ?_
      refine r_acmp_ne (tgt := 22) dX7_putOffered_17 rfl (fun hc => ?_) (fun hc => ?_)
      · replace hm := hm.1 hc
        obtain ⟨x4, e_x4⟩ : ∃ y : Int32, y = v2 + 1 := ⟨_, rfl⟩
        replace hm := hm x4 e_x4
        refine r_iinc (L' := [some (tR 7 0 (some 32)), some (tR 1 0 (some v1)), some (tI x4)]) dX7_putOffered_22 rfl (by rw [e_x4]; rfl) (by decide) rfl ?_
        refine r_goto (tgt := 2) dX7_putOffered_25 rfl ?_
        refine r_keep (L' := [some (tR 7 0 (some 32)), some (tR 1 0 (some v1)), some (tI x4)]) [true, true, true] rfl ?_
        exact hk2 _ _ _ hm
      · replace hm := hm.2 hc
        refine r_iconst (v := 0) dX7_putOffered_20 rfl ?_
        exact r_bret dX7_putOffered_21 rfl ⟨by decide, by decide⟩ (by unfold bz; decide) ⟨_, rfl, hm⟩
def m_X7_putOffered (v1 : Nat) (h : Hp) (Q : Int32 → Hp → Prop) : Prop := ∃ n2, m_X7_putOffered_2 n2 (m_X7_putOffered_28 Q) Q v1 0 h
set_option maxHeartbeats 4000000 in
set_option maxRecDepth 100000 in
theorem s_X7_putOffered {l : Launch} {G : Cx} {d : Nat} (hd : 4 ≤ d) {v1 : Nat} {h : Hp} {Q : Int32 → Hp → Prop} (hm : m_X7_putOffered v1 h Q) : Ct l G d 0 0 yX7_putOffered MX7_putOffered [tR 7 0 (some 32), tR 1 0 (some v1)] h (qI Q) := by
  unfold m_X7_putOffered at hm
  refine Ct.of (L := [some (tR 7 0 (some 32)), some (tR 1 0 (some v1))]) (by decide) rfl rfl (Nat.le_of_ble_eq_true rfl) rfl ?_
  refine r_iconst (v := 0) dX7_putOffered_0 rfl ?_
  refine r_istore_n (L' := [some (tR 7 0 (some 32)), some (tR 1 0 (some v1)), some (tI 0)]) dX7_putOffered_1 rfl (by decide) rfl ?_
  refine r_keep (L' := [some (tR 7 0 (some 32)), some (tR 1 0 (some v1)), some (tI 0)]) [true, true, true] rfl ?_
  obtain ⟨n, hm⟩ := hm
  refine s_X7_putOffered_2 hd ?_ hm
  · exact (fun _ _ hm => s_X7_putOffered_28 hd hm)
theorem dX7_findBarred_0 : decode cX7_findBarred 0 = .ok (.iconst 0, 1) := by decide +kernel
theorem dX7_findBarred_1 : decode cX7_findBarred 1 = .ok (.istore 4, 2) := by decide +kernel
theorem dX7_findBarred_3 : decode cX7_findBarred 3 = .ok (.iload 4, 2) := by decide +kernel
theorem dX7_findBarred_5 : decode cX7_findBarred 5 = .ok (.aload_n 0, 1) := by decide +kernel
theorem dX7_findBarred_6 : decode cX7_findBarred 6 = .ok (.getfield 65, 3) := by decide +kernel
theorem dX7_findBarred_9 : decode cX7_findBarred 9 = .ok (.if_icmp .ge 82, 3) := by decide +kernel
theorem dX7_findBarred_12 : decode cX7_findBarred 12 = .ok (.aload_n 2, 1) := by decide +kernel
theorem dX7_findBarred_13 : decode cX7_findBarred 13 = .ok (.iload_n 3, 1) := by decide +kernel
theorem dX7_findBarred_14 : decode cX7_findBarred 14 = .ok (.iload 4, 2) := by decide +kernel
theorem dX7_findBarred_16 : decode cX7_findBarred 16 = .ok (.iadd, 1) := by decide +kernel
theorem dX7_findBarred_17 : decode cX7_findBarred 17 = .ok (.iconst 0, 1) := by decide +kernel
theorem dX7_findBarred_18 : decode cX7_findBarred 18 = .ok (.iastore, 1) := by decide +kernel
theorem dX7_findBarred_19 : decode cX7_findBarred 19 = .ok (.iconst 0, 1) := by decide +kernel
theorem dX7_findBarred_20 : decode cX7_findBarred 20 = .ok (.istore 5, 2) := by decide +kernel
theorem dX7_findBarred_22 : decode cX7_findBarred 22 = .ok (.iload 5, 2) := by decide +kernel
theorem dX7_findBarred_24 : decode cX7_findBarred 24 = .ok (.iload 4, 2) := by decide +kernel
theorem dX7_findBarred_26 : decode cX7_findBarred 26 = .ok (.if_icmp .gt 59, 3) := by decide +kernel
theorem dX7_findBarred_29 : decode cX7_findBarred 29 = .ok (.aload_n 1, 1) := by decide +kernel
theorem dX7_findBarred_30 : decode cX7_findBarred 30 = .ok (.ifnull 55, 3) := by decide +kernel
theorem dX7_findBarred_33 : decode cX7_findBarred 33 = .ok (.aload_n 0, 1) := by decide +kernel
theorem dX7_findBarred_34 : decode cX7_findBarred 34 = .ok (.getfield 51, 3) := by decide +kernel
theorem dX7_findBarred_37 : decode cX7_findBarred 37 = .ok (.aload_n 0, 1) := by decide +kernel
theorem dX7_findBarred_38 : decode cX7_findBarred 38 = .ok (.getfield 11, 3) := by decide +kernel
theorem dX7_findBarred_41 : decode cX7_findBarred 41 = .ok (.iload 5, 2) := by decide +kernel
theorem dX7_findBarred_43 : decode cX7_findBarred 43 = .ok (.aaload, 1) := by decide +kernel
theorem dX7_findBarred_44 : decode cX7_findBarred 44 = .ok (.aload_n 0, 1) := by decide +kernel
theorem dX7_findBarred_45 : decode cX7_findBarred 45 = .ok (.getfield 11, 3) := by decide +kernel
theorem dX7_findBarred_48 : decode cX7_findBarred 48 = .ok (.iload 4, 2) := by decide +kernel
theorem dX7_findBarred_50 : decode cX7_findBarred 50 = .ok (.aaload, 1) := by decide +kernel
theorem dX7_findBarred_51 : decode cX7_findBarred 51 = .ok (.invokevirtual 94, 3) := by decide +kernel
theorem dX7_findBarred_54 : decode cX7_findBarred 54 = .ok (.aload_n 0, 1) := by decide +kernel
theorem dX7_findBarred_55 : decode cX7_findBarred 55 = .ok (.getfield 51, 3) := by decide +kernel
theorem dX7_findBarred_58 : decode cX7_findBarred 58 = .ok (.aload_n 1, 1) := by decide +kernel
theorem dX7_findBarred_59 : decode cX7_findBarred 59 = .ok (.invokevirtual 100, 3) := by decide +kernel
theorem dX7_findBarred_62 : decode cX7_findBarred 62 = .ok (.iconst (-1), 1) := by decide +kernel
theorem dX7_findBarred_63 : decode cX7_findBarred 63 = .ok (.if_icmp .eq 16, 3) := by decide +kernel
theorem dX7_findBarred_66 : decode cX7_findBarred 66 = .ok (.aload_n 2, 1) := by decide +kernel
theorem dX7_findBarred_67 : decode cX7_findBarred 67 = .ok (.iload_n 3, 1) := by decide +kernel
theorem dX7_findBarred_68 : decode cX7_findBarred 68 = .ok (.iload 4, 2) := by decide +kernel
theorem dX7_findBarred_70 : decode cX7_findBarred 70 = .ok (.iadd, 1) := by decide +kernel
theorem dX7_findBarred_71 : decode cX7_findBarred 71 = .ok (.dup2, 1) := by decide +kernel
theorem dX7_findBarred_72 : decode cX7_findBarred 72 = .ok (.iaload, 1) := by decide +kernel
theorem dX7_findBarred_73 : decode cX7_findBarred 73 = .ok (.iconst 1, 1) := by decide +kernel
theorem dX7_findBarred_74 : decode cX7_findBarred 74 = .ok (.iload 5, 2) := by decide +kernel
theorem dX7_findBarred_76 : decode cX7_findBarred 76 = .ok (.ishl, 1) := by decide +kernel
theorem dX7_findBarred_77 : decode cX7_findBarred 77 = .ok (.ior, 1) := by decide +kernel
theorem dX7_findBarred_78 : decode cX7_findBarred 78 = .ok (.iastore, 1) := by decide +kernel
theorem dX7_findBarred_79 : decode cX7_findBarred 79 = .ok (.iinc 5 1, 3) := by decide +kernel
theorem dX7_findBarred_82 : decode cX7_findBarred 82 = .ok (.goto (-60), 3) := by decide +kernel
theorem dX7_findBarred_85 : decode cX7_findBarred 85 = .ok (.iinc 4 1, 3) := by decide +kernel
theorem dX7_findBarred_88 : decode cX7_findBarred 88 = .ok (.goto (-85), 3) := by decide +kernel
theorem dX7_findBarred_91 : decode cX7_findBarred 91 = .ok (.return_, 1) := by decide +kernel
def m_X7_findBarred_85 (k3 : Option Nat → Nat → Nat → Int32 → Int32 → Hp → Prop) (Q : Hp → Prop) (v1 : Option Nat) (v2n : Nat) (v2 : Nat) (v3 : Int32) (v4 : Int32) (h : Hp) : Prop := ∀ x1 : Int32, x1 = v4 + 1 → k3 v1 v2n v2 v3 x1 h
set_option maxHeartbeats 4000000 in
set_option maxRecDepth 100000 in
theorem s_X7_findBarred_85 {l : Launch} {G : Cx} {d : Nat} {h0 : Hp} (hd : 10 ≤ d) {k3 : Option Nat → Nat → Nat → Int32 → Int32 → Hp → Prop} {Q : Hp → Prop} (hk3 : ∀ (v1 : Option Nat) (v2n : Nat) (v2 : Nat) (v3 : Int32) (v4 : Int32) (hh : Hp), k3 v1 v2n v2 v3 v4 hh → Rn l G d 0 0 MX7_findBarred h0 (qV Q) 3 [some (tR 7 0 (some 32)), some (tR 6 0 v1), some (tR 40 v2n (some v2)), some (tI v3), some (tI v4)] [] hh 0 0) {v1 : Option Nat} {v2n : Nat} {v2 : Nat} {v3 : Int32} {v4 : Int32} {h : Hp} (hm : m_X7_findBarred_85 k3 Q v1 v2n v2 v3 v4 h) : Rn l G d 0 0 MX7_findBarred h0 (qV Q) 85 [some (tR 7 0 (some 32)), some (tR 6 0 v1), some (tR 40 v2n (some v2)), some (tI v3), some (tI v4)] [] h 0 0 := by
  unfold m_X7_findBarred_85 at hm
  obtain ⟨x1, e_x1⟩ : ∃ y : Int32, y = v4 + 1 := ⟨_, rfl⟩
  replace hm := hm x1 e_x1
  refine r_iinc (L' := [some (tR 7 0 (some 32)), some (tR 6 0 v1), some (tR 40 v2n (some v2)), some (tI v3), some (tI x1)]) dX7_findBarred_85 rfl (by rw [e_x1]; rfl) (by decide) rfl ?_
  refine r_goto (tgt := 3) dX7_findBarred_88 rfl ?_
  refine r_keep (L' := [some (tR 7 0 (some 32)), some (tR 6 0 v1), some (tR 40 v2n (some v2)), some (tI v3), some (tI x1)]) [true, true, true, true, true] rfl ?_
  exact hk3 _ _ _ _ _ _ hm
def m_X7_findBarred_79 (k22 : Option Nat → Nat → Nat → Int32 → Int32 → Int32 → Hp → Prop) (k85 : Option Nat → Nat → Nat → Int32 → Int32 → Hp → Prop) (Q : Hp → Prop) (v1 : Nat) (v2n : Nat) (v2 : Nat) (v3 : Int32) (v4 : Int32) (v5 : Int32) (h : Hp) : Prop := ∀ x2 : Int32, x2 = v5 + 1 → k22 (some v1) v2n v2 v3 v4 x2 h
set_option maxHeartbeats 4000000 in
set_option maxRecDepth 100000 in
theorem s_X7_findBarred_79 {l : Launch} {G : Cx} {d : Nat} {h0 : Hp} (hd : 10 ≤ d) {k22 : Option Nat → Nat → Nat → Int32 → Int32 → Int32 → Hp → Prop} {k85 : Option Nat → Nat → Nat → Int32 → Int32 → Hp → Prop} {Q : Hp → Prop} (hk22 : ∀ (v1 : Option Nat) (v2n : Nat) (v2 : Nat) (v3 : Int32) (v4 : Int32) (v5 : Int32) (hh : Hp), k22 v1 v2n v2 v3 v4 v5 hh → Rn l G d 0 0 MX7_findBarred h0 (qV Q) 22 [some (tR 7 0 (some 32)), some (tR 6 0 v1), some (tR 40 v2n (some v2)), some (tI v3), some (tI v4), some (tI v5)] [] hh 0 0) (hk85 : ∀ (v1 : Option Nat) (v2n : Nat) (v2 : Nat) (v3 : Int32) (v4 : Int32) (hh : Hp), k85 v1 v2n v2 v3 v4 hh → Rn l G d 0 0 MX7_findBarred h0 (qV Q) 85 [some (tR 7 0 (some 32)), some (tR 6 0 v1), some (tR 40 v2n (some v2)), some (tI v3), some (tI v4)] [] hh 0 0) {v1 : Nat} {v2n : Nat} {v2 : Nat} {v3 : Int32} {v4 : Int32} {v5 : Int32} {h : Hp} (hm : m_X7_findBarred_79 k22 k85 Q v1 v2n v2 v3 v4 v5 h) : Rn l G d 0 0 MX7_findBarred h0 (qV Q) 79 [some (tR 7 0 (some 32)), some (tR 6 0 (some v1)), some (tR 40 v2n (some v2)), some (tI v3), some (tI v4), some (tI v5)] [] h 0 0 := by
  unfold m_X7_findBarred_79 at hm
  obtain ⟨x2, e_x2⟩ : ∃ y : Int32, y = v5 + 1 := ⟨_, rfl⟩
  replace hm := hm x2 e_x2
  refine r_iinc (L' := [some (tR 7 0 (some 32)), some (tR 6 0 (some v1)), some (tR 40 v2n (some v2)), some (tI v3), some (tI v4), some (tI x2)]) dX7_findBarred_79 rfl (by rw [e_x2]; rfl) (by decide) rfl ?_
  refine r_goto (tgt := 22) dX7_findBarred_82 rfl ?_
  refine r_keep (L' := [some (tR 7 0 (some 32)), some (tR 6 0 (some v1)), some (tR 40 v2n (some v2)), some (tI v3), some (tI v4), some (tI x2)]) [true, true, true, true, true, true] rfl ?_
  exact hk22 _ _ _ _ _ _ _ hm
def m_X7_findBarred_22 : Nat → (Option Nat → Nat → Nat → Int32 → Int32 → Hp → Prop) → (Hp → Prop) → Option Nat → Nat → Nat → Int32 → Int32 → Int32 → Hp → Prop
  | 0, _, _, _, _, _, _, _, _, _ => False
  | n + 1, k85, Q, v1, v2n, v2, v3, v4, v5, h => (v4 < v5 → k85 v1 v2n v2 v3 v4 h) ∧ (¬ v4 < v5 → (v1 = none → k85 none v2n v2 v3 v4 h) ∧ (∀ b3 : Nat, v1 = some b3 → vp_in v5 10 ∧ ∃ b4 : Nat, hR h 33 (ix v5) = some b4 ∧ (vp_in v4 10 ∧ ∃ b5 : Nat, hR h 33 (ix v4) = some b5 ∧ (m_X3_hearPair b4 b5 h (fun (h7 : Hp) => m_X3_firstThatBars b3 h7 (fun (x8 : Int32) (h9 : Hp) => (x8 = (-1) → m_X7_findBarred_79 (fun (v1 : Option Nat) (v2n : Nat) (v2 : Nat) (v3 : Int32) (v4 : Int32) (v5 : Int32) (hh : Hp) => m_X7_findBarred_22 n k85 Q v1 v2n v2 v3 v4 v5 hh) k85 Q b3 v2n v2 v3 v4 v5 h9) ∧ (¬ x8 = (-1) → vp_in (v3 + v4) v2n ∧ (vp_in (v3 + v4) v2n ∧ (m_X7_findBarred_79 (fun (v1 : Option Nat) (v2n : Nat) (v2 : Nat) (v3 : Int32) (v4 : Int32) (v5 : Int32) (hh : Hp) => m_X7_findBarred_22 n k85 Q v1 v2n v2 v3 v4 v5 hh) k85 Q b3 v2n v2 v3 v4 v5 (wI h9 v2 (ix (v3 + v4)) ((hI h9 v2 (ix (v3 + v4))) ||| (1 <<< (v5 &&& 31)))))))))))))
set_option maxHeartbeats 4000000 in
set_option maxRecDepth 100000 in
theorem s_X7_findBarred_22 {l : Launch} {G : Cx} {d : Nat} {h0 : Hp} (hd : 10 ≤ d) {k85 : Option Nat → Nat → Nat → Int32 → Int32 → Hp → Prop} {Q : Hp → Prop} (hk85 : ∀ (v1 : Option Nat) (v2n : Nat) (v2 : Nat) (v3 : Int32) (v4 : Int32) (hh : Hp), k85 v1 v2n v2 v3 v4 hh → Rn l G d 0 0 MX7_findBarred h0 (qV Q) 85 [some (tR 7 0 (some 32)), some (tR 6 0 v1), some (tR 40 v2n (some v2)), some (tI v3), some (tI v4)] [] hh 0 0) : ∀ {n : Nat} {v1 : Option Nat} {v2n : Nat} {v2 : Nat} {v3 : Int32} {v4 : Int32} {v5 : Int32} {h : Hp}, m_X7_findBarred_22 n k85 Q v1 v2n v2 v3 v4 v5 h → Rn l G d 0 0 MX7_findBarred h0 (qV Q) 22 [some (tR 7 0 (some 32)), some (tR 6 0 v1), some (tR 40 v2n (some v2)), some (tI v3), some (tI v4), some (tI v5)] [] h 0 0 := by
  intro n
  induction n with
  | zero => intro v1 v2n v2 v3 v4 v5 h hm; exact hm.elim
  | succ n ih =>
    intro v1 v2n v2 v3 v4 v5 h hm
    have hk22 := fun (v1 : Option Nat) (v2n : Nat) (v2 : Nat) (v3 : Int32) (v4 : Int32) (v5 : Int32) (hh : Hp) (hm : m_X7_findBarred_22 n k85 Q v1 v2n v2 v3 v4 v5 hh) => ih hm
    rw [m_X7_findBarred_22] at hm
    refine r_iload dX7_findBarred_22 rfl ?_
    refine r_iload dX7_findBarred_24 rfl ?_
    refine r_icmp_gt (tgt := 85) dX7_findBarred_26 rfl (fun hc => ?_) (fun hc => ?_)
    · replace hm := hm.1 hc
      refine r_keep (L' := [some (tR 7 0 (some 32)), some (tR 6 0 v1), some (tR 40 v2n (some v2)), some (tI v3), some (tI v4)]) [true, true, true, true, true] rfl ?_
      exact hk85 _ _ _ _ _ _ hm
    · replace hm := hm.2 hc
      refine r_aload_n dX7_findBarred_29 rfl rfl ?_
      refine r_ifnull (tgt := 85) dX7_findBarred_30 rfl (fun hc => ?_) (fun hc => ?_)
      · replace hm := hm.1 hc
        subst hc
        refine r_keep (L' := [some (tR 7 0 (some 32)), some (tR 6 0 none), some (tR 40 v2n (some v2)), some (tI v3), some (tI v4)]) [true, true, true, true, true] rfl ?_
        exact hk85 _ _ _ _ _ _ hm
      · obtain ⟨b3, hc⟩ := Option.ne_none_iff_exists'.mp hc
        replace hm := hm.2 b3 hc
        subst hc
        refine r_aload_n dX7_findBarred_33 rfl rfl ?_
        refine r_getC (k := 1) cl_7 dX7_findBarred_34 t_268 gf_7_1.1 gf_7_1.2 (gc_7_1 _) ?_
        refine r_aload_n dX7_findBarred_37 rfl rfl ?_
        refine r_getC (k := 2) cl_7 dX7_findBarred_38 t_269 gf_7_2.1 gf_7_2.2 (gc_7_2 _) ?_
        refine r_iload dX7_findBarred_41 rfl ?_
        obtain ⟨hi_b4, b4, hb_b4, hm⟩ := hm
        refine r_aaldS (kd := 1) (ti := 5) (cn := RX1) dX7_findBarred_43 rfl hi_b4 hb_b4 ?_
        refine r_aload_n dX7_findBarred_44 rfl rfl ?_
        refine r_getC (k := 2) cl_7 dX7_findBarred_45 t_269 gf_7_2.1 gf_7_2.2 (gc_7_2 _) ?_
        refine r_iload dX7_findBarred_48 rfl ?_
        obtain ⟨hi_b5, b5, hb_b5, hm⟩ := hm
        refine r_aaldS (kd := 1) (ti := 5) (cn := RX1) dX7_findBarred_50 rfl hi_b5 hb_b5 ?_
        refine r_callVU (d' := d - 1) (as := [tR 1 0 (some b4), tR 1 0 (some b5)]) (st := []) cl_3 dX7_findBarred_51 mi_X3_hearPair t_1123 t_1124 t_1125 rfl rfl (Nat.le_of_ble_eq_true rfl) (by omega) ⟨by decide, by decide⟩ ⟨rfl, rfl⟩ (s_X3_hearPair (by omega) hm) (fun h7 hm => ?_)
        refine r_aload_n dX7_findBarred_54 rfl rfl ?_
        refine r_getC (k := 1) cl_7 dX7_findBarred_55 t_268 gf_7_1.1 gf_7_1.2 (gc_7_1 _) ?_
        refine r_aload_n dX7_findBarred_58 rfl rfl ?_
        refine r_callVI (d' := d - 1) (as := [tR 6 0 (some b3)]) (st := []) cl_3 dX7_findBarred_59 mi_X3_firstThatBars t_1127 t_1075 t_1076 rfl rfl (Nat.le_of_ble_eq_true rfl) (by omega) ⟨by decide, by decide⟩ ⟨rfl, rfl⟩ (s_X3_firstThatBars (by omega) hm) (fun x8 h9 hm => ?_)
        refine r_iconst (v := (-1)) dX7_findBarred_62 rfl ?_
        refine r_icmp_eq (tgt := 79) dX7_findBarred_63 rfl (fun hc => ?_) (fun hc => ?_)
        · replace hm := hm.1 hc
          refine r_keep (L' := [some (tR 7 0 (some 32)), some (tR 6 0 (some b3)), some (tR 40 v2n (some v2)), some (tI v3), some (tI v4), some (tI v5)]) [true, true, true, true, true, true] rfl ?_
          exact s_X7_findBarred_79 hd hk22 hk85 hm
        · replace hm := hm.2 hc
          refine r_aload_n dX7_findBarred_66 rfl rfl ?_
          refine r_iload_n dX7_findBarred_67 rfl rfl ?_
          refine r_iload dX7_findBarred_68 rfl ?_
          refine r_iadd dX7_findBarred_70 ?_
          refine r_dup2 dX7_findBarred_71 rfl cv_cat1R ?_
          refine r_iald dX7_findBarred_72 hm.1 ?_
          replace hm := hm.2
          refine r_iconst (v := 1) dX7_findBarred_73 rfl ?_
          refine r_iload dX7_findBarred_74 rfl ?_
          refine r_ishl dX7_findBarred_76 ?_
          refine r_ior dX7_findBarred_77 ?_
          refine r_iast dX7_findBarred_78 hm.1 ?_
          replace hm := hm.2
          refine r_keep (L' := [some (tR 7 0 (some 32)), some (tR 6 0 (some b3)), some (tR 40 v2n (some v2)), some (tI v3), some (tI v4), some (tI v5)]) [true, true, true, true, true, true] rfl ?_
          exact s_X7_findBarred_79 hd hk22 hk85 hm
def m_X7_findBarred_3 : Nat → (Hp → Prop) → Option Nat → Nat → Nat → Int32 → Int32 → Hp → Prop
  | 0, _, _, _, _, _, _, _ => False
  | n + 1, Q, v1, v2n, v2, v3, v4, h => ((hI h 32 3) ≤ v4 → Q h) ∧ (¬ (hI h 32 3) ≤ v4 → vp_in (v3 + v4) v2n ∧ (∃ n22, m_X7_findBarred_22 n22 (m_X7_findBarred_85 (fun (v1 : Option Nat) (v2n : Nat) (v2 : Nat) (v3 : Int32) (v4 : Int32) (hh : Hp) => m_X7_findBarred_3 n Q v1 v2n v2 v3 v4 hh) Q) Q v1 v2n v2 v3 v4 0 (wI h v2 (ix (v3 + v4)) 0)))
set_option maxHeartbeats 4000000 in
set_option maxRecDepth 100000 in
theorem s_X7_findBarred_3 {l : Launch} {G : Cx} {d : Nat} {h0 : Hp} (hd : 10 ≤ d) {Q : Hp → Prop} : ∀ {n : Nat} {v1 : Option Nat} {v2n : Nat} {v2 : Nat} {v3 : Int32} {v4 : Int32} {h : Hp}, m_X7_findBarred_3 n Q v1 v2n v2 v3 v4 h → Rn l G d 0 0 MX7_findBarred h0 (qV Q) 3 [some (tR 7 0 (some 32)), some (tR 6 0 v1), some (tR 40 v2n (some v2)), some (tI v3), some (tI v4)] [] h 0 0 := by
  intro n
  induction n with
  | zero => intro v1 v2n v2 v3 v4 h hm; exact hm.elim
  | succ n ih =>
    intro v1 v2n v2 v3 v4 h hm
    have hk3 := fun (v1 : Option Nat) (v2n : Nat) (v2 : Nat) (v3 : Int32) (v4 : Int32) (hh : Hp) (hm : m_X7_findBarred_3 n Q v1 v2n v2 v3 v4 hh) => ih hm
    rw [m_X7_findBarred_3] at hm
    refine r_iload dX7_findBarred_3 rfl ?_
    refine r_aload_n dX7_findBarred_5 rfl rfl ?_
    refine r_getI (k := 3) cl_7 dX7_findBarred_6 t_270 (Or.inl rfl) gf_7_3 ?_
    refine r_icmp_ge (tgt := 91) dX7_findBarred_9 rfl (fun hc => ?_) (fun hc => ?_)
    · replace hm := hm.1 hc
      exact r_return dX7_findBarred_91 rfl ⟨by decide, by decide⟩ ⟨rfl, hm⟩
    · replace hm := hm.2 hc
      refine r_aload_n dX7_findBarred_12 rfl rfl ?_
      refine r_iload_n dX7_findBarred_13 rfl rfl ?_
      refine r_iload dX7_findBarred_14 rfl ?_
      refine r_iadd dX7_findBarred_16 ?_
      refine r_iconst (v := 0) dX7_findBarred_17 rfl ?_
      refine r_iast dX7_findBarred_18 hm.1 ?_
      replace hm := hm.2
      refine r_iconst (v := 0) dX7_findBarred_19 rfl ?_
      refine r_istore (L' := [some (tR 7 0 (some 32)), some (tR 6 0 v1), some (tR 40 v2n (some v2)), some (tI v3), some (tI v4), some (tI 0)]) dX7_findBarred_20 (by decide) rfl ?_
      refine r_keep (L' := [some (tR 7 0 (some 32)), some (tR 6 0 v1), some (tR 40 v2n (some v2)), some (tI v3), some (tI v4), some (tI 0)]) [true, true, true, true, true, true] rfl ?_
      obtain ⟨n, hm⟩ := hm
      refine s_X7_findBarred_22 hd ?_ hm
      · exact (fun _ _ _ _ _ _ hm => s_X7_findBarred_85 hd hk3 hm)
def m_X7_findBarred (v1 : Option Nat) (v2 : Nat) (v2n : Nat) (v3 : Int32) (h : Hp) (Q : Hp → Prop) : Prop := ∃ n3, m_X7_findBarred_3 n3 Q v1 v2n v2 v3 0 h
set_option maxHeartbeats 4000000 in
set_option maxRecDepth 100000 in
theorem s_X7_findBarred {l : Launch} {G : Cx} {d : Nat} (hd : 10 ≤ d) {v1 : Option Nat} {v2 : Nat} {v2n : Nat} {v3 : Int32} {h : Hp} {Q : Hp → Prop} (hm : m_X7_findBarred v1 v2 v2n v3 h Q) : Ct l G d 0 0 yX7_findBarred MX7_findBarred [tR 7 0 (some 32), tR 6 0 v1, tR 40 v2n (some v2), tI v3] h (qV Q) := by
  unfold m_X7_findBarred at hm
  refine Ct.of (L := [some (tR 7 0 (some 32)), some (tR 6 0 v1), some (tR 40 v2n (some v2)), some (tI v3)]) (by decide) rfl rfl (Nat.le_of_ble_eq_true rfl) rfl ?_
  refine r_iconst (v := 0) dX7_findBarred_0 rfl ?_
  refine r_istore (L' := [some (tR 7 0 (some 32)), some (tR 6 0 v1), some (tR 40 v2n (some v2)), some (tI v3), some (tI 0)]) dX7_findBarred_1 (by decide) rfl ?_
  refine r_keep (L' := [some (tR 7 0 (some 32)), some (tR 6 0 v1), some (tR 40 v2n (some v2)), some (tI v3), some (tI 0)]) [true, true, true, true, true] rfl ?_
  obtain ⟨n, hm⟩ := hm
  refine s_X7_findBarred_3 hd hm
theorem dX7_mayLend_0 : decode cX7_mayLend 0 = .ok (.iconst 0, 1) := by decide +kernel
theorem dX7_mayLend_1 : decode cX7_mayLend 1 = .ok (.istore_n 2, 1) := by decide +kernel
theorem dX7_mayLend_2 : decode cX7_mayLend 2 = .ok (.iconst 0, 1) := by decide +kernel
theorem dX7_mayLend_3 : decode cX7_mayLend 3 = .ok (.istore_n 3, 1) := by decide +kernel
theorem dX7_mayLend_4 : decode cX7_mayLend 4 = .ok (.iconst 0, 1) := by decide +kernel
theorem dX7_mayLend_5 : decode cX7_mayLend 5 = .ok (.istore 4, 2) := by decide +kernel
theorem dX7_mayLend_7 : decode cX7_mayLend 7 = .ok (.iload 4, 2) := by decide +kernel
theorem dX7_mayLend_9 : decode cX7_mayLend 9 = .ok (.bipush 8, 2) := by decide +kernel
theorem dX7_mayLend_11 : decode cX7_mayLend 11 = .ok (.if_icmp .ge 136, 3) := by decide +kernel
theorem dX7_mayLend_14 : decode cX7_mayLend 14 = .ok (.iload_n 1, 1) := by decide +kernel
theorem dX7_mayLend_15 : decode cX7_mayLend 15 = .ok (.iload 4, 2) := by decide +kernel
theorem dX7_mayLend_17 : decode cX7_mayLend 17 = .ok (.bipush 6, 2) := by decide +kernel
theorem dX7_mayLend_19 : decode cX7_mayLend 19 = .ok (.imul, 1) := by decide +kernel
theorem dX7_mayLend_20 : decode cX7_mayLend 20 = .ok (.iadd, 1) := by decide +kernel
theorem dX7_mayLend_21 : decode cX7_mayLend 21 = .ok (.istore 5, 2) := by decide +kernel
theorem dX7_mayLend_23 : decode cX7_mayLend 23 = .ok (.aload_n 0, 1) := by decide +kernel
theorem dX7_mayLend_24 : decode cX7_mayLend 24 = .ok (.getfield 44, 3) := by decide +kernel
theorem dX7_mayLend_27 : decode cX7_mayLend 27 = .ok (.iload 5, 2) := by decide +kernel
theorem dX7_mayLend_29 : decode cX7_mayLend 29 = .ok (.iconst 0, 1) := by decide +kernel
theorem dX7_mayLend_30 : decode cX7_mayLend 30 = .ok (.iadd, 1) := by decide +kernel
theorem dX7_mayLend_31 : decode cX7_mayLend 31 = .ok (.laload, 1) := by decide +kernel
theorem dX7_mayLend_32 : decode cX7_mayLend 32 = .ok (.lconst 0, 1) := by decide +kernel
theorem dX7_mayLend_33 : decode cX7_mayLend 33 = .ok (.lcmp, 1) := by decide +kernel
theorem dX7_mayLend_34 : decode cX7_mayLend 34 = .ok (.ifCond .eq 7, 3) := by decide +kernel
theorem dX7_mayLend_37 : decode cX7_mayLend 37 = .ok (.iconst 1, 1) := by decide +kernel
theorem dX7_mayLend_38 : decode cX7_mayLend 38 = .ok (.goto 4, 3) := by decide +kernel
theorem dX7_mayLend_41 : decode cX7_mayLend 41 = .ok (.iconst 0, 1) := by decide +kernel
theorem dX7_mayLend_42 : decode cX7_mayLend 42 = .ok (.istore 6, 2) := by decide +kernel
theorem dX7_mayLend_44 : decode cX7_mayLend 44 = .ok (.iconst 1, 1) := by decide +kernel
theorem dX7_mayLend_45 : decode cX7_mayLend 45 = .ok (.istore 7, 2) := by decide +kernel
theorem dX7_mayLend_47 : decode cX7_mayLend 47 = .ok (.iload 7, 2) := by decide +kernel
theorem dX7_mayLend_49 : decode cX7_mayLend 49 = .ok (.bipush 6, 2) := by decide +kernel
theorem dX7_mayLend_51 : decode cX7_mayLend 51 = .ok (.if_icmp .ge 36, 3) := by decide +kernel
theorem dX7_mayLend_54 : decode cX7_mayLend 54 = .ok (.iload 6, 2) := by decide +kernel
theorem dX7_mayLend_56 : decode cX7_mayLend 56 = .ok (.ifCond .eq 31, 3) := by decide +kernel
theorem dX7_mayLend_59 : decode cX7_mayLend 59 = .ok (.aload_n 0, 1) := by decide +kernel
theorem dX7_mayLend_60 : decode cX7_mayLend 60 = .ok (.getfield 44, 3) := by decide +kernel
theorem dX7_mayLend_63 : decode cX7_mayLend 63 = .ok (.iload 5, 2) := by decide +kernel
theorem dX7_mayLend_65 : decode cX7_mayLend 65 = .ok (.iload 7, 2) := by decide +kernel
theorem dX7_mayLend_67 : decode cX7_mayLend 67 = .ok (.iadd, 1) := by decide +kernel
theorem dX7_mayLend_68 : decode cX7_mayLend 68 = .ok (.laload, 1) := by decide +kernel
theorem dX7_mayLend_69 : decode cX7_mayLend 69 = .ok (.lconst 0, 1) := by decide +kernel
theorem dX7_mayLend_70 : decode cX7_mayLend 70 = .ok (.lcmp, 1) := by decide +kernel
theorem dX7_mayLend_71 : decode cX7_mayLend 71 = .ok (.ifCond .ne 7, 3) := by decide +kernel
theorem dX7_mayLend_74 : decode cX7_mayLend 74 = .ok (.iconst 1, 1) := by decide +kernel
theorem dX7_mayLend_75 : decode cX7_mayLend 75 = .ok (.goto 4, 3) := by decide +kernel
theorem dX7_mayLend_78 : decode cX7_mayLend 78 = .ok (.iconst 0, 1) := by decide +kernel
theorem dX7_mayLend_79 : decode cX7_mayLend 79 = .ok (.istore 6, 2) := by decide +kernel
theorem dX7_mayLend_81 : decode cX7_mayLend 81 = .ok (.iinc 7 1, 3) := by decide +kernel
theorem dX7_mayLend_84 : decode cX7_mayLend 84 = .ok (.goto (-37), 3) := by decide +kernel
theorem dX7_mayLend_87 : decode cX7_mayLend 87 = .ok (.iload_n 2, 1) := by decide +kernel
theorem dX7_mayLend_88 : decode cX7_mayLend 88 = .ok (.iload 6, 2) := by decide +kernel
theorem dX7_mayLend_90 : decode cX7_mayLend 90 = .ok (.ifCond .eq 21, 3) := by decide +kernel
theorem dX7_mayLend_93 : decode cX7_mayLend 93 = .ok (.aload_n 0, 1) := by decide +kernel
theorem dX7_mayLend_94 : decode cX7_mayLend 94 = .ok (.getfield 44, 3) := by decide +kernel
theorem dX7_mayLend_97 : decode cX7_mayLend 97 = .ok (.iload 5, 2) := by decide +kernel
theorem dX7_mayLend_99 : decode cX7_mayLend 99 = .ok (.iconst 0, 1) := by decide +kernel
theorem dX7_mayLend_100 : decode cX7_mayLend 100 = .ok (.iadd, 1) := by decide +kernel
theorem dX7_mayLend_101 : decode cX7_mayLend 101 = .ok (.laload, 1) := by decide +kernel
theorem dX7_mayLend_102 : decode cX7_mayLend 102 = .ok (.lconst 0, 1) := by decide +kernel
theorem dX7_mayLend_103 : decode cX7_mayLend 103 = .ok (.lcmp, 1) := by decide +kernel
theorem dX7_mayLend_104 : decode cX7_mayLend 104 = .ok (.ifCond .le 7, 3) := by decide +kernel
theorem dX7_mayLend_107 : decode cX7_mayLend 107 = .ok (.iconst 1, 1) := by decide +kernel
theorem dX7_mayLend_108 : decode cX7_mayLend 108 = .ok (.goto 4, 3) := by decide +kernel
theorem dX7_mayLend_111 : decode cX7_mayLend 111 = .ok (.iconst 0, 1) := by decide +kernel
theorem dX7_mayLend_112 : decode cX7_mayLend 112 = .ok (.ior, 1) := by decide +kernel
theorem dX7_mayLend_113 : decode cX7_mayLend 113 = .ok (.istore_n 2, 1) := by decide +kernel
theorem dX7_mayLend_114 : decode cX7_mayLend 114 = .ok (.iload_n 3, 1) := by decide +kernel
theorem dX7_mayLend_115 : decode cX7_mayLend 115 = .ok (.iload 6, 2) := by decide +kernel
theorem dX7_mayLend_117 : decode cX7_mayLend 117 = .ok (.ifCond .eq 21, 3) := by decide +kernel
theorem dX7_mayLend_120 : decode cX7_mayLend 120 = .ok (.aload_n 0, 1) := by decide +kernel
theorem dX7_mayLend_121 : decode cX7_mayLend 121 = .ok (.getfield 44, 3) := by decide +kernel
theorem dX7_mayLend_124 : decode cX7_mayLend 124 = .ok (.iload 5, 2) := by decide +kernel
theorem dX7_mayLend_126 : decode cX7_mayLend 126 = .ok (.iconst 0, 1) := by decide +kernel
theorem dX7_mayLend_127 : decode cX7_mayLend 127 = .ok (.iadd, 1) := by decide +kernel
theorem dX7_mayLend_128 : decode cX7_mayLend 128 = .ok (.laload, 1) := by decide +kernel
theorem dX7_mayLend_129 : decode cX7_mayLend 129 = .ok (.lconst 0, 1) := by decide +kernel
theorem dX7_mayLend_130 : decode cX7_mayLend 130 = .ok (.lcmp, 1) := by decide +kernel
theorem dX7_mayLend_131 : decode cX7_mayLend 131 = .ok (.ifCond .ge 7, 3) := by decide +kernel
theorem dX7_mayLend_134 : decode cX7_mayLend 134 = .ok (.iconst 1, 1) := by decide +kernel
theorem dX7_mayLend_135 : decode cX7_mayLend 135 = .ok (.goto 4, 3) := by decide +kernel
theorem dX7_mayLend_138 : decode cX7_mayLend 138 = .ok (.iconst 0, 1) := by decide +kernel
theorem dX7_mayLend_139 : decode cX7_mayLend 139 = .ok (.ior, 1) := by decide +kernel
theorem dX7_mayLend_140 : decode cX7_mayLend 140 = .ok (.istore_n 3, 1) := by decide +kernel
theorem dX7_mayLend_141 : decode cX7_mayLend 141 = .ok (.iinc 4 1, 3) := by decide +kernel
theorem dX7_mayLend_144 : decode cX7_mayLend 144 = .ok (.goto (-137), 3) := by decide +kernel
theorem dX7_mayLend_147 : decode cX7_mayLend 147 = .ok (.iload_n 2, 1) := by decide +kernel
theorem dX7_mayLend_148 : decode cX7_mayLend 148 = .ok (.ifCond .eq 11, 3) := by decide +kernel
theorem dX7_mayLend_151 : decode cX7_mayLend 151 = .ok (.iload_n 3, 1) := by decide +kernel
theorem dX7_mayLend_152 : decode cX7_mayLend 152 = .ok (.ifCond .eq 7, 3) := by decide +kernel
theorem dX7_mayLend_155 : decode cX7_mayLend 155 = .ok (.iconst 1, 1) := by decide +kernel
theorem dX7_mayLend_156 : decode cX7_mayLend 156 = .ok (.goto 4, 3) := by decide +kernel
theorem dX7_mayLend_159 : decode cX7_mayLend 159 = .ok (.iconst 0, 1) := by decide +kernel
theorem dX7_mayLend_160 : decode cX7_mayLend 160 = .ok (.ireturn, 1) := by decide +kernel
def m_X7_mayLend_147  (Q : Int32 → Hp → Prop) (v2 : Int32) (v3 : Int32) (h : Hp) : Prop := (v2 = 0 → Q 0 h) ∧ (¬ v2 = 0 → (v3 = 0 → Q 0 h) ∧ (¬ v3 = 0 → Q 1 h))
set_option maxHeartbeats 4000000 in
set_option maxRecDepth 100000 in
theorem s_X7_mayLend_147 {l : Launch} {G : Cx} {d : Nat} {h0 : Hp} (hd : 2 ≤ d) {Q : Int32 → Hp → Prop} {v2 : Int32} {v3 : Int32} {h : Hp} (hm : m_X7_mayLend_147 Q v2 v3 h) : Rn l G d 0 0 MX7_mayLend h0 (qI Q) 147 [none, none, some (tI v2), some (tI v3)] [] h 0 0 := by
  unfold m_X7_mayLend_147 at hm
  refine r_iload_n dX7_mayLend_147 rfl rfl ?_
  refine r_if_eq (tgt := 159) dX7_mayLend_148 rfl (fun hc => ?_) (fun hc => ?_)
  · replace hm := hm.1 hc
    refine r_iconst (v := 0) dX7_mayLend_159 rfl ?_
    exact r_bret dX7_mayLend_160 rfl ⟨by decide, by decide⟩ (by unfold bz; decide) ⟨_, rfl, hm⟩
  · replace hm := hm.2 hc
    refine r_iload_n dX7_mayLend_151 rfl rfl ?_
    refine r_if_eq (tgt := 159) dX7_mayLend_152 rfl (fun hc => ?_) (fun hc => ?_)
    · replace hm := hm.1 hc
      refine r_iconst (v := 0) dX7_mayLend_159 rfl ?_
      exact r_bret dX7_mayLend_160 rfl ⟨by decide, by decide⟩ (by unfold bz; decide) ⟨_, rfl, hm⟩
    · replace hm := hm.2 hc
      refine r_iconst (v := 1) dX7_mayLend_155 rfl ?_
      refine r_goto (tgt := 160) dX7_mayLend_156 rfl ?_
      exact r_bret dX7_mayLend_160 rfl ⟨by decide, by decide⟩ (by unfold bz; decide) ⟨_, rfl, hm⟩
def m_X7_mayLend_139 (k7 : Int32 → Int32 → Int32 → Int32 → Hp → Prop) (k147 : Int32 → Int32 → Hp → Prop) (Q : Int32 → Hp → Prop) (v1 : Int32) (v2 : Int32) (v4 : Int32) (s0 : Int32) (s1 : Int32) (h : Hp) : Prop := ∀ x1 : Int32, x1 = (s0 ||| s1) → ∀ x2 : Int32, x2 = v4 + 1 → k7 v1 v2 x1 x2 h
set_option maxHeartbeats 4000000 in
set_option maxRecDepth 100000 in
theorem s_X7_mayLend_139 {l : Launch} {G : Cx} {d : Nat} {h0 : Hp} (hd : 2 ≤ d) {k7 : Int32 → Int32 → Int32 → Int32 → Hp → Prop} {k147 : Int32 → Int32 → Hp → Prop} {Q : Int32 → Hp → Prop} (hk7 : ∀ (v1 : Int32) (v2 : Int32) (v3 : Int32) (v4 : Int32) (hh : Hp), k7 v1 v2 v3 v4 hh → Rn l G d 0 0 MX7_mayLend h0 (qI Q) 7 [some (tR 7 0 (some 32)), some (tI v1), some (tI v2), some (tI v3), some (tI v4)] [] hh 0 0) (hk147 : ∀ (v2 : Int32) (v3 : Int32) (hh : Hp), k147 v2 v3 hh → Rn l G d 0 0 MX7_mayLend h0 (qI Q) 147 [none, none, some (tI v2), some (tI v3)] [] hh 0 0) {v1 : Int32} {v2 : Int32} {v4 : Int32} {s0 : Int32} {s1 : Int32} {h : Hp} (hm : m_X7_mayLend_139 k7 k147 Q v1 v2 v4 s0 s1 h) : Rn l G d 0 0 MX7_mayLend h0 (qI Q) 139 [some (tR 7 0 (some 32)), some (tI v1), some (tI v2), none, some (tI v4)] [tI s1, tI s0] h 0 0 := by
  unfold m_X7_mayLend_139 at hm
  refine r_ior dX7_mayLend_139 ?_
  refine r_nmI (fun x1 e_x1 => ?_)
  replace hm := hm x1 e_x1
  refine r_istore_n (L' := [some (tR 7 0 (some 32)), some (tI v1), some (tI v2), some (tI x1), some (tI v4)]) dX7_mayLend_140 rfl (by decide) rfl ?_
  obtain ⟨x2, e_x2⟩ : ∃ y : Int32, y = v4 + 1 := ⟨_, rfl⟩
  replace hm := hm x2 e_x2
  refine r_iinc (L' := [some (tR 7 0 (some 32)), some (tI v1), some (tI v2), some (tI x1), some (tI x2)]) dX7_mayLend_141 rfl (by rw [e_x2]; rfl) (by decide) rfl ?_
  refine r_goto (tgt := 7) dX7_mayLend_144 rfl ?_
  refine r_keep (L' := [some (tR 7 0 (some 32)), some (tI v1), some (tI v2), some (tI x1), some (tI x2)]) [true, true, true, true, true] rfl ?_
  exact hk7 _ _ _ _ _ hm
def m_X7_mayLend_138 (k7 : Int32 → Int32 → Int32 → Int32 → Hp → Prop) (k147 : Int32 → Int32 → Hp → Prop) (Q : Int32 → Hp → Prop) (v1 : Int32) (v2 : Int32) (v4 : Int32) (s0 : Int32) (h : Hp) : Prop := m_X7_mayLend_139 k7 k147 Q v1 v2 v4 s0 0 h
set_option maxHeartbeats 4000000 in
set_option maxRecDepth 100000 in
theorem s_X7_mayLend_138 {l : Launch} {G : Cx} {d : Nat} {h0 : Hp} (hd : 2 ≤ d) {k7 : Int32 → Int32 → Int32 → Int32 → Hp → Prop} {k147 : Int32 → Int32 → Hp → Prop} {Q : Int32 → Hp → Prop} (hk7 : ∀ (v1 : Int32) (v2 : Int32) (v3 : Int32) (v4 : Int32) (hh : Hp), k7 v1 v2 v3 v4 hh → Rn l G d 0 0 MX7_mayLend h0 (qI Q) 7 [some (tR 7 0 (some 32)), some (tI v1), some (tI v2), some (tI v3), some (tI v4)] [] hh 0 0) (hk147 : ∀ (v2 : Int32) (v3 : Int32) (hh : Hp), k147 v2 v3 hh → Rn l G d 0 0 MX7_mayLend h0 (qI Q) 147 [none, none, some (tI v2), some (tI v3)] [] hh 0 0) {v1 : Int32} {v2 : Int32} {v4 : Int32} {s0 : Int32} {h : Hp} (hm : m_X7_mayLend_138 k7 k147 Q v1 v2 v4 s0 h) : Rn l G d 0 0 MX7_mayLend h0 (qI Q) 138 [some (tR 7 0 (some 32)), some (tI v1), some (tI v2), none, some (tI v4)] [tI s0] h 0 0 := by
  unfold m_X7_mayLend_138 at hm
  refine r_iconst (v := 0) dX7_mayLend_138 rfl ?_
  refine r_keep (L' := [some (tR 7 0 (some 32)), some (tI v1), some (tI v2), none, some (tI v4)]) [true, true, true, false, true] rfl ?_
  exact s_X7_mayLend_139 hd hk7 hk147 hm
def m_X7_mayLend_112 (k7 : Int32 → Int32 → Int32 → Int32 → Hp → Prop) (k147 : Int32 → Int32 → Hp → Prop) (Q : Int32 → Hp → Prop) (v1 : Int32) (v3 : Int32) (v4 : Int32) (v5 : Int32) (v6 : Int32) (s0 : Int32) (s1 : Int32) (h : Hp) : Prop := ∀ x3 : Int32, x3 = (s0 ||| s1) → (v6 = 0 → m_X7_mayLend_138 k7 k147 Q v1 x3 v4 v3 h) ∧ (¬ v6 = 0 → vp_in (v5 + 0) 336 ∧ ((0 ≤ (lg_cmp (hJ h 42 (ix (v5 + 0))) 0) → m_X7_mayLend_138 k7 k147 Q v1 x3 v4 v3 h) ∧ (¬ 0 ≤ (lg_cmp (hJ h 42 (ix (v5 + 0))) 0) → m_X7_mayLend_139 k7 k147 Q v1 x3 v4 v3 1 h)))
set_option maxHeartbeats 4000000 in
set_option maxRecDepth 100000 in
theorem s_X7_mayLend_112 {l : Launch} {G : Cx} {d : Nat} {h0 : Hp} (hd : 2 ≤ d) {k7 : Int32 → Int32 → Int32 → Int32 → Hp → Prop} {k147 : Int32 → Int32 → Hp → Prop} {Q : Int32 → Hp → Prop} (hk7 : ∀ (v1 : Int32) (v2 : Int32) (v3 : Int32) (v4 : Int32) (hh : Hp), k7 v1 v2 v3 v4 hh → Rn l G d 0 0 MX7_mayLend h0 (qI Q) 7 [some (tR 7 0 (some 32)), some (tI v1), some (tI v2), some (tI v3), some (tI v4)] [] hh 0 0) (hk147 : ∀ (v2 : Int32) (v3 : Int32) (hh : Hp), k147 v2 v3 hh → Rn l G d 0 0 MX7_mayLend h0 (qI Q) 147 [none, none, some (tI v2), some (tI v3)] [] hh 0 0) {v1 : Int32} {v3 : Int32} {v4 : Int32} {v5 : Int32} {v6 : Int32} {s0 : Int32} {s1 : Int32} {h : Hp} (hm : m_X7_mayLend_112 k7 k147 Q v1 v3 v4 v5 v6 s0 s1 h) : Rn l G d 0 0 MX7_mayLend h0 (qI Q) 112 [some (tR 7 0 (some 32)), some (tI v1), none, some (tI v3), some (tI v4), some (tI v5), some (tI v6)] [tI s1, tI s0] h 0 0 := by
  unfold m_X7_mayLend_112 at hm
  refine r_ior dX7_mayLend_112 ?_
  refine r_nmI (fun x3 e_x3 => ?_)
  replace hm := hm x3 e_x3
  refine r_istore_n (L' := [some (tR 7 0 (some 32)), some (tI v1), some (tI x3), some (tI v3), some (tI v4), some (tI v5), some (tI v6)]) dX7_mayLend_113 rfl (by decide) rfl ?_
  refine r_iload_n dX7_mayLend_114 rfl rfl ?_
  refine r_iload dX7_mayLend_115 rfl ?_
  refine r_if_eq (tgt := 138) dX7_mayLend_117 rfl (fun hc => ?_) (fun hc => ?_)
  · replace hm := hm.1 hc
    refine r_keep (L' := [some (tR 7 0 (some 32)), some (tI v1), some (tI x3), none, some (tI v4)]) [true, true, true, false, true] rfl ?_
    exact s_X7_mayLend_138 hd hk7 hk147 hm
  · replace hm := hm.2 hc
    refine r_aload_n dX7_mayLend_120 rfl rfl ?_
    refine r_getC (k := 14) cl_7 dX7_mayLend_121 t_282 gf_7_14.1 gf_7_14.2 (gc_7_14 _) ?_
    refine r_iload dX7_mayLend_124 rfl ?_
    refine r_iconst (v := 0) dX7_mayLend_126 rfl ?_
    refine r_iadd dX7_mayLend_127 ?_
    refine r_lald dX7_mayLend_128 hm.1 ?_
    replace hm := hm.2
    refine r_lconst (v := 0) dX7_mayLend_129 rfl ?_
    refine r_lcmp dX7_mayLend_130 ?_
    refine r_if_ge (tgt := 138) dX7_mayLend_131 rfl (fun hc => ?_) (fun hc => ?_)
    · replace hm := hm.1 hc
      refine r_keep (L' := [some (tR 7 0 (some 32)), some (tI v1), some (tI x3), none, some (tI v4)]) [true, true, true, false, true] rfl ?_
      exact s_X7_mayLend_138 hd hk7 hk147 hm
    · replace hm := hm.2 hc
      refine r_iconst (v := 1) dX7_mayLend_134 rfl ?_
      refine r_goto (tgt := 139) dX7_mayLend_135 rfl ?_
      refine r_keep (L' := [some (tR 7 0 (some 32)), some (tI v1), some (tI x3), none, some (tI v4)]) [true, true, true, false, true] rfl ?_
      exact s_X7_mayLend_139 hd hk7 hk147 hm
def m_X7_mayLend_111 (k7 : Int32 → Int32 → Int32 → Int32 → Hp → Prop) (k147 : Int32 → Int32 → Hp → Prop) (Q : Int32 → Hp → Prop) (v1 : Int32) (v3 : Int32) (v4 : Int32) (v5 : Int32) (v6 : Int32) (s0 : Int32) (h : Hp) : Prop := m_X7_mayLend_112 k7 k147 Q v1 v3 v4 v5 v6 s0 0 h
set_option maxHeartbeats 4000000 in
set_option maxRecDepth 100000 in
theorem s_X7_mayLend_111 {l : Launch} {G : Cx} {d : Nat} {h0 : Hp} (hd : 2 ≤ d) {k7 : Int32 → Int32 → Int32 → Int32 → Hp → Prop} {k147 : Int32 → Int32 → Hp → Prop} {Q : Int32 → Hp → Prop} (hk7 : ∀ (v1 : Int32) (v2 : Int32) (v3 : Int32) (v4 : Int32) (hh : Hp), k7 v1 v2 v3 v4 hh → Rn l G d 0 0 MX7_mayLend h0 (qI Q) 7 [some (tR 7 0 (some 32)), some (tI v1), some (tI v2), some (tI v3), some (tI v4)] [] hh 0 0) (hk147 : ∀ (v2 : Int32) (v3 : Int32) (hh : Hp), k147 v2 v3 hh → Rn l G d 0 0 MX7_mayLend h0 (qI Q) 147 [none, none, some (tI v2), some (tI v3)] [] hh 0 0) {v1 : Int32} {v3 : Int32} {v4 : Int32} {v5 : Int32} {v6 : Int32} {s0 : Int32} {h : Hp} (hm : m_X7_mayLend_111 k7 k147 Q v1 v3 v4 v5 v6 s0 h) : Rn l G d 0 0 MX7_mayLend h0 (qI Q) 111 [some (tR 7 0 (some 32)), some (tI v1), none, some (tI v3), some (tI v4), some (tI v5), some (tI v6)] [tI s0] h 0 0 := by
  unfold m_X7_mayLend_111 at hm
  refine r_iconst (v := 0) dX7_mayLend_111 rfl ?_
  refine r_keep (L' := [some (tR 7 0 (some 32)), some (tI v1), none, some (tI v3), some (tI v4), some (tI v5), some (tI v6)]) [true, true, false, true, true, true, true] rfl ?_
  exact s_X7_mayLend_112 hd hk7 hk147 hm
def m_X7_mayLend_87 (k7 : Int32 → Int32 → Int32 → Int32 → Hp → Prop) (k147 : Int32 → Int32 → Hp → Prop) (Q : Int32 → Hp → Prop) (v1 : Int32) (v2 : Int32) (v3 : Int32) (v4 : Int32) (v5 : Int32) (v6 : Int32) (h : Hp) : Prop := (v6 = 0 → m_X7_mayLend_111 k7 k147 Q v1 v3 v4 v5 v6 v2 h) ∧ (¬ v6 = 0 → vp_in (v5 + 0) 336 ∧ (((lg_cmp (hJ h 42 (ix (v5 + 0))) 0) ≤ 0 → m_X7_mayLend_111 k7 k147 Q v1 v3 v4 v5 v6 v2 h) ∧ (¬ (lg_cmp (hJ h 42 (ix (v5 + 0))) 0) ≤ 0 → m_X7_mayLend_112 k7 k147 Q v1 v3 v4 v5 v6 v2 1 h)))
set_option maxHeartbeats 4000000 in
set_option maxRecDepth 100000 in
theorem s_X7_mayLend_87 {l : Launch} {G : Cx} {d : Nat} {h0 : Hp} (hd : 2 ≤ d) {k7 : Int32 → Int32 → Int32 → Int32 → Hp → Prop} {k147 : Int32 → Int32 → Hp → Prop} {Q : Int32 → Hp → Prop} (hk7 : ∀ (v1 : Int32) (v2 : Int32) (v3 : Int32) (v4 : Int32) (hh : Hp), k7 v1 v2 v3 v4 hh → Rn l G d 0 0 MX7_mayLend h0 (qI Q) 7 [some (tR 7 0 (some 32)), some (tI v1), some (tI v2), some (tI v3), some (tI v4)] [] hh 0 0) (hk147 : ∀ (v2 : Int32) (v3 : Int32) (hh : Hp), k147 v2 v3 hh → Rn l G d 0 0 MX7_mayLend h0 (qI Q) 147 [none, none, some (tI v2), some (tI v3)] [] hh 0 0) {v1 : Int32} {v2 : Int32} {v3 : Int32} {v4 : Int32} {v5 : Int32} {v6 : Int32} {h : Hp} (hm : m_X7_mayLend_87 k7 k147 Q v1 v2 v3 v4 v5 v6 h) : Rn l G d 0 0 MX7_mayLend h0 (qI Q) 87 [some (tR 7 0 (some 32)), some (tI v1), some (tI v2), some (tI v3), some (tI v4), some (tI v5), some (tI v6)] [] h 0 0 := by
  unfold m_X7_mayLend_87 at hm
  refine r_iload_n dX7_mayLend_87 rfl rfl ?_
  refine r_iload dX7_mayLend_88 rfl ?_
  refine r_if_eq (tgt := 111) dX7_mayLend_90 rfl (fun hc => ?_) (fun hc => ?_)
  · replace hm := hm.1 hc
    refine r_keep (L' := [some (tR 7 0 (some 32)), some (tI v1), none, some (tI v3), some (tI v4), some (tI v5), some (tI v6)]) [true, true, false, true, true, true, true] rfl ?_
    exact s_X7_mayLend_111 hd hk7 hk147 hm
  · replace hm := hm.2 hc
    refine r_aload_n dX7_mayLend_93 rfl rfl ?_
    refine r_getC (k := 14) cl_7 dX7_mayLend_94 t_282 gf_7_14.1 gf_7_14.2 (gc_7_14 _) ?_
    refine r_iload dX7_mayLend_97 rfl ?_
    refine r_iconst (v := 0) dX7_mayLend_99 rfl ?_
    refine r_iadd dX7_mayLend_100 ?_
    refine r_lald dX7_mayLend_101 hm.1 ?_
    replace hm := hm.2
    refine r_lconst (v := 0) dX7_mayLend_102 rfl ?_
    refine r_lcmp dX7_mayLend_103 ?_
    refine r_if_le (tgt := 111) dX7_mayLend_104 rfl (fun hc => ?_) (fun hc => ?_)
    · replace hm := hm.1 hc
      refine r_keep (L' := [some (tR 7 0 (some 32)), some (tI v1), none, some (tI v3), some (tI v4), some (tI v5), some (tI v6)]) [true, true, false, true, true, true, true] rfl ?_
      exact s_X7_mayLend_111 hd hk7 hk147 hm
    · replace hm := hm.2 hc
      refine r_iconst (v := 1) dX7_mayLend_107 rfl ?_
      refine r_goto (tgt := 112) dX7_mayLend_108 rfl ?_
      refine r_keep (L' := [some (tR 7 0 (some 32)), some (tI v1), none, some (tI v3), some (tI v4), some (tI v5), some (tI v6)]) [true, true, false, true, true, true, true] rfl ?_
      exact s_X7_mayLend_112 hd hk7 hk147 hm
def m_X7_mayLend_79 (k47 : Int32 → Int32 → Int32 → Int32 → Int32 → Int32 → Int32 → Hp → Prop) (k87 : Int32 → Int32 → Int32 → Int32 → Int32 → Int32 → Hp → Prop) (Q : Int32 → Hp → Prop) (v1 : Int32) (v2 : Int32) (v3 : Int32) (v4 : Int32) (v5 : Int32) (v7 : Int32) (s0 : Int32) (h : Hp) : Prop := ∀ x4 : Int32, x4 = v7 + 1 → k47 v1 v2 v3 v4 v5 s0 x4 h
set_option maxHeartbeats 4000000 in
set_option maxRecDepth 100000 in
theorem s_X7_mayLend_79 {l : Launch} {G : Cx} {d : Nat} {h0 : Hp} (hd : 2 ≤ d) {k47 : Int32 → Int32 → Int32 → Int32 → Int32 → Int32 → Int32 → Hp → Prop} {k87 : Int32 → Int32 → Int32 → Int32 → Int32 → Int32 → Hp → Prop} {Q : Int32 → Hp → Prop} (hk47 : ∀ (v1 : Int32) (v2 : Int32) (v3 : Int32) (v4 : Int32) (v5 : Int32) (v6 : Int32) (v7 : Int32) (hh : Hp), k47 v1 v2 v3 v4 v5 v6 v7 hh → Rn l G d 0 0 MX7_mayLend h0 (qI Q) 47 [some (tR 7 0 (some 32)), some (tI v1), some (tI v2), some (tI v3), some (tI v4), some (tI v5), some (tI v6), some (tI v7)] [] hh 0 0) (hk87 : ∀ (v1 : Int32) (v2 : Int32) (v3 : Int32) (v4 : Int32) (v5 : Int32) (v6 : Int32) (hh : Hp), k87 v1 v2 v3 v4 v5 v6 hh → Rn l G d 0 0 MX7_mayLend h0 (qI Q) 87 [some (tR 7 0 (some 32)), some (tI v1), some (tI v2), some (tI v3), some (tI v4), some (tI v5), some (tI v6)] [] hh 0 0) {v1 : Int32} {v2 : Int32} {v3 : Int32} {v4 : Int32} {v5 : Int32} {v7 : Int32} {s0 : Int32} {h : Hp} (hm : m_X7_mayLend_79 k47 k87 Q v1 v2 v3 v4 v5 v7 s0 h) : Rn l G d 0 0 MX7_mayLend h0 (qI Q) 79 [some (tR 7 0 (some 32)), some (tI v1), some (tI v2), some (tI v3), some (tI v4), some (tI v5), none, some (tI v7)] [tI s0] h 0 0 := by
  unfold m_X7_mayLend_79 at hm
  refine r_istore (L' := [some (tR 7 0 (some 32)), some (tI v1), some (tI v2), some (tI v3), some (tI v4), some (tI v5), some (tI s0), some (tI v7)]) dX7_mayLend_79 (by decide) rfl ?_
  obtain ⟨x4, e_x4⟩ : ∃ y : Int32, y = v7 + 1 := ⟨_, rfl⟩
  replace hm := hm x4 e_x4
  refine r_iinc (L' := [some (tR 7 0 (some 32)), some (tI v1), some (tI v2), some (tI v3), some (tI v4), some (tI v5), some (tI s0), some (tI x4)]) dX7_mayLend_81 rfl (by rw [e_x4]; rfl) (by decide) rfl ?_
  refine r_goto (tgt := 47) dX7_mayLend_84 rfl ?_
  refine r_keep (L' := [some (tR 7 0 (some 32)), some (tI v1), some (tI v2), some (tI v3), some (tI v4), some (tI v5), some (tI s0), some (tI x4)]) [true, true, true, true, true, true, true, true] rfl ?_
  exact hk47 _ _ _ _ _ _ _ _ hm
def m_X7_mayLend_47 : Nat → (Int32 → Int32 → Int32 → Int32 → Int32 → Int32 → Hp → Prop) → (Int32 → Hp → Prop) → Int32 → Int32 → Int32 → Int32 → Int32 → Int32 → Int32 → Hp → Prop
  | 0, _, _, _, _, _, _, _, _, _, _ => False
  | n + 1, k87, Q, v1, v2, v3, v4, v5, v6, v7, h => (6 ≤ v7 → k87 v1 v2 v3 v4 v5 v6 h) ∧ (¬ 6 ≤ v7 → (v6 = 0 → k87 v1 v2 v3 v4 v5 v6 h) ∧ (¬ v6 = 0 → vp_in (v5 + v7) 336 ∧ ((¬ (lg_cmp (hJ h 42 (ix (v5 + v7))) 0) = 0 → m_X7_mayLend_79 (fun (v1 : Int32) (v2 : Int32) (v3 : Int32) (v4 : Int32) (v5 : Int32) (v6 : Int32) (v7 : Int32) (hh : Hp) => m_X7_mayLend_47 n k87 Q v1 v2 v3 v4 v5 v6 v7 hh) k87 Q v1 v2 v3 v4 v5 v7 0 h) ∧ ((lg_cmp (hJ h 42 (ix (v5 + v7))) 0) = 0 → m_X7_mayLend_79 (fun (v1 : Int32) (v2 : Int32) (v3 : Int32) (v4 : Int32) (v5 : Int32) (v6 : Int32) (v7 : Int32) (hh : Hp) => m_X7_mayLend_47 n k87 Q v1 v2 v3 v4 v5 v6 v7 hh) k87 Q v1 v2 v3 v4 v5 v7 1 h))))
set_option maxHeartbeats 4000000 in
set_option maxRecDepth 100000 in
theorem s_X7_mayLend_47 {l : Launch} {G : Cx} {d : Nat} {h0 : Hp} (hd : 2 ≤ d) {k87 : Int32 → Int32 → Int32 → Int32 → Int32 → Int32 → Hp → Prop} {Q : Int32 → Hp → Prop} (hk87 : ∀ (v1 : Int32) (v2 : Int32) (v3 : Int32) (v4 : Int32) (v5 : Int32) (v6 : Int32) (hh : Hp), k87 v1 v2 v3 v4 v5 v6 hh → Rn l G d 0 0 MX7_mayLend h0 (qI Q) 87 [some (tR 7 0 (some 32)), some (tI v1), some (tI v2), some (tI v3), some (tI v4), some (tI v5), some (tI v6)] [] hh 0 0) : ∀ {n : Nat} {v1 : Int32} {v2 : Int32} {v3 : Int32} {v4 : Int32} {v5 : Int32} {v6 : Int32} {v7 : Int32} {h : Hp}, m_X7_mayLend_47 n k87 Q v1 v2 v3 v4 v5 v6 v7 h → Rn l G d 0 0 MX7_mayLend h0 (qI Q) 47 [some (tR 7 0 (some 32)), some (tI v1), some (tI v2), some (tI v3), some (tI v4), some (tI v5), some (tI v6), some (tI v7)] [] h 0 0 := by
  intro n
  induction n with
  | zero => intro v1 v2 v3 v4 v5 v6 v7 h hm; exact hm.elim
  | succ n ih =>
    intro v1 v2 v3 v4 v5 v6 v7 h hm
    have hk47 := fun (v1 : Int32) (v2 : Int32) (v3 : Int32) (v4 : Int32) (v5 : Int32) (v6 : Int32) (v7 : Int32) (hh : Hp) (hm : m_X7_mayLend_47 n k87 Q v1 v2 v3 v4 v5 v6 v7 hh) => ih hm
    rw [m_X7_mayLend_47] at hm
    refine r_iload dX7_mayLend_47 rfl ?_
    refine r_bipush (v := 6) dX7_mayLend_49 rfl ?_
    refine r_icmp_ge (tgt := 87) dX7_mayLend_51 rfl (fun hc => ?_) (fun hc => ?_)
    · replace hm := hm.1 hc
      refine r_keep (L' := [some (tR 7 0 (some 32)), some (tI v1), some (tI v2), some (tI v3), some (tI v4), some (tI v5), some (tI v6)]) [true, true, true, true, true, true, true] rfl ?_
      exact hk87 _ _ _ _ _ _ _ hm
    · replace hm := hm.2 hc
      refine r_iload dX7_mayLend_54 rfl ?_
      refine r_if_eq (tgt := 87) dX7_mayLend_56 rfl (fun hc => ?_) (fun hc => ?_)
      · replace hm := hm.1 hc
        refine r_keep (L' := [some (tR 7 0 (some 32)), some (tI v1), some (tI v2), some (tI v3), some (tI v4), some (tI v5), some (tI v6)]) [true, true, true, true, true, true, true] rfl ?_
        exact hk87 _ _ _ _ _ _ _ hm
      · replace hm := hm.2 hc
        refine r_aload_n dX7_mayLend_59 rfl rfl ?_
        refine r_getC (k := 14) cl_7 dX7_mayLend_60 t_282 gf_7_14.1 gf_7_14.2 (gc_7_14 _) ?_
        refine r_iload dX7_mayLend_63 rfl ?_
        refine r_iload dX7_mayLend_65 rfl ?_
        refine r_iadd dX7_mayLend_67 ?_
        refine r_lald dX7_mayLend_68 hm.1 ?_
        replace hm := hm.2
        refine r_lconst (v := 0) dX7_mayLend_69 rfl ?_
        refine r_lcmp dX7_mayLend_70 ?_
        refine r_if_ne (tgt := 78) dX7_mayLend_71 rfl (fun hc => ?_) (fun hc => ?_)
        · replace hm := hm.1 hc
          refine r_iconst (v := 0) dX7_mayLend_78 rfl ?_
          refine r_keep (L' := [some (tR 7 0 (some 32)), some (tI v1), some (tI v2), some (tI v3), some (tI v4), some (tI v5), none, some (tI v7)]) [true, true, true, true, true, true, false, true] rfl ?_
          exact s_X7_mayLend_79 hd hk47 hk87 hm
        · replace hm := hm.2 hc
          refine r_iconst (v := 1) dX7_mayLend_74 rfl ?_
          refine r_goto (tgt := 79) dX7_mayLend_75 rfl ?_
          refine r_keep (L' := [some (tR 7 0 (some 32)), some (tI v1), some (tI v2), some (tI v3), some (tI v4), some (tI v5), none, some (tI v7)]) [true, true, true, true, true, true, false, true] rfl ?_
          exact s_X7_mayLend_79 hd hk47 hk87 hm
def m_X7_mayLend_42 (k7 : Int32 → Int32 → Int32 → Int32 → Hp → Prop) (k147 : Int32 → Int32 → Hp → Prop) (Q : Int32 → Hp → Prop) (v1 : Int32) (v2 : Int32) (v3 : Int32) (v4 : Int32) (v5 : Int32) (s0 : Int32) (h : Hp) : Prop := ∃ n47, m_X7_mayLend_47 n47 (m_X7_mayLend_87 k7 k147 Q) Q v1 v2 v3 v4 v5 s0 1 h
set_option maxHeartbeats 4000000 in
set_option maxRecDepth 100000 in
theorem s_X7_mayLend_42 {l : Launch} {G : Cx} {d : Nat} {h0 : Hp} (hd : 2 ≤ d) {k7 : Int32 → Int32 → Int32 → Int32 → Hp → Prop} {k147 : Int32 → Int32 → Hp → Prop} {Q : Int32 → Hp → Prop} (hk7 : ∀ (v1 : Int32) (v2 : Int32) (v3 : Int32) (v4 : Int32) (hh : Hp), k7 v1 v2 v3 v4 hh → Rn l G d 0 0 MX7_mayLend h0 (qI Q) 7 [some (tR 7 0 (some 32)), some (tI v1), some (tI v2), some (tI v3), some (tI v4)] [] hh 0 0) (hk147 : ∀ (v2 : Int32) (v3 : Int32) (hh : Hp), k147 v2 v3 hh → Rn l G d 0 0 MX7_mayLend h0 (qI Q) 147 [none, none, some (tI v2), some (tI v3)] [] hh 0 0) {v1 : Int32} {v2 : Int32} {v3 : Int32} {v4 : Int32} {v5 : Int32} {s0 : Int32} {h : Hp} (hm : m_X7_mayLend_42 k7 k147 Q v1 v2 v3 v4 v5 s0 h) : Rn l G d 0 0 MX7_mayLend h0 (qI Q) 42 [some (tR 7 0 (some 32)), some (tI v1), some (tI v2), some (tI v3), some (tI v4), some (tI v5)] [tI s0] h 0 0 := by
  unfold m_X7_mayLend_42 at hm
  refine r_istore (L' := [some (tR 7 0 (some 32)), some (tI v1), some (tI v2), some (tI v3), some (tI v4), some (tI v5), some (tI s0)]) dX7_mayLend_42 (by decide) rfl ?_
  refine r_iconst (v := 1) dX7_mayLend_44 rfl ?_
  refine r_istore (L' := [some (tR 7 0 (some 32)), some (tI v1), some (tI v2), some (tI v3), some (tI v4), some (tI v5), some (tI s0), some (tI 1)]) dX7_mayLend_45 (by decide) rfl ?_
  refine r_keep (L' := [some (tR 7 0 (some 32)), some (tI v1), some (tI v2), some (tI v3), some (tI v4), some (tI v5), some (tI s0), some (tI 1)]) [true, true, true, true, true, true, true, true] rfl ?_
  obtain ⟨n, hm⟩ := hm
  refine s_X7_mayLend_47 hd ?_ hm
  · exact (fun _ _ _ _ _ _ _ hm => s_X7_mayLend_87 hd hk7 hk147 hm)
def m_X7_mayLend_7 : Nat → (Int32 → Int32 → Hp → Prop) → (Int32 → Hp → Prop) → Int32 → Int32 → Int32 → Int32 → Hp → Prop
  | 0, _, _, _, _, _, _, _ => False
  | n + 1, k147, Q, v1, v2, v3, v4, h => (8 ≤ v4 → k147 v2 v3 h) ∧ (¬ 8 ≤ v4 → ∀ x5 : Int32, x5 = (v1 + (v4 * 6)) → vp_in (x5 + 0) 336 ∧ (((lg_cmp (hJ h 42 (ix (x5 + 0))) 0) = 0 → m_X7_mayLend_42 (fun (v1 : Int32) (v2 : Int32) (v3 : Int32) (v4 : Int32) (hh : Hp) => m_X7_mayLend_7 n k147 Q v1 v2 v3 v4 hh) k147 Q v1 v2 v3 v4 x5 0 h) ∧ (¬ (lg_cmp (hJ h 42 (ix (x5 + 0))) 0) = 0 → m_X7_mayLend_42 (fun (v1 : Int32) (v2 : Int32) (v3 : Int32) (v4 : Int32) (hh : Hp) => m_X7_mayLend_7 n k147 Q v1 v2 v3 v4 hh) k147 Q v1 v2 v3 v4 x5 1 h)))
set_option maxHeartbeats 4000000 in
set_option maxRecDepth 100000 in
theorem s_X7_mayLend_7 {l : Launch} {G : Cx} {d : Nat} {h0 : Hp} (hd : 2 ≤ d) {k147 : Int32 → Int32 → Hp → Prop} {Q : Int32 → Hp → Prop} (hk147 : ∀ (v2 : Int32) (v3 : Int32) (hh : Hp), k147 v2 v3 hh → Rn l G d 0 0 MX7_mayLend h0 (qI Q) 147 [none, none, some (tI v2), some (tI v3)] [] hh 0 0) : ∀ {n : Nat} {v1 : Int32} {v2 : Int32} {v3 : Int32} {v4 : Int32} {h : Hp}, m_X7_mayLend_7 n k147 Q v1 v2 v3 v4 h → Rn l G d 0 0 MX7_mayLend h0 (qI Q) 7 [some (tR 7 0 (some 32)), some (tI v1), some (tI v2), some (tI v3), some (tI v4)] [] h 0 0 := by
  intro n
  induction n with
  | zero => intro v1 v2 v3 v4 h hm; exact hm.elim
  | succ n ih =>
    intro v1 v2 v3 v4 h hm
    have hk7 := fun (v1 : Int32) (v2 : Int32) (v3 : Int32) (v4 : Int32) (hh : Hp) (hm : m_X7_mayLend_7 n k147 Q v1 v2 v3 v4 hh) => ih hm
    rw [m_X7_mayLend_7] at hm
    refine r_iload dX7_mayLend_7 rfl ?_
    refine r_bipush (v := 8) dX7_mayLend_9 rfl ?_
    refine r_icmp_ge (tgt := 147) dX7_mayLend_11 rfl (fun hc => ?_) (fun hc => ?_)
    · replace hm := hm.1 hc
      refine r_keep (L' := [none, none, some (tI v2), some (tI v3)]) [false, false, true, true] rfl ?_
      exact hk147 _ _ _ hm
    · replace hm := hm.2 hc
      refine r_iload_n dX7_mayLend_14 rfl rfl ?_
      refine r_iload dX7_mayLend_15 rfl ?_
      refine r_bipush (v := 6) dX7_mayLend_17 rfl ?_
      refine r_imul dX7_mayLend_19 ?_
      refine r_iadd dX7_mayLend_20 ?_
      refine r_nmI (fun x5 e_x5 => ?_)
      replace hm := hm x5 e_x5
      refine r_istore (L' := [some (tR 7 0 (some 32)), some (tI v1), some (tI v2), some (tI v3), some (tI v4), some (tI x5)]) dX7_mayLend_21 (by decide) rfl ?_
      refine r_aload_n dX7_mayLend_23 rfl rfl ?_
      refine r_getC (k := 14) cl_7 dX7_mayLend_24 t_282 gf_7_14.1 gf_7_14.2 (gc_7_14 _) ?_
      refine r_iload dX7_mayLend_27 rfl ?_
      refine r_iconst (v := 0) dX7_mayLend_29 rfl ?_
      refine r_iadd dX7_mayLend_30 ?_
      refine r_lald dX7_mayLend_31 hm.1 ?_
      replace hm := hm.2
      refine r_lconst (v := 0) dX7_mayLend_32 rfl ?_
      refine r_lcmp dX7_mayLend_33 ?_
      refine r_if_eq (tgt := 41) dX7_mayLend_34 rfl (fun hc => ?_) (fun hc => ?_)
      · replace hm := hm.1 hc
        refine r_iconst (v := 0) dX7_mayLend_41 rfl ?_
        refine r_keep (L' := [some (tR 7 0 (some 32)), some (tI v1), some (tI v2), some (tI v3), some (tI v4), some (tI x5)]) [true, true, true, true, true, true] rfl ?_
        exact s_X7_mayLend_42 hd hk7 hk147 hm
      · replace hm := hm.2 hc
        refine r_iconst (v := 1) dX7_mayLend_37 rfl ?_
        refine r_goto (tgt := 42) dX7_mayLend_38 rfl ?_
        refine r_keep (L' := [some (tR 7 0 (some 32)), some (tI v1), some (tI v2), some (tI v3), some (tI v4), some (tI x5)]) [true, true, true, true, true, true] rfl ?_
        exact s_X7_mayLend_42 hd hk7 hk147 hm
def m_X7_mayLend (v1 : Int32) (h : Hp) (Q : Int32 → Hp → Prop) : Prop := ∃ n7, m_X7_mayLend_7 n7 (m_X7_mayLend_147 Q) Q v1 0 0 0 h
set_option maxHeartbeats 4000000 in
set_option maxRecDepth 100000 in
theorem s_X7_mayLend {l : Launch} {G : Cx} {d : Nat} (hd : 2 ≤ d) {v1 : Int32} {h : Hp} {Q : Int32 → Hp → Prop} (hm : m_X7_mayLend v1 h Q) : Ct l G d 0 0 yX7_mayLend MX7_mayLend [tR 7 0 (some 32), tI v1] h (qI Q) := by
  unfold m_X7_mayLend at hm
  refine Ct.of (L := [some (tR 7 0 (some 32)), some (tI v1)]) (by decide) rfl rfl (Nat.le_of_ble_eq_true rfl) rfl ?_
  refine r_iconst (v := 0) dX7_mayLend_0 rfl ?_
  refine r_istore_n (L' := [some (tR 7 0 (some 32)), some (tI v1), some (tI 0)]) dX7_mayLend_1 rfl (by decide) rfl ?_
  refine r_iconst (v := 0) dX7_mayLend_2 rfl ?_
  refine r_istore_n (L' := [some (tR 7 0 (some 32)), some (tI v1), some (tI 0), some (tI 0)]) dX7_mayLend_3 rfl (by decide) rfl ?_
  refine r_iconst (v := 0) dX7_mayLend_4 rfl ?_
  refine r_istore (L' := [some (tR 7 0 (some 32)), some (tI v1), some (tI 0), some (tI 0), some (tI 0)]) dX7_mayLend_5 (by decide) rfl ?_
  refine r_keep (L' := [some (tR 7 0 (some 32)), some (tI v1), some (tI 0), some (tI 0), some (tI 0)]) [true, true, true, true, true] rfl ?_
  obtain ⟨n, hm⟩ := hm
  refine s_X7_mayLend_7 hd ?_ hm
  · exact (fun _ _ _ hm => s_X7_mayLend_147 hd hm)
theorem dX7_isLoan_0 : decode cX7_isLoan 0 = .ok (.aload_n 0, 1) := rfl
theorem dX7_isLoan_1 : decode cX7_isLoan 1 = .ok (.getfield 21, 3) := rfl
theorem dX7_isLoan_4 : decode cX7_isLoan 4 = .ok (.iload_n 1, 1) := rfl
theorem dX7_isLoan_5 : decode cX7_isLoan 5 = .ok (.iaload, 1) := rfl
theorem dX7_isLoan_6 : decode cX7_isLoan 6 = .ok (.ifCond .ne 29, 3) := by decide +kernel
theorem dX7_isLoan_9 : decode cX7_isLoan 9 = .ok (.aload_n 0, 1) := rfl
theorem dX7_isLoan_10 : decode cX7_isLoan 10 = .ok (.getfield 21, 3) := rfl
theorem dX7_isLoan_13 : decode cX7_isLoan 13 = .ok (.iload_n 1, 1) := rfl
theorem dX7_isLoan_14 : decode cX7_isLoan 14 = .ok (.aload_n 0, 1) := rfl
theorem dX7_isLoan_15 : decode cX7_isLoan 15 = .ok (.getfield 47, 3) := rfl
theorem dX7_isLoan_18 : decode cX7_isLoan 18 = .ok (.aload_n 0, 1) := rfl
theorem dX7_isLoan_19 : decode cX7_isLoan 19 = .ok (.getfield 36, 3) := rfl
theorem dX7_isLoan_22 : decode cX7_isLoan 22 = .ok (.invokevirtual 119, 3) := rfl
theorem dX7_isLoan_25 : decode cX7_isLoan 25 = .ok (.iconst (-1), 1) := rfl
theorem dX7_isLoan_26 : decode cX7_isLoan 26 = .ok (.if_icmp .ne 7, 3) := by decide +kernel
theorem dX7_isLoan_29 : decode cX7_isLoan 29 = .ok (.iconst 1, 1) := rfl
theorem dX7_isLoan_30 : decode cX7_isLoan 30 = .ok (.goto 4, 3) := by decide +kernel
theorem dX7_isLoan_33 : decode cX7_isLoan 33 = .ok (.iconst 2, 1) := rfl
theorem dX7_isLoan_34 : decode cX7_isLoan 34 = .ok (.iastore, 1) := rfl
theorem dX7_isLoan_35 : decode cX7_isLoan 35 = .ok (.aload_n 0, 1) := rfl
theorem dX7_isLoan_36 : decode cX7_isLoan 36 = .ok (.getfield 21, 3) := rfl
theorem dX7_isLoan_39 : decode cX7_isLoan 39 = .ok (.iload_n 1, 1) := rfl
theorem dX7_isLoan_40 : decode cX7_isLoan 40 = .ok (.iaload, 1) := rfl
theorem dX7_isLoan_41 : decode cX7_isLoan 41 = .ok (.iconst 2, 1) := rfl
theorem dX7_isLoan_42 : decode cX7_isLoan 42 = .ok (.if_icmp .ne 7, 3) := by decide +kernel
theorem dX7_isLoan_45 : decode cX7_isLoan 45 = .ok (.iconst 1, 1) := rfl
theorem dX7_isLoan_46 : decode cX7_isLoan 46 = .ok (.goto 4, 3) := by decide +kernel
theorem dX7_isLoan_49 : decode cX7_isLoan 49 = .ok (.iconst 0, 1) := rfl
theorem dX7_isLoan_50 : decode cX7_isLoan 50 = .ok (.ireturn, 1) := rfl
def m_X7_isLoan_35  (Q : Int32 → Hp → Prop) (v1 : Int32) (h : Hp) : Prop := vp_in v1 1024 ∧ ((¬ (hI h 35 (ix v1)) = 2 → Q 0 h) ∧ ((hI h 35 (ix v1)) = 2 → Q 1 h))
set_option maxHeartbeats 4000000 in
set_option maxRecDepth 100000 in
theorem s_X7_isLoan_35 {l : Launch} {G : Cx} {d : Nat} {h0 : Hp} (hd : 12 ≤ d) {Q : Int32 → Hp → Prop} {v1 : Int32} {h : Hp} (hm : m_X7_isLoan_35 Q v1 h) : Rn l G d 0 0 MX7_isLoan h0 (qI Q) 35 [some (tR 7 0 (some 32)), some (tI v1)] [] h 0 0 := by
  unfold m_X7_isLoan_35 at hm
  refine r_aload_n dX7_isLoan_35 rfl rfl ?_
  refine r_getC (k := 7) cl_7 dX7_isLoan_36 t_275 gf_7_7.1 gf_7_7.2 (gc_7_7 _) ?_
  refine r_iload_n dX7_isLoan_39 rfl rfl ?_
  refine r_iald dX7_isLoan_40 hm.1 ?_
  replace hm := hm.2
  refine r_iconst (v := 2) dX7_isLoan_41 rfl ?_
  refine r_icmp_ne (tgt := 49) dX7_isLoan_42 rfl (fun hc => ?_) (fun hc => ?_)
  · replace hm := hm.1 hc
    refine r_iconst (v := 0) dX7_isLoan_49 rfl ?_
    exact r_bret dX7_isLoan_50 rfl ⟨by decide, by decide⟩ (by unfold bz; decide) ⟨_, rfl, hm⟩
  · replace hm := hm.2 hc
    refine r_iconst (v := 1) dX7_isLoan_45 rfl ?_
    refine r_goto (tgt := 50) dX7_isLoan_46 rfl ?_
    exact r_bret dX7_isLoan_50 rfl ⟨by decide, by decide⟩ (by unfold bz; decide) ⟨_, rfl, hm⟩
def m_X7_isLoan_34  (Q : Int32 → Hp → Prop) (v1 : Int32) (s1 : Int32) (s2 : Int32) (h : Hp) : Prop := vp_in s1 1024 ∧ (m_X7_isLoan_35 Q v1 (wI h 35 (ix s1) s2))
set_option maxHeartbeats 4000000 in
set_option maxRecDepth 100000 in
theorem s_X7_isLoan_34 {l : Launch} {G : Cx} {d : Nat} {h0 : Hp} (hd : 12 ≤ d) {Q : Int32 → Hp → Prop} {v1 : Int32} {s1 : Int32} {s2 : Int32} {h : Hp} (hm : m_X7_isLoan_34 Q v1 s1 s2 h) : Rn l G d 0 0 MX7_isLoan h0 (qI Q) 34 [some (tR 7 0 (some 32)), some (tI v1)] [tI s2, tI s1, tR 40 1024 (some 35)] h 0 0 := by
  unfold m_X7_isLoan_34 at hm
  refine r_iast dX7_isLoan_34 hm.1 ?_
  replace hm := hm.2
  refine r_keep (L' := [some (tR 7 0 (some 32)), some (tI v1)]) [true, true] rfl ?_
  exact s_X7_isLoan_35 hd hm
def m_X7_isLoan (v1 : Int32) (h : Hp) (Q : Int32 → Hp → Prop) : Prop := vp_in v1 1024 ∧ ((¬ (hI h 35 (ix v1)) = 0 → m_X7_isLoan_35 Q v1 h) ∧ ((hI h 35 (ix v1)) = 0 → m_X5_findLoan 39 h (fun (x1 : Int32) (h2 : Hp) => (¬ x1 = (-1) → m_X7_isLoan_34 Q v1 v1 2 h2) ∧ (x1 = (-1) → m_X7_isLoan_34 Q v1 v1 1 h2))))
set_option maxHeartbeats 4000000 in
set_option maxRecDepth 100000 in
theorem s_X7_isLoan {l : Launch} {G : Cx} {d : Nat} (hd : 12 ≤ d) {v1 : Int32} {h : Hp} {Q : Int32 → Hp → Prop} (hm : m_X7_isLoan v1 h Q) : Ct l G d 0 0 yX7_isLoan MX7_isLoan [tR 7 0 (some 32), tI v1] h (qI Q) := by
  unfold m_X7_isLoan at hm
  refine Ct.of (L := [some (tR 7 0 (some 32)), some (tI v1)]) (by decide) rfl rfl (Nat.le_of_ble_eq_true rfl) rfl ?_
  refine r_aload_n dX7_isLoan_0 rfl rfl ?_
  refine r_getC (k := 7) cl_7 dX7_isLoan_1 t_275 gf_7_7.1 gf_7_7.2 (gc_7_7 _) ?_
  refine r_iload_n dX7_isLoan_4 rfl rfl ?_
  refine r_iald dX7_isLoan_5 hm.1 ?_
  replace hm := hm.2
  refine r_if_ne (tgt := 35) dX7_isLoan_6 rfl (fun hc => ?_) (fun hc => ?_)
  · replace hm := hm.1 hc
    refine r_keep (L' := [some (tR 7 0 (some 32)), some (tI v1)]) [true, true] rfl ?_
    exact s_X7_isLoan_35 hd hm
  · replace hm := hm.2 hc
    refine r_aload_n dX7_isLoan_9 rfl rfl ?_
    refine r_getC (k := 7) cl_7 dX7_isLoan_10 t_275 gf_7_7.1 gf_7_7.2 (gc_7_7 _) ?_
    refine r_iload_n dX7_isLoan_13 rfl rfl ?_
    refine r_aload_n dX7_isLoan_14 rfl rfl ?_
    refine r_getC (k := 0) cl_7 dX7_isLoan_15 t_267 gf_7_0.1 gf_7_0.2 (gc_7_0 _) ?_
    refine r_aload_n dX7_isLoan_18 rfl rfl ?_
    refine r_getC (k := 12) cl_7 dX7_isLoan_19 t_280 gf_7_12.1 gf_7_12.2 (gc_7_12 _) ?_
    refine r_callVI (d' := d - 1) (as := [tR 0 0 (some 39)]) (st := [tI v1, tR 40 1024 (some 35)]) cl_5 dX7_isLoan_22 mi_X5_findLoan t_1147 t_1148 t_1149 rfl rfl (Nat.le_of_ble_eq_true rfl) (by omega) ⟨by decide, by decide⟩ ⟨rfl, rfl⟩ (s_X5_findLoan (by omega) hm) (fun x1 h2 hm => ?_)
    refine r_iconst (v := (-1)) dX7_isLoan_25 rfl ?_
    refine r_icmp_ne (tgt := 33) dX7_isLoan_26 rfl (fun hc => ?_) (fun hc => ?_)
    · replace hm := hm.1 hc
      refine r_iconst (v := 2) dX7_isLoan_33 rfl ?_
      refine r_keep (L' := [some (tR 7 0 (some 32)), some (tI v1)]) [true, true] rfl ?_
      exact s_X7_isLoan_34 hd hm
    · replace hm := hm.2 hc
      refine r_iconst (v := 1) dX7_isLoan_29 rfl ?_
      refine r_goto (tgt := 34) dX7_isLoan_30 rfl ?_
      refine r_keep (L' := [some (tR 7 0 (some 32)), some (tI v1)]) [true, true] rfl ?_
      exact s_X7_isLoan_34 hd hm
theorem dX7_grow_0 : decode cX7_grow 0 = .ok (.iload_n 1, 1) := by decide +kernel
theorem dX7_grow_1 : decode cX7_grow 1 = .ok (.aload_n 0, 1) := by decide +kernel
theorem dX7_grow_2 : decode cX7_grow 2 = .ok (.getfield 55, 3) := by decide +kernel
theorem dX7_grow_5 : decode cX7_grow 5 = .ok (.if_icmp .ge 9, 3) := by decide +kernel
theorem dX7_grow_8 : decode cX7_grow 8 = .ok (.iload_n 1, 1) := by decide +kernel
theorem dX7_grow_9 : decode cX7_grow 9 = .ok (.bipush 6, 2) := by decide +kernel
theorem dX7_grow_11 : decode cX7_grow 11 = .ok (.if_icmp .lt 4, 3) := by decide +kernel
theorem dX7_grow_14 : decode cX7_grow 14 = .ok (.return_, 1) := by decide +kernel
theorem dX7_grow_15 : decode cX7_grow 15 = .ok (.iload_n 2, 1) := by decide +kernel
theorem dX7_grow_16 : decode cX7_grow 16 = .ok (.istore 4, 2) := by decide +kernel
theorem dX7_grow_18 : decode cX7_grow 18 = .ok (.iload 4, 2) := by decide +kernel
theorem dX7_grow_20 : decode cX7_grow 20 = .ok (.aload_n 0, 1) := by decide +kernel
theorem dX7_grow_21 : decode cX7_grow 21 = .ok (.getfield 65, 3) := by decide +kernel
theorem dX7_grow_24 : decode cX7_grow 24 = .ok (.if_icmp .ge 187, 3) := by decide +kernel
theorem dX7_grow_27 : decode cX7_grow 27 = .ok (.iload_n 3, 1) := by decide +kernel
theorem dX7_grow_28 : decode cX7_grow 28 = .ok (.iconst 1, 1) := by decide +kernel
theorem dX7_grow_29 : decode cX7_grow 29 = .ok (.iload 4, 2) := by decide +kernel
theorem dX7_grow_31 : decode cX7_grow 31 = .ok (.ishl, 1) := by decide +kernel
theorem dX7_grow_32 : decode cX7_grow 32 = .ok (.ior, 1) := by decide +kernel
theorem dX7_grow_33 : decode cX7_grow 33 = .ok (.istore 5, 2) := by decide +kernel
theorem dX7_grow_35 : decode cX7_grow 35 = .ok (.aload_n 0, 1) := by decide +kernel
theorem dX7_grow_36 : decode cX7_grow 36 = .ok (.getfield 36, 3) := by decide +kernel
theorem dX7_grow_39 : decode cX7_grow 39 = .ok (.iload_n 1, 1) := by decide +kernel
theorem dX7_grow_40 : decode cX7_grow 40 = .ok (.putfield 74, 3) := by decide +kernel
theorem dX7_grow_43 : decode cX7_grow 43 = .ok (.aload_n 0, 1) := by decide +kernel
theorem dX7_grow_44 : decode cX7_grow 44 = .ok (.getfield 36, 3) := by decide +kernel
theorem dX7_grow_47 : decode cX7_grow 47 = .ok (.aload_n 0, 1) := by decide +kernel
theorem dX7_grow_48 : decode cX7_grow 48 = .ok (.getfield 11, 3) := by decide +kernel
theorem dX7_grow_51 : decode cX7_grow 51 = .ok (.iload 4, 2) := by decide +kernel
theorem dX7_grow_53 : decode cX7_grow 53 = .ok (.aaload, 1) := by decide +kernel
theorem dX7_grow_54 : decode cX7_grow 54 = .ok (.invokevirtual 104, 3) := by decide +kernel
theorem dX7_grow_57 : decode cX7_grow 57 = .ok (.aload_n 0, 1) := by decide +kernel
theorem dX7_grow_58 : decode cX7_grow 58 = .ok (.getfield 24, 3) := by decide +kernel
theorem dX7_grow_61 : decode cX7_grow 61 = .ok (.iload 4, 2) := by decide +kernel
theorem dX7_grow_63 : decode cX7_grow 63 = .ok (.iaload, 1) := by decide +kernel
theorem dX7_grow_64 : decode cX7_grow 64 = .ok (.iload 5, 2) := by decide +kernel
theorem dX7_grow_66 : decode cX7_grow 66 = .ok (.iand, 1) := by decide +kernel
theorem dX7_grow_67 : decode cX7_grow 67 = .ok (.ifCond .ne 138, 3) := by decide +kernel
theorem dX7_grow_70 : decode cX7_grow 70 = .ok (.aload_n 0, 1) := by decide +kernel
theorem dX7_grow_71 : decode cX7_grow 71 = .ok (.getfield 36, 3) := by decide +kernel
theorem dX7_grow_74 : decode cX7_grow 74 = .ok (.invokevirtual 108, 3) := by decide +kernel
theorem dX7_grow_77 : decode cX7_grow 77 = .ok (.ifCond .ne 6, 3) := by decide +kernel
theorem dX7_grow_80 : decode cX7_grow 80 = .ok (.goto 125, 3) := by decide +kernel
theorem dX7_grow_83 : decode cX7_grow 83 = .ok (.iconst 0, 1) := by decide +kernel
theorem dX7_grow_84 : decode cX7_grow 84 = .ok (.istore 6, 2) := by decide +kernel
theorem dX7_grow_86 : decode cX7_grow 86 = .ok (.iload 6, 2) := by decide +kernel
theorem dX7_grow_88 : decode cX7_grow 88 = .ok (.bipush 48, 2) := by decide +kernel
theorem dX7_grow_90 : decode cX7_grow 90 = .ok (.if_icmp .ge 49, 3) := by decide +kernel
theorem dX7_grow_93 : decode cX7_grow 93 = .ok (.aload_n 0, 1) := by decide +kernel
theorem dX7_grow_94 : decode cX7_grow 94 = .ok (.getfield 44, 3) := by decide +kernel
theorem dX7_grow_97 : decode cX7_grow 97 = .ok (.iload_n 1, 1) := by decide +kernel
theorem dX7_grow_98 : decode cX7_grow 98 = .ok (.iconst 1, 1) := by decide +kernel
theorem dX7_grow_99 : decode cX7_grow 99 = .ok (.iadd, 1) := by decide +kernel
theorem dX7_grow_100 : decode cX7_grow 100 = .ok (.bipush 48, 2) := by decide +kernel
theorem dX7_grow_102 : decode cX7_grow 102 = .ok (.imul, 1) := by decide +kernel
theorem dX7_grow_103 : decode cX7_grow 103 = .ok (.iload 6, 2) := by decide +kernel
theorem dX7_grow_105 : decode cX7_grow 105 = .ok (.iadd, 1) := by decide +kernel
theorem dX7_grow_106 : decode cX7_grow 106 = .ok (.aload_n 0, 1) := by decide +kernel
theorem dX7_grow_107 : decode cX7_grow 107 = .ok (.getfield 44, 3) := by decide +kernel
theorem dX7_grow_110 : decode cX7_grow 110 = .ok (.iload_n 1, 1) := by decide +kernel
theorem dX7_grow_111 : decode cX7_grow 111 = .ok (.bipush 48, 2) := by decide +kernel
theorem dX7_grow_113 : decode cX7_grow 113 = .ok (.imul, 1) := by decide +kernel
theorem dX7_grow_114 : decode cX7_grow 114 = .ok (.iload 6, 2) := by decide +kernel
theorem dX7_grow_116 : decode cX7_grow 116 = .ok (.iadd, 1) := by decide +kernel
theorem dX7_grow_117 : decode cX7_grow 117 = .ok (.laload, 1) := by decide +kernel
theorem dX7_grow_118 : decode cX7_grow 118 = .ok (.aload_n 0, 1) := by decide +kernel
theorem dX7_grow_119 : decode cX7_grow 119 = .ok (.getfield 40, 3) := by decide +kernel
theorem dX7_grow_122 : decode cX7_grow 122 = .ok (.iload 4, 2) := by decide +kernel
theorem dX7_grow_124 : decode cX7_grow 124 = .ok (.bipush 48, 2) := by decide +kernel
theorem dX7_grow_126 : decode cX7_grow 126 = .ok (.imul, 1) := by decide +kernel
theorem dX7_grow_127 : decode cX7_grow 127 = .ok (.iload 6, 2) := by decide +kernel
theorem dX7_grow_129 : decode cX7_grow 129 = .ok (.iadd, 1) := by decide +kernel
theorem dX7_grow_130 : decode cX7_grow 130 = .ok (.laload, 1) := by decide +kernel
theorem dX7_grow_131 : decode cX7_grow 131 = .ok (.ladd, 1) := by decide +kernel
theorem dX7_grow_132 : decode cX7_grow 132 = .ok (.lastore, 1) := by decide +kernel
theorem dX7_grow_133 : decode cX7_grow 133 = .ok (.iinc 6 1, 3) := by decide +kernel
theorem dX7_grow_136 : decode cX7_grow 136 = .ok (.goto (-50), 3) := by decide +kernel
theorem dX7_grow_139 : decode cX7_grow 139 = .ok (.aload_n 0, 1) := by decide +kernel
theorem dX7_grow_140 : decode cX7_grow 140 = .ok (.iload_n 1, 1) := by decide +kernel
theorem dX7_grow_141 : decode cX7_grow 141 = .ok (.iconst 1, 1) := by decide +kernel
theorem dX7_grow_142 : decode cX7_grow 142 = .ok (.iadd, 1) := by decide +kernel
theorem dX7_grow_143 : decode cX7_grow 143 = .ok (.bipush 48, 2) := by decide +kernel
theorem dX7_grow_145 : decode cX7_grow 145 = .ok (.imul, 1) := by decide +kernel
theorem dX7_grow_146 : decode cX7_grow 146 = .ok (.invokevirtual 112, 3) := by decide +kernel
theorem dX7_grow_149 : decode cX7_grow 149 = .ok (.ifCond .eq 43, 3) := by decide +kernel
theorem dX7_grow_152 : decode cX7_grow 152 = .ok (.aload_n 0, 1) := by decide +kernel
theorem dX7_grow_153 : decode cX7_grow 153 = .ok (.iload 5, 2) := by decide +kernel
theorem dX7_grow_155 : decode cX7_grow 155 = .ok (.invokevirtual 116, 3) := by decide +kernel
theorem dX7_grow_158 : decode cX7_grow 158 = .ok (.ifCond .eq 34, 3) := by decide +kernel
theorem dX7_grow_161 : decode cX7_grow 161 = .ok (.aload_n 0, 1) := by decide +kernel
theorem dX7_grow_162 : decode cX7_grow 162 = .ok (.getfield 71, 3) := by decide +kernel
theorem dX7_grow_165 : decode cX7_grow 165 = .ok (.sipush 1024, 3) := by decide +kernel
theorem dX7_grow_168 : decode cX7_grow 168 = .ok (.if_icmp .ge 24, 3) := by decide +kernel
theorem dX7_grow_171 : decode cX7_grow 171 = .ok (.aload_n 0, 1) := by decide +kernel
theorem dX7_grow_172 : decode cX7_grow 172 = .ok (.getfield 17, 3) := by decide +kernel
theorem dX7_grow_175 : decode cX7_grow 175 = .ok (.aload_n 0, 1) := by decide +kernel
theorem dX7_grow_176 : decode cX7_grow 176 = .ok (.getfield 71, 3) := by decide +kernel
theorem dX7_grow_179 : decode cX7_grow 179 = .ok (.iload 5, 2) := by decide +kernel
theorem dX7_grow_181 : decode cX7_grow 181 = .ok (.iastore, 1) := by decide +kernel
theorem dX7_grow_182 : decode cX7_grow 182 = .ok (.aload_n 0, 1) := by decide +kernel
theorem dX7_grow_183 : decode cX7_grow 183 = .ok (.dup, 1) := by decide +kernel
theorem dX7_grow_184 : decode cX7_grow 184 = .ok (.getfield 71, 3) := by decide +kernel
theorem dX7_grow_187 : decode cX7_grow 187 = .ok (.iconst 1, 1) := by decide +kernel
theorem dX7_grow_188 : decode cX7_grow 188 = .ok (.iadd, 1) := by decide +kernel
theorem dX7_grow_189 : decode cX7_grow 189 = .ok (.putfield 71, 3) := by decide +kernel
theorem dX7_grow_192 : decode cX7_grow 192 = .ok (.aload_n 0, 1) := by decide +kernel
theorem dX7_grow_193 : decode cX7_grow 193 = .ok (.iload_n 1, 1) := by decide +kernel
theorem dX7_grow_194 : decode cX7_grow 194 = .ok (.iconst 1, 1) := by decide +kernel
theorem dX7_grow_195 : decode cX7_grow 195 = .ok (.iadd, 1) := by decide +kernel
theorem dX7_grow_196 : decode cX7_grow 196 = .ok (.iload 4, 2) := by decide +kernel
theorem dX7_grow_198 : decode cX7_grow 198 = .ok (.iconst 1, 1) := by decide +kernel
theorem dX7_grow_199 : decode cX7_grow 199 = .ok (.iadd, 1) := by decide +kernel
theorem dX7_grow_200 : decode cX7_grow 200 = .ok (.iload 5, 2) := by decide +kernel
theorem dX7_grow_202 : decode cX7_grow 202 = .ok (.invokevirtual 90, 3) := by decide +kernel
theorem dX7_grow_205 : decode cX7_grow 205 = .ok (.iinc 4 1, 3) := by decide +kernel
theorem dX7_grow_208 : decode cX7_grow 208 = .ok (.goto (-190), 3) := by decide +kernel
theorem dX7_grow_211 : decode cX7_grow 211 = .ok (.return_, 1) := by decide +kernel
def m_X7_grow_205 (GR : Int32 → Int32 → Int32 → Hp → (Hp → Prop) → Prop) (k18 : Int32 → Int32 → Int32 → Hp → Prop) (Q : Hp → Prop) (v1 : Int32) (v3 : Int32) (v4 : Int32) (h : Hp) : Prop := ∀ x1 : Int32, x1 = v4 + 1 → k18 v1 v3 x1 h
set_option maxHeartbeats 4000000 in
set_option maxRecDepth 100000 in
theorem s_X7_grow_205 {l : Launch} {G : Cx} {GR : Int32 → Int32 → Int32 → Hp → (Hp → Prop) → Prop} {d dR : Nat} {h0 : Hp} (hd : dR + 14 ≤ d) (hR : ∀ (d : Nat), dR ≤ d → ∀ {a b c : Int32} {h : Hp} {Q : Hp → Prop}, GR a b c h Q → Ct l G d 0 0 yX7_grow MX7_grow [tR 7 0 (some 32), tI a, tI b, tI c] h (qV Q)) {k18 : Int32 → Int32 → Int32 → Hp → Prop} {Q : Hp → Prop} (hk18 : ∀ (v1 : Int32) (v3 : Int32) (v4 : Int32) (hh : Hp), k18 v1 v3 v4 hh → Rn l G d 0 0 MX7_grow h0 (qV Q) 18 [some (tR 7 0 (some 32)), some (tI v1), none, some (tI v3), some (tI v4)] [] hh 0 0) {v1 : Int32} {v3 : Int32} {v4 : Int32} {h : Hp} (hm : m_X7_grow_205 GR k18 Q v1 v3 v4 h) : Rn l G d 0 0 MX7_grow h0 (qV Q) 205 [some (tR 7 0 (some 32)), some (tI v1), none, some (tI v3), some (tI v4)] [] h 0 0 := by
  unfold m_X7_grow_205 at hm
  obtain ⟨x1, e_x1⟩ : ∃ y : Int32, y = v4 + 1 := ⟨_, rfl⟩
  replace hm := hm x1 e_x1
  refine r_iinc (L' := [some (tR 7 0 (some 32)), some (tI v1), none, some (tI v3), some (tI x1)]) dX7_grow_205 rfl (by rw [e_x1]; rfl) (by decide) rfl ?_
  refine r_goto (tgt := 18) dX7_grow_208 rfl ?_
  refine r_keep (L' := [some (tR 7 0 (some 32)), some (tI v1), none, some (tI v3), some (tI x1)]) [true, true, false, true, true] rfl ?_
  exact hk18 _ _ _ _ hm
def m_X7_grow_192 (GR : Int32 → Int32 → Int32 → Hp → (Hp → Prop) → Prop) (k18 : Int32 → Int32 → Int32 → Hp → Prop) (Q : Hp → Prop) (v1 : Int32) (v3 : Int32) (v4 : Int32) (v5 : Int32) (h : Hp) : Prop := GR (v1 + 1) (v4 + 1) v5 h (fun (h3 : Hp) => m_X7_grow_205 GR k18 Q v1 v3 v4 h3)
set_option maxHeartbeats 4000000 in
set_option maxRecDepth 100000 in
theorem s_X7_grow_192 {l : Launch} {G : Cx} {GR : Int32 → Int32 → Int32 → Hp → (Hp → Prop) → Prop} {d dR : Nat} {h0 : Hp} (hd : dR + 14 ≤ d) (hR : ∀ (d : Nat), dR ≤ d → ∀ {a b c : Int32} {h : Hp} {Q : Hp → Prop}, GR a b c h Q → Ct l G d 0 0 yX7_grow MX7_grow [tR 7 0 (some 32), tI a, tI b, tI c] h (qV Q)) {k18 : Int32 → Int32 → Int32 → Hp → Prop} {Q : Hp → Prop} (hk18 : ∀ (v1 : Int32) (v3 : Int32) (v4 : Int32) (hh : Hp), k18 v1 v3 v4 hh → Rn l G d 0 0 MX7_grow h0 (qV Q) 18 [some (tR 7 0 (some 32)), some (tI v1), none, some (tI v3), some (tI v4)] [] hh 0 0) {v1 : Int32} {v3 : Int32} {v4 : Int32} {v5 : Int32} {h : Hp} (hm : m_X7_grow_192 GR k18 Q v1 v3 v4 v5 h) : Rn l G d 0 0 MX7_grow h0 (qV Q) 192 [some (tR 7 0 (some 32)), some (tI v1), none, some (tI v3), some (tI v4), some (tI v5)] [] h 0 0 := by
  unfold m_X7_grow_192 at hm
  refine r_aload_n dX7_grow_192 rfl rfl ?_
  refine r_iload_n dX7_grow_193 rfl rfl ?_
  refine r_iconst (v := 1) dX7_grow_194 rfl ?_
  refine r_iadd dX7_grow_195 ?_
  refine r_iload dX7_grow_196 rfl ?_
  refine r_iconst (v := 1) dX7_grow_198 rfl ?_
  refine r_iadd dX7_grow_199 ?_
  refine r_iload dX7_grow_200 rfl ?_
  refine r_callVU (d' := d - 1) (as := [tI (v1 + 1), tI (v4 + 1), tI v5]) (st := []) cl_7 dX7_grow_202 mi_X7_grow t_1133 t_1135 ts_47 rfl rfl (Nat.le_of_ble_eq_true rfl) (by omega) ⟨by decide, by decide⟩ ⟨rfl, rfl⟩ (hR (d - 1) (by omega) hm) (fun h3 hm => ?_)
  refine r_keep (L' := [some (tR 7 0 (some 32)), some (tI v1), none, some (tI v3), some (tI v4)]) [true, true, false, true, true] rfl ?_
  exact s_X7_grow_205 hd hR hk18 hm
def m_X7_grow_139 (GR : Int32 → Int32 → Int32 → Hp → (Hp → Prop) → Prop) (k18 : Int32 → Int32 → Int32 → Hp → Prop) (Q : Hp → Prop) (v1 : Int32) (v3 : Int32) (v4 : Int32) (v5 : Int32) (h : Hp) : Prop := m_X7_mayLend ((v1 + 1) * 48) h (fun (x4 : Int32) (h5 : Hp) => (x4 = 0 → m_X7_grow_192 GR k18 Q v1 v3 v4 v5 h5) ∧ (¬ x4 = 0 → m_X7_isLoan v5 h5 (fun (x6 : Int32) (h7 : Hp) => (x6 = 0 → m_X7_grow_192 GR k18 Q v1 v3 v4 v5 h7) ∧ (¬ x6 = 0 → (1024 ≤ (hI h7 32 5) → m_X7_grow_192 GR k18 Q v1 v3 v4 v5 h7) ∧ (¬ 1024 ≤ (hI h7 32 5) → vp_in (hI h7 32 5) 1024 ∧ (m_X7_grow_192 GR k18 Q v1 v3 v4 v5 (wI (wI h7 34 (ix (hI h7 32 5)) v5) 32 5 ((hI (wI h7 34 (ix (hI h7 32 5)) v5) 32 5) + 1))))))))
set_option maxHeartbeats 4000000 in
set_option maxRecDepth 100000 in
theorem s_X7_grow_139 {l : Launch} {G : Cx} {GR : Int32 → Int32 → Int32 → Hp → (Hp → Prop) → Prop} {d dR : Nat} {h0 : Hp} (hd : dR + 14 ≤ d) (hR : ∀ (d : Nat), dR ≤ d → ∀ {a b c : Int32} {h : Hp} {Q : Hp → Prop}, GR a b c h Q → Ct l G d 0 0 yX7_grow MX7_grow [tR 7 0 (some 32), tI a, tI b, tI c] h (qV Q)) {k18 : Int32 → Int32 → Int32 → Hp → Prop} {Q : Hp → Prop} (hk18 : ∀ (v1 : Int32) (v3 : Int32) (v4 : Int32) (hh : Hp), k18 v1 v3 v4 hh → Rn l G d 0 0 MX7_grow h0 (qV Q) 18 [some (tR 7 0 (some 32)), some (tI v1), none, some (tI v3), some (tI v4)] [] hh 0 0) {v1 : Int32} {v3 : Int32} {v4 : Int32} {v5 : Int32} {h : Hp} (hm : m_X7_grow_139 GR k18 Q v1 v3 v4 v5 h) : Rn l G d 0 0 MX7_grow h0 (qV Q) 139 [some (tR 7 0 (some 32)), some (tI v1), none, some (tI v3), some (tI v4), some (tI v5)] [] h 0 0 := by
  unfold m_X7_grow_139 at hm
  refine r_aload_n dX7_grow_139 rfl rfl ?_
  refine r_iload_n dX7_grow_140 rfl rfl ?_
  refine r_iconst (v := 1) dX7_grow_141 rfl ?_
  refine r_iadd dX7_grow_142 ?_
  refine r_bipush (v := 48) dX7_grow_143 rfl ?_
  refine r_imul dX7_grow_145 ?_
  refine r_callVI (d' := d - 1) (as := [tI ((v1 + 1) * 48)]) (st := []) cl_7 dX7_grow_146 mi_X7_mayLend t_1139 t_1141 ts_48 rfl rfl (Nat.le_of_ble_eq_true rfl) (by omega) ⟨by decide, by decide⟩ ⟨rfl, rfl⟩ (s_X7_mayLend (by omega) hm) (fun x4 h5 hm => ?_)
  refine r_if_eq (tgt := 192) dX7_grow_149 rfl (fun hc => ?_) (fun hc => ?_)
  · replace hm := hm.1 hc
    refine r_keep (L' := [some (tR 7 0 (some 32)), some (tI v1), none, some (tI v3), some (tI v4), some (tI v5)]) [true, true, false, true, true, true] rfl ?_
    exact s_X7_grow_192 hd hR hk18 hm
  · replace hm := hm.2 hc
    refine r_aload_n dX7_grow_152 rfl rfl ?_
    refine r_iload dX7_grow_153 rfl ?_
    refine r_callVI (d' := d - 1) (as := [tI v5]) (st := []) cl_7 dX7_grow_155 mi_X7_isLoan t_1143 t_1145 ts_49 rfl rfl (Nat.le_of_ble_eq_true rfl) (by omega) ⟨by decide, by decide⟩ ⟨rfl, rfl⟩ (s_X7_isLoan (by omega) hm) (fun x6 h7 hm => ?_)
    refine r_if_eq (tgt := 192) dX7_grow_158 rfl (fun hc => ?_) (fun hc => ?_)
    · replace hm := hm.1 hc
      refine r_keep (L' := [some (tR 7 0 (some 32)), some (tI v1), none, some (tI v3), some (tI v4), some (tI v5)]) [true, true, false, true, true, true] rfl ?_
      exact s_X7_grow_192 hd hR hk18 hm
    · replace hm := hm.2 hc
      refine r_aload_n dX7_grow_161 rfl rfl ?_
      refine r_getI (k := 5) cl_7 dX7_grow_162 t_273 (Or.inl rfl) gf_7_5 ?_
      refine r_sipush (v := 1024) dX7_grow_165 rfl ?_
      refine r_icmp_ge (tgt := 192) dX7_grow_168 rfl (fun hc => ?_) (fun hc => ?_)
      · replace hm := hm.1 hc
        refine r_keep (L' := [some (tR 7 0 (some 32)), some (tI v1), none, some (tI v3), some (tI v4), some (tI v5)]) [true, true, false, true, true, true] rfl ?_
        exact s_X7_grow_192 hd hR hk18 hm
      · replace hm := hm.2 hc
        refine r_aload_n dX7_grow_171 rfl rfl ?_
        refine r_getC (k := 4) cl_7 dX7_grow_172 t_272 gf_7_4.1 gf_7_4.2 (gc_7_4 _) ?_
        refine r_aload_n dX7_grow_175 rfl rfl ?_
        refine r_getI (k := 5) cl_7 dX7_grow_176 t_273 (Or.inl rfl) gf_7_5 ?_
        refine r_iload dX7_grow_179 rfl ?_
        refine r_iast dX7_grow_181 hm.1 ?_
        replace hm := hm.2
        refine r_aload_n dX7_grow_182 rfl rfl ?_
        refine r_dup dX7_grow_183 cv_cat1R ?_
        refine r_getI (k := 5) cl_7 dX7_grow_184 t_273 (Or.inl rfl) gf_7_5 ?_
        refine r_iconst (v := 1) dX7_grow_187 rfl ?_
        refine r_iadd dX7_grow_188 ?_
        refine r_putI0 (k := 5) cl_7 dX7_grow_189 t_273 (Or.inl rfl) gf_7_5 pf_7_5.1 (Or.inl pf_7_5.2) ?_
        refine r_keep (L' := [some (tR 7 0 (some 32)), some (tI v1), none, some (tI v3), some (tI v4), some (tI v5)]) [true, true, false, true, true, true] rfl ?_
        exact s_X7_grow_192 hd hR hk18 hm
def m_X7_grow_86 (GR : Int32 → Int32 → Int32 → Hp → (Hp → Prop) → Prop) : Nat → (Int32 → Int32 → Int32 → Int32 → Hp → Prop) → (Hp → Prop) → Int32 → Int32 → Int32 → Int32 → Int32 → Hp → Prop
  | 0, _, _, _, _, _, _, _, _ => False
  | n + 1, k139, Q, v1, v3, v4, v5, v6, h => (48 ≤ v6 → k139 v1 v3 v4 v5 h) ∧ (¬ 48 ≤ v6 → vp_in ((v1 * 48) + v6) 336 ∧ (vp_in ((v4 * 48) + v6) 480 ∧ (vp_in (((v1 + 1) * 48) + v6) 336 ∧ (∀ x8 : Int32, x8 = v6 + 1 → m_X7_grow_86 GR n k139 Q v1 v3 v4 v5 x8 (wJ h 42 (ix (((v1 + 1) * 48) + v6)) ((hJ h 42 (ix ((v1 * 48) + v6))) + (hJ h 41 (ix ((v4 * 48) + v6)))))))))
set_option maxHeartbeats 4000000 in
set_option maxRecDepth 100000 in
theorem s_X7_grow_86 {l : Launch} {G : Cx} {GR : Int32 → Int32 → Int32 → Hp → (Hp → Prop) → Prop} {d dR : Nat} {h0 : Hp} (hd : dR + 14 ≤ d) (hR : ∀ (d : Nat), dR ≤ d → ∀ {a b c : Int32} {h : Hp} {Q : Hp → Prop}, GR a b c h Q → Ct l G d 0 0 yX7_grow MX7_grow [tR 7 0 (some 32), tI a, tI b, tI c] h (qV Q)) {k139 : Int32 → Int32 → Int32 → Int32 → Hp → Prop} {Q : Hp → Prop} (hk139 : ∀ (v1 : Int32) (v3 : Int32) (v4 : Int32) (v5 : Int32) (hh : Hp), k139 v1 v3 v4 v5 hh → Rn l G d 0 0 MX7_grow h0 (qV Q) 139 [some (tR 7 0 (some 32)), some (tI v1), none, some (tI v3), some (tI v4), some (tI v5)] [] hh 0 0) : ∀ {n : Nat} {v1 : Int32} {v3 : Int32} {v4 : Int32} {v5 : Int32} {v6 : Int32} {h : Hp}, m_X7_grow_86 GR n k139 Q v1 v3 v4 v5 v6 h → Rn l G d 0 0 MX7_grow h0 (qV Q) 86 [some (tR 7 0 (some 32)), some (tI v1), none, some (tI v3), some (tI v4), some (tI v5), some (tI v6)] [] h 0 0 := by
  intro n
  induction n with
  | zero => intro v1 v3 v4 v5 v6 h hm; exact hm.elim
  | succ n ih =>
    intro v1 v3 v4 v5 v6 h hm
    have hk86 := fun (v1 : Int32) (v3 : Int32) (v4 : Int32) (v5 : Int32) (v6 : Int32) (hh : Hp) (hm : m_X7_grow_86 GR n k139 Q v1 v3 v4 v5 v6 hh) => ih hm
    rw [m_X7_grow_86] at hm
    refine r_iload dX7_grow_86 rfl ?_
    refine r_bipush (v := 48) dX7_grow_88 rfl ?_
    refine r_icmp_ge (tgt := 139) dX7_grow_90 rfl (fun hc => ?_) (fun hc => ?_)
    · replace hm := hm.1 hc
      refine r_keep (L' := [some (tR 7 0 (some 32)), some (tI v1), none, some (tI v3), some (tI v4), some (tI v5)]) [true, true, false, true, true, true] rfl ?_
      exact hk139 _ _ _ _ _ hm
    · replace hm := hm.2 hc
      refine r_aload_n dX7_grow_93 rfl rfl ?_
      refine r_getC (k := 14) cl_7 dX7_grow_94 t_282 gf_7_14.1 gf_7_14.2 (gc_7_14 _) ?_
      refine r_iload_n dX7_grow_97 rfl rfl ?_
      refine r_iconst (v := 1) dX7_grow_98 rfl ?_
      refine r_iadd dX7_grow_99 ?_
      refine r_bipush (v := 48) dX7_grow_100 rfl ?_
      refine r_imul dX7_grow_102 ?_
      refine r_iload dX7_grow_103 rfl ?_
      refine r_iadd dX7_grow_105 ?_
      refine r_aload_n dX7_grow_106 rfl rfl ?_
      refine r_getC (k := 14) cl_7 dX7_grow_107 t_282 gf_7_14.1 gf_7_14.2 (gc_7_14 _) ?_
      refine r_iload_n dX7_grow_110 rfl rfl ?_
      refine r_bipush (v := 48) dX7_grow_111 rfl ?_
      refine r_imul dX7_grow_113 ?_
      refine r_iload dX7_grow_114 rfl ?_
      refine r_iadd dX7_grow_116 ?_
      refine r_lald dX7_grow_117 hm.1 ?_
      replace hm := hm.2
      refine r_aload_n dX7_grow_118 rfl rfl ?_
      refine r_getC (k := 13) cl_7 dX7_grow_119 t_281 gf_7_13.1 gf_7_13.2 (gc_7_13 _) ?_
      refine r_iload dX7_grow_122 rfl ?_
      refine r_bipush (v := 48) dX7_grow_124 rfl ?_
      refine r_imul dX7_grow_126 ?_
      refine r_iload dX7_grow_127 rfl ?_
      refine r_iadd dX7_grow_129 ?_
      refine r_lald dX7_grow_130 hm.1 ?_
      replace hm := hm.2
      refine r_ladd dX7_grow_131 ?_
      refine r_last dX7_grow_132 hm.1 ?_
      replace hm := hm.2
      obtain ⟨x8, e_x8⟩ : ∃ y : Int32, y = v6 + 1 := ⟨_, rfl⟩
      replace hm := hm x8 e_x8
      refine r_iinc (L' := [some (tR 7 0 (some 32)), some (tI v1), none, some (tI v3), some (tI v4), some (tI v5), some (tI x8)]) dX7_grow_133 rfl (by rw [e_x8]; rfl) (by decide) rfl ?_
      refine r_goto (tgt := 86) dX7_grow_136 rfl ?_
      refine r_keep (L' := [some (tR 7 0 (some 32)), some (tI v1), none, some (tI v3), some (tI v4), some (tI v5), some (tI x8)]) [true, true, false, true, true, true, true] rfl ?_
      exact hk86 _ _ _ _ _ _ hm
def m_X7_grow_18 (GR : Int32 → Int32 → Int32 → Hp → (Hp → Prop) → Prop) : Nat → (Hp → Prop) → Int32 → Int32 → Int32 → Hp → Prop
  | 0, _, _, _, _, _ => False
  | n + 1, Q, v1, v3, v4, h => ((hI h 32 3) ≤ v4 → Q h) ∧ (¬ (hI h 32 3) ≤ v4 → ∀ x9 : Int32, x9 = (v3 ||| (1 <<< (v4 &&& 31))) → vp_in v4 10 ∧ ∃ b10 : Nat, hR (wI h 39 1 v1) 33 (ix v4) = some b10 ∧ (m_X0_push 39 b10 (wI h 39 1 v1) (fun (h12 : Hp) => vp_in v4 10 ∧ ((¬ ((hI h12 36 (ix v4)) &&& x9) = 0 → m_X7_grow_205 GR (fun (v1 : Int32) (v3 : Int32) (v4 : Int32) (hh : Hp) => m_X7_grow_18 GR n Q v1 v3 v4 hh) Q v1 v3 v4 h12) ∧ (((hI h12 36 (ix v4)) &&& x9) = 0 → m_X0_isLooked 39 h12 (fun (x13 : Int32) (h14 : Hp) => (¬ x13 = 0 → ∃ n86, m_X7_grow_86 GR n86 (m_X7_grow_139 GR (fun (v1 : Int32) (v3 : Int32) (v4 : Int32) (hh : Hp) => m_X7_grow_18 GR n Q v1 v3 v4 hh) Q) Q v1 v3 v4 x9 0 h14) ∧ (x13 = 0 → m_X7_grow_205 GR (fun (v1 : Int32) (v3 : Int32) (v4 : Int32) (hh : Hp) => m_X7_grow_18 GR n Q v1 v3 v4 hh) Q v1 v3 v4 h14)))))))
set_option maxHeartbeats 4000000 in
set_option maxRecDepth 100000 in
theorem s_X7_grow_18 {l : Launch} {G : Cx} {GR : Int32 → Int32 → Int32 → Hp → (Hp → Prop) → Prop} {d dR : Nat} {h0 : Hp} (hd : dR + 14 ≤ d) (hR : ∀ (d : Nat), dR ≤ d → ∀ {a b c : Int32} {h : Hp} {Q : Hp → Prop}, GR a b c h Q → Ct l G d 0 0 yX7_grow MX7_grow [tR 7 0 (some 32), tI a, tI b, tI c] h (qV Q)) {Q : Hp → Prop} : ∀ {n : Nat} {v1 : Int32} {v3 : Int32} {v4 : Int32} {h : Hp}, m_X7_grow_18 GR n Q v1 v3 v4 h → Rn l G d 0 0 MX7_grow h0 (qV Q) 18 [some (tR 7 0 (some 32)), some (tI v1), none, some (tI v3), some (tI v4)] [] h 0 0 := by
  intro n
  induction n with
  | zero => intro v1 v3 v4 h hm; exact hm.elim
  | succ n ih =>
    intro v1 v3 v4 h hm
    have hk18 := fun (v1 : Int32) (v3 : Int32) (v4 : Int32) (hh : Hp) (hm : m_X7_grow_18 GR n Q v1 v3 v4 hh) => ih hm
    rw [m_X7_grow_18] at hm
    refine r_iload dX7_grow_18 rfl ?_
    refine r_aload_n dX7_grow_20 rfl rfl ?_
    refine r_getI (k := 3) cl_7 dX7_grow_21 t_270 (Or.inl rfl) gf_7_3 ?_
    refine r_icmp_ge (tgt := 211) dX7_grow_24 rfl (fun hc => ?_) (fun hc => ?_)
    · replace hm := hm.1 hc
      exact r_return dX7_grow_211 rfl ⟨by decide, by decide⟩ ⟨rfl, hm⟩
    · replace hm := hm.2 hc
      refine r_iload_n dX7_grow_27 rfl rfl ?_
      refine r_iconst (v := 1) dX7_grow_28 rfl ?_
      refine r_iload dX7_grow_29 rfl ?_
      refine r_ishl dX7_grow_31 ?_
      refine r_ior dX7_grow_32 ?_
      refine r_nmI (fun x9 e_x9 => ?_)
      replace hm := hm x9 e_x9
      refine r_istore (L' := [some (tR 7 0 (some 32)), some (tI v1), none, some (tI v3), some (tI v4), some (tI x9)]) dX7_grow_33 (by decide) rfl ?_
      refine r_aload_n dX7_grow_35 rfl rfl ?_
      refine r_getC (k := 12) cl_7 dX7_grow_36 t_280 gf_7_12.1 gf_7_12.2 (gc_7_12 _) ?_
      refine r_iload_n dX7_grow_39 rfl rfl ?_
      refine r_putI0 (k := 1) cl_0 dX7_grow_40 t_128 (Or.inl rfl) gf_0_1 pf_0_1.1 (Or.inl pf_0_1.2) ?_
      refine r_aload_n dX7_grow_43 rfl rfl ?_
      refine r_getC (k := 12) cl_7 dX7_grow_44 t_280 gf_7_12.1 gf_7_12.2 (gc_7_12 _) ?_
      refine r_aload_n dX7_grow_47 rfl rfl ?_
      refine r_getC (k := 2) cl_7 dX7_grow_48 t_269 gf_7_2.1 gf_7_2.2 (gc_7_2 _) ?_
      refine r_iload dX7_grow_51 rfl ?_
      obtain ⟨hi_b10, b10, hb_b10, hm⟩ := hm
      refine r_aaldS (kd := 1) (ti := 5) (cn := RX1) dX7_grow_53 rfl hi_b10 hb_b10 ?_
      refine r_callVU (d' := d - 1) (as := [tR 1 0 (some b10)]) (st := []) cl_0 dX7_grow_54 mi_X0_push t_1137 t_891 t_892 rfl rfl (Nat.le_of_ble_eq_true rfl) (by omega) ⟨by decide, by decide⟩ ⟨rfl, rfl⟩ (s_X0_push (by omega) hm) (fun h12 hm => ?_)
      refine r_aload_n dX7_grow_57 rfl rfl ?_
      refine r_getC (k := 8) cl_7 dX7_grow_58 t_276 gf_7_8.1 gf_7_8.2 (gc_7_8 _) ?_
      refine r_iload dX7_grow_61 rfl ?_
      refine r_iald dX7_grow_63 hm.1 ?_
      replace hm := hm.2
      refine r_iload dX7_grow_64 rfl ?_
      refine r_iand dX7_grow_66 ?_
      refine r_if_ne (tgt := 205) dX7_grow_67 rfl (fun hc => ?_) (fun hc => ?_)
      · replace hm := hm.1 hc
        refine r_keep (L' := [some (tR 7 0 (some 32)), some (tI v1), none, some (tI v3), some (tI v4)]) [true, true, false, true, true] rfl ?_
        exact s_X7_grow_205 hd hR hk18 hm
      · replace hm := hm.2 hc
        refine r_aload_n dX7_grow_70 rfl rfl ?_
        refine r_getC (k := 12) cl_7 dX7_grow_71 t_280 gf_7_12.1 gf_7_12.2 (gc_7_12 _) ?_
        refine r_callVI (d' := d - 1) (as := []) (st := []) cl_0 dX7_grow_74 mi_X0_isLooked t_1138 t_949 t_950 rfl rfl (Nat.le_of_ble_eq_true rfl) (by omega) ⟨by decide, by decide⟩ ⟨rfl, rfl⟩ (s_X0_isLooked (by omega) hm) (fun x13 h14 hm => ?_)
        refine r_if_ne (tgt := 83) dX7_grow_77 rfl (fun hc => ?_) (fun hc => ?_)
        · replace hm := hm.1 hc
          refine r_iconst (v := 0) dX7_grow_83 rfl ?_
          refine r_istore (L' := [some (tR 7 0 (some 32)), some (tI v1), none, some (tI v3), some (tI v4), some (tI x9), some (tI 0)]) dX7_grow_84 (by decide) rfl ?_
          refine r_keep (L' := [some (tR 7 0 (some 32)), some (tI v1), none, some (tI v3), some (tI v4), some (tI x9), some (tI 0)]) [true, true, false, true, true, true, true] rfl ?_
          obtain ⟨n, hm⟩ := hm
          refine s_X7_grow_86 hd hR ?_ hm
          · exact (fun _ _ _ _ _ hm => s_X7_grow_139 hd hR hk18 hm)
        · replace hm := hm.2 hc
          refine r_goto (tgt := 205) dX7_grow_80 rfl ?_
          refine r_keep (L' := [some (tR 7 0 (some 32)), some (tI v1), none, some (tI v3), some (tI v4)]) [true, true, false, true, true] rfl ?_
          exact s_X7_grow_205 hd hR hk18 hm
def m_X7_grow (GR : Int32 → Int32 → Int32 → Hp → (Hp → Prop) → Prop) (v1 : Int32) (v2 : Int32) (v3 : Int32) (h : Hp) (Q : Hp → Prop) : Prop := ((hI h 32 6) ≤ v1 → Q h) ∧ (¬ (hI h 32 6) ≤ v1 → (v1 < 6 → ∃ n18, m_X7_grow_18 GR n18 Q v1 v3 v2 h) ∧ (¬ v1 < 6 → Q h))
set_option maxHeartbeats 4000000 in
set_option maxRecDepth 100000 in
theorem s_X7_grow {l : Launch} {G : Cx} {GR : Int32 → Int32 → Int32 → Hp → (Hp → Prop) → Prop} {d dR : Nat} (hd : dR + 14 ≤ d) (hR : ∀ (d : Nat), dR ≤ d → ∀ {a b c : Int32} {h : Hp} {Q : Hp → Prop}, GR a b c h Q → Ct l G d 0 0 yX7_grow MX7_grow [tR 7 0 (some 32), tI a, tI b, tI c] h (qV Q)) {v1 : Int32} {v2 : Int32} {v3 : Int32} {h : Hp} {Q : Hp → Prop} (hm : m_X7_grow GR v1 v2 v3 h Q) : Ct l G d 0 0 yX7_grow MX7_grow [tR 7 0 (some 32), tI v1, tI v2, tI v3] h (qV Q) := by
  unfold m_X7_grow at hm
  refine Ct.of (L := [some (tR 7 0 (some 32)), some (tI v1), some (tI v2), some (tI v3)]) (by decide) rfl rfl (Nat.le_of_ble_eq_true rfl) rfl ?_
  refine r_iload_n dX7_grow_0 rfl rfl ?_
  refine r_aload_n dX7_grow_1 rfl rfl ?_
  refine r_getI (k := 6) cl_7 dX7_grow_2 t_274 (Or.inl rfl) gf_7_6 ?_
  refine r_icmp_ge (tgt := 14) dX7_grow_5 rfl (fun hc => ?_) (fun hc => ?_)
  · replace hm := hm.1 hc
    exact r_return dX7_grow_14 rfl ⟨by decide, by decide⟩ ⟨rfl, hm⟩
  · replace hm := hm.2 hc
    refine r_iload_n dX7_grow_8 rfl rfl ?_
    refine r_bipush (v := 6) dX7_grow_9 rfl ?_
    refine r_icmp_lt (tgt := 15) dX7_grow_11 rfl (fun hc => ?_) (fun hc => ?_)
    · replace hm := hm.1 hc
      refine r_iload_n dX7_grow_15 rfl rfl ?_
      refine r_istore (L' := [some (tR 7 0 (some 32)), some (tI v1), some (tI v2), some (tI v3), some (tI v2)]) dX7_grow_16 (by decide) rfl ?_
      refine r_keep (L' := [some (tR 7 0 (some 32)), some (tI v1), none, some (tI v3), some (tI v2)]) [true, true, false, true, true] rfl ?_
      obtain ⟨n, hm⟩ := hm
      refine s_X7_grow_18 hd hR hm
    · replace hm := hm.2 hc
      exact r_return dX7_grow_14 rfl ⟨by decide, by decide⟩ ⟨rfl, hm⟩
def m_X7_growR : Nat → Int32 → Int32 → Int32 → Hp → (Hp → Prop) → Prop
  | 0, _, _, _, _, _ => False
  | n + 1, v1, v2, v3, h, Q => m_X7_grow (fun v1 v2 v3 h Q => m_X7_growR n v1 v2 v3 h Q) v1 v2 v3 h Q
set_option maxHeartbeats 4000000 in
set_option maxRecDepth 100000 in
theorem s_X7_growRn {l : Launch} {G : Cx} : ∀ (n d : Nat), 14 * n ≤ d → ∀ {v1 : Int32} {v2 : Int32} {v3 : Int32} {h : Hp} {Q : Hp → Prop}, m_X7_growR n v1 v2 v3 h Q → Ct l G d 0 0 yX7_grow MX7_grow [tR 7 0 (some 32), tI v1, tI v2, tI v3] h (qV Q) := by
  intro n
  induction n with
  | zero => intro d hd v1 v2 v3 h Q hm; exact hm.elim
  | succ n ih =>
    intro d hd v1 v2 v3 h Q hm
    exact s_X7_grow (dR := 14 * n) (by omega) (fun d hd => ih d hd) hm
theorem s_X7_growR {l : Launch} {G : Cx} {d : Nat} (hd : 112 ≤ d) {v1 : Int32} {v2 : Int32} {v3 : Int32} {h : Hp} {Q : Hp → Prop} (hm : m_X7_growR 8 v1 v2 v3 h Q) : Ct l G d 0 0 yX7_grow MX7_grow [tR 7 0 (some 32), tI v1, tI v2, tI v3] h (qV Q) := s_X7_growRn 8 d (by omega) hm
theorem dX7_look_0 : decode cX7_look 0 = .ok (.aload_n 0, 1) := by decide +kernel
theorem dX7_look_1 : decode cX7_look 1 = .ok (.getfield 55, 3) := by decide +kernel
theorem dX7_look_4 : decode cX7_look 4 = .ok (.iload_n 1, 1) := by decide +kernel
theorem dX7_look_5 : decode cX7_look 5 = .ok (.if_icmp .lt 4, 3) := by decide +kernel
theorem dX7_look_8 : decode cX7_look 8 = .ok (.return_, 1) := by decide +kernel
theorem dX7_look_9 : decode cX7_look 9 = .ok (.aload_n 0, 1) := by decide +kernel
theorem dX7_look_10 : decode cX7_look 10 = .ok (.iload_n 1, 1) := by decide +kernel
theorem dX7_look_11 : decode cX7_look 11 = .ok (.putfield 55, 3) := by decide +kernel
theorem dX7_look_14 : decode cX7_look 14 = .ok (.aload_n 0, 1) := by decide +kernel
theorem dX7_look_15 : decode cX7_look 15 = .ok (.iconst 0, 1) := by decide +kernel
theorem dX7_look_16 : decode cX7_look 16 = .ok (.putfield 71, 3) := by decide +kernel
theorem dX7_look_19 : decode cX7_look 19 = .ok (.aload_n 0, 1) := by decide +kernel
theorem dX7_look_20 : decode cX7_look 20 = .ok (.getfield 36, 3) := by decide +kernel
theorem dX7_look_23 : decode cX7_look 23 = .ok (.iconst 0, 1) := by decide +kernel
theorem dX7_look_24 : decode cX7_look 24 = .ok (.putfield 74, 3) := by decide +kernel
theorem dX7_look_27 : decode cX7_look 27 = .ok (.aload_n 0, 1) := by decide +kernel
theorem dX7_look_28 : decode cX7_look 28 = .ok (.aload_n 2, 1) := by decide +kernel
theorem dX7_look_29 : decode cX7_look 29 = .ok (.aload_n 0, 1) := by decide +kernel
theorem dX7_look_30 : decode cX7_look 30 = .ok (.getfield 24, 3) := by decide +kernel
theorem dX7_look_33 : decode cX7_look 33 = .ok (.iconst 0, 1) := by decide +kernel
theorem dX7_look_34 : decode cX7_look 34 = .ok (.invokevirtual 77, 3) := by decide +kernel
theorem dX7_look_37 : decode cX7_look 37 = .ok (.aload_n 0, 1) := by decide +kernel
theorem dX7_look_38 : decode cX7_look 38 = .ok (.getfield 40, 3) := by decide +kernel
theorem dX7_look_41 : decode cX7_look 41 = .ok (.lconst 0, 1) := by decide +kernel
theorem dX7_look_42 : decode cX7_look 42 = .ok (.invokestatic 81, 3) := by decide +kernel
theorem dX7_look_45 : decode cX7_look 45 = .ok (.iconst 0, 1) := by decide +kernel
theorem dX7_look_46 : decode cX7_look 46 = .ok (.istore_n 3, 1) := by decide +kernel
theorem dX7_look_47 : decode cX7_look 47 = .ok (.iload_n 3, 1) := by decide +kernel
theorem dX7_look_48 : decode cX7_look 48 = .ok (.aload_n 0, 1) := by decide +kernel
theorem dX7_look_49 : decode cX7_look 49 = .ok (.getfield 65, 3) := by decide +kernel
theorem dX7_look_52 : decode cX7_look 52 = .ok (.if_icmp .ge 32, 3) := by decide +kernel
theorem dX7_look_55 : decode cX7_look 55 = .ok (.aload_n 0, 1) := by decide +kernel
theorem dX7_look_56 : decode cX7_look 56 = .ok (.getfield 47, 3) := by decide +kernel
theorem dX7_look_59 : decode cX7_look 59 = .ok (.aload_n 0, 1) := by decide +kernel
theorem dX7_look_60 : decode cX7_look 60 = .ok (.getfield 11, 3) := by decide +kernel
theorem dX7_look_63 : decode cX7_look 63 = .ok (.iload_n 3, 1) := by decide +kernel
theorem dX7_look_64 : decode cX7_look 64 = .ok (.aaload, 1) := by decide +kernel
theorem dX7_look_65 : decode cX7_look 65 = .ok (.iconst 0, 1) := by decide +kernel
theorem dX7_look_66 : decode cX7_look 66 = .ok (.iconst 1, 1) := by decide +kernel
theorem dX7_look_67 : decode cX7_look 67 = .ok (.aload_n 0, 1) := by decide +kernel
theorem dX7_look_68 : decode cX7_look 68 = .ok (.getfield 40, 3) := by decide +kernel
theorem dX7_look_71 : decode cX7_look 71 = .ok (.iload_n 3, 1) := by decide +kernel
theorem dX7_look_72 : decode cX7_look 72 = .ok (.bipush 48, 2) := by decide +kernel
theorem dX7_look_74 : decode cX7_look 74 = .ok (.imul, 1) := by decide +kernel
theorem dX7_look_75 : decode cX7_look 75 = .ok (.invokevirtual 84, 3) := by decide +kernel
theorem dX7_look_78 : decode cX7_look 78 = .ok (.iinc 3 1, 3) := by decide +kernel
theorem dX7_look_81 : decode cX7_look 81 = .ok (.goto (-34), 3) := by decide +kernel
theorem dX7_look_84 : decode cX7_look 84 = .ok (.aload_n 0, 1) := by decide +kernel
theorem dX7_look_85 : decode cX7_look 85 = .ok (.iconst 0, 1) := by decide +kernel
theorem dX7_look_86 : decode cX7_look 86 = .ok (.iconst 0, 1) := by decide +kernel
theorem dX7_look_87 : decode cX7_look 87 = .ok (.iconst 0, 1) := by decide +kernel
theorem dX7_look_88 : decode cX7_look 88 = .ok (.invokevirtual 90, 3) := by decide +kernel
theorem dX7_look_91 : decode cX7_look 91 = .ok (.return_, 1) := by decide +kernel
def m_X7_look_84  (Q : Hp → Prop) (h : Hp) : Prop := m_X7_growR 8 0 0 0 h (fun (h2 : Hp) => Q h2)
set_option maxHeartbeats 4000000 in
set_option maxRecDepth 100000 in
theorem s_X7_look_84 {l : Launch} {G : Cx} {d : Nat} {h0 : Hp} (hd : 114 ≤ d) {Q : Hp → Prop} {h : Hp} (hm : m_X7_look_84 Q h) : Rn l G d 0 0 MX7_look h0 (qV Q) 84 [some (tR 7 0 (some 32))] [] h 0 0 := by
  unfold m_X7_look_84 at hm
  refine r_aload_n dX7_look_84 rfl rfl ?_
  refine r_iconst (v := 0) dX7_look_85 rfl ?_
  refine r_iconst (v := 0) dX7_look_86 rfl ?_
  refine r_iconst (v := 0) dX7_look_87 rfl ?_
  refine r_callVU (d' := d - 1) (as := [tI 0, tI 0, tI 0]) (st := []) cl_7 dX7_look_88 mi_X7_grow t_1133 t_1135 ts_47 rfl rfl (Nat.le_of_ble_eq_true rfl) (by omega) ⟨by decide, by decide⟩ ⟨rfl, rfl⟩ (s_X7_growR (by omega) hm) (fun h2 hm => ?_)
  exact r_return dX7_look_91 rfl ⟨by decide, by decide⟩ ⟨rfl, hm⟩
def m_X7_look_47 : Nat → (Hp → Prop) → (Hp → Prop) → Int32 → Hp → Prop
  | 0, _, _, _, _ => False
  | n + 1, k84, Q, v3, h => ((hI h 32 3) ≤ v3 → k84 h) ∧ (¬ (hI h 32 3) ≤ v3 → vp_in v3 10 ∧ ∃ b3 : Nat, hR h 33 (ix v3) = some b3 ∧ (m_X5_sumInto b3 0 1 41 480 (v3 * 48) h (fun (h5 : Hp) => ∀ x6 : Int32, x6 = v3 + 1 → m_X7_look_47 n k84 Q x6 h5)))
set_option maxHeartbeats 4000000 in
set_option maxRecDepth 100000 in
theorem s_X7_look_47 {l : Launch} {G : Cx} {d : Nat} {h0 : Hp} (hd : 114 ≤ d) {k84 : Hp → Prop} {Q : Hp → Prop} (hk84 : ∀ (hh : Hp), k84 hh → Rn l G d 0 0 MX7_look h0 (qV Q) 84 [some (tR 7 0 (some 32))] [] hh 0 0) : ∀ {n : Nat} {v3 : Int32} {h : Hp}, m_X7_look_47 n k84 Q v3 h → Rn l G d 0 0 MX7_look h0 (qV Q) 47 [some (tR 7 0 (some 32)), none, none, some (tI v3)] [] h 0 0 := by
  intro n
  induction n with
  | zero => intro v3 h hm; exact hm.elim
  | succ n ih =>
    intro v3 h hm
    have hk47 := fun (v3 : Int32) (hh : Hp) (hm : m_X7_look_47 n k84 Q v3 hh) => ih hm
    rw [m_X7_look_47] at hm
    refine r_iload_n dX7_look_47 rfl rfl ?_
    refine r_aload_n dX7_look_48 rfl rfl ?_
    refine r_getI (k := 3) cl_7 dX7_look_49 t_270 (Or.inl rfl) gf_7_3 ?_
    refine r_icmp_ge (tgt := 84) dX7_look_52 rfl (fun hc => ?_) (fun hc => ?_)
    · replace hm := hm.1 hc
      refine r_keep (L' := [some (tR 7 0 (some 32))]) [true] rfl ?_
      exact hk84 _ hm
    · replace hm := hm.2 hc
      refine r_aload_n dX7_look_55 rfl rfl ?_
      refine r_getC (k := 0) cl_7 dX7_look_56 t_267 gf_7_0.1 gf_7_0.2 (gc_7_0 _) ?_
      refine r_aload_n dX7_look_59 rfl rfl ?_
      refine r_getC (k := 2) cl_7 dX7_look_60 t_269 gf_7_2.1 gf_7_2.2 (gc_7_2 _) ?_
      refine r_iload_n dX7_look_63 rfl rfl ?_
      obtain ⟨hi_b3, b3, hb_b3, hm⟩ := hm
      refine r_aaldS (kd := 1) (ti := 5) (cn := RX1) dX7_look_64 rfl hi_b3 hb_b3 ?_
      refine r_iconst (v := 0) dX7_look_65 rfl ?_
      refine r_iconst (v := 1) dX7_look_66 rfl ?_
      refine r_aload_n dX7_look_67 rfl rfl ?_
      refine r_getC (k := 13) cl_7 dX7_look_68 t_281 gf_7_13.1 gf_7_13.2 (gc_7_13 _) ?_
      refine r_iload_n dX7_look_71 rfl rfl ?_
      refine r_bipush (v := 48) dX7_look_72 rfl ?_
      refine r_imul dX7_look_74 ?_
      refine r_callVU (d' := d - 1) (as := [tR 1 0 (some b3), tI 0, tI 1, tR 43 480 (some 41), tI (v3 * 48)]) (st := []) cl_5 dX7_look_75 mi_X5_sumInto t_1129 t_1130 t_1131 rfl rfl (Nat.le_of_ble_eq_true rfl) (by omega) ⟨by decide, by decide⟩ ⟨rfl, rfl⟩ (s_X5_sumInto (by omega) hm) (fun h5 hm => ?_)
      obtain ⟨x6, e_x6⟩ : ∃ y : Int32, y = v3 + 1 := ⟨_, rfl⟩
      replace hm := hm x6 e_x6
      refine r_iinc (L' := [some (tR 7 0 (some 32)), none, none, some (tI x6)]) dX7_look_78 rfl (by rw [e_x6]; rfl) (by decide) rfl ?_
      refine r_goto (tgt := 47) dX7_look_81 rfl ?_
      refine r_keep (L' := [some (tR 7 0 (some 32)), none, none, some (tI x6)]) [true, false, false, true] rfl ?_
      exact hk47 _ _ hm
def m_X7_look (v1 : Int32) (v2 : Option Nat) (h : Hp) (Q : Hp → Prop) : Prop := ((hI h 32 6) < v1 → m_X7_findBarred v2 36 10 0 (wI (wI (wI h 32 6 v1) 32 5 0) 39 1 0) (fun (h8 : Hp) => m_J7_fill_d0a16 41 480 0 h8 (fun (h10 : Hp) => ∃ n47, m_X7_look_47 n47 (m_X7_look_84 Q) Q 0 h10))) ∧ (¬ (hI h 32 6) < v1 → Q h)
set_option maxHeartbeats 4000000 in
set_option maxRecDepth 100000 in
theorem s_X7_look {l : Launch} {G : Cx} {d : Nat} (hd : 114 ≤ d) {v1 : Int32} {v2 : Option Nat} {h : Hp} {Q : Hp → Prop} (hm : m_X7_look v1 v2 h Q) : Ct l G d 0 0 yX7_look MX7_look [tR 7 0 (some 32), tI v1, tR 6 0 v2] h (qV Q) := by
  unfold m_X7_look at hm
  refine Ct.of (L := [some (tR 7 0 (some 32)), some (tI v1), some (tR 6 0 v2)]) (by decide) rfl rfl (Nat.le_of_ble_eq_true rfl) rfl ?_
  refine r_aload_n dX7_look_0 rfl rfl ?_
  refine r_getI (k := 6) cl_7 dX7_look_1 t_274 (Or.inl rfl) gf_7_6 ?_
  refine r_iload_n dX7_look_4 rfl rfl ?_
  refine r_icmp_lt (tgt := 9) dX7_look_5 rfl (fun hc => ?_) (fun hc => ?_)
  · replace hm := hm.1 hc
    refine r_aload_n dX7_look_9 rfl rfl ?_
    refine r_iload_n dX7_look_10 rfl rfl ?_
    refine r_putI0 (k := 6) cl_7 dX7_look_11 t_274 (Or.inl rfl) gf_7_6 pf_7_6.1 (Or.inl pf_7_6.2) ?_
    refine r_aload_n dX7_look_14 rfl rfl ?_
    refine r_iconst (v := 0) dX7_look_15 rfl ?_
    refine r_putI0 (k := 5) cl_7 dX7_look_16 t_273 (Or.inl rfl) gf_7_5 pf_7_5.1 (Or.inl pf_7_5.2) ?_
    refine r_aload_n dX7_look_19 rfl rfl ?_
    refine r_getC (k := 12) cl_7 dX7_look_20 t_280 gf_7_12.1 gf_7_12.2 (gc_7_12 _) ?_
    refine r_iconst (v := 0) dX7_look_23 rfl ?_
    refine r_putI0 (k := 1) cl_0 dX7_look_24 t_128 (Or.inl rfl) gf_0_1 pf_0_1.1 (Or.inl pf_0_1.2) ?_
    refine r_aload_n dX7_look_27 rfl rfl ?_
    refine r_aload_n dX7_look_28 rfl rfl ?_
    refine r_aload_n dX7_look_29 rfl rfl ?_
    refine r_getC (k := 8) cl_7 dX7_look_30 t_276 gf_7_8.1 gf_7_8.2 (gc_7_8 _) ?_
    refine r_iconst (v := 0) dX7_look_33 rfl ?_
    refine r_callVU (d' := d - 1) (as := [tR 6 0 v2, tR 40 10 (some 36), tI 0]) (st := []) cl_7 dX7_look_34 mi_X7_findBarred t_1119 t_1121 ts_46 rfl rfl (Nat.le_of_ble_eq_true rfl) (by omega) ⟨by decide, by decide⟩ ⟨rfl, rfl⟩ (s_X7_findBarred (by omega) hm) (fun h8 hm => ?_)
    refine r_aload_n dX7_look_37 rfl rfl ?_
    refine r_getC (k := 13) cl_7 dX7_look_38 t_281 gf_7_13.1 gf_7_13.2 (gc_7_13 _) ?_
    refine r_lconst (v := 0) dX7_look_41 rfl ?_
    refine r_callSU (d' := d - 1) (as := [tR 43 480 (some 41), tJ 0]) (st := []) dX7_look_42 mi_J7_fill_d0a16 t_1128 t_868 rfl rfl (Nat.le_of_ble_eq_true rfl) (by omega) ⟨by decide, by decide⟩ ⟨rfl, rfl⟩ (s_J7_fill_d0a16 (by omega) hm) (fun h10 hm => ?_)
    refine r_iconst (v := 0) dX7_look_45 rfl ?_
    refine r_istore_n (L' := [some (tR 7 0 (some 32)), some (tI v1), some (tR 6 0 v2), some (tI 0)]) dX7_look_46 rfl (by decide) rfl ?_
    refine r_keep (L' := [some (tR 7 0 (some 32)), none, none, some (tI 0)]) [true, false, false, true] rfl ?_
    obtain ⟨n, hm⟩ := hm
    refine s_X7_look_47 hd ?_ hm
    · exact (fun _ hm => s_X7_look_84 hd hm)
  · replace hm := hm.2 hc
    exact r_return dX7_look_8 rfl ⟨by decide, by decide⟩ ⟨rfl, hm⟩
theorem dX7_howMany_0 : decode cX7_howMany 0 = .ok (.iconst 0, 1) := rfl
theorem dX7_howMany_1 : decode cX7_howMany 1 = .ok (.istore_n 2, 1) := rfl
theorem dX7_howMany_2 : decode cX7_howMany 2 = .ok (.iconst 0, 1) := rfl
theorem dX7_howMany_3 : decode cX7_howMany 3 = .ok (.istore_n 3, 1) := rfl
theorem dX7_howMany_4 : decode cX7_howMany 4 = .ok (.iload_n 3, 1) := rfl
theorem dX7_howMany_5 : decode cX7_howMany 5 = .ok (.aload_n 0, 1) := rfl
theorem dX7_howMany_6 : decode cX7_howMany 6 = .ok (.getfield 71, 3) := rfl
theorem dX7_howMany_9 : decode cX7_howMany 9 = .ok (.if_icmp .ge 25, 3) := by decide +kernel
theorem dX7_howMany_12 : decode cX7_howMany 12 = .ok (.aload_n 0, 1) := rfl
theorem dX7_howMany_13 : decode cX7_howMany 13 = .ok (.getfield 17, 3) := rfl
theorem dX7_howMany_16 : decode cX7_howMany 16 = .ok (.iload_n 3, 1) := rfl
theorem dX7_howMany_17 : decode cX7_howMany 17 = .ok (.iaload, 1) := rfl
theorem dX7_howMany_18 : decode cX7_howMany 18 = .ok (.invokestatic 123, 3) := rfl
theorem dX7_howMany_21 : decode cX7_howMany 21 = .ok (.iload_n 1, 1) := rfl
theorem dX7_howMany_22 : decode cX7_howMany 22 = .ok (.if_icmp .gt 6, 3) := by decide +kernel
theorem dX7_howMany_25 : decode cX7_howMany 25 = .ok (.iinc 2 1, 3) := by decide +kernel
theorem dX7_howMany_28 : decode cX7_howMany 28 = .ok (.iinc 3 1, 3) := by decide +kernel
theorem dX7_howMany_31 : decode cX7_howMany 31 = .ok (.goto (-27), 3) := by decide +kernel
theorem dX7_howMany_34 : decode cX7_howMany 34 = .ok (.iload_n 2, 1) := rfl
theorem dX7_howMany_35 : decode cX7_howMany 35 = .ok (.ireturn, 1) := rfl
def m_X7_howMany_28 (k4 : Int32 → Int32 → Int32 → Hp → Prop) (Q : Int32 → Hp → Prop) (v1 : Int32) (v2 : Int32) (v3 : Int32) (h : Hp) : Prop := ∀ x1 : Int32, x1 = v3 + 1 → k4 v1 v2 x1 h
set_option maxHeartbeats 4000000 in
set_option maxRecDepth 100000 in
theorem s_X7_howMany_28 {l : Launch} {G : Cx} {d : Nat} {h0 : Hp} (hd : 4 ≤ d) {k4 : Int32 → Int32 → Int32 → Hp → Prop} {Q : Int32 → Hp → Prop} (hk4 : ∀ (v1 : Int32) (v2 : Int32) (v3 : Int32) (hh : Hp), k4 v1 v2 v3 hh → Rn l G d 0 0 MX7_howMany h0 (qI Q) 4 [some (tR 7 0 (some 32)), some (tI v1), some (tI v2), some (tI v3)] [] hh 0 0) {v1 : Int32} {v2 : Int32} {v3 : Int32} {h : Hp} (hm : m_X7_howMany_28 k4 Q v1 v2 v3 h) : Rn l G d 0 0 MX7_howMany h0 (qI Q) 28 [some (tR 7 0 (some 32)), some (tI v1), some (tI v2), some (tI v3)] [] h 0 0 := by
  unfold m_X7_howMany_28 at hm
  obtain ⟨x1, e_x1⟩ : ∃ y : Int32, y = v3 + 1 := ⟨_, rfl⟩
  replace hm := hm x1 e_x1
  refine r_iinc (L' := [some (tR 7 0 (some 32)), some (tI v1), some (tI v2), some (tI x1)]) dX7_howMany_28 rfl (by rw [e_x1]; rfl) (by decide) rfl ?_
  refine r_goto (tgt := 4) dX7_howMany_31 rfl ?_
  refine r_keep (L' := [some (tR 7 0 (some 32)), some (tI v1), some (tI v2), some (tI x1)]) [true, true, true, true] rfl ?_
  exact hk4 _ _ _ _ hm
def m_X7_howMany_4 : Nat → (Int32 → Hp → Prop) → Int32 → Int32 → Int32 → Hp → Prop
  | 0, _, _, _, _, _ => False
  | n + 1, Q, v1, v2, v3, h => ((hI h 32 5) ≤ v3 → Q v2 h) ∧ (¬ (hI h 32 5) ≤ v3 → vp_in v3 1024 ∧ (m_J6_bitCount_0f7a4 (hI h 34 (ix v3)) h (fun (x2 : Int32) (h3 : Hp) => (v1 < x2 → m_X7_howMany_28 (fun (v1 : Int32) (v2 : Int32) (v3 : Int32) (hh : Hp) => m_X7_howMany_4 n Q v1 v2 v3 hh) Q v1 v2 v3 h3) ∧ (¬ v1 < x2 → ∀ x4 : Int32, x4 = v2 + 1 → m_X7_howMany_28 (fun (v1 : Int32) (v2 : Int32) (v3 : Int32) (hh : Hp) => m_X7_howMany_4 n Q v1 v2 v3 hh) Q v1 x4 v3 h3))))
set_option maxHeartbeats 4000000 in
set_option maxRecDepth 100000 in
theorem s_X7_howMany_4 {l : Launch} {G : Cx} {d : Nat} {h0 : Hp} (hd : 4 ≤ d) {Q : Int32 → Hp → Prop} : ∀ {n : Nat} {v1 : Int32} {v2 : Int32} {v3 : Int32} {h : Hp}, m_X7_howMany_4 n Q v1 v2 v3 h → Rn l G d 0 0 MX7_howMany h0 (qI Q) 4 [some (tR 7 0 (some 32)), some (tI v1), some (tI v2), some (tI v3)] [] h 0 0 := by
  intro n
  induction n with
  | zero => intro v1 v2 v3 h hm; exact hm.elim
  | succ n ih =>
    intro v1 v2 v3 h hm
    have hk4 := fun (v1 : Int32) (v2 : Int32) (v3 : Int32) (hh : Hp) (hm : m_X7_howMany_4 n Q v1 v2 v3 hh) => ih hm
    rw [m_X7_howMany_4] at hm
    refine r_iload_n dX7_howMany_4 rfl rfl ?_
    refine r_aload_n dX7_howMany_5 rfl rfl ?_
    refine r_getI (k := 5) cl_7 dX7_howMany_6 t_273 (Or.inl rfl) gf_7_5 ?_
    refine r_icmp_ge (tgt := 34) dX7_howMany_9 rfl (fun hc => ?_) (fun hc => ?_)
    · replace hm := hm.1 hc
      refine r_iload_n dX7_howMany_34 rfl rfl ?_
      exact r_ireturn dX7_howMany_35 rfl ⟨by decide, by decide⟩ ⟨_, rfl, hm⟩
    · replace hm := hm.2 hc
      refine r_aload_n dX7_howMany_12 rfl rfl ?_
      refine r_getC (k := 4) cl_7 dX7_howMany_13 t_272 gf_7_4.1 gf_7_4.2 (gc_7_4 _) ?_
      refine r_iload_n dX7_howMany_16 rfl rfl ?_
      refine r_iald dX7_howMany_17 hm.1 ?_
      replace hm := hm.2
      refine r_callSI (d' := d - 1) (as := [tI (hI h 34 (ix v3))]) (st := []) dX7_howMany_18 mi_J6_bitCount_0f7a4 t_1164 t_862 rfl rfl (Nat.le_of_ble_eq_true rfl) (by omega) ⟨by decide, by decide⟩ ⟨rfl, rfl⟩ (s_J6_bitCount_0f7a4 (by omega) hm) (fun x2 h3 hm => ?_)
      refine r_iload_n dX7_howMany_21 rfl rfl ?_
      refine r_icmp_gt (tgt := 28) dX7_howMany_22 rfl (fun hc => ?_) (fun hc => ?_)
      · replace hm := hm.1 hc
        refine r_keep (L' := [some (tR 7 0 (some 32)), some (tI v1), some (tI v2), some (tI v3)]) [true, true, true, true] rfl ?_
        exact s_X7_howMany_28 hd hk4 hm
      · replace hm := hm.2 hc
        obtain ⟨x4, e_x4⟩ : ∃ y : Int32, y = v2 + 1 := ⟨_, rfl⟩
        replace hm := hm x4 e_x4
        refine r_iinc (L' := [some (tR 7 0 (some 32)), some (tI v1), some (tI x4), some (tI v3)]) dX7_howMany_25 rfl (by rw [e_x4]; rfl) (by decide) rfl ?_
        refine r_keep (L' := [some (tR 7 0 (some 32)), some (tI v1), some (tI x4), some (tI v3)]) [true, true, true, true] rfl ?_
        exact s_X7_howMany_28 hd hk4 hm
def m_X7_howMany (v1 : Int32) (h : Hp) (Q : Int32 → Hp → Prop) : Prop := ∃ n4, m_X7_howMany_4 n4 Q v1 0 0 h
set_option maxHeartbeats 4000000 in
set_option maxRecDepth 100000 in
theorem s_X7_howMany {l : Launch} {G : Cx} {d : Nat} (hd : 4 ≤ d) {v1 : Int32} {h : Hp} {Q : Int32 → Hp → Prop} (hm : m_X7_howMany v1 h Q) : Ct l G d 0 0 yX7_howMany MX7_howMany [tR 7 0 (some 32), tI v1] h (qI Q) := by
  unfold m_X7_howMany at hm
  refine Ct.of (L := [some (tR 7 0 (some 32)), some (tI v1)]) (by decide) rfl rfl (Nat.le_of_ble_eq_true rfl) rfl ?_
  refine r_iconst (v := 0) dX7_howMany_0 rfl ?_
  refine r_istore_n (L' := [some (tR 7 0 (some 32)), some (tI v1), some (tI 0)]) dX7_howMany_1 rfl (by decide) rfl ?_
  refine r_iconst (v := 0) dX7_howMany_2 rfl ?_
  refine r_istore_n (L' := [some (tR 7 0 (some 32)), some (tI v1), some (tI 0), some (tI 0)]) dX7_howMany_3 rfl (by decide) rfl ?_
  refine r_keep (L' := [some (tR 7 0 (some 32)), some (tI v1), some (tI 0), some (tI 0)]) [true, true, true, true] rfl ?_
  obtain ⟨n, hm⟩ := hm
  refine s_X7_howMany_4 hd hm
theorem dX7_isLess_0 : decode cX7_isLess 0 = .ok (.iload_n 0, 1) := rfl
theorem dX7_isLess_1 : decode cX7_isLess 1 = .ok (.invokestatic 123, 3) := rfl
theorem dX7_isLess_4 : decode cX7_isLess 4 = .ok (.istore_n 2, 1) := rfl
theorem dX7_isLess_5 : decode cX7_isLess 5 = .ok (.iload_n 1, 1) := rfl
theorem dX7_isLess_6 : decode cX7_isLess 6 = .ok (.invokestatic 123, 3) := rfl
theorem dX7_isLess_9 : decode cX7_isLess 9 = .ok (.istore_n 3, 1) := rfl
theorem dX7_isLess_10 : decode cX7_isLess 10 = .ok (.iload_n 2, 1) := rfl
theorem dX7_isLess_11 : decode cX7_isLess 11 = .ok (.iload_n 3, 1) := rfl
theorem dX7_isLess_12 : decode cX7_isLess 12 = .ok (.if_icmp .lt 13, 3) := by decide +kernel
theorem dX7_isLess_15 : decode cX7_isLess 15 = .ok (.iload_n 2, 1) := rfl
theorem dX7_isLess_16 : decode cX7_isLess 16 = .ok (.iload_n 3, 1) := rfl
theorem dX7_isLess_17 : decode cX7_isLess 17 = .ok (.if_icmp .ne 12, 3) := by decide +kernel
theorem dX7_isLess_20 : decode cX7_isLess 20 = .ok (.iload_n 0, 1) := rfl
theorem dX7_isLess_21 : decode cX7_isLess 21 = .ok (.iload_n 1, 1) := rfl
theorem dX7_isLess_22 : decode cX7_isLess 22 = .ok (.if_icmp .ge 7, 3) := by decide +kernel
theorem dX7_isLess_25 : decode cX7_isLess 25 = .ok (.iconst 1, 1) := rfl
theorem dX7_isLess_26 : decode cX7_isLess 26 = .ok (.goto 4, 3) := by decide +kernel
theorem dX7_isLess_29 : decode cX7_isLess 29 = .ok (.iconst 0, 1) := rfl
theorem dX7_isLess_30 : decode cX7_isLess 30 = .ok (.ireturn, 1) := rfl
def m_X7_isLess (v0 : Int32) (v1 : Int32) (h : Hp) (Q : Int32 → Hp → Prop) : Prop := m_J6_bitCount_0f7a4 v0 h (fun (x1 : Int32) (h2 : Hp) => m_J6_bitCount_0f7a4 v1 h2 (fun (x3 : Int32) (h4 : Hp) => (x1 < x3 → Q 1 h4) ∧ (¬ x1 < x3 → (¬ x1 = x3 → Q 0 h4) ∧ (x1 = x3 → (v1 ≤ v0 → Q 0 h4) ∧ (¬ v1 ≤ v0 → Q 1 h4)))))
set_option maxHeartbeats 4000000 in
set_option maxRecDepth 100000 in
theorem s_X7_isLess {l : Launch} {G : Cx} {d : Nat} (hd : 4 ≤ d) {v0 : Int32} {v1 : Int32} {h : Hp} {Q : Int32 → Hp → Prop} (hm : m_X7_isLess v0 v1 h Q) : Ct l G d 0 0 yX7_isLess MX7_isLess [tI v0, tI v1] h (qI Q) := by
  unfold m_X7_isLess at hm
  refine Ct.of (L := [some (tI v0), some (tI v1)]) (by decide) rfl rfl (Nat.le_of_ble_eq_true rfl) rfl ?_
  refine r_iload_n dX7_isLess_0 rfl rfl ?_
  refine r_callSI (d' := d - 1) (as := [tI v0]) (st := []) dX7_isLess_1 mi_J6_bitCount_0f7a4 t_1164 t_862 rfl rfl (Nat.le_of_ble_eq_true rfl) (by omega) ⟨by decide, by decide⟩ ⟨rfl, rfl⟩ (s_J6_bitCount_0f7a4 (by omega) hm) (fun x1 h2 hm => ?_)
  refine r_istore_n (L' := [some (tI v0), some (tI v1), some (tI x1)]) dX7_isLess_4 rfl (by decide) rfl ?_
  refine r_iload_n dX7_isLess_5 rfl rfl ?_
  refine r_callSI (d' := d - 1) (as := [tI v1]) (st := []) dX7_isLess_6 mi_J6_bitCount_0f7a4 t_1164 t_862 rfl rfl (Nat.le_of_ble_eq_true rfl) (by omega) ⟨by decide, by decide⟩ ⟨rfl, rfl⟩ (s_J6_bitCount_0f7a4 (by omega) hm) (fun x3 h4 hm => ?_)
  refine r_istore_n (L' := [some (tI v0), some (tI v1), some (tI x1), some (tI x3)]) dX7_isLess_9 rfl (by decide) rfl ?_
  refine r_iload_n dX7_isLess_10 rfl rfl ?_
  refine r_iload_n dX7_isLess_11 rfl rfl ?_
  refine r_icmp_lt (tgt := 25) dX7_isLess_12 rfl (fun hc => ?_) (fun hc => ?_)
  · replace hm := hm.1 hc
    refine r_iconst (v := 1) dX7_isLess_25 rfl ?_
    refine r_goto (tgt := 30) dX7_isLess_26 rfl ?_
    exact r_bret dX7_isLess_30 rfl ⟨by decide, by decide⟩ (by unfold bz; decide) ⟨_, rfl, hm⟩
  · replace hm := hm.2 hc
    refine r_iload_n dX7_isLess_15 rfl rfl ?_
    refine r_iload_n dX7_isLess_16 rfl rfl ?_
    refine r_icmp_ne (tgt := 29) dX7_isLess_17 rfl (fun hc => ?_) (fun hc => ?_)
    · replace hm := hm.1 hc
      refine r_iconst (v := 0) dX7_isLess_29 rfl ?_
      exact r_bret dX7_isLess_30 rfl ⟨by decide, by decide⟩ (by unfold bz; decide) ⟨_, rfl, hm⟩
    · replace hm := hm.2 hc
      refine r_iload_n dX7_isLess_20 rfl rfl ?_
      refine r_iload_n dX7_isLess_21 rfl rfl ?_
      refine r_icmp_ge (tgt := 29) dX7_isLess_22 rfl (fun hc => ?_) (fun hc => ?_)
      · replace hm := hm.1 hc
        refine r_iconst (v := 0) dX7_isLess_29 rfl ?_
        exact r_bret dX7_isLess_30 rfl ⟨by decide, by decide⟩ (by unfold bz; decide) ⟨_, rfl, hm⟩
      · replace hm := hm.2 hc
        refine r_iconst (v := 1) dX7_isLess_25 rfl ?_
        refine r_goto (tgt := 30) dX7_isLess_26 rfl ?_
        exact r_bret dX7_isLess_30 rfl ⟨by decide, by decide⟩ (by unfold bz; decide) ⟨_, rfl, hm⟩
theorem dX7_fewest_0 : decode cX7_fewest 0 = .ok (.iconst (-1), 1) := rfl
theorem dX7_fewest_1 : decode cX7_fewest 1 = .ok (.istore_n 2, 1) := rfl
theorem dX7_fewest_2 : decode cX7_fewest 2 = .ok (.iconst 0, 1) := rfl
theorem dX7_fewest_3 : decode cX7_fewest 3 = .ok (.istore_n 3, 1) := rfl
theorem dX7_fewest_4 : decode cX7_fewest 4 = .ok (.iload_n 3, 1) := rfl
theorem dX7_fewest_5 : decode cX7_fewest 5 = .ok (.aload_n 0, 1) := rfl
theorem dX7_fewest_6 : decode cX7_fewest 6 = .ok (.getfield 71, 3) := rfl
theorem dX7_fewest_9 : decode cX7_fewest 9 = .ok (.if_icmp .ge 47, 3) := by decide +kernel
theorem dX7_fewest_12 : decode cX7_fewest 12 = .ok (.aload_n 0, 1) := rfl
theorem dX7_fewest_13 : decode cX7_fewest 13 = .ok (.getfield 17, 3) := rfl
theorem dX7_fewest_16 : decode cX7_fewest 16 = .ok (.iload_n 3, 1) := rfl
theorem dX7_fewest_17 : decode cX7_fewest 17 = .ok (.iaload, 1) := rfl
theorem dX7_fewest_18 : decode cX7_fewest 18 = .ok (.invokestatic 123, 3) := rfl
theorem dX7_fewest_21 : decode cX7_fewest 21 = .ok (.iload_n 1, 1) := rfl
theorem dX7_fewest_22 : decode cX7_fewest 22 = .ok (.if_icmp .gt 28, 3) := by decide +kernel
theorem dX7_fewest_25 : decode cX7_fewest 25 = .ok (.iload_n 2, 1) := rfl
theorem dX7_fewest_26 : decode cX7_fewest 26 = .ok (.iconst (-1), 1) := rfl
theorem dX7_fewest_27 : decode cX7_fewest 27 = .ok (.if_icmp .eq 16, 3) := by decide +kernel
theorem dX7_fewest_30 : decode cX7_fewest 30 = .ok (.aload_n 0, 1) := rfl
theorem dX7_fewest_31 : decode cX7_fewest 31 = .ok (.getfield 17, 3) := rfl
theorem dX7_fewest_34 : decode cX7_fewest 34 = .ok (.iload_n 3, 1) := rfl
theorem dX7_fewest_35 : decode cX7_fewest 35 = .ok (.iaload, 1) := rfl
theorem dX7_fewest_36 : decode cX7_fewest 36 = .ok (.iload_n 2, 1) := rfl
theorem dX7_fewest_37 : decode cX7_fewest 37 = .ok (.invokestatic 129, 3) := rfl
theorem dX7_fewest_40 : decode cX7_fewest 40 = .ok (.ifCond .eq 10, 3) := by decide +kernel
theorem dX7_fewest_43 : decode cX7_fewest 43 = .ok (.aload_n 0, 1) := rfl
theorem dX7_fewest_44 : decode cX7_fewest 44 = .ok (.getfield 17, 3) := rfl
theorem dX7_fewest_47 : decode cX7_fewest 47 = .ok (.iload_n 3, 1) := rfl
theorem dX7_fewest_48 : decode cX7_fewest 48 = .ok (.iaload, 1) := rfl
theorem dX7_fewest_49 : decode cX7_fewest 49 = .ok (.istore_n 2, 1) := rfl
theorem dX7_fewest_50 : decode cX7_fewest 50 = .ok (.iinc 3 1, 3) := by decide +kernel
theorem dX7_fewest_53 : decode cX7_fewest 53 = .ok (.goto (-49), 3) := by decide +kernel
theorem dX7_fewest_56 : decode cX7_fewest 56 = .ok (.iload_n 2, 1) := rfl
theorem dX7_fewest_57 : decode cX7_fewest 57 = .ok (.ireturn, 1) := rfl
def m_X7_fewest_50 (k4 : Int32 → Int32 → Int32 → Hp → Prop) (Q : Int32 → Hp → Prop) (v1 : Int32) (v2 : Int32) (v3 : Int32) (h : Hp) : Prop := ∀ x1 : Int32, x1 = v3 + 1 → k4 v1 v2 x1 h
set_option maxHeartbeats 4000000 in
set_option maxRecDepth 100000 in
theorem s_X7_fewest_50 {l : Launch} {G : Cx} {d : Nat} {h0 : Hp} (hd : 6 ≤ d) {k4 : Int32 → Int32 → Int32 → Hp → Prop} {Q : Int32 → Hp → Prop} (hk4 : ∀ (v1 : Int32) (v2 : Int32) (v3 : Int32) (hh : Hp), k4 v1 v2 v3 hh → Rn l G d 0 0 MX7_fewest h0 (qI Q) 4 [some (tR 7 0 (some 32)), some (tI v1), some (tI v2), some (tI v3)] [] hh 0 0) {v1 : Int32} {v2 : Int32} {v3 : Int32} {h : Hp} (hm : m_X7_fewest_50 k4 Q v1 v2 v3 h) : Rn l G d 0 0 MX7_fewest h0 (qI Q) 50 [some (tR 7 0 (some 32)), some (tI v1), some (tI v2), some (tI v3)] [] h 0 0 := by
  unfold m_X7_fewest_50 at hm
  obtain ⟨x1, e_x1⟩ : ∃ y : Int32, y = v3 + 1 := ⟨_, rfl⟩
  replace hm := hm x1 e_x1
  refine r_iinc (L' := [some (tR 7 0 (some 32)), some (tI v1), some (tI v2), some (tI x1)]) dX7_fewest_50 rfl (by rw [e_x1]; rfl) (by decide) rfl ?_
  refine r_goto (tgt := 4) dX7_fewest_53 rfl ?_
  refine r_keep (L' := [some (tR 7 0 (some 32)), some (tI v1), some (tI v2), some (tI x1)]) [true, true, true, true] rfl ?_
  exact hk4 _ _ _ _ hm
def m_X7_fewest_43 (k4 : Int32 → Int32 → Int32 → Hp → Prop) (Q : Int32 → Hp → Prop) (v1 : Int32) (v3 : Int32) (h : Hp) : Prop := vp_in v3 1024 ∧ (∀ x2 : Int32, x2 = (hI h 34 (ix v3)) → m_X7_fewest_50 k4 Q v1 x2 v3 h)
set_option maxHeartbeats 4000000 in
set_option maxRecDepth 100000 in
theorem s_X7_fewest_43 {l : Launch} {G : Cx} {d : Nat} {h0 : Hp} (hd : 6 ≤ d) {k4 : Int32 → Int32 → Int32 → Hp → Prop} {Q : Int32 → Hp → Prop} (hk4 : ∀ (v1 : Int32) (v2 : Int32) (v3 : Int32) (hh : Hp), k4 v1 v2 v3 hh → Rn l G d 0 0 MX7_fewest h0 (qI Q) 4 [some (tR 7 0 (some 32)), some (tI v1), some (tI v2), some (tI v3)] [] hh 0 0) {v1 : Int32} {v3 : Int32} {h : Hp} (hm : m_X7_fewest_43 k4 Q v1 v3 h) : Rn l G d 0 0 MX7_fewest h0 (qI Q) 43 [some (tR 7 0 (some 32)), some (tI v1), none, some (tI v3)] [] h 0 0 := by
  unfold m_X7_fewest_43 at hm
  refine r_aload_n dX7_fewest_43 rfl rfl ?_
  refine r_getC (k := 4) cl_7 dX7_fewest_44 t_272 gf_7_4.1 gf_7_4.2 (gc_7_4 _) ?_
  refine r_iload_n dX7_fewest_47 rfl rfl ?_
  refine r_iald dX7_fewest_48 hm.1 ?_
  replace hm := hm.2
  refine r_nmI (fun x2 e_x2 => ?_)
  replace hm := hm x2 e_x2
  refine r_istore_n (L' := [some (tR 7 0 (some 32)), some (tI v1), some (tI x2), some (tI v3)]) dX7_fewest_49 rfl (by decide) rfl ?_
  refine r_keep (L' := [some (tR 7 0 (some 32)), some (tI v1), some (tI x2), some (tI v3)]) [true, true, true, true] rfl ?_
  exact s_X7_fewest_50 hd hk4 hm
def m_X7_fewest_4 : Nat → (Int32 → Hp → Prop) → Int32 → Int32 → Int32 → Hp → Prop
  | 0, _, _, _, _, _ => False
  | n + 1, Q, v1, v2, v3, h => ((hI h 32 5) ≤ v3 → Q v2 h) ∧ (¬ (hI h 32 5) ≤ v3 → vp_in v3 1024 ∧ (m_J6_bitCount_0f7a4 (hI h 34 (ix v3)) h (fun (x3 : Int32) (h4 : Hp) => (v1 < x3 → m_X7_fewest_50 (fun (v1 : Int32) (v2 : Int32) (v3 : Int32) (hh : Hp) => m_X7_fewest_4 n Q v1 v2 v3 hh) Q v1 v2 v3 h4) ∧ (¬ v1 < x3 → (v2 = (-1) → m_X7_fewest_43 (fun (v1 : Int32) (v2 : Int32) (v3 : Int32) (hh : Hp) => m_X7_fewest_4 n Q v1 v2 v3 hh) Q v1 v3 h4) ∧ (¬ v2 = (-1) → vp_in v3 1024 ∧ (m_X7_isLess (hI h4 34 (ix v3)) v2 h4 (fun (x5 : Int32) (h6 : Hp) => (x5 = 0 → m_X7_fewest_50 (fun (v1 : Int32) (v2 : Int32) (v3 : Int32) (hh : Hp) => m_X7_fewest_4 n Q v1 v2 v3 hh) Q v1 v2 v3 h6) ∧ (¬ x5 = 0 → m_X7_fewest_43 (fun (v1 : Int32) (v2 : Int32) (v3 : Int32) (hh : Hp) => m_X7_fewest_4 n Q v1 v2 v3 hh) Q v1 v3 h6))))))))
set_option maxHeartbeats 4000000 in
set_option maxRecDepth 100000 in
theorem s_X7_fewest_4 {l : Launch} {G : Cx} {d : Nat} {h0 : Hp} (hd : 6 ≤ d) {Q : Int32 → Hp → Prop} : ∀ {n : Nat} {v1 : Int32} {v2 : Int32} {v3 : Int32} {h : Hp}, m_X7_fewest_4 n Q v1 v2 v3 h → Rn l G d 0 0 MX7_fewest h0 (qI Q) 4 [some (tR 7 0 (some 32)), some (tI v1), some (tI v2), some (tI v3)] [] h 0 0 := by
  intro n
  induction n with
  | zero => intro v1 v2 v3 h hm; exact hm.elim
  | succ n ih =>
    intro v1 v2 v3 h hm
    have hk4 := fun (v1 : Int32) (v2 : Int32) (v3 : Int32) (hh : Hp) (hm : m_X7_fewest_4 n Q v1 v2 v3 hh) => ih hm
    rw [m_X7_fewest_4] at hm
    refine r_iload_n dX7_fewest_4 rfl rfl ?_
    refine r_aload_n dX7_fewest_5 rfl rfl ?_
    refine r_getI (k := 5) cl_7 dX7_fewest_6 t_273 (Or.inl rfl) gf_7_5 ?_
    refine r_icmp_ge (tgt := 56) dX7_fewest_9 rfl (fun hc => ?_) (fun hc => ?_)
    · replace hm := hm.1 hc
      refine r_iload_n dX7_fewest_56 rfl rfl ?_
      exact r_ireturn dX7_fewest_57 rfl ⟨by decide, by decide⟩ ⟨_, rfl, hm⟩
    · replace hm := hm.2 hc
      refine r_aload_n dX7_fewest_12 rfl rfl ?_
      refine r_getC (k := 4) cl_7 dX7_fewest_13 t_272 gf_7_4.1 gf_7_4.2 (gc_7_4 _) ?_
      refine r_iload_n dX7_fewest_16 rfl rfl ?_
      refine r_iald dX7_fewest_17 hm.1 ?_
      replace hm := hm.2
      refine r_callSI (d' := d - 1) (as := [tI (hI h 34 (ix v3))]) (st := []) dX7_fewest_18 mi_J6_bitCount_0f7a4 t_1164 t_862 rfl rfl (Nat.le_of_ble_eq_true rfl) (by omega) ⟨by decide, by decide⟩ ⟨rfl, rfl⟩ (s_J6_bitCount_0f7a4 (by omega) hm) (fun x3 h4 hm => ?_)
      refine r_iload_n dX7_fewest_21 rfl rfl ?_
      refine r_icmp_gt (tgt := 50) dX7_fewest_22 rfl (fun hc => ?_) (fun hc => ?_)
      · replace hm := hm.1 hc
        refine r_keep (L' := [some (tR 7 0 (some 32)), some (tI v1), some (tI v2), some (tI v3)]) [true, true, true, true] rfl ?_
        exact s_X7_fewest_50 hd hk4 hm
      · replace hm := hm.2 hc
        refine r_iload_n dX7_fewest_25 rfl rfl ?_
        refine r_iconst (v := (-1)) dX7_fewest_26 rfl ?_
        refine r_icmp_eq (tgt := 43) dX7_fewest_27 rfl (fun hc => ?_) (fun hc => ?_)
        · replace hm := hm.1 hc
          refine r_keep (L' := [some (tR 7 0 (some 32)), some (tI v1), none, some (tI v3)]) [true, true, false, true] rfl ?_
          exact s_X7_fewest_43 hd hk4 hm
        · replace hm := hm.2 hc
          refine r_aload_n dX7_fewest_30 rfl rfl ?_
          refine r_getC (k := 4) cl_7 dX7_fewest_31 t_272 gf_7_4.1 gf_7_4.2 (gc_7_4 _) ?_
          refine r_iload_n dX7_fewest_34 rfl rfl ?_
          refine r_iald dX7_fewest_35 hm.1 ?_
          replace hm := hm.2
          refine r_iload_n dX7_fewest_36 rfl rfl ?_
          refine r_callSI (d' := d - 1) (as := [tI (hI h4 34 (ix v3)), tI v2]) (st := []) dX7_fewest_37 mi_X7_isLess t_1169 t_1170 rfl rfl (Nat.le_of_ble_eq_true rfl) (by omega) ⟨by decide, by decide⟩ ⟨rfl, rfl⟩ (s_X7_isLess (by omega) hm) (fun x5 h6 hm => ?_)
          refine r_if_eq (tgt := 50) dX7_fewest_40 rfl (fun hc => ?_) (fun hc => ?_)
          · replace hm := hm.1 hc
            refine r_keep (L' := [some (tR 7 0 (some 32)), some (tI v1), some (tI v2), some (tI v3)]) [true, true, true, true] rfl ?_
            exact s_X7_fewest_50 hd hk4 hm
          · replace hm := hm.2 hc
            refine r_keep (L' := [some (tR 7 0 (some 32)), some (tI v1), none, some (tI v3)]) [true, true, false, true] rfl ?_
            exact s_X7_fewest_43 hd hk4 hm
def m_X7_fewest (v1 : Int32) (h : Hp) (Q : Int32 → Hp → Prop) : Prop := ∃ n4, m_X7_fewest_4 n4 Q v1 (-1) 0 h
set_option maxHeartbeats 4000000 in
set_option maxRecDepth 100000 in
theorem s_X7_fewest {l : Launch} {G : Cx} {d : Nat} (hd : 6 ≤ d) {v1 : Int32} {h : Hp} {Q : Int32 → Hp → Prop} (hm : m_X7_fewest v1 h Q) : Ct l G d 0 0 yX7_fewest MX7_fewest [tR 7 0 (some 32), tI v1] h (qI Q) := by
  unfold m_X7_fewest at hm
  refine Ct.of (L := [some (tR 7 0 (some 32)), some (tI v1)]) (by decide) rfl rfl (Nat.le_of_ble_eq_true rfl) rfl ?_
  refine r_iconst (v := (-1)) dX7_fewest_0 rfl ?_
  refine r_istore_n (L' := [some (tR 7 0 (some 32)), some (tI v1), some (tI (-1))]) dX7_fewest_1 rfl (by decide) rfl ?_
  refine r_iconst (v := 0) dX7_fewest_2 rfl ?_
  refine r_istore_n (L' := [some (tR 7 0 (some 32)), some (tI v1), some (tI (-1)), some (tI 0)]) dX7_fewest_3 rfl (by decide) rfl ?_
  refine r_keep (L' := [some (tR 7 0 (some 32)), some (tI v1), some (tI (-1)), some (tI 0)]) [true, true, true, true] rfl ?_
  obtain ⟨n, hm⟩ := hm
  refine s_X7_fewest_4 hd hm
theorem dX7_wordsThatBar_0 : decode cX7_wordsThatBar 0 = .ok (.iconst 0, 1) := rfl
theorem dX7_wordsThatBar_1 : decode cX7_wordsThatBar 1 = .ok (.istore_n 3, 1) := rfl
theorem dX7_wordsThatBar_2 : decode cX7_wordsThatBar 2 = .ok (.iconst 0, 1) := rfl
theorem dX7_wordsThatBar_3 : decode cX7_wordsThatBar 3 = .ok (.istore 4, 2) := rfl
theorem dX7_wordsThatBar_5 : decode cX7_wordsThatBar 5 = .ok (.iload 4, 2) := rfl
theorem dX7_wordsThatBar_7 : decode cX7_wordsThatBar 7 = .ok (.bipush 12, 2) := by decide +kernel
theorem dX7_wordsThatBar_9 : decode cX7_wordsThatBar 9 = .ok (.if_icmp .ge 72, 3) := by decide +kernel
theorem dX7_wordsThatBar_12 : decode cX7_wordsThatBar 12 = .ok (.iconst 0, 1) := rfl
theorem dX7_wordsThatBar_13 : decode cX7_wordsThatBar 13 = .ok (.istore 5, 2) := rfl
theorem dX7_wordsThatBar_15 : decode cX7_wordsThatBar 15 = .ok (.iload 5, 2) := rfl
theorem dX7_wordsThatBar_17 : decode cX7_wordsThatBar 17 = .ok (.aload_n 0, 1) := rfl
theorem dX7_wordsThatBar_18 : decode cX7_wordsThatBar 18 = .ok (.getfield 65, 3) := rfl
theorem dX7_wordsThatBar_21 : decode cX7_wordsThatBar 21 = .ok (.if_icmp .ge 54, 3) := by decide +kernel
theorem dX7_wordsThatBar_24 : decode cX7_wordsThatBar 24 = .ok (.iload_n 2, 1) := rfl
theorem dX7_wordsThatBar_25 : decode cX7_wordsThatBar 25 = .ok (.iload 4, 2) := rfl
theorem dX7_wordsThatBar_27 : decode cX7_wordsThatBar 27 = .ok (.ishr, 1) := rfl
theorem dX7_wordsThatBar_28 : decode cX7_wordsThatBar 28 = .ok (.iconst 1, 1) := rfl
theorem dX7_wordsThatBar_29 : decode cX7_wordsThatBar 29 = .ok (.iand, 1) := rfl
theorem dX7_wordsThatBar_30 : decode cX7_wordsThatBar 30 = .ok (.iconst 1, 1) := rfl
theorem dX7_wordsThatBar_31 : decode cX7_wordsThatBar 31 = .ok (.if_icmp .ne 44, 3) := by decide +kernel
theorem dX7_wordsThatBar_34 : decode cX7_wordsThatBar 34 = .ok (.iload_n 1, 1) := rfl
theorem dX7_wordsThatBar_35 : decode cX7_wordsThatBar 35 = .ok (.iload 5, 2) := rfl
theorem dX7_wordsThatBar_37 : decode cX7_wordsThatBar 37 = .ok (.ishr, 1) := rfl
theorem dX7_wordsThatBar_38 : decode cX7_wordsThatBar 38 = .ok (.iconst 1, 1) := rfl
theorem dX7_wordsThatBar_39 : decode cX7_wordsThatBar 39 = .ok (.iand, 1) := rfl
theorem dX7_wordsThatBar_40 : decode cX7_wordsThatBar 40 = .ok (.iconst 1, 1) := rfl
theorem dX7_wordsThatBar_41 : decode cX7_wordsThatBar 41 = .ok (.if_icmp .ne 28, 3) := by decide +kernel
theorem dX7_wordsThatBar_44 : decode cX7_wordsThatBar 44 = .ok (.aload_n 0, 1) := rfl
theorem dX7_wordsThatBar_45 : decode cX7_wordsThatBar 45 = .ok (.getfield 27, 3) := rfl
theorem dX7_wordsThatBar_48 : decode cX7_wordsThatBar 48 = .ok (.iload 4, 2) := rfl
theorem dX7_wordsThatBar_50 : decode cX7_wordsThatBar 50 = .ok (.bipush 10, 2) := by decide +kernel
theorem dX7_wordsThatBar_52 : decode cX7_wordsThatBar 52 = .ok (.imul, 1) := rfl
theorem dX7_wordsThatBar_53 : decode cX7_wordsThatBar 53 = .ok (.iload 5, 2) := rfl
theorem dX7_wordsThatBar_55 : decode cX7_wordsThatBar 55 = .ok (.iadd, 1) := rfl
theorem dX7_wordsThatBar_56 : decode cX7_wordsThatBar 56 = .ok (.iaload, 1) := rfl
theorem dX7_wordsThatBar_57 : decode cX7_wordsThatBar 57 = .ok (.iload_n 1, 1) := rfl
theorem dX7_wordsThatBar_58 : decode cX7_wordsThatBar 58 = .ok (.iand, 1) := rfl
theorem dX7_wordsThatBar_59 : decode cX7_wordsThatBar 59 = .ok (.ifCond .eq 10, 3) := by decide +kernel
theorem dX7_wordsThatBar_62 : decode cX7_wordsThatBar 62 = .ok (.iload_n 3, 1) := rfl
theorem dX7_wordsThatBar_63 : decode cX7_wordsThatBar 63 = .ok (.iconst 1, 1) := rfl
theorem dX7_wordsThatBar_64 : decode cX7_wordsThatBar 64 = .ok (.iload 4, 2) := rfl
theorem dX7_wordsThatBar_66 : decode cX7_wordsThatBar 66 = .ok (.ishl, 1) := rfl
theorem dX7_wordsThatBar_67 : decode cX7_wordsThatBar 67 = .ok (.ior, 1) := rfl
theorem dX7_wordsThatBar_68 : decode cX7_wordsThatBar 68 = .ok (.istore_n 3, 1) := rfl
theorem dX7_wordsThatBar_69 : decode cX7_wordsThatBar 69 = .ok (.iinc 5 1, 3) := by decide +kernel
theorem dX7_wordsThatBar_72 : decode cX7_wordsThatBar 72 = .ok (.goto (-57), 3) := by decide +kernel
theorem dX7_wordsThatBar_75 : decode cX7_wordsThatBar 75 = .ok (.iinc 4 1, 3) := by decide +kernel
theorem dX7_wordsThatBar_78 : decode cX7_wordsThatBar 78 = .ok (.goto (-73), 3) := by decide +kernel
theorem dX7_wordsThatBar_81 : decode cX7_wordsThatBar 81 = .ok (.iload_n 3, 1) := rfl
theorem dX7_wordsThatBar_82 : decode cX7_wordsThatBar 82 = .ok (.ireturn, 1) := rfl
def m_X7_wordsThatBar_75 (k5 : Int32 → Int32 → Int32 → Int32 → Hp → Prop) (Q : Int32 → Hp → Prop) (v1 : Int32) (v2 : Int32) (v3 : Int32) (v4 : Int32) (h : Hp) : Prop := ∀ x1 : Int32, x1 = v4 + 1 → k5 v1 v2 v3 x1 h
set_option maxHeartbeats 4000000 in
set_option maxRecDepth 100000 in
theorem s_X7_wordsThatBar_75 {l : Launch} {G : Cx} {d : Nat} {h0 : Hp} (hd : 2 ≤ d) {k5 : Int32 → Int32 → Int32 → Int32 → Hp → Prop} {Q : Int32 → Hp → Prop} (hk5 : ∀ (v1 : Int32) (v2 : Int32) (v3 : Int32) (v4 : Int32) (hh : Hp), k5 v1 v2 v3 v4 hh → Rn l G d 0 0 MX7_wordsThatBar h0 (qI Q) 5 [some (tR 7 0 (some 32)), some (tI v1), some (tI v2), some (tI v3), some (tI v4)] [] hh 0 0) {v1 : Int32} {v2 : Int32} {v3 : Int32} {v4 : Int32} {h : Hp} (hm : m_X7_wordsThatBar_75 k5 Q v1 v2 v3 v4 h) : Rn l G d 0 0 MX7_wordsThatBar h0 (qI Q) 75 [some (tR 7 0 (some 32)), some (tI v1), some (tI v2), some (tI v3), some (tI v4)] [] h 0 0 := by
  unfold m_X7_wordsThatBar_75 at hm
  obtain ⟨x1, e_x1⟩ : ∃ y : Int32, y = v4 + 1 := ⟨_, rfl⟩
  replace hm := hm x1 e_x1
  refine r_iinc (L' := [some (tR 7 0 (some 32)), some (tI v1), some (tI v2), some (tI v3), some (tI x1)]) dX7_wordsThatBar_75 rfl (by rw [e_x1]; rfl) (by decide) rfl ?_
  refine r_goto (tgt := 5) dX7_wordsThatBar_78 rfl ?_
  refine r_keep (L' := [some (tR 7 0 (some 32)), some (tI v1), some (tI v2), some (tI v3), some (tI x1)]) [true, true, true, true, true] rfl ?_
  exact hk5 _ _ _ _ _ hm
def m_X7_wordsThatBar_69 (k15 : Int32 → Int32 → Int32 → Int32 → Int32 → Hp → Prop) (k75 : Int32 → Int32 → Int32 → Int32 → Hp → Prop) (Q : Int32 → Hp → Prop) (v1 : Int32) (v2 : Int32) (v3 : Int32) (v4 : Int32) (v5 : Int32) (h : Hp) : Prop := ∀ x2 : Int32, x2 = v5 + 1 → k15 v1 v2 v3 v4 x2 h
set_option maxHeartbeats 4000000 in
set_option maxRecDepth 100000 in
theorem s_X7_wordsThatBar_69 {l : Launch} {G : Cx} {d : Nat} {h0 : Hp} (hd : 2 ≤ d) {k15 : Int32 → Int32 → Int32 → Int32 → Int32 → Hp → Prop} {k75 : Int32 → Int32 → Int32 → Int32 → Hp → Prop} {Q : Int32 → Hp → Prop} (hk15 : ∀ (v1 : Int32) (v2 : Int32) (v3 : Int32) (v4 : Int32) (v5 : Int32) (hh : Hp), k15 v1 v2 v3 v4 v5 hh → Rn l G d 0 0 MX7_wordsThatBar h0 (qI Q) 15 [some (tR 7 0 (some 32)), some (tI v1), some (tI v2), some (tI v3), some (tI v4), some (tI v5)] [] hh 0 0) (hk75 : ∀ (v1 : Int32) (v2 : Int32) (v3 : Int32) (v4 : Int32) (hh : Hp), k75 v1 v2 v3 v4 hh → Rn l G d 0 0 MX7_wordsThatBar h0 (qI Q) 75 [some (tR 7 0 (some 32)), some (tI v1), some (tI v2), some (tI v3), some (tI v4)] [] hh 0 0) {v1 : Int32} {v2 : Int32} {v3 : Int32} {v4 : Int32} {v5 : Int32} {h : Hp} (hm : m_X7_wordsThatBar_69 k15 k75 Q v1 v2 v3 v4 v5 h) : Rn l G d 0 0 MX7_wordsThatBar h0 (qI Q) 69 [some (tR 7 0 (some 32)), some (tI v1), some (tI v2), some (tI v3), some (tI v4), some (tI v5)] [] h 0 0 := by
  unfold m_X7_wordsThatBar_69 at hm
  obtain ⟨x2, e_x2⟩ : ∃ y : Int32, y = v5 + 1 := ⟨_, rfl⟩
  replace hm := hm x2 e_x2
  refine r_iinc (L' := [some (tR 7 0 (some 32)), some (tI v1), some (tI v2), some (tI v3), some (tI v4), some (tI x2)]) dX7_wordsThatBar_69 rfl (by rw [e_x2]; rfl) (by decide) rfl ?_
  refine r_goto (tgt := 15) dX7_wordsThatBar_72 rfl ?_
  refine r_keep (L' := [some (tR 7 0 (some 32)), some (tI v1), some (tI v2), some (tI v3), some (tI v4), some (tI x2)]) [true, true, true, true, true, true] rfl ?_
  exact hk15 _ _ _ _ _ _ hm
def m_X7_wordsThatBar_15 : Nat → (Int32 → Int32 → Int32 → Int32 → Hp → Prop) → (Int32 → Hp → Prop) → Int32 → Int32 → Int32 → Int32 → Int32 → Hp → Prop
  | 0, _, _, _, _, _, _, _, _ => False
  | n + 1, k75, Q, v1, v2, v3, v4, v5, h => ((hI h 32 3) ≤ v5 → k75 v1 v2 v3 v4 h) ∧ (¬ (hI h 32 3) ≤ v5 → (¬ ((v2 >>> (v4 &&& 31)) &&& 1) = 1 → k75 v1 v2 v3 v4 h) ∧ (((v2 >>> (v4 &&& 31)) &&& 1) = 1 → (¬ ((v1 >>> (v5 &&& 31)) &&& 1) = 1 → m_X7_wordsThatBar_69 (fun (v1 : Int32) (v2 : Int32) (v3 : Int32) (v4 : Int32) (v5 : Int32) (hh : Hp) => m_X7_wordsThatBar_15 n k75 Q v1 v2 v3 v4 v5 hh) k75 Q v1 v2 v3 v4 v5 h) ∧ (((v1 >>> (v5 &&& 31)) &&& 1) = 1 → vp_in ((v4 * 10) + v5) 120 ∧ ((((hI h 37 (ix ((v4 * 10) + v5))) &&& v1) = 0 → m_X7_wordsThatBar_69 (fun (v1 : Int32) (v2 : Int32) (v3 : Int32) (v4 : Int32) (v5 : Int32) (hh : Hp) => m_X7_wordsThatBar_15 n k75 Q v1 v2 v3 v4 v5 hh) k75 Q v1 v2 v3 v4 v5 h) ∧ (¬ ((hI h 37 (ix ((v4 * 10) + v5))) &&& v1) = 0 → ∀ x3 : Int32, x3 = (v3 ||| (1 <<< (v4 &&& 31))) → m_X7_wordsThatBar_69 (fun (v1 : Int32) (v2 : Int32) (v3 : Int32) (v4 : Int32) (v5 : Int32) (hh : Hp) => m_X7_wordsThatBar_15 n k75 Q v1 v2 v3 v4 v5 hh) k75 Q v1 v2 x3 v4 v5 h)))))
set_option maxHeartbeats 4000000 in
set_option maxRecDepth 100000 in
theorem s_X7_wordsThatBar_15 {l : Launch} {G : Cx} {d : Nat} {h0 : Hp} (hd : 2 ≤ d) {k75 : Int32 → Int32 → Int32 → Int32 → Hp → Prop} {Q : Int32 → Hp → Prop} (hk75 : ∀ (v1 : Int32) (v2 : Int32) (v3 : Int32) (v4 : Int32) (hh : Hp), k75 v1 v2 v3 v4 hh → Rn l G d 0 0 MX7_wordsThatBar h0 (qI Q) 75 [some (tR 7 0 (some 32)), some (tI v1), some (tI v2), some (tI v3), some (tI v4)] [] hh 0 0) : ∀ {n : Nat} {v1 : Int32} {v2 : Int32} {v3 : Int32} {v4 : Int32} {v5 : Int32} {h : Hp}, m_X7_wordsThatBar_15 n k75 Q v1 v2 v3 v4 v5 h → Rn l G d 0 0 MX7_wordsThatBar h0 (qI Q) 15 [some (tR 7 0 (some 32)), some (tI v1), some (tI v2), some (tI v3), some (tI v4), some (tI v5)] [] h 0 0 := by
  intro n
  induction n with
  | zero => intro v1 v2 v3 v4 v5 h hm; exact hm.elim
  | succ n ih =>
    intro v1 v2 v3 v4 v5 h hm
    have hk15 := fun (v1 : Int32) (v2 : Int32) (v3 : Int32) (v4 : Int32) (v5 : Int32) (hh : Hp) (hm : m_X7_wordsThatBar_15 n k75 Q v1 v2 v3 v4 v5 hh) => ih hm
    rw [m_X7_wordsThatBar_15] at hm
    refine r_iload dX7_wordsThatBar_15 rfl ?_
    refine r_aload_n dX7_wordsThatBar_17 rfl rfl ?_
    refine r_getI (k := 3) cl_7 dX7_wordsThatBar_18 t_270 (Or.inl rfl) gf_7_3 ?_
    refine r_icmp_ge (tgt := 75) dX7_wordsThatBar_21 rfl (fun hc => ?_) (fun hc => ?_)
    · replace hm := hm.1 hc
      refine r_keep (L' := [some (tR 7 0 (some 32)), some (tI v1), some (tI v2), some (tI v3), some (tI v4)]) [true, true, true, true, true] rfl ?_
      exact hk75 _ _ _ _ _ hm
    · replace hm := hm.2 hc
      refine r_iload_n dX7_wordsThatBar_24 rfl rfl ?_
      refine r_iload dX7_wordsThatBar_25 rfl ?_
      refine r_ishr dX7_wordsThatBar_27 ?_
      refine r_iconst (v := 1) dX7_wordsThatBar_28 rfl ?_
      refine r_iand dX7_wordsThatBar_29 ?_
      refine r_iconst (v := 1) dX7_wordsThatBar_30 rfl ?_
      refine r_icmp_ne (tgt := 75) dX7_wordsThatBar_31 rfl (fun hc => ?_) (fun hc => ?_)
      · replace hm := hm.1 hc
        refine r_keep (L' := [some (tR 7 0 (some 32)), some (tI v1), some (tI v2), some (tI v3), some (tI v4)]) [true, true, true, true, true] rfl ?_
        exact hk75 _ _ _ _ _ hm
      · replace hm := hm.2 hc
        refine r_iload_n dX7_wordsThatBar_34 rfl rfl ?_
        refine r_iload dX7_wordsThatBar_35 rfl ?_
        refine r_ishr dX7_wordsThatBar_37 ?_
        refine r_iconst (v := 1) dX7_wordsThatBar_38 rfl ?_
        refine r_iand dX7_wordsThatBar_39 ?_
        refine r_iconst (v := 1) dX7_wordsThatBar_40 rfl ?_
        refine r_icmp_ne (tgt := 69) dX7_wordsThatBar_41 rfl (fun hc => ?_) (fun hc => ?_)
        · replace hm := hm.1 hc
          refine r_keep (L' := [some (tR 7 0 (some 32)), some (tI v1), some (tI v2), some (tI v3), some (tI v4), some (tI v5)]) [true, true, true, true, true, true] rfl ?_
          exact s_X7_wordsThatBar_69 hd hk15 hk75 hm
        · replace hm := hm.2 hc
          refine r_aload_n dX7_wordsThatBar_44 rfl rfl ?_
          refine r_getC (k := 9) cl_7 dX7_wordsThatBar_45 t_277 gf_7_9.1 gf_7_9.2 (gc_7_9 _) ?_
          refine r_iload dX7_wordsThatBar_48 rfl ?_
          refine r_bipush (v := 10) dX7_wordsThatBar_50 rfl ?_
          refine r_imul dX7_wordsThatBar_52 ?_
          refine r_iload dX7_wordsThatBar_53 rfl ?_
          refine r_iadd dX7_wordsThatBar_55 ?_
          refine r_iald dX7_wordsThatBar_56 hm.1 ?_
          replace hm := hm.2
          refine r_iload_n dX7_wordsThatBar_57 rfl rfl ?_
          refine r_iand dX7_wordsThatBar_58 ?_
          refine r_if_eq (tgt := 69) dX7_wordsThatBar_59 rfl (fun hc => ?_) (fun hc => ?_)
          · replace hm := hm.1 hc
            refine r_keep (L' := [some (tR 7 0 (some 32)), some (tI v1), some (tI v2), some (tI v3), some (tI v4), some (tI v5)]) [true, true, true, true, true, true] rfl ?_
            exact s_X7_wordsThatBar_69 hd hk15 hk75 hm
          · replace hm := hm.2 hc
            refine r_iload_n dX7_wordsThatBar_62 rfl rfl ?_
            refine r_iconst (v := 1) dX7_wordsThatBar_63 rfl ?_
            refine r_iload dX7_wordsThatBar_64 rfl ?_
            refine r_ishl dX7_wordsThatBar_66 ?_
            refine r_ior dX7_wordsThatBar_67 ?_
            refine r_nmI (fun x3 e_x3 => ?_)
            replace hm := hm x3 e_x3
            refine r_istore_n (L' := [some (tR 7 0 (some 32)), some (tI v1), some (tI v2), some (tI x3), some (tI v4), some (tI v5)]) dX7_wordsThatBar_68 rfl (by decide) rfl ?_
            refine r_keep (L' := [some (tR 7 0 (some 32)), some (tI v1), some (tI v2), some (tI x3), some (tI v4), some (tI v5)]) [true, true, true, true, true, true] rfl ?_
            exact s_X7_wordsThatBar_69 hd hk15 hk75 hm
def m_X7_wordsThatBar_5 : Nat → (Int32 → Hp → Prop) → Int32 → Int32 → Int32 → Int32 → Hp → Prop
  | 0, _, _, _, _, _, _ => False
  | n + 1, Q, v1, v2, v3, v4, h => (12 ≤ v4 → Q v3 h) ∧ (¬ 12 ≤ v4 → ∃ n15, m_X7_wordsThatBar_15 n15 (m_X7_wordsThatBar_75 (fun (v1 : Int32) (v2 : Int32) (v3 : Int32) (v4 : Int32) (hh : Hp) => m_X7_wordsThatBar_5 n Q v1 v2 v3 v4 hh) Q) Q v1 v2 v3 v4 0 h)
set_option maxHeartbeats 4000000 in
set_option maxRecDepth 100000 in
theorem s_X7_wordsThatBar_5 {l : Launch} {G : Cx} {d : Nat} {h0 : Hp} (hd : 2 ≤ d) {Q : Int32 → Hp → Prop} : ∀ {n : Nat} {v1 : Int32} {v2 : Int32} {v3 : Int32} {v4 : Int32} {h : Hp}, m_X7_wordsThatBar_5 n Q v1 v2 v3 v4 h → Rn l G d 0 0 MX7_wordsThatBar h0 (qI Q) 5 [some (tR 7 0 (some 32)), some (tI v1), some (tI v2), some (tI v3), some (tI v4)] [] h 0 0 := by
  intro n
  induction n with
  | zero => intro v1 v2 v3 v4 h hm; exact hm.elim
  | succ n ih =>
    intro v1 v2 v3 v4 h hm
    have hk5 := fun (v1 : Int32) (v2 : Int32) (v3 : Int32) (v4 : Int32) (hh : Hp) (hm : m_X7_wordsThatBar_5 n Q v1 v2 v3 v4 hh) => ih hm
    rw [m_X7_wordsThatBar_5] at hm
    refine r_iload dX7_wordsThatBar_5 rfl ?_
    refine r_bipush (v := 12) dX7_wordsThatBar_7 rfl ?_
    refine r_icmp_ge (tgt := 81) dX7_wordsThatBar_9 rfl (fun hc => ?_) (fun hc => ?_)
    · replace hm := hm.1 hc
      refine r_iload_n dX7_wordsThatBar_81 rfl rfl ?_
      exact r_ireturn dX7_wordsThatBar_82 rfl ⟨by decide, by decide⟩ ⟨_, rfl, hm⟩
    · replace hm := hm.2 hc
      refine r_iconst (v := 0) dX7_wordsThatBar_12 rfl ?_
      refine r_istore (L' := [some (tR 7 0 (some 32)), some (tI v1), some (tI v2), some (tI v3), some (tI v4), some (tI 0)]) dX7_wordsThatBar_13 (by decide) rfl ?_
      refine r_keep (L' := [some (tR 7 0 (some 32)), some (tI v1), some (tI v2), some (tI v3), some (tI v4), some (tI 0)]) [true, true, true, true, true, true] rfl ?_
      obtain ⟨n, hm⟩ := hm
      refine s_X7_wordsThatBar_15 hd ?_ hm
      · exact (fun _ _ _ _ _ hm => s_X7_wordsThatBar_75 hd hk5 hm)
def m_X7_wordsThatBar (v1 : Int32) (v2 : Int32) (h : Hp) (Q : Int32 → Hp → Prop) : Prop := ∃ n5, m_X7_wordsThatBar_5 n5 Q v1 v2 0 0 h
set_option maxHeartbeats 4000000 in
set_option maxRecDepth 100000 in
theorem s_X7_wordsThatBar {l : Launch} {G : Cx} {d : Nat} (hd : 2 ≤ d) {v1 : Int32} {v2 : Int32} {h : Hp} {Q : Int32 → Hp → Prop} (hm : m_X7_wordsThatBar v1 v2 h Q) : Ct l G d 0 0 yX7_wordsThatBar MX7_wordsThatBar [tR 7 0 (some 32), tI v1, tI v2] h (qI Q) := by
  unfold m_X7_wordsThatBar at hm
  refine Ct.of (L := [some (tR 7 0 (some 32)), some (tI v1), some (tI v2)]) (by decide) rfl rfl (Nat.le_of_ble_eq_true rfl) rfl ?_
  refine r_iconst (v := 0) dX7_wordsThatBar_0 rfl ?_
  refine r_istore_n (L' := [some (tR 7 0 (some 32)), some (tI v1), some (tI v2), some (tI 0)]) dX7_wordsThatBar_1 rfl (by decide) rfl ?_
  refine r_iconst (v := 0) dX7_wordsThatBar_2 rfl ?_
  refine r_istore (L' := [some (tR 7 0 (some 32)), some (tI v1), some (tI v2), some (tI 0), some (tI 0)]) dX7_wordsThatBar_3 (by decide) rfl ?_
  refine r_keep (L' := [some (tR 7 0 (some 32)), some (tI v1), some (tI v2), some (tI 0), some (tI 0)]) [true, true, true, true, true] rfl ?_
  obtain ⟨n, hm⟩ := hm
  refine s_X7_wordsThatBar_5 hd hm
theorem dX7_putNeed_0 : decode cX7_putNeed 0 = .ok (.iconst 0, 1) := rfl
theorem dX7_putNeed_1 : decode cX7_putNeed 1 = .ok (.istore_n 2, 1) := rfl
theorem dX7_putNeed_2 : decode cX7_putNeed 2 = .ok (.iload_n 2, 1) := rfl
theorem dX7_putNeed_3 : decode cX7_putNeed 3 = .ok (.aload_n 0, 1) := rfl
theorem dX7_putNeed_4 : decode cX7_putNeed 4 = .ok (.getfield 133, 3) := rfl
theorem dX7_putNeed_7 : decode cX7_putNeed 7 = .ok (.if_icmp .ge 20, 3) := by decide +kernel
theorem dX7_putNeed_10 : decode cX7_putNeed 10 = .ok (.aload_n 0, 1) := rfl
theorem dX7_putNeed_11 : decode cX7_putNeed 11 = .ok (.getfield 30, 3) := rfl
theorem dX7_putNeed_14 : decode cX7_putNeed 14 = .ok (.iload_n 2, 1) := rfl
theorem dX7_putNeed_15 : decode cX7_putNeed 15 = .ok (.iaload, 1) := rfl
theorem dX7_putNeed_16 : decode cX7_putNeed 16 = .ok (.iload_n 1, 1) := rfl
theorem dX7_putNeed_17 : decode cX7_putNeed 17 = .ok (.if_icmp .ne 4, 3) := by decide +kernel
theorem dX7_putNeed_20 : decode cX7_putNeed 20 = .ok (.return_, 1) := rfl
theorem dX7_putNeed_21 : decode cX7_putNeed 21 = .ok (.iinc 2 1, 3) := by decide +kernel
theorem dX7_putNeed_24 : decode cX7_putNeed 24 = .ok (.goto (-22), 3) := by decide +kernel
theorem dX7_putNeed_27 : decode cX7_putNeed 27 = .ok (.aload_n 0, 1) := rfl
theorem dX7_putNeed_28 : decode cX7_putNeed 28 = .ok (.getfield 133, 3) := rfl
theorem dX7_putNeed_31 : decode cX7_putNeed 31 = .ok (.sipush 1024, 3) := by decide +kernel
theorem dX7_putNeed_34 : decode cX7_putNeed 34 = .ok (.if_icmp .ge 23, 3) := by decide +kernel
theorem dX7_putNeed_37 : decode cX7_putNeed 37 = .ok (.aload_n 0, 1) := rfl
theorem dX7_putNeed_38 : decode cX7_putNeed 38 = .ok (.getfield 30, 3) := rfl
theorem dX7_putNeed_41 : decode cX7_putNeed 41 = .ok (.aload_n 0, 1) := rfl
theorem dX7_putNeed_42 : decode cX7_putNeed 42 = .ok (.getfield 133, 3) := rfl
theorem dX7_putNeed_45 : decode cX7_putNeed 45 = .ok (.iload_n 1, 1) := rfl
theorem dX7_putNeed_46 : decode cX7_putNeed 46 = .ok (.iastore, 1) := rfl
theorem dX7_putNeed_47 : decode cX7_putNeed 47 = .ok (.aload_n 0, 1) := rfl
theorem dX7_putNeed_48 : decode cX7_putNeed 48 = .ok (.dup, 1) := rfl
theorem dX7_putNeed_49 : decode cX7_putNeed 49 = .ok (.getfield 133, 3) := rfl
theorem dX7_putNeed_52 : decode cX7_putNeed 52 = .ok (.iconst 1, 1) := rfl
theorem dX7_putNeed_53 : decode cX7_putNeed 53 = .ok (.iadd, 1) := rfl
theorem dX7_putNeed_54 : decode cX7_putNeed 54 = .ok (.putfield 133, 3) := rfl
theorem dX7_putNeed_57 : decode cX7_putNeed 57 = .ok (.return_, 1) := rfl
def m_X7_putNeed_27  (Q : Hp → Prop) (v1 : Int32) (h : Hp) : Prop := (1024 ≤ (hI h 32 11) → Q h) ∧ (¬ 1024 ≤ (hI h 32 11) → vp_in (hI h 32 11) 1024 ∧ (Q (wI (wI h 38 (ix (hI h 32 11)) v1) 32 11 ((hI (wI h 38 (ix (hI h 32 11)) v1) 32 11) + 1))))
set_option maxHeartbeats 4000000 in
set_option maxRecDepth 100000 in
theorem s_X7_putNeed_27 {l : Launch} {G : Cx} {d : Nat} {h0 : Hp} (hd : 2 ≤ d) {Q : Hp → Prop} {v1 : Int32} {h : Hp} (hm : m_X7_putNeed_27 Q v1 h) : Rn l G d 0 0 MX7_putNeed h0 (qV Q) 27 [some (tR 7 0 (some 32)), some (tI v1)] [] h 0 0 := by
  unfold m_X7_putNeed_27 at hm
  refine r_aload_n dX7_putNeed_27 rfl rfl ?_
  refine r_getI (k := 11) cl_7 dX7_putNeed_28 t_279 (Or.inl rfl) gf_7_11 ?_
  refine r_sipush (v := 1024) dX7_putNeed_31 rfl ?_
  refine r_icmp_ge (tgt := 57) dX7_putNeed_34 rfl (fun hc => ?_) (fun hc => ?_)
  · replace hm := hm.1 hc
    exact r_return dX7_putNeed_57 rfl ⟨by decide, by decide⟩ ⟨rfl, hm⟩
  · replace hm := hm.2 hc
    refine r_aload_n dX7_putNeed_37 rfl rfl ?_
    refine r_getC (k := 10) cl_7 dX7_putNeed_38 t_278 gf_7_10.1 gf_7_10.2 (gc_7_10 _) ?_
    refine r_aload_n dX7_putNeed_41 rfl rfl ?_
    refine r_getI (k := 11) cl_7 dX7_putNeed_42 t_279 (Or.inl rfl) gf_7_11 ?_
    refine r_iload_n dX7_putNeed_45 rfl rfl ?_
    refine r_iast dX7_putNeed_46 hm.1 ?_
    replace hm := hm.2
    refine r_aload_n dX7_putNeed_47 rfl rfl ?_
    refine r_dup dX7_putNeed_48 cv_cat1R ?_
    refine r_getI (k := 11) cl_7 dX7_putNeed_49 t_279 (Or.inl rfl) gf_7_11 ?_
    refine r_iconst (v := 1) dX7_putNeed_52 rfl ?_
    refine r_iadd dX7_putNeed_53 ?_
    refine r_putI0 (k := 11) cl_7 dX7_putNeed_54 t_279 (Or.inl rfl) gf_7_11 pf_7_11.1 (Or.inl pf_7_11.2) ?_
    exact r_return dX7_putNeed_57 rfl ⟨by decide, by decide⟩ ⟨rfl, hm⟩
def m_X7_putNeed_2 : Nat → (Int32 → Hp → Prop) → (Hp → Prop) → Int32 → Int32 → Hp → Prop
  | 0, _, _, _, _, _ => False
  | n + 1, k27, Q, v1, v2, h => ((hI h 32 11) ≤ v2 → k27 v1 h) ∧ (¬ (hI h 32 11) ≤ v2 → vp_in v2 1024 ∧ ((¬ (hI h 38 (ix v2)) = v1 → ∀ x1 : Int32, x1 = v2 + 1 → m_X7_putNeed_2 n k27 Q v1 x1 h) ∧ ((hI h 38 (ix v2)) = v1 → Q h)))
set_option maxHeartbeats 4000000 in
set_option maxRecDepth 100000 in
theorem s_X7_putNeed_2 {l : Launch} {G : Cx} {d : Nat} {h0 : Hp} (hd : 2 ≤ d) {k27 : Int32 → Hp → Prop} {Q : Hp → Prop} (hk27 : ∀ (v1 : Int32) (hh : Hp), k27 v1 hh → Rn l G d 0 0 MX7_putNeed h0 (qV Q) 27 [some (tR 7 0 (some 32)), some (tI v1)] [] hh 0 0) : ∀ {n : Nat} {v1 : Int32} {v2 : Int32} {h : Hp}, m_X7_putNeed_2 n k27 Q v1 v2 h → Rn l G d 0 0 MX7_putNeed h0 (qV Q) 2 [some (tR 7 0 (some 32)), some (tI v1), some (tI v2)] [] h 0 0 := by
  intro n
  induction n with
  | zero => intro v1 v2 h hm; exact hm.elim
  | succ n ih =>
    intro v1 v2 h hm
    have hk2 := fun (v1 : Int32) (v2 : Int32) (hh : Hp) (hm : m_X7_putNeed_2 n k27 Q v1 v2 hh) => ih hm
    rw [m_X7_putNeed_2] at hm
    refine r_iload_n dX7_putNeed_2 rfl rfl ?_
    refine r_aload_n dX7_putNeed_3 rfl rfl ?_
    refine r_getI (k := 11) cl_7 dX7_putNeed_4 t_279 (Or.inl rfl) gf_7_11 ?_
    refine r_icmp_ge (tgt := 27) dX7_putNeed_7 rfl (fun hc => ?_) (fun hc => ?_)
    · replace hm := hm.1 hc
      refine r_keep (L' := [some (tR 7 0 (some 32)), some (tI v1)]) [true, true] rfl ?_
      exact hk27 _ _ hm
    · replace hm := hm.2 hc
      refine r_aload_n dX7_putNeed_10 rfl rfl ?_
      refine r_getC (k := 10) cl_7 dX7_putNeed_11 t_278 gf_7_10.1 gf_7_10.2 (gc_7_10 _) ?_
      refine r_iload_n dX7_putNeed_14 rfl rfl ?_
      refine r_iald dX7_putNeed_15 hm.1 ?_
      replace hm := hm.2
      refine r_iload_n dX7_putNeed_16 rfl rfl ?_
      refine r_icmp_ne (tgt := 21) dX7_putNeed_17 rfl (fun hc => ?_) (fun hc => ?_)
      · replace hm := hm.1 hc
        obtain ⟨x1, e_x1⟩ : ∃ y : Int32, y = v2 + 1 := ⟨_, rfl⟩
        replace hm := hm x1 e_x1
        refine r_iinc (L' := [some (tR 7 0 (some 32)), some (tI v1), some (tI x1)]) dX7_putNeed_21 rfl (by rw [e_x1]; rfl) (by decide) rfl ?_
        refine r_goto (tgt := 2) dX7_putNeed_24 rfl ?_
        refine r_keep (L' := [some (tR 7 0 (some 32)), some (tI v1), some (tI x1)]) [true, true, true] rfl ?_
        exact hk2 _ _ _ hm
      · replace hm := hm.2 hc
        exact r_return dX7_putNeed_20 rfl ⟨by decide, by decide⟩ ⟨rfl, hm⟩
def m_X7_putNeed (v1 : Int32) (h : Hp) (Q : Hp → Prop) : Prop := ∃ n2, m_X7_putNeed_2 n2 (m_X7_putNeed_27 Q) Q v1 0 h
set_option maxHeartbeats 4000000 in
set_option maxRecDepth 100000 in
theorem s_X7_putNeed {l : Launch} {G : Cx} {d : Nat} (hd : 2 ≤ d) {v1 : Int32} {h : Hp} {Q : Hp → Prop} (hm : m_X7_putNeed v1 h Q) : Ct l G d 0 0 yX7_putNeed MX7_putNeed [tR 7 0 (some 32), tI v1] h (qV Q) := by
  unfold m_X7_putNeed at hm
  refine Ct.of (L := [some (tR 7 0 (some 32)), some (tI v1)]) (by decide) rfl rfl (Nat.le_of_ble_eq_true rfl) rfl ?_
  refine r_iconst (v := 0) dX7_putNeed_0 rfl ?_
  refine r_istore_n (L' := [some (tR 7 0 (some 32)), some (tI v1), some (tI 0)]) dX7_putNeed_1 rfl (by decide) rfl ?_
  refine r_keep (L' := [some (tR 7 0 (some 32)), some (tI v1), some (tI 0)]) [true, true, true] rfl ?_
  obtain ⟨n, hm⟩ := hm
  refine s_X7_putNeed_2 hd ?_ hm
  · exact (fun _ _ hm => s_X7_putNeed_27 hd hm)
theorem dX7_meetsNeeds_0 : decode cX7_meetsNeeds 0 = .ok (.iconst 0, 1) := rfl
theorem dX7_meetsNeeds_1 : decode cX7_meetsNeeds 1 = .ok (.istore_n 2, 1) := rfl
theorem dX7_meetsNeeds_2 : decode cX7_meetsNeeds 2 = .ok (.iload_n 2, 1) := rfl
theorem dX7_meetsNeeds_3 : decode cX7_meetsNeeds 3 = .ok (.aload_n 0, 1) := rfl
theorem dX7_meetsNeeds_4 : decode cX7_meetsNeeds 4 = .ok (.getfield 133, 3) := rfl
theorem dX7_meetsNeeds_7 : decode cX7_meetsNeeds 7 = .ok (.if_icmp .ge 22, 3) := by decide +kernel
theorem dX7_meetsNeeds_10 : decode cX7_meetsNeeds 10 = .ok (.aload_n 0, 1) := rfl
theorem dX7_meetsNeeds_11 : decode cX7_meetsNeeds 11 = .ok (.getfield 30, 3) := rfl
theorem dX7_meetsNeeds_14 : decode cX7_meetsNeeds 14 = .ok (.iload_n 2, 1) := rfl
theorem dX7_meetsNeeds_15 : decode cX7_meetsNeeds 15 = .ok (.iaload, 1) := rfl
theorem dX7_meetsNeeds_16 : decode cX7_meetsNeeds 16 = .ok (.iload_n 1, 1) := rfl
theorem dX7_meetsNeeds_17 : decode cX7_meetsNeeds 17 = .ok (.iand, 1) := rfl
theorem dX7_meetsNeeds_18 : decode cX7_meetsNeeds 18 = .ok (.ifCond .ne 5, 3) := by decide +kernel
theorem dX7_meetsNeeds_21 : decode cX7_meetsNeeds 21 = .ok (.iconst 0, 1) := rfl
theorem dX7_meetsNeeds_22 : decode cX7_meetsNeeds 22 = .ok (.ireturn, 1) := rfl
theorem dX7_meetsNeeds_23 : decode cX7_meetsNeeds 23 = .ok (.iinc 2 1, 3) := by decide +kernel
theorem dX7_meetsNeeds_26 : decode cX7_meetsNeeds 26 = .ok (.goto (-24), 3) := by decide +kernel
theorem dX7_meetsNeeds_29 : decode cX7_meetsNeeds 29 = .ok (.iconst 1, 1) := rfl
theorem dX7_meetsNeeds_30 : decode cX7_meetsNeeds 30 = .ok (.ireturn, 1) := rfl
def m_X7_meetsNeeds_2 : Nat → (Int32 → Hp → Prop) → Int32 → Int32 → Hp → Prop
  | 0, _, _, _, _ => False
  | n + 1, Q, v1, v2, h => ((hI h 32 11) ≤ v2 → Q 1 h) ∧ (¬ (hI h 32 11) ≤ v2 → vp_in v2 1024 ∧ ((¬ ((hI h 38 (ix v2)) &&& v1) = 0 → ∀ x1 : Int32, x1 = v2 + 1 → m_X7_meetsNeeds_2 n Q v1 x1 h) ∧ (((hI h 38 (ix v2)) &&& v1) = 0 → Q 0 h)))
set_option maxHeartbeats 4000000 in
set_option maxRecDepth 100000 in
theorem s_X7_meetsNeeds_2 {l : Launch} {G : Cx} {d : Nat} {h0 : Hp} (hd : 2 ≤ d) {Q : Int32 → Hp → Prop} : ∀ {n : Nat} {v1 : Int32} {v2 : Int32} {h : Hp}, m_X7_meetsNeeds_2 n Q v1 v2 h → Rn l G d 0 0 MX7_meetsNeeds h0 (qI Q) 2 [some (tR 7 0 (some 32)), some (tI v1), some (tI v2)] [] h 0 0 := by
  intro n
  induction n with
  | zero => intro v1 v2 h hm; exact hm.elim
  | succ n ih =>
    intro v1 v2 h hm
    have hk2 := fun (v1 : Int32) (v2 : Int32) (hh : Hp) (hm : m_X7_meetsNeeds_2 n Q v1 v2 hh) => ih hm
    rw [m_X7_meetsNeeds_2] at hm
    refine r_iload_n dX7_meetsNeeds_2 rfl rfl ?_
    refine r_aload_n dX7_meetsNeeds_3 rfl rfl ?_
    refine r_getI (k := 11) cl_7 dX7_meetsNeeds_4 t_279 (Or.inl rfl) gf_7_11 ?_
    refine r_icmp_ge (tgt := 29) dX7_meetsNeeds_7 rfl (fun hc => ?_) (fun hc => ?_)
    · replace hm := hm.1 hc
      refine r_iconst (v := 1) dX7_meetsNeeds_29 rfl ?_
      exact r_bret dX7_meetsNeeds_30 rfl ⟨by decide, by decide⟩ (by unfold bz; decide) ⟨_, rfl, hm⟩
    · replace hm := hm.2 hc
      refine r_aload_n dX7_meetsNeeds_10 rfl rfl ?_
      refine r_getC (k := 10) cl_7 dX7_meetsNeeds_11 t_278 gf_7_10.1 gf_7_10.2 (gc_7_10 _) ?_
      refine r_iload_n dX7_meetsNeeds_14 rfl rfl ?_
      refine r_iald dX7_meetsNeeds_15 hm.1 ?_
      replace hm := hm.2
      refine r_iload_n dX7_meetsNeeds_16 rfl rfl ?_
      refine r_iand dX7_meetsNeeds_17 ?_
      refine r_if_ne (tgt := 23) dX7_meetsNeeds_18 rfl (fun hc => ?_) (fun hc => ?_)
      · replace hm := hm.1 hc
        obtain ⟨x1, e_x1⟩ : ∃ y : Int32, y = v2 + 1 := ⟨_, rfl⟩
        replace hm := hm x1 e_x1
        refine r_iinc (L' := [some (tR 7 0 (some 32)), some (tI v1), some (tI x1)]) dX7_meetsNeeds_23 rfl (by rw [e_x1]; rfl) (by decide) rfl ?_
        refine r_goto (tgt := 2) dX7_meetsNeeds_26 rfl ?_
        refine r_keep (L' := [some (tR 7 0 (some 32)), some (tI v1), some (tI x1)]) [true, true, true] rfl ?_
        exact hk2 _ _ _ hm
      · replace hm := hm.2 hc
        refine r_iconst (v := 0) dX7_meetsNeeds_21 rfl ?_
        exact r_bret dX7_meetsNeeds_22 rfl ⟨by decide, by decide⟩ (by unfold bz; decide) ⟨_, rfl, hm⟩
def m_X7_meetsNeeds (v1 : Int32) (h : Hp) (Q : Int32 → Hp → Prop) : Prop := ∃ n2, m_X7_meetsNeeds_2 n2 Q v1 0 h
set_option maxHeartbeats 4000000 in
set_option maxRecDepth 100000 in
theorem s_X7_meetsNeeds {l : Launch} {G : Cx} {d : Nat} (hd : 2 ≤ d) {v1 : Int32} {h : Hp} {Q : Int32 → Hp → Prop} (hm : m_X7_meetsNeeds v1 h Q) : Ct l G d 0 0 yX7_meetsNeeds MX7_meetsNeeds [tR 7 0 (some 32), tI v1] h (qI Q) := by
  unfold m_X7_meetsNeeds at hm
  refine Ct.of (L := [some (tR 7 0 (some 32)), some (tI v1)]) (by decide) rfl rfl (Nat.le_of_ble_eq_true rfl) rfl ?_
  refine r_iconst (v := 0) dX7_meetsNeeds_0 rfl ?_
  refine r_istore_n (L' := [some (tR 7 0 (some 32)), some (tI v1), some (tI 0)]) dX7_meetsNeeds_1 rfl (by decide) rfl ?_
  refine r_keep (L' := [some (tR 7 0 (some 32)), some (tI v1), some (tI 0)]) [true, true, true] rfl ?_
  obtain ⟨n, hm⟩ := hm
  refine s_X7_meetsNeeds_2 hd hm
theorem dX7_fewestWords_0 : decode cX7_fewestWords 0 = .ok (.iconst 0, 1) := by decide +kernel
theorem dX7_fewestWords_1 : decode cX7_fewestWords 1 = .ok (.istore 4, 2) := by decide +kernel
theorem dX7_fewestWords_3 : decode cX7_fewestWords 3 = .ok (.iload 4, 2) := by decide +kernel
theorem dX7_fewestWords_5 : decode cX7_fewestWords 5 = .ok (.bipush 12, 2) := by decide +kernel
theorem dX7_fewestWords_7 : decode cX7_fewestWords 7 = .ok (.if_icmp .ge 36, 3) := by decide +kernel
theorem dX7_fewestWords_10 : decode cX7_fewestWords 10 = .ok (.iload_n 3, 1) := by decide +kernel
theorem dX7_fewestWords_11 : decode cX7_fewestWords 11 = .ok (.iload 4, 2) := by decide +kernel
theorem dX7_fewestWords_13 : decode cX7_fewestWords 13 = .ok (.ishr, 1) := by decide +kernel
theorem dX7_fewestWords_14 : decode cX7_fewestWords 14 = .ok (.iconst 1, 1) := by decide +kernel
theorem dX7_fewestWords_15 : decode cX7_fewestWords 15 = .ok (.iand, 1) := by decide +kernel
theorem dX7_fewestWords_16 : decode cX7_fewestWords 16 = .ok (.iconst 1, 1) := by decide +kernel
theorem dX7_fewestWords_17 : decode cX7_fewestWords 17 = .ok (.if_icmp .ne 20, 3) := by decide +kernel
theorem dX7_fewestWords_20 : decode cX7_fewestWords 20 = .ok (.aload_n 0, 1) := by decide +kernel
theorem dX7_fewestWords_21 : decode cX7_fewestWords 21 = .ok (.aload_n 2, 1) := by decide +kernel
theorem dX7_fewestWords_22 : decode cX7_fewestWords 22 = .ok (.iload 4, 2) := by decide +kernel
theorem dX7_fewestWords_24 : decode cX7_fewestWords 24 = .ok (.aaload, 1) := by decide +kernel
theorem dX7_fewestWords_25 : decode cX7_fewestWords 25 = .ok (.aload_n 0, 1) := by decide +kernel
theorem dX7_fewestWords_26 : decode cX7_fewestWords 26 = .ok (.getfield 27, 3) := by decide +kernel
theorem dX7_fewestWords_29 : decode cX7_fewestWords 29 = .ok (.iload 4, 2) := by decide +kernel
theorem dX7_fewestWords_31 : decode cX7_fewestWords 31 = .ok (.bipush 10, 2) := by decide +kernel
theorem dX7_fewestWords_33 : decode cX7_fewestWords 33 = .ok (.imul, 1) := by decide +kernel
theorem dX7_fewestWords_34 : decode cX7_fewestWords 34 = .ok (.invokevirtual 77, 3) := by decide +kernel
theorem dX7_fewestWords_37 : decode cX7_fewestWords 37 = .ok (.iinc 4 1, 3) := by decide +kernel
theorem dX7_fewestWords_40 : decode cX7_fewestWords 40 = .ok (.goto (-37), 3) := by decide +kernel
theorem dX7_fewestWords_43 : decode cX7_fewestWords 43 = .ok (.aload_n 0, 1) := by decide +kernel
theorem dX7_fewestWords_44 : decode cX7_fewestWords 44 = .ok (.iconst 0, 1) := by decide +kernel
theorem dX7_fewestWords_45 : decode cX7_fewestWords 45 = .ok (.putfield 133, 3) := by decide +kernel
theorem dX7_fewestWords_48 : decode cX7_fewestWords 48 = .ok (.iconst 0, 1) := by decide +kernel
theorem dX7_fewestWords_49 : decode cX7_fewestWords 49 = .ok (.istore 4, 2) := by decide +kernel
theorem dX7_fewestWords_51 : decode cX7_fewestWords 51 = .ok (.iload 4, 2) := by decide +kernel
theorem dX7_fewestWords_53 : decode cX7_fewestWords 53 = .ok (.aload_n 0, 1) := by decide +kernel
theorem dX7_fewestWords_54 : decode cX7_fewestWords 54 = .ok (.getfield 71, 3) := by decide +kernel
theorem dX7_fewestWords_57 : decode cX7_fewestWords 57 = .ok (.if_icmp .ge 39, 3) := by decide +kernel
theorem dX7_fewestWords_60 : decode cX7_fewestWords 60 = .ok (.aload_n 0, 1) := by decide +kernel
theorem dX7_fewestWords_61 : decode cX7_fewestWords 61 = .ok (.getfield 17, 3) := by decide +kernel
theorem dX7_fewestWords_64 : decode cX7_fewestWords 64 = .ok (.iload 4, 2) := by decide +kernel
theorem dX7_fewestWords_66 : decode cX7_fewestWords 66 = .ok (.iaload, 1) := by decide +kernel
theorem dX7_fewestWords_67 : decode cX7_fewestWords 67 = .ok (.invokestatic 123, 3) := by decide +kernel
theorem dX7_fewestWords_70 : decode cX7_fewestWords 70 = .ok (.iload_n 1, 1) := by decide +kernel
theorem dX7_fewestWords_71 : decode cX7_fewestWords 71 = .ok (.if_icmp .gt 19, 3) := by decide +kernel
theorem dX7_fewestWords_74 : decode cX7_fewestWords 74 = .ok (.aload_n 0, 1) := by decide +kernel
theorem dX7_fewestWords_75 : decode cX7_fewestWords 75 = .ok (.aload_n 0, 1) := by decide +kernel
theorem dX7_fewestWords_76 : decode cX7_fewestWords 76 = .ok (.aload_n 0, 1) := by decide +kernel
theorem dX7_fewestWords_77 : decode cX7_fewestWords 77 = .ok (.getfield 17, 3) := by decide +kernel
theorem dX7_fewestWords_80 : decode cX7_fewestWords 80 = .ok (.iload 4, 2) := by decide +kernel
theorem dX7_fewestWords_82 : decode cX7_fewestWords 82 = .ok (.iaload, 1) := by decide +kernel
theorem dX7_fewestWords_83 : decode cX7_fewestWords 83 = .ok (.iload_n 3, 1) := by decide +kernel
theorem dX7_fewestWords_84 : decode cX7_fewestWords 84 = .ok (.invokevirtual 136, 3) := by decide +kernel
theorem dX7_fewestWords_87 : decode cX7_fewestWords 87 = .ok (.invokevirtual 140, 3) := by decide +kernel
theorem dX7_fewestWords_90 : decode cX7_fewestWords 90 = .ok (.iinc 4 1, 3) := by decide +kernel
theorem dX7_fewestWords_93 : decode cX7_fewestWords 93 = .ok (.goto (-42), 3) := by decide +kernel
theorem dX7_fewestWords_96 : decode cX7_fewestWords 96 = .ok (.iconst (-1), 1) := by decide +kernel
theorem dX7_fewestWords_97 : decode cX7_fewestWords 97 = .ok (.istore 4, 2) := by decide +kernel
theorem dX7_fewestWords_99 : decode cX7_fewestWords 99 = .ok (.iconst 0, 1) := by decide +kernel
theorem dX7_fewestWords_100 : decode cX7_fewestWords 100 = .ok (.istore 5, 2) := by decide +kernel
theorem dX7_fewestWords_102 : decode cX7_fewestWords 102 = .ok (.iload 5, 2) := by decide +kernel
theorem dX7_fewestWords_104 : decode cX7_fewestWords 104 = .ok (.iload_n 3, 1) := by decide +kernel
theorem dX7_fewestWords_105 : decode cX7_fewestWords 105 = .ok (.if_icmp .gt 47, 3) := by decide +kernel
theorem dX7_fewestWords_108 : decode cX7_fewestWords 108 = .ok (.iload 5, 2) := by decide +kernel
theorem dX7_fewestWords_110 : decode cX7_fewestWords 110 = .ok (.iload_n 3, 1) := by decide +kernel
theorem dX7_fewestWords_111 : decode cX7_fewestWords 111 = .ok (.iconst (-1), 1) := by decide +kernel
theorem dX7_fewestWords_112 : decode cX7_fewestWords 112 = .ok (.ixor, 1) := by decide +kernel
theorem dX7_fewestWords_113 : decode cX7_fewestWords 113 = .ok (.iand, 1) := by decide +kernel
theorem dX7_fewestWords_114 : decode cX7_fewestWords 114 = .ok (.ifCond .ne 32, 3) := by decide +kernel
theorem dX7_fewestWords_117 : decode cX7_fewestWords 117 = .ok (.iload 4, 2) := by decide +kernel
theorem dX7_fewestWords_119 : decode cX7_fewestWords 119 = .ok (.iconst (-1), 1) := by decide +kernel
theorem dX7_fewestWords_120 : decode cX7_fewestWords 120 = .ok (.if_icmp .eq 13, 3) := by decide +kernel
theorem dX7_fewestWords_123 : decode cX7_fewestWords 123 = .ok (.iload 5, 2) := by decide +kernel
theorem dX7_fewestWords_125 : decode cX7_fewestWords 125 = .ok (.iload 4, 2) := by decide +kernel
theorem dX7_fewestWords_127 : decode cX7_fewestWords 127 = .ok (.invokestatic 129, 3) := by decide +kernel
theorem dX7_fewestWords_130 : decode cX7_fewestWords 130 = .ok (.ifCond .eq 16, 3) := by decide +kernel
theorem dX7_fewestWords_133 : decode cX7_fewestWords 133 = .ok (.aload_n 0, 1) := by decide +kernel
theorem dX7_fewestWords_134 : decode cX7_fewestWords 134 = .ok (.iload 5, 2) := by decide +kernel
theorem dX7_fewestWords_136 : decode cX7_fewestWords 136 = .ok (.invokevirtual 144, 3) := by decide +kernel
theorem dX7_fewestWords_139 : decode cX7_fewestWords 139 = .ok (.ifCond .eq 7, 3) := by decide +kernel
theorem dX7_fewestWords_142 : decode cX7_fewestWords 142 = .ok (.iload 5, 2) := by decide +kernel
theorem dX7_fewestWords_144 : decode cX7_fewestWords 144 = .ok (.istore 4, 2) := by decide +kernel
theorem dX7_fewestWords_146 : decode cX7_fewestWords 146 = .ok (.iinc 5 1, 3) := by decide +kernel
theorem dX7_fewestWords_149 : decode cX7_fewestWords 149 = .ok (.goto (-47), 3) := by decide +kernel
theorem dX7_fewestWords_152 : decode cX7_fewestWords 152 = .ok (.iload 4, 2) := by decide +kernel
theorem dX7_fewestWords_154 : decode cX7_fewestWords 154 = .ok (.ireturn, 1) := by decide +kernel
def m_X7_fewestWords_146 (k102 : Int32 → Int32 → Int32 → Hp → Prop) (Q : Int32 → Hp → Prop) (v3 : Int32) (v4 : Int32) (v5 : Int32) (h : Hp) : Prop := ∀ x1 : Int32, x1 = v5 + 1 → k102 v3 v4 x1 h
set_option maxHeartbeats 4000000 in
set_option maxRecDepth 100000 in
theorem s_X7_fewestWords_146 {l : Launch} {G : Cx} {d : Nat} {h0 : Hp} (hd : 12 ≤ d) {k102 : Int32 → Int32 → Int32 → Hp → Prop} {Q : Int32 → Hp → Prop} (hk102 : ∀ (v3 : Int32) (v4 : Int32) (v5 : Int32) (hh : Hp), k102 v3 v4 v5 hh → Rn l G d 0 0 MX7_fewestWords h0 (qI Q) 102 [some (tR 7 0 (some 32)), none, none, some (tI v3), some (tI v4), some (tI v5)] [] hh 0 0) {v3 : Int32} {v4 : Int32} {v5 : Int32} {h : Hp} (hm : m_X7_fewestWords_146 k102 Q v3 v4 v5 h) : Rn l G d 0 0 MX7_fewestWords h0 (qI Q) 146 [some (tR 7 0 (some 32)), none, none, some (tI v3), some (tI v4), some (tI v5)] [] h 0 0 := by
  unfold m_X7_fewestWords_146 at hm
  obtain ⟨x1, e_x1⟩ : ∃ y : Int32, y = v5 + 1 := ⟨_, rfl⟩
  replace hm := hm x1 e_x1
  refine r_iinc (L' := [some (tR 7 0 (some 32)), none, none, some (tI v3), some (tI v4), some (tI x1)]) dX7_fewestWords_146 rfl (by rw [e_x1]; rfl) (by decide) rfl ?_
  refine r_goto (tgt := 102) dX7_fewestWords_149 rfl ?_
  refine r_keep (L' := [some (tR 7 0 (some 32)), none, none, some (tI v3), some (tI v4), some (tI x1)]) [true, false, false, true, true, true] rfl ?_
  exact hk102 _ _ _ _ hm
def m_X7_fewestWords_133 (k102 : Int32 → Int32 → Int32 → Hp → Prop) (Q : Int32 → Hp → Prop) (v3 : Int32) (v4 : Int32) (v5 : Int32) (h : Hp) : Prop := m_X7_meetsNeeds v5 h (fun (x2 : Int32) (h3 : Hp) => (x2 = 0 → m_X7_fewestWords_146 k102 Q v3 v4 v5 h3) ∧ (¬ x2 = 0 → m_X7_fewestWords_146 k102 Q v3 v5 v5 h3))
set_option maxHeartbeats 4000000 in
set_option maxRecDepth 100000 in
theorem s_X7_fewestWords_133 {l : Launch} {G : Cx} {d : Nat} {h0 : Hp} (hd : 12 ≤ d) {k102 : Int32 → Int32 → Int32 → Hp → Prop} {Q : Int32 → Hp → Prop} (hk102 : ∀ (v3 : Int32) (v4 : Int32) (v5 : Int32) (hh : Hp), k102 v3 v4 v5 hh → Rn l G d 0 0 MX7_fewestWords h0 (qI Q) 102 [some (tR 7 0 (some 32)), none, none, some (tI v3), some (tI v4), some (tI v5)] [] hh 0 0) {v3 : Int32} {v4 : Int32} {v5 : Int32} {h : Hp} (hm : m_X7_fewestWords_133 k102 Q v3 v4 v5 h) : Rn l G d 0 0 MX7_fewestWords h0 (qI Q) 133 [some (tR 7 0 (some 32)), none, none, some (tI v3), some (tI v4), some (tI v5)] [] h 0 0 := by
  unfold m_X7_fewestWords_133 at hm
  refine r_aload_n dX7_fewestWords_133 rfl rfl ?_
  refine r_iload dX7_fewestWords_134 rfl ?_
  refine r_callVI (d' := d - 1) (as := [tI v5]) (st := []) cl_7 dX7_fewestWords_136 mi_X7_meetsNeeds t_1219 t_1221 ts_54 rfl rfl (Nat.le_of_ble_eq_true rfl) (by omega) ⟨by decide, by decide⟩ ⟨rfl, rfl⟩ (s_X7_meetsNeeds (by omega) hm) (fun x2 h3 hm => ?_)
  refine r_if_eq (tgt := 146) dX7_fewestWords_139 rfl (fun hc => ?_) (fun hc => ?_)
  · replace hm := hm.1 hc
    refine r_keep (L' := [some (tR 7 0 (some 32)), none, none, some (tI v3), some (tI v4), some (tI v5)]) [true, false, false, true, true, true] rfl ?_
    exact s_X7_fewestWords_146 hd hk102 hm
  · replace hm := hm.2 hc
    refine r_iload dX7_fewestWords_142 rfl ?_
    refine r_istore (L' := [some (tR 7 0 (some 32)), none, none, some (tI v3), some (tI v5), some (tI v5)]) dX7_fewestWords_144 (by decide) rfl ?_
    refine r_keep (L' := [some (tR 7 0 (some 32)), none, none, some (tI v3), some (tI v5), some (tI v5)]) [true, false, false, true, true, true] rfl ?_
    exact s_X7_fewestWords_146 hd hk102 hm
def m_X7_fewestWords_102 : Nat → (Int32 → Hp → Prop) → Int32 → Int32 → Int32 → Hp → Prop
  | 0, _, _, _, _, _ => False
  | n + 1, Q, v3, v4, v5, h => (v3 < v5 → Q v4 h) ∧ (¬ v3 < v5 → (¬ (v5 &&& (v3 ^^^ (-1))) = 0 → m_X7_fewestWords_146 (fun (v3 : Int32) (v4 : Int32) (v5 : Int32) (hh : Hp) => m_X7_fewestWords_102 n Q v3 v4 v5 hh) Q v3 v4 v5 h) ∧ ((v5 &&& (v3 ^^^ (-1))) = 0 → (v4 = (-1) → m_X7_fewestWords_133 (fun (v3 : Int32) (v4 : Int32) (v5 : Int32) (hh : Hp) => m_X7_fewestWords_102 n Q v3 v4 v5 hh) Q v3 v4 v5 h) ∧ (¬ v4 = (-1) → m_X7_isLess v5 v4 h (fun (x4 : Int32) (h5 : Hp) => (x4 = 0 → m_X7_fewestWords_146 (fun (v3 : Int32) (v4 : Int32) (v5 : Int32) (hh : Hp) => m_X7_fewestWords_102 n Q v3 v4 v5 hh) Q v3 v4 v5 h5) ∧ (¬ x4 = 0 → m_X7_fewestWords_133 (fun (v3 : Int32) (v4 : Int32) (v5 : Int32) (hh : Hp) => m_X7_fewestWords_102 n Q v3 v4 v5 hh) Q v3 v4 v5 h5)))))
set_option maxHeartbeats 4000000 in
set_option maxRecDepth 100000 in
theorem s_X7_fewestWords_102 {l : Launch} {G : Cx} {d : Nat} {h0 : Hp} (hd : 12 ≤ d) {Q : Int32 → Hp → Prop} : ∀ {n : Nat} {v3 : Int32} {v4 : Int32} {v5 : Int32} {h : Hp}, m_X7_fewestWords_102 n Q v3 v4 v5 h → Rn l G d 0 0 MX7_fewestWords h0 (qI Q) 102 [some (tR 7 0 (some 32)), none, none, some (tI v3), some (tI v4), some (tI v5)] [] h 0 0 := by
  intro n
  induction n with
  | zero => intro v3 v4 v5 h hm; exact hm.elim
  | succ n ih =>
    intro v3 v4 v5 h hm
    have hk102 := fun (v3 : Int32) (v4 : Int32) (v5 : Int32) (hh : Hp) (hm : m_X7_fewestWords_102 n Q v3 v4 v5 hh) => ih hm
    rw [m_X7_fewestWords_102] at hm
    refine r_iload dX7_fewestWords_102 rfl ?_
    refine r_iload_n dX7_fewestWords_104 rfl rfl ?_
    refine r_icmp_gt (tgt := 152) dX7_fewestWords_105 rfl (fun hc => ?_) (fun hc => ?_)
    · replace hm := hm.1 hc
      refine r_iload dX7_fewestWords_152 rfl ?_
      exact r_ireturn dX7_fewestWords_154 rfl ⟨by decide, by decide⟩ ⟨_, rfl, hm⟩
    · replace hm := hm.2 hc
      refine r_iload dX7_fewestWords_108 rfl ?_
      refine r_iload_n dX7_fewestWords_110 rfl rfl ?_
      refine r_iconst (v := (-1)) dX7_fewestWords_111 rfl ?_
      refine r_ixor dX7_fewestWords_112 ?_
      refine r_iand dX7_fewestWords_113 ?_
      refine r_if_ne (tgt := 146) dX7_fewestWords_114 rfl (fun hc => ?_) (fun hc => ?_)
      · replace hm := hm.1 hc
        refine r_keep (L' := [some (tR 7 0 (some 32)), none, none, some (tI v3), some (tI v4), some (tI v5)]) [true, false, false, true, true, true] rfl ?_
        exact s_X7_fewestWords_146 hd hk102 hm
      · replace hm := hm.2 hc
        refine r_iload dX7_fewestWords_117 rfl ?_
        refine r_iconst (v := (-1)) dX7_fewestWords_119 rfl ?_
        refine r_icmp_eq (tgt := 133) dX7_fewestWords_120 rfl (fun hc => ?_) (fun hc => ?_)
        · replace hm := hm.1 hc
          refine r_keep (L' := [some (tR 7 0 (some 32)), none, none, some (tI v3), some (tI v4), some (tI v5)]) [true, false, false, true, true, true] rfl ?_
          exact s_X7_fewestWords_133 hd hk102 hm
        · replace hm := hm.2 hc
          refine r_iload dX7_fewestWords_123 rfl ?_
          refine r_iload dX7_fewestWords_125 rfl ?_
          refine r_callSI (d' := d - 1) (as := [tI v5, tI v4]) (st := []) dX7_fewestWords_127 mi_X7_isLess t_1169 t_1170 rfl rfl (Nat.le_of_ble_eq_true rfl) (by omega) ⟨by decide, by decide⟩ ⟨rfl, rfl⟩ (s_X7_isLess (by omega) hm) (fun x4 h5 hm => ?_)
          refine r_if_eq (tgt := 146) dX7_fewestWords_130 rfl (fun hc => ?_) (fun hc => ?_)
          · replace hm := hm.1 hc
            refine r_keep (L' := [some (tR 7 0 (some 32)), none, none, some (tI v3), some (tI v4), some (tI v5)]) [true, false, false, true, true, true] rfl ?_
            exact s_X7_fewestWords_146 hd hk102 hm
          · replace hm := hm.2 hc
            refine r_keep (L' := [some (tR 7 0 (some 32)), none, none, some (tI v3), some (tI v4), some (tI v5)]) [true, false, false, true, true, true] rfl ?_
            exact s_X7_fewestWords_133 hd hk102 hm
def m_X7_fewestWords_96  (Q : Int32 → Hp → Prop) (v3 : Int32) (h : Hp) : Prop := ∃ n102, m_X7_fewestWords_102 n102 Q v3 (-1) 0 h
set_option maxHeartbeats 4000000 in
set_option maxRecDepth 100000 in
theorem s_X7_fewestWords_96 {l : Launch} {G : Cx} {d : Nat} {h0 : Hp} (hd : 12 ≤ d) {Q : Int32 → Hp → Prop} {v3 : Int32} {h : Hp} (hm : m_X7_fewestWords_96 Q v3 h) : Rn l G d 0 0 MX7_fewestWords h0 (qI Q) 96 [some (tR 7 0 (some 32)), none, none, some (tI v3)] [] h 0 0 := by
  unfold m_X7_fewestWords_96 at hm
  refine r_iconst (v := (-1)) dX7_fewestWords_96 rfl ?_
  refine r_istore (L' := [some (tR 7 0 (some 32)), none, none, some (tI v3), some (tI (-1))]) dX7_fewestWords_97 (by decide) rfl ?_
  refine r_iconst (v := 0) dX7_fewestWords_99 rfl ?_
  refine r_istore (L' := [some (tR 7 0 (some 32)), none, none, some (tI v3), some (tI (-1)), some (tI 0)]) dX7_fewestWords_100 (by decide) rfl ?_
  refine r_keep (L' := [some (tR 7 0 (some 32)), none, none, some (tI v3), some (tI (-1)), some (tI 0)]) [true, false, false, true, true, true] rfl ?_
  obtain ⟨n, hm⟩ := hm
  refine s_X7_fewestWords_102 hd hm
def m_X7_fewestWords_90 (k51 : Int32 → Int32 → Int32 → Hp → Prop) (k96 : Int32 → Hp → Prop) (Q : Int32 → Hp → Prop) (v1 : Int32) (v3 : Int32) (v4 : Int32) (h : Hp) : Prop := ∀ x6 : Int32, x6 = v4 + 1 → k51 v1 v3 x6 h
set_option maxHeartbeats 4000000 in
set_option maxRecDepth 100000 in
theorem s_X7_fewestWords_90 {l : Launch} {G : Cx} {d : Nat} {h0 : Hp} (hd : 12 ≤ d) {k51 : Int32 → Int32 → Int32 → Hp → Prop} {k96 : Int32 → Hp → Prop} {Q : Int32 → Hp → Prop} (hk51 : ∀ (v1 : Int32) (v3 : Int32) (v4 : Int32) (hh : Hp), k51 v1 v3 v4 hh → Rn l G d 0 0 MX7_fewestWords h0 (qI Q) 51 [some (tR 7 0 (some 32)), some (tI v1), none, some (tI v3), some (tI v4)] [] hh 0 0) (hk96 : ∀ (v3 : Int32) (hh : Hp), k96 v3 hh → Rn l G d 0 0 MX7_fewestWords h0 (qI Q) 96 [some (tR 7 0 (some 32)), none, none, some (tI v3)] [] hh 0 0) {v1 : Int32} {v3 : Int32} {v4 : Int32} {h : Hp} (hm : m_X7_fewestWords_90 k51 k96 Q v1 v3 v4 h) : Rn l G d 0 0 MX7_fewestWords h0 (qI Q) 90 [some (tR 7 0 (some 32)), some (tI v1), none, some (tI v3), some (tI v4)] [] h 0 0 := by
  unfold m_X7_fewestWords_90 at hm
  obtain ⟨x6, e_x6⟩ : ∃ y : Int32, y = v4 + 1 := ⟨_, rfl⟩
  replace hm := hm x6 e_x6
  refine r_iinc (L' := [some (tR 7 0 (some 32)), some (tI v1), none, some (tI v3), some (tI x6)]) dX7_fewestWords_90 rfl (by rw [e_x6]; rfl) (by decide) rfl ?_
  refine r_goto (tgt := 51) dX7_fewestWords_93 rfl ?_
  refine r_keep (L' := [some (tR 7 0 (some 32)), some (tI v1), none, some (tI v3), some (tI x6)]) [true, true, false, true, true] rfl ?_
  exact hk51 _ _ _ _ hm
def m_X7_fewestWords_51 : Nat → (Int32 → Hp → Prop) → (Int32 → Hp → Prop) → Int32 → Int32 → Int32 → Hp → Prop
  | 0, _, _, _, _, _, _ => False
  | n + 1, k96, Q, v1, v3, v4, h => ((hI h 32 5) ≤ v4 → k96 v3 h) ∧ (¬ (hI h 32 5) ≤ v4 → vp_in v4 1024 ∧ (m_J6_bitCount_0f7a4 (hI h 34 (ix v4)) h (fun (x7 : Int32) (h8 : Hp) => (v1 < x7 → m_X7_fewestWords_90 (fun (v1 : Int32) (v3 : Int32) (v4 : Int32) (hh : Hp) => m_X7_fewestWords_51 n k96 Q v1 v3 v4 hh) k96 Q v1 v3 v4 h8) ∧ (¬ v1 < x7 → vp_in v4 1024 ∧ (m_X7_wordsThatBar (hI h8 34 (ix v4)) v3 h8 (fun (x9 : Int32) (h10 : Hp) => m_X7_putNeed x9 h10 (fun (h12 : Hp) => m_X7_fewestWords_90 (fun (v1 : Int32) (v3 : Int32) (v4 : Int32) (hh : Hp) => m_X7_fewestWords_51 n k96 Q v1 v3 v4 hh) k96 Q v1 v3 v4 h12)))))))
set_option maxHeartbeats 4000000 in
set_option maxRecDepth 100000 in
theorem s_X7_fewestWords_51 {l : Launch} {G : Cx} {d : Nat} {h0 : Hp} (hd : 12 ≤ d) {k96 : Int32 → Hp → Prop} {Q : Int32 → Hp → Prop} (hk96 : ∀ (v3 : Int32) (hh : Hp), k96 v3 hh → Rn l G d 0 0 MX7_fewestWords h0 (qI Q) 96 [some (tR 7 0 (some 32)), none, none, some (tI v3)] [] hh 0 0) : ∀ {n : Nat} {v1 : Int32} {v3 : Int32} {v4 : Int32} {h : Hp}, m_X7_fewestWords_51 n k96 Q v1 v3 v4 h → Rn l G d 0 0 MX7_fewestWords h0 (qI Q) 51 [some (tR 7 0 (some 32)), some (tI v1), none, some (tI v3), some (tI v4)] [] h 0 0 := by
  intro n
  induction n with
  | zero => intro v1 v3 v4 h hm; exact hm.elim
  | succ n ih =>
    intro v1 v3 v4 h hm
    have hk51 := fun (v1 : Int32) (v3 : Int32) (v4 : Int32) (hh : Hp) (hm : m_X7_fewestWords_51 n k96 Q v1 v3 v4 hh) => ih hm
    rw [m_X7_fewestWords_51] at hm
    refine r_iload dX7_fewestWords_51 rfl ?_
    refine r_aload_n dX7_fewestWords_53 rfl rfl ?_
    refine r_getI (k := 5) cl_7 dX7_fewestWords_54 t_273 (Or.inl rfl) gf_7_5 ?_
    refine r_icmp_ge (tgt := 96) dX7_fewestWords_57 rfl (fun hc => ?_) (fun hc => ?_)
    · replace hm := hm.1 hc
      refine r_keep (L' := [some (tR 7 0 (some 32)), none, none, some (tI v3)]) [true, false, false, true] rfl ?_
      exact hk96 _ _ hm
    · replace hm := hm.2 hc
      refine r_aload_n dX7_fewestWords_60 rfl rfl ?_
      refine r_getC (k := 4) cl_7 dX7_fewestWords_61 t_272 gf_7_4.1 gf_7_4.2 (gc_7_4 _) ?_
      refine r_iload dX7_fewestWords_64 rfl ?_
      refine r_iald dX7_fewestWords_66 hm.1 ?_
      replace hm := hm.2
      refine r_callSI (d' := d - 1) (as := [tI (hI h 34 (ix v4))]) (st := []) dX7_fewestWords_67 mi_J6_bitCount_0f7a4 t_1164 t_862 rfl rfl (Nat.le_of_ble_eq_true rfl) (by omega) ⟨by decide, by decide⟩ ⟨rfl, rfl⟩ (s_J6_bitCount_0f7a4 (by omega) hm) (fun x7 h8 hm => ?_)
      refine r_iload_n dX7_fewestWords_70 rfl rfl ?_
      refine r_icmp_gt (tgt := 90) dX7_fewestWords_71 rfl (fun hc => ?_) (fun hc => ?_)
      · replace hm := hm.1 hc
        refine r_keep (L' := [some (tR 7 0 (some 32)), some (tI v1), none, some (tI v3), some (tI v4)]) [true, true, false, true, true] rfl ?_
        exact s_X7_fewestWords_90 hd hk51 hk96 hm
      · replace hm := hm.2 hc
        refine r_aload_n dX7_fewestWords_74 rfl rfl ?_
        refine r_aload_n dX7_fewestWords_75 rfl rfl ?_
        refine r_aload_n dX7_fewestWords_76 rfl rfl ?_
        refine r_getC (k := 4) cl_7 dX7_fewestWords_77 t_272 gf_7_4.1 gf_7_4.2 (gc_7_4 _) ?_
        refine r_iload dX7_fewestWords_80 rfl ?_
        refine r_iald dX7_fewestWords_82 hm.1 ?_
        replace hm := hm.2
        refine r_iload_n dX7_fewestWords_83 rfl rfl ?_
        refine r_callVI (d' := d - 1) (as := [tI (hI h8 34 (ix v4)), tI v3]) (st := [tR 7 0 (some 32)]) cl_7 dX7_fewestWords_84 mi_X7_wordsThatBar t_1211 t_1213 ts_52 rfl rfl (Nat.le_of_ble_eq_true rfl) (by omega) ⟨by decide, by decide⟩ ⟨rfl, rfl⟩ (s_X7_wordsThatBar (by omega) hm) (fun x9 h10 hm => ?_)
        refine r_callVU (d' := d - 1) (as := [tI x9]) (st := []) cl_7 dX7_fewestWords_87 mi_X7_putNeed t_1215 t_1217 ts_53 rfl rfl (Nat.le_of_ble_eq_true rfl) (by omega) ⟨by decide, by decide⟩ ⟨rfl, rfl⟩ (s_X7_putNeed (by omega) hm) (fun h12 hm => ?_)
        refine r_keep (L' := [some (tR 7 0 (some 32)), some (tI v1), none, some (tI v3), some (tI v4)]) [true, true, false, true, true] rfl ?_
        exact s_X7_fewestWords_90 hd hk51 hk96 hm
def m_X7_fewestWords_43  (Q : Int32 → Hp → Prop) (v1 : Int32) (v3 : Int32) (h : Hp) : Prop := ∃ n51, m_X7_fewestWords_51 n51 (m_X7_fewestWords_96 Q) Q v1 v3 0 (wI h 32 11 0)
set_option maxHeartbeats 4000000 in
set_option maxRecDepth 100000 in
theorem s_X7_fewestWords_43 {l : Launch} {G : Cx} {d : Nat} {h0 : Hp} (hd : 12 ≤ d) {Q : Int32 → Hp → Prop} {v1 : Int32} {v3 : Int32} {h : Hp} (hm : m_X7_fewestWords_43 Q v1 v3 h) : Rn l G d 0 0 MX7_fewestWords h0 (qI Q) 43 [some (tR 7 0 (some 32)), some (tI v1), none, some (tI v3)] [] h 0 0 := by
  unfold m_X7_fewestWords_43 at hm
  refine r_aload_n dX7_fewestWords_43 rfl rfl ?_
  refine r_iconst (v := 0) dX7_fewestWords_44 rfl ?_
  refine r_putI0 (k := 11) cl_7 dX7_fewestWords_45 t_279 (Or.inl rfl) gf_7_11 pf_7_11.1 (Or.inl pf_7_11.2) ?_
  refine r_iconst (v := 0) dX7_fewestWords_48 rfl ?_
  refine r_istore (L' := [some (tR 7 0 (some 32)), some (tI v1), none, some (tI v3), some (tI 0)]) dX7_fewestWords_49 (by decide) rfl ?_
  refine r_keep (L' := [some (tR 7 0 (some 32)), some (tI v1), none, some (tI v3), some (tI 0)]) [true, true, false, true, true] rfl ?_
  obtain ⟨n, hm⟩ := hm
  refine s_X7_fewestWords_51 hd ?_ hm
  · exact (fun _ _ hm => s_X7_fewestWords_96 hd hm)
def m_X7_fewestWords_37 (k3 : Int32 → Nat → Nat → Int32 → Int32 → Hp → Prop) (k43 : Int32 → Int32 → Hp → Prop) (Q : Int32 → Hp → Prop) (v1 : Int32) (v2n : Nat) (v2 : Nat) (v3 : Int32) (v4 : Int32) (h : Hp) : Prop := ∀ x13 : Int32, x13 = v4 + 1 → k3 v1 v2n v2 v3 x13 h
set_option maxHeartbeats 4000000 in
set_option maxRecDepth 100000 in
theorem s_X7_fewestWords_37 {l : Launch} {G : Cx} {d : Nat} {h0 : Hp} (hd : 12 ≤ d) {k3 : Int32 → Nat → Nat → Int32 → Int32 → Hp → Prop} {k43 : Int32 → Int32 → Hp → Prop} {Q : Int32 → Hp → Prop} (hk3 : ∀ (v1 : Int32) (v2n : Nat) (v2 : Nat) (v3 : Int32) (v4 : Int32) (hh : Hp), k3 v1 v2n v2 v3 v4 hh → Rn l G d 0 0 MX7_fewestWords h0 (qI Q) 3 [some (tR 7 0 (some 32)), some (tI v1), some (tR 56 v2n (some v2)), some (tI v3), some (tI v4)] [] hh 0 0) (hk43 : ∀ (v1 : Int32) (v3 : Int32) (hh : Hp), k43 v1 v3 hh → Rn l G d 0 0 MX7_fewestWords h0 (qI Q) 43 [some (tR 7 0 (some 32)), some (tI v1), none, some (tI v3)] [] hh 0 0) {v1 : Int32} {v2n : Nat} {v2 : Nat} {v3 : Int32} {v4 : Int32} {h : Hp} (hm : m_X7_fewestWords_37 k3 k43 Q v1 v2n v2 v3 v4 h) : Rn l G d 0 0 MX7_fewestWords h0 (qI Q) 37 [some (tR 7 0 (some 32)), some (tI v1), some (tR 56 v2n (some v2)), some (tI v3), some (tI v4)] [] h 0 0 := by
  unfold m_X7_fewestWords_37 at hm
  obtain ⟨x13, e_x13⟩ : ∃ y : Int32, y = v4 + 1 := ⟨_, rfl⟩
  replace hm := hm x13 e_x13
  refine r_iinc (L' := [some (tR 7 0 (some 32)), some (tI v1), some (tR 56 v2n (some v2)), some (tI v3), some (tI x13)]) dX7_fewestWords_37 rfl (by rw [e_x13]; rfl) (by decide) rfl ?_
  refine r_goto (tgt := 3) dX7_fewestWords_40 rfl ?_
  refine r_keep (L' := [some (tR 7 0 (some 32)), some (tI v1), some (tR 56 v2n (some v2)), some (tI v3), some (tI x13)]) [true, true, true, true, true] rfl ?_
  exact hk3 _ _ _ _ _ _ hm
def m_X7_fewestWords_3 : Nat → (Int32 → Int32 → Hp → Prop) → (Int32 → Hp → Prop) → Int32 → Nat → Nat → Int32 → Int32 → Hp → Prop
  | 0, _, _, _, _, _, _, _, _ => False
  | n + 1, k43, Q, v1, v2n, v2, v3, v4, h => (12 ≤ v4 → k43 v1 v3 h) ∧ (¬ 12 ≤ v4 → (¬ ((v3 >>> (v4 &&& 31)) &&& 1) = 1 → m_X7_fewestWords_37 (fun (v1 : Int32) (v2n : Nat) (v2 : Nat) (v3 : Int32) (v4 : Int32) (hh : Hp) => m_X7_fewestWords_3 n k43 Q v1 v2n v2 v3 v4 hh) k43 Q v1 v2n v2 v3 v4 h) ∧ (((v3 >>> (v4 &&& 31)) &&& 1) = 1 → vp_in v4 v2n ∧ ∃ b14 : Nat, hR h v2 (ix v4) = some b14 ∧ (m_X7_findBarred (some b14) 37 120 (v4 * 10) h (fun (h16 : Hp) => m_X7_fewestWords_37 (fun (v1 : Int32) (v2n : Nat) (v2 : Nat) (v3 : Int32) (v4 : Int32) (hh : Hp) => m_X7_fewestWords_3 n k43 Q v1 v2n v2 v3 v4 hh) k43 Q v1 v2n v2 v3 v4 h16))))
set_option maxHeartbeats 4000000 in
set_option maxRecDepth 100000 in
theorem s_X7_fewestWords_3 {l : Launch} {G : Cx} {d : Nat} {h0 : Hp} (hd : 12 ≤ d) {k43 : Int32 → Int32 → Hp → Prop} {Q : Int32 → Hp → Prop} (hk43 : ∀ (v1 : Int32) (v3 : Int32) (hh : Hp), k43 v1 v3 hh → Rn l G d 0 0 MX7_fewestWords h0 (qI Q) 43 [some (tR 7 0 (some 32)), some (tI v1), none, some (tI v3)] [] hh 0 0) : ∀ {n : Nat} {v1 : Int32} {v2n : Nat} {v2 : Nat} {v3 : Int32} {v4 : Int32} {h : Hp}, m_X7_fewestWords_3 n k43 Q v1 v2n v2 v3 v4 h → Rn l G d 0 0 MX7_fewestWords h0 (qI Q) 3 [some (tR 7 0 (some 32)), some (tI v1), some (tR 56 v2n (some v2)), some (tI v3), some (tI v4)] [] h 0 0 := by
  intro n
  induction n with
  | zero => intro v1 v2n v2 v3 v4 h hm; exact hm.elim
  | succ n ih =>
    intro v1 v2n v2 v3 v4 h hm
    have hk3 := fun (v1 : Int32) (v2n : Nat) (v2 : Nat) (v3 : Int32) (v4 : Int32) (hh : Hp) (hm : m_X7_fewestWords_3 n k43 Q v1 v2n v2 v3 v4 hh) => ih hm
    rw [m_X7_fewestWords_3] at hm
    refine r_iload dX7_fewestWords_3 rfl ?_
    refine r_bipush (v := 12) dX7_fewestWords_5 rfl ?_
    refine r_icmp_ge (tgt := 43) dX7_fewestWords_7 rfl (fun hc => ?_) (fun hc => ?_)
    · replace hm := hm.1 hc
      refine r_keep (L' := [some (tR 7 0 (some 32)), some (tI v1), none, some (tI v3)]) [true, true, false, true] rfl ?_
      exact hk43 _ _ _ hm
    · replace hm := hm.2 hc
      refine r_iload_n dX7_fewestWords_10 rfl rfl ?_
      refine r_iload dX7_fewestWords_11 rfl ?_
      refine r_ishr dX7_fewestWords_13 ?_
      refine r_iconst (v := 1) dX7_fewestWords_14 rfl ?_
      refine r_iand dX7_fewestWords_15 ?_
      refine r_iconst (v := 1) dX7_fewestWords_16 rfl ?_
      refine r_icmp_ne (tgt := 37) dX7_fewestWords_17 rfl (fun hc => ?_) (fun hc => ?_)
      · replace hm := hm.1 hc
        refine r_keep (L' := [some (tR 7 0 (some 32)), some (tI v1), some (tR 56 v2n (some v2)), some (tI v3), some (tI v4)]) [true, true, true, true, true] rfl ?_
        exact s_X7_fewestWords_37 hd hk3 hk43 hm
      · replace hm := hm.2 hc
        refine r_aload_n dX7_fewestWords_20 rfl rfl ?_
        refine r_aload_n dX7_fewestWords_21 rfl rfl ?_
        refine r_iload dX7_fewestWords_22 rfl ?_
        obtain ⟨hi_b14, b14, hb_b14, hm⟩ := hm
        refine r_aaldS (kd := 6) (ti := 6) (cn := RX6) dX7_fewestWords_24 rfl hi_b14 hb_b14 ?_
        refine r_aload_n dX7_fewestWords_25 rfl rfl ?_
        refine r_getC (k := 9) cl_7 dX7_fewestWords_26 t_277 gf_7_9.1 gf_7_9.2 (gc_7_9 _) ?_
        refine r_iload dX7_fewestWords_29 rfl ?_
        refine r_bipush (v := 10) dX7_fewestWords_31 rfl ?_
        refine r_imul dX7_fewestWords_33 ?_
        refine r_callVU (d' := d - 1) (as := [tR 6 0 (some b14), tR 40 120 (some 37), tI (v4 * 10)]) (st := []) cl_7 dX7_fewestWords_34 mi_X7_findBarred t_1119 t_1121 ts_46 rfl rfl (Nat.le_of_ble_eq_true rfl) (by omega) ⟨by decide, by decide⟩ ⟨rfl, rfl⟩ (s_X7_findBarred (by omega) hm) (fun h16 hm => ?_)
        refine r_keep (L' := [some (tR 7 0 (some 32)), some (tI v1), some (tR 56 v2n (some v2)), some (tI v3), some (tI v4)]) [true, true, true, true, true] rfl ?_
        exact s_X7_fewestWords_37 hd hk3 hk43 hm
def m_X7_fewestWords (v1 : Int32) (v2 : Nat) (v2n : Nat) (v3 : Int32) (h : Hp) (Q : Int32 → Hp → Prop) : Prop := ∃ n3, m_X7_fewestWords_3 n3 (m_X7_fewestWords_43 Q) Q v1 v2n v2 v3 0 h
set_option maxHeartbeats 4000000 in
set_option maxRecDepth 100000 in
theorem s_X7_fewestWords {l : Launch} {G : Cx} {d : Nat} (hd : 12 ≤ d) {v1 : Int32} {v2 : Nat} {v2n : Nat} {v3 : Int32} {h : Hp} {Q : Int32 → Hp → Prop} (hm : m_X7_fewestWords v1 v2 v2n v3 h Q) : Ct l G d 0 0 yX7_fewestWords MX7_fewestWords [tR 7 0 (some 32), tI v1, tR 56 v2n (some v2), tI v3] h (qI Q) := by
  unfold m_X7_fewestWords at hm
  refine Ct.of (L := [some (tR 7 0 (some 32)), some (tI v1), some (tR 56 v2n (some v2)), some (tI v3)]) (by decide) rfl rfl (Nat.le_of_ble_eq_true rfl) rfl ?_
  refine r_iconst (v := 0) dX7_fewestWords_0 rfl ?_
  refine r_istore (L' := [some (tR 7 0 (some 32)), some (tI v1), some (tR 56 v2n (some v2)), some (tI v3), some (tI 0)]) dX7_fewestWords_1 (by decide) rfl ?_
  refine r_keep (L' := [some (tR 7 0 (some 32)), some (tI v1), some (tR 56 v2n (some v2)), some (tI v3), some (tI 0)]) [true, true, true, true, true] rfl ?_
  obtain ⟨n, hm⟩ := hm
  refine s_X7_fewestWords_3 hd ?_ hm
  · exact (fun _ _ _ hm => s_X7_fewestWords_43 hd hm)
theorem dX9_init_0 : decode cX9_init 0 = .ok (.aload_n 0, 1) := rfl
theorem dX9_init_1 : decode cX9_init 1 = .ok (.invokespecial 3, 3) := rfl
theorem dX9_init_4 : decode cX9_init 4 = .ok (.aload_n 0, 1) := rfl
theorem dX9_init_5 : decode cX9_init 5 = .ok (.iconst (-1), 1) := rfl
theorem dX9_init_6 : decode cX9_init 6 = .ok (.putfield 9, 3) := rfl
theorem dX9_init_9 : decode cX9_init 9 = .ok (.aload_n 0, 1) := rfl
theorem dX9_init_10 : decode cX9_init 10 = .ok (.bipush 64, 2) := by decide +kernel
theorem dX9_init_12 : decode cX9_init 12 = .ok (.newarray .int, 2) := rfl
theorem dX9_init_14 : decode cX9_init 14 = .ok (.putfield 15, 3) := rfl
theorem dX9_init_17 : decode cX9_init 17 = .ok (.aload_n 0, 1) := rfl
theorem dX9_init_18 : decode cX9_init 18 = .ok (.sipush 256, 3) := by decide +kernel
theorem dX9_init_21 : decode cX9_init 21 = .ok (.newarray .long, 2) := rfl
theorem dX9_init_23 : decode cX9_init 23 = .ok (.putfield 19, 3) := rfl
theorem dX9_init_26 : decode cX9_init 26 = .ok (.aload_n 0, 1) := rfl
theorem dX9_init_27 : decode cX9_init 27 = .ok (.bipush 8, 2) := by decide +kernel
theorem dX9_init_29 : decode cX9_init 29 = .ok (.newarray .long, 2) := rfl
theorem dX9_init_31 : decode cX9_init 31 = .ok (.putfield 23, 3) := rfl
theorem dX9_init_34 : decode cX9_init 34 = .ok (.return_, 1) := rfl
def m_X9_init (v0 : Nat) (h : Hp) (Q : Hp → Prop) : Prop := ∀ a1 : Nat, a1 = hN (wI h v0 1 (-1)) → ∀ h2 : Hp, h2 = nw (wI h v0 1 (-1)) (40, 64) → ∀ a3 : Nat, a3 = hN (wR h2 v0 2 (some a1)) → ∀ h4 : Hp, h4 = nw (wR h2 v0 2 (some a1)) (43, 256) → ∀ a5 : Nat, a5 = hN (wR h4 v0 3 (some a3)) → ∀ h6 : Hp, h6 = nw (wR h4 v0 3 (some a3)) (43, 8) → Q (wR h6 v0 4 (some a5))
set_option maxHeartbeats 4000000 in
set_option maxRecDepth 100000 in
theorem s_X9_init {l : Launch} {G : Cx} {d : Nat} (hd : 2 ≤ d) {v0 : Nat} {h : Hp} {Q : Hp → Prop} (hm : m_X9_init v0 h Q) : Ct l G d 3 328 yX9_init MX9_init [tR 29 0 (some v0)] h (qV Q) := by
  unfold m_X9_init at hm
  refine Ct.of (L := [some (tR 29 0 (some v0))]) (by decide) rfl rfl (Nat.le_of_ble_eq_true rfl) rfl ?_
  refine r_aload_n dX9_init_0 rfl rfl ?_
  refine r_objInit dX9_init_1 t_212 t_29 t_30 (by omega) (Nat.le_of_ble_eq_true rfl) ?_
  refine r_aload_n dX9_init_4 rfl rfl ?_
  refine r_iconst (v := (-1)) dX9_init_5 rfl ?_
  refine r_putI0 (k := 1) cl_9 dX9_init_6 t_215 (Or.inr rfl) gf_9_1 pf_9_1.1 (Or.inl pf_9_1.2) ?_
  refine r_aload_n dX9_init_9 rfl rfl ?_
  refine r_bipush (v := 64) dX9_init_10 rfl ?_
  refine r_newI (N := 64) dX9_init_12 t_61 (by decide) rfl (by decide) ⟨by decide, by decide⟩ ?_
  refine r_nmA (fun a1 e_a1 h2 e_h2 => ?_)
  replace hm := hm a1 e_a1 h2 e_h2
  refine r_putR0 (k := 2) cl_9 dX9_init_14 t_217 (Or.inr rfl) gf_9_2.1 gf_9_2.2 (fun z => absurd z (by decide)) pf_9_2.1 (Or.inr ⟨pf_9_2.2, rfl, rfl⟩) ?_
  refine r_aload_n dX9_init_17 rfl rfl ?_
  refine r_sipush (v := 256) dX9_init_18 rfl ?_
  refine r_newJ (N := 256) dX9_init_21 t_206 (by decide) rfl (by decide) ⟨by decide, by decide⟩ ?_
  refine r_nmA (fun a3 e_a3 h4 e_h4 => ?_)
  replace hm := hm a3 e_a3 h4 e_h4
  refine r_putR0 (k := 3) cl_9 dX9_init_23 t_219 (Or.inr rfl) gf_9_3.1 gf_9_3.2 (fun z => absurd z (by decide)) pf_9_3.1 (Or.inr ⟨pf_9_3.2, rfl, rfl⟩) ?_
  refine r_aload_n dX9_init_26 rfl rfl ?_
  refine r_bipush (v := 8) dX9_init_27 rfl ?_
  refine r_newJ (N := 8) dX9_init_29 t_206 (by decide) rfl (by decide) ⟨by decide, by decide⟩ ?_
  refine r_nmA (fun a5 e_a5 h6 e_h6 => ?_)
  replace hm := hm a5 e_a5 h6 e_h6
  refine r_putR0 (k := 4) cl_9 dX9_init_31 t_221 (Or.inr rfl) gf_9_4.1 gf_9_4.2 (fun z => absurd z (by decide)) pf_9_4.1 (Or.inr ⟨pf_9_4.2, rfl, rfl⟩) ?_
  exact r_return dX9_init_34 rfl ⟨by decide, by decide⟩ ⟨rfl, hm⟩
theorem dX9_commonDivisor_0 : decode cX9_commonDivisor 0 = .ok (.lload_n 0, 1) := rfl
theorem dX9_commonDivisor_1 : decode cX9_commonDivisor 1 = .ok (.lstore 4, 2) := rfl
theorem dX9_commonDivisor_3 : decode cX9_commonDivisor 3 = .ok (.lload_n 2, 1) := rfl
theorem dX9_commonDivisor_4 : decode cX9_commonDivisor 4 = .ok (.lstore 6, 2) := rfl
theorem dX9_commonDivisor_6 : decode cX9_commonDivisor 6 = .ok (.iconst 0, 1) := rfl
theorem dX9_commonDivisor_7 : decode cX9_commonDivisor 7 = .ok (.istore 8, 2) := rfl
theorem dX9_commonDivisor_9 : decode cX9_commonDivisor 9 = .ok (.iload 8, 2) := rfl
theorem dX9_commonDivisor_11 : decode cX9_commonDivisor 11 = .ok (.sipush 200, 3) := by decide +kernel
theorem dX9_commonDivisor_14 : decode cX9_commonDivisor 14 = .ok (.if_icmp .ge 31, 3) := by decide +kernel
theorem dX9_commonDivisor_17 : decode cX9_commonDivisor 17 = .ok (.lload 6, 2) := rfl
theorem dX9_commonDivisor_19 : decode cX9_commonDivisor 19 = .ok (.lconst 0, 1) := rfl
theorem dX9_commonDivisor_20 : decode cX9_commonDivisor 20 = .ok (.lcmp, 1) := rfl
theorem dX9_commonDivisor_21 : decode cX9_commonDivisor 21 = .ok (.ifCond .eq 24, 3) := by decide +kernel
theorem dX9_commonDivisor_24 : decode cX9_commonDivisor 24 = .ok (.lload 4, 2) := rfl
theorem dX9_commonDivisor_26 : decode cX9_commonDivisor 26 = .ok (.lload 6, 2) := rfl
theorem dX9_commonDivisor_28 : decode cX9_commonDivisor 28 = .ok (.lrem, 1) := rfl
theorem dX9_commonDivisor_29 : decode cX9_commonDivisor 29 = .ok (.lstore 9, 2) := rfl
theorem dX9_commonDivisor_31 : decode cX9_commonDivisor 31 = .ok (.lload 6, 2) := rfl
theorem dX9_commonDivisor_33 : decode cX9_commonDivisor 33 = .ok (.lstore 4, 2) := rfl
theorem dX9_commonDivisor_35 : decode cX9_commonDivisor 35 = .ok (.lload 9, 2) := rfl
theorem dX9_commonDivisor_37 : decode cX9_commonDivisor 37 = .ok (.lstore 6, 2) := rfl
theorem dX9_commonDivisor_39 : decode cX9_commonDivisor 39 = .ok (.iinc 8 1, 3) := by decide +kernel
theorem dX9_commonDivisor_42 : decode cX9_commonDivisor 42 = .ok (.goto (-33), 3) := by decide +kernel
theorem dX9_commonDivisor_45 : decode cX9_commonDivisor 45 = .ok (.lload 4, 2) := rfl
theorem dX9_commonDivisor_47 : decode cX9_commonDivisor 47 = .ok (.lreturn, 1) := rfl
def m_X9_commonDivisor_9 : Nat → (Int64 → Hp → Prop) → Int64 → Int64 → Int32 → Hp → Prop
  | 0, _, _, _, _, _ => False
  | n + 1, Q, v4, v6, v8, h => (200 ≤ v8 → Q v4 h) ∧ (¬ 200 ≤ v8 → ((lg_cmp v6 0) = 0 → Q v4 h) ∧ (¬ (lg_cmp v6 0) = 0 → ¬ v6 = 0 ∧ (∀ x1 : Int64, x1 = (v4 - v4 / v6 * v6) → ∀ x2 : Int32, x2 = v8 + 1 → m_X9_commonDivisor_9 n Q v6 x1 x2 h)))
set_option maxHeartbeats 4000000 in
set_option maxRecDepth 100000 in
theorem s_X9_commonDivisor_9 {l : Launch} {G : Cx} {d : Nat} {h0 : Hp} (hd : 2 ≤ d) {Q : Int64 → Hp → Prop} : ∀ {n : Nat} {v4 : Int64} {v6 : Int64} {v8 : Int32} {h : Hp}, m_X9_commonDivisor_9 n Q v4 v6 v8 h → Rn l G d 0 0 MX9_commonDivisor h0 (qJ Q) 9 [none, none, none, none, some (tJ v4), none, some (tJ v6), none, some (tI v8)] [] h 0 0 := by
  intro n
  induction n with
  | zero => intro v4 v6 v8 h hm; exact hm.elim
  | succ n ih =>
    intro v4 v6 v8 h hm
    have hk9 := fun (v4 : Int64) (v6 : Int64) (v8 : Int32) (hh : Hp) (hm : m_X9_commonDivisor_9 n Q v4 v6 v8 hh) => ih hm
    rw [m_X9_commonDivisor_9] at hm
    refine r_iload dX9_commonDivisor_9 rfl ?_
    refine r_sipush (v := 200) dX9_commonDivisor_11 rfl ?_
    refine r_icmp_ge (tgt := 45) dX9_commonDivisor_14 rfl (fun hc => ?_) (fun hc => ?_)
    · replace hm := hm.1 hc
      refine r_lload dX9_commonDivisor_45 rfl ?_
      exact r_lreturn dX9_commonDivisor_47 rfl ⟨by decide, by decide⟩ ⟨_, rfl, hm⟩
    · replace hm := hm.2 hc
      refine r_lload dX9_commonDivisor_17 rfl ?_
      refine r_lconst (v := 0) dX9_commonDivisor_19 rfl ?_
      refine r_lcmp dX9_commonDivisor_20 ?_
      refine r_if_eq (tgt := 45) dX9_commonDivisor_21 rfl (fun hc => ?_) (fun hc => ?_)
      · replace hm := hm.1 hc
        refine r_lload dX9_commonDivisor_45 rfl ?_
        exact r_lreturn dX9_commonDivisor_47 rfl ⟨by decide, by decide⟩ ⟨_, rfl, hm⟩
      · replace hm := hm.2 hc
        refine r_lload dX9_commonDivisor_24 rfl ?_
        refine r_lload dX9_commonDivisor_26 rfl ?_
        refine r_lrem dX9_commonDivisor_28 hm.1 ?_
        replace hm := hm.2
        refine r_nmJ (fun x1 e_x1 => ?_)
        replace hm := hm x1 e_x1
        refine r_lstore (L' := [none, none, none, none, some (tJ v4), none, some (tJ v6), none, some (tI v8), some (tJ x1), none]) dX9_commonDivisor_29 (by decide) rfl ?_
        refine r_lload dX9_commonDivisor_31 rfl ?_
        refine r_lstore (L' := [none, none, none, none, some (tJ v6), none, some (tJ v6), none, some (tI v8), some (tJ x1), none]) dX9_commonDivisor_33 (by decide) rfl ?_
        refine r_lload dX9_commonDivisor_35 rfl ?_
        refine r_lstore (L' := [none, none, none, none, some (tJ v6), none, some (tJ x1), none, some (tI v8), some (tJ x1), none]) dX9_commonDivisor_37 (by decide) rfl ?_
        obtain ⟨x2, e_x2⟩ : ∃ y : Int32, y = v8 + 1 := ⟨_, rfl⟩
        replace hm := hm x2 e_x2
        refine r_iinc (L' := [none, none, none, none, some (tJ v6), none, some (tJ x1), none, some (tI x2), some (tJ x1), none]) dX9_commonDivisor_39 rfl (by rw [e_x2]; rfl) (by decide) rfl ?_
        refine r_goto (tgt := 9) dX9_commonDivisor_42 rfl ?_
        refine r_keep (L' := [none, none, none, none, some (tJ v6), none, some (tJ x1), none, some (tI x2)]) [false, false, false, false, true, false, true, false, true] rfl ?_
        exact hk9 _ _ _ _ hm
def m_X9_commonDivisor (v0 : Int64) (v2 : Int64) (h : Hp) (Q : Int64 → Hp → Prop) : Prop := ∃ n9, m_X9_commonDivisor_9 n9 Q v0 v2 0 h
set_option maxHeartbeats 4000000 in
set_option maxRecDepth 100000 in
theorem s_X9_commonDivisor {l : Launch} {G : Cx} {d : Nat} (hd : 2 ≤ d) {v0 : Int64} {v2 : Int64} {h : Hp} {Q : Int64 → Hp → Prop} (hm : m_X9_commonDivisor v0 v2 h Q) : Ct l G d 0 0 yX9_commonDivisor MX9_commonDivisor [tJ v0, tJ v2] h (qJ Q) := by
  unfold m_X9_commonDivisor at hm
  refine Ct.of (L := [some (tJ v0), none, some (tJ v2), none]) (by decide) rfl rfl (Nat.le_of_ble_eq_true rfl) rfl ?_
  refine r_lload_n dX9_commonDivisor_0 rfl rfl ?_
  refine r_lstore (L' := [some (tJ v0), none, some (tJ v2), none, some (tJ v0), none]) dX9_commonDivisor_1 (by decide) rfl ?_
  refine r_lload_n dX9_commonDivisor_3 rfl rfl ?_
  refine r_lstore (L' := [some (tJ v0), none, some (tJ v2), none, some (tJ v0), none, some (tJ v2), none]) dX9_commonDivisor_4 (by decide) rfl ?_
  refine r_iconst (v := 0) dX9_commonDivisor_6 rfl ?_
  refine r_istore (L' := [some (tJ v0), none, some (tJ v2), none, some (tJ v0), none, some (tJ v2), none, some (tI 0)]) dX9_commonDivisor_7 (by decide) rfl ?_
  refine r_keep (L' := [none, none, none, none, some (tJ v0), none, some (tJ v2), none, some (tI 0)]) [false, false, false, false, true, false, true, false, true] rfl ?_
  obtain ⟨n, hm⟩ := hm
  refine s_X9_commonDivisor_9 hd hm
theorem dJ13_compare_74951_0 : decode cJ13_compare_74951 0 = .ok (.lload_n 0, 1) := rfl
theorem dJ13_compare_74951_1 : decode cJ13_compare_74951 1 = .ok (.lload_n 2, 1) := rfl
theorem dJ13_compare_74951_2 : decode cJ13_compare_74951 2 = .ok (.lcmp, 1) := rfl
theorem dJ13_compare_74951_3 : decode cJ13_compare_74951 3 = .ok (.ifCond .ge 7, 3) := by decide +kernel
theorem dJ13_compare_74951_6 : decode cJ13_compare_74951 6 = .ok (.iconst (-1), 1) := rfl
theorem dJ13_compare_74951_7 : decode cJ13_compare_74951 7 = .ok (.goto 14, 3) := by decide +kernel
theorem dJ13_compare_74951_10 : decode cJ13_compare_74951 10 = .ok (.lload_n 0, 1) := rfl
theorem dJ13_compare_74951_11 : decode cJ13_compare_74951 11 = .ok (.lload_n 2, 1) := rfl
theorem dJ13_compare_74951_12 : decode cJ13_compare_74951 12 = .ok (.lcmp, 1) := rfl
theorem dJ13_compare_74951_13 : decode cJ13_compare_74951 13 = .ok (.ifCond .ne 7, 3) := by decide +kernel
theorem dJ13_compare_74951_16 : decode cJ13_compare_74951 16 = .ok (.iconst 0, 1) := rfl
theorem dJ13_compare_74951_17 : decode cJ13_compare_74951 17 = .ok (.goto 4, 3) := by decide +kernel
theorem dJ13_compare_74951_20 : decode cJ13_compare_74951 20 = .ok (.iconst 1, 1) := rfl
theorem dJ13_compare_74951_21 : decode cJ13_compare_74951 21 = .ok (.ireturn, 1) := rfl
def m_J13_compare_74951 (v0 : Int64) (v2 : Int64) (h : Hp) (Q : Int32 → Hp → Prop) : Prop := (0 ≤ (lg_cmp v0 v2) → (¬ (lg_cmp v0 v2) = 0 → Q 1 h) ∧ ((lg_cmp v0 v2) = 0 → Q 0 h)) ∧ (¬ 0 ≤ (lg_cmp v0 v2) → Q (-1) h)
set_option maxHeartbeats 4000000 in
set_option maxRecDepth 100000 in
theorem s_J13_compare_74951 {l : Launch} {G : Cx} {d : Nat} (hd : 2 ≤ d) {v0 : Int64} {v2 : Int64} {h : Hp} {Q : Int32 → Hp → Prop} (hm : m_J13_compare_74951 v0 v2 h Q) : Ct l G d 0 0 yJ13_compare_74951 MJ13_compare_74951 [tJ v0, tJ v2] h (qI Q) := by
  unfold m_J13_compare_74951 at hm
  refine Ct.of (L := [some (tJ v0), none, some (tJ v2), none]) (by decide) rfl rfl (Nat.le_of_ble_eq_true rfl) rfl ?_
  refine r_lload_n dJ13_compare_74951_0 rfl rfl ?_
  refine r_lload_n dJ13_compare_74951_1 rfl rfl ?_
  refine r_lcmp dJ13_compare_74951_2 ?_
  refine r_if_ge (tgt := 10) dJ13_compare_74951_3 rfl (fun hc => ?_) (fun hc => ?_)
  · replace hm := hm.1 hc
    refine r_lload_n dJ13_compare_74951_10 rfl rfl ?_
    refine r_lload_n dJ13_compare_74951_11 rfl rfl ?_
    refine r_lcmp dJ13_compare_74951_12 ?_
    refine r_if_ne (tgt := 20) dJ13_compare_74951_13 rfl (fun hc => ?_) (fun hc => ?_)
    · replace hm := hm.1 hc
      refine r_iconst (v := 1) dJ13_compare_74951_20 rfl ?_
      exact r_ireturn dJ13_compare_74951_21 rfl ⟨by decide, by decide⟩ ⟨_, rfl, hm⟩
    · replace hm := hm.2 hc
      refine r_iconst (v := 0) dJ13_compare_74951_16 rfl ?_
      refine r_goto (tgt := 21) dJ13_compare_74951_17 rfl ?_
      exact r_ireturn dJ13_compare_74951_21 rfl ⟨by decide, by decide⟩ ⟨_, rfl, hm⟩
  · replace hm := hm.2 hc
    refine r_iconst (v := (-1)) dJ13_compare_74951_6 rfl ?_
    refine r_goto (tgt := 21) dJ13_compare_74951_7 rfl ?_
    exact r_ireturn dJ13_compare_74951_21 rfl ⟨by decide, by decide⟩ ⟨_, rfl, hm⟩
theorem dX9_compareShares_0 : decode cX9_compareShares 0 = .ok (.iconst 1, 1) := by decide +kernel
theorem dX9_compareShares_1 : decode cX9_compareShares 1 = .ok (.istore 8, 2) := by decide +kernel
theorem dX9_compareShares_3 : decode cX9_compareShares 3 = .ok (.iconst 0, 1) := by decide +kernel
theorem dX9_compareShares_4 : decode cX9_compareShares 4 = .ok (.istore 9, 2) := by decide +kernel
theorem dX9_compareShares_6 : decode cX9_compareShares 6 = .ok (.iload 9, 2) := by decide +kernel
theorem dX9_compareShares_8 : decode cX9_compareShares 8 = .ok (.sipush 200, 3) := by decide +kernel
theorem dX9_compareShares_11 : decode cX9_compareShares 11 = .ok (.if_icmp .ge 114, 3) := by decide +kernel
theorem dX9_compareShares_14 : decode cX9_compareShares 14 = .ok (.lload_n 2, 1) := by decide +kernel
theorem dX9_compareShares_15 : decode cX9_compareShares 15 = .ok (.lconst 0, 1) := by decide +kernel
theorem dX9_compareShares_16 : decode cX9_compareShares 16 = .ok (.lcmp, 1) := by decide +kernel
theorem dX9_compareShares_17 : decode cX9_compareShares 17 = .ok (.ifCond .le 108, 3) := by decide +kernel
theorem dX9_compareShares_20 : decode cX9_compareShares 20 = .ok (.lload 6, 2) := by decide +kernel
theorem dX9_compareShares_22 : decode cX9_compareShares 22 = .ok (.lconst 0, 1) := by decide +kernel
theorem dX9_compareShares_23 : decode cX9_compareShares 23 = .ok (.lcmp, 1) := by decide +kernel
theorem dX9_compareShares_24 : decode cX9_compareShares 24 = .ok (.ifCond .le 101, 3) := by decide +kernel
theorem dX9_compareShares_27 : decode cX9_compareShares 27 = .ok (.lload_n 0, 1) := by decide +kernel
theorem dX9_compareShares_28 : decode cX9_compareShares 28 = .ok (.lload_n 2, 1) := by decide +kernel
theorem dX9_compareShares_29 : decode cX9_compareShares 29 = .ok (.ldiv, 1) := by decide +kernel
theorem dX9_compareShares_30 : decode cX9_compareShares 30 = .ok (.lstore 10, 2) := by decide +kernel
theorem dX9_compareShares_32 : decode cX9_compareShares 32 = .ok (.lload 4, 2) := by decide +kernel
theorem dX9_compareShares_34 : decode cX9_compareShares 34 = .ok (.lload 6, 2) := by decide +kernel
theorem dX9_compareShares_36 : decode cX9_compareShares 36 = .ok (.ldiv, 1) := by decide +kernel
theorem dX9_compareShares_37 : decode cX9_compareShares 37 = .ok (.lstore 12, 2) := by decide +kernel
theorem dX9_compareShares_39 : decode cX9_compareShares 39 = .ok (.lload 10, 2) := by decide +kernel
theorem dX9_compareShares_41 : decode cX9_compareShares 41 = .ok (.lload 12, 2) := by decide +kernel
theorem dX9_compareShares_43 : decode cX9_compareShares 43 = .ok (.lcmp, 1) := by decide +kernel
theorem dX9_compareShares_44 : decode cX9_compareShares 44 = .ok (.ifCond .eq 20, 3) := by decide +kernel
theorem dX9_compareShares_47 : decode cX9_compareShares 47 = .ok (.lload 10, 2) := by decide +kernel
theorem dX9_compareShares_49 : decode cX9_compareShares 49 = .ok (.lload 12, 2) := by decide +kernel
theorem dX9_compareShares_51 : decode cX9_compareShares 51 = .ok (.lcmp, 1) := by decide +kernel
theorem dX9_compareShares_52 : decode cX9_compareShares 52 = .ok (.ifCond .ge 9, 3) := by decide +kernel
theorem dX9_compareShares_55 : decode cX9_compareShares 55 = .ok (.iload 8, 2) := by decide +kernel
theorem dX9_compareShares_57 : decode cX9_compareShares 57 = .ok (.ineg, 1) := by decide +kernel
theorem dX9_compareShares_58 : decode cX9_compareShares 58 = .ok (.goto 5, 3) := by decide +kernel
theorem dX9_compareShares_61 : decode cX9_compareShares 61 = .ok (.iload 8, 2) := by decide +kernel
theorem dX9_compareShares_63 : decode cX9_compareShares 63 = .ok (.ireturn, 1) := by decide +kernel
theorem dX9_compareShares_64 : decode cX9_compareShares 64 = .ok (.lload_n 0, 1) := by decide +kernel
theorem dX9_compareShares_65 : decode cX9_compareShares 65 = .ok (.lload_n 2, 1) := by decide +kernel
theorem dX9_compareShares_66 : decode cX9_compareShares 66 = .ok (.lrem, 1) := by decide +kernel
theorem dX9_compareShares_67 : decode cX9_compareShares 67 = .ok (.lstore 14, 2) := by decide +kernel
theorem dX9_compareShares_69 : decode cX9_compareShares 69 = .ok (.lload 4, 2) := by decide +kernel
theorem dX9_compareShares_71 : decode cX9_compareShares 71 = .ok (.lload 6, 2) := by decide +kernel
theorem dX9_compareShares_73 : decode cX9_compareShares 73 = .ok (.lrem, 1) := by decide +kernel
theorem dX9_compareShares_74 : decode cX9_compareShares 74 = .ok (.lstore 16, 2) := by decide +kernel
theorem dX9_compareShares_76 : decode cX9_compareShares 76 = .ok (.lload 14, 2) := by decide +kernel
theorem dX9_compareShares_78 : decode cX9_compareShares 78 = .ok (.lconst 0, 1) := by decide +kernel
theorem dX9_compareShares_79 : decode cX9_compareShares 79 = .ok (.lcmp, 1) := by decide +kernel
theorem dX9_compareShares_80 : decode cX9_compareShares 80 = .ok (.ifCond .eq 10, 3) := by decide +kernel
theorem dX9_compareShares_83 : decode cX9_compareShares 83 = .ok (.lload 16, 2) := by decide +kernel
theorem dX9_compareShares_85 : decode cX9_compareShares 85 = .ok (.lconst 0, 1) := by decide +kernel
theorem dX9_compareShares_86 : decode cX9_compareShares 86 = .ok (.lcmp, 1) := by decide +kernel
theorem dX9_compareShares_87 : decode cX9_compareShares 87 = .ok (.ifCond .ne 14, 3) := by decide +kernel
theorem dX9_compareShares_90 : decode cX9_compareShares 90 = .ok (.iload 8, 2) := by decide +kernel
theorem dX9_compareShares_92 : decode cX9_compareShares 92 = .ok (.lload 14, 2) := by decide +kernel
theorem dX9_compareShares_94 : decode cX9_compareShares 94 = .ok (.lload 16, 2) := by decide +kernel
theorem dX9_compareShares_96 : decode cX9_compareShares 96 = .ok (.invokestatic 89, 3) := by decide +kernel
theorem dX9_compareShares_99 : decode cX9_compareShares 99 = .ok (.imul, 1) := by decide +kernel
theorem dX9_compareShares_100 : decode cX9_compareShares 100 = .ok (.ireturn, 1) := by decide +kernel
theorem dX9_compareShares_101 : decode cX9_compareShares 101 = .ok (.lload_n 2, 1) := by decide +kernel
theorem dX9_compareShares_102 : decode cX9_compareShares 102 = .ok (.lstore_n 0, 1) := by decide +kernel
theorem dX9_compareShares_103 : decode cX9_compareShares 103 = .ok (.lload 14, 2) := by decide +kernel
theorem dX9_compareShares_105 : decode cX9_compareShares 105 = .ok (.lstore_n 2, 1) := by decide +kernel
theorem dX9_compareShares_106 : decode cX9_compareShares 106 = .ok (.lload 6, 2) := by decide +kernel
theorem dX9_compareShares_108 : decode cX9_compareShares 108 = .ok (.lstore 4, 2) := by decide +kernel
theorem dX9_compareShares_110 : decode cX9_compareShares 110 = .ok (.lload 16, 2) := by decide +kernel
theorem dX9_compareShares_112 : decode cX9_compareShares 112 = .ok (.lstore 6, 2) := by decide +kernel
theorem dX9_compareShares_114 : decode cX9_compareShares 114 = .ok (.iload 8, 2) := by decide +kernel
theorem dX9_compareShares_116 : decode cX9_compareShares 116 = .ok (.ineg, 1) := by decide +kernel
theorem dX9_compareShares_117 : decode cX9_compareShares 117 = .ok (.istore 8, 2) := by decide +kernel
theorem dX9_compareShares_119 : decode cX9_compareShares 119 = .ok (.iinc 9 1, 3) := by decide +kernel
theorem dX9_compareShares_122 : decode cX9_compareShares 122 = .ok (.goto (-116), 3) := by decide +kernel
theorem dX9_compareShares_125 : decode cX9_compareShares 125 = .ok (.iconst 0, 1) := by decide +kernel
theorem dX9_compareShares_126 : decode cX9_compareShares 126 = .ok (.ireturn, 1) := by decide +kernel
def m_X9_compareShares_90  (Q : Int32 → Hp → Prop) (v8 : Int32) (v14 : Int64) (v16 : Int64) (h : Hp) : Prop := m_J13_compare_74951 v14 v16 h (fun (x1 : Int32) (h2 : Hp) => Q (v8 * x1) h2)
set_option maxHeartbeats 4000000 in
set_option maxRecDepth 100000 in
theorem s_X9_compareShares_90 {l : Launch} {G : Cx} {d : Nat} {h0 : Hp} (hd : 4 ≤ d) {Q : Int32 → Hp → Prop} {v8 : Int32} {v14 : Int64} {v16 : Int64} {h : Hp} (hm : m_X9_compareShares_90 Q v8 v14 v16 h) : Rn l G d 0 0 MX9_compareShares h0 (qI Q) 90 [none, none, none, none, none, none, none, none, some (tI v8), none, none, none, none, none, some (tJ v14), none, some (tJ v16)] [] h 0 0 := by
  unfold m_X9_compareShares_90 at hm
  refine r_iload dX9_compareShares_90 rfl ?_
  refine r_lload dX9_compareShares_92 rfl ?_
  refine r_lload dX9_compareShares_94 rfl ?_
  refine r_callSI (d' := d - 1) (as := [tJ v14, tJ v16]) (st := [tI v8]) dX9_compareShares_96 mi_J13_compare_74951 t_1030 t_1031 rfl rfl (Nat.le_of_ble_eq_true rfl) (by omega) ⟨by decide, by decide⟩ ⟨rfl, rfl⟩ (s_J13_compare_74951 (by omega) hm) (fun x1 h2 hm => ?_)
  refine r_imul dX9_compareShares_99 ?_
  exact r_ireturn dX9_compareShares_100 rfl ⟨by decide, by decide⟩ ⟨_, rfl, hm⟩
def m_X9_compareShares_47  (Q : Int32 → Hp → Prop) (v8 : Int32) (v10 : Int64) (v12 : Int64) (h : Hp) : Prop := (0 ≤ (lg_cmp v10 v12) → Q v8 h) ∧ (¬ 0 ≤ (lg_cmp v10 v12) → Q (-v8) h)
set_option maxHeartbeats 4000000 in
set_option maxRecDepth 100000 in
theorem s_X9_compareShares_47 {l : Launch} {G : Cx} {d : Nat} {h0 : Hp} (hd : 4 ≤ d) {Q : Int32 → Hp → Prop} {v8 : Int32} {v10 : Int64} {v12 : Int64} {h : Hp} (hm : m_X9_compareShares_47 Q v8 v10 v12 h) : Rn l G d 0 0 MX9_compareShares h0 (qI Q) 47 [none, none, none, none, none, none, none, none, some (tI v8), none, some (tJ v10), none, some (tJ v12)] [] h 0 0 := by
  unfold m_X9_compareShares_47 at hm
  refine r_lload dX9_compareShares_47 rfl ?_
  refine r_lload dX9_compareShares_49 rfl ?_
  refine r_lcmp dX9_compareShares_51 ?_
  refine r_if_ge (tgt := 61) dX9_compareShares_52 rfl (fun hc => ?_) (fun hc => ?_)
  · replace hm := hm.1 hc
    refine r_iload dX9_compareShares_61 rfl ?_
    exact r_ireturn dX9_compareShares_63 rfl ⟨by decide, by decide⟩ ⟨_, rfl, hm⟩
  · replace hm := hm.2 hc
    refine r_iload dX9_compareShares_55 rfl ?_
    refine r_ineg dX9_compareShares_57 ?_
    refine r_goto (tgt := 63) dX9_compareShares_58 rfl ?_
    exact r_ireturn dX9_compareShares_63 rfl ⟨by decide, by decide⟩ ⟨_, rfl, hm⟩
def m_X9_compareShares_6 : Nat → (Int32 → Int64 → Int64 → Hp → Prop) → (Int32 → Int64 → Int64 → Hp → Prop) → (Int32 → Hp → Prop) → Int64 → Int64 → Int64 → Int64 → Int32 → Int32 → Hp → Prop
  | 0, _, _, _, _, _, _, _, _, _, _ => False
  | n + 1, k47, k90, Q, v0, v2, v4, v6, v8, v9, h => (200 ≤ v9 → Q 0 h) ∧ (¬ 200 ≤ v9 → ((lg_cmp v2 0) ≤ 0 → Q 0 h) ∧ (¬ (lg_cmp v2 0) ≤ 0 → ((lg_cmp v6 0) ≤ 0 → Q 0 h) ∧ (¬ (lg_cmp v6 0) ≤ 0 → ¬ v2 = 0 ∧ (∀ x3 : Int64, x3 = (v0 / v2) → ¬ v6 = 0 ∧ (∀ x4 : Int64, x4 = (v4 / v6) → ((lg_cmp x3 x4) = 0 → ¬ v2 = 0 ∧ (∀ x5 : Int64, x5 = (v0 - v0 / v2 * v2) → ¬ v6 = 0 ∧ (∀ x6 : Int64, x6 = (v4 - v4 / v6 * v6) → ((lg_cmp x5 0) = 0 → k90 v8 x5 x6 h) ∧ (¬ (lg_cmp x5 0) = 0 → (¬ (lg_cmp x6 0) = 0 → ∀ x7 : Int32, x7 = (-v8) → ∀ x8 : Int32, x8 = v9 + 1 → m_X9_compareShares_6 n k47 k90 Q v2 x5 v6 x6 x7 x8 h) ∧ ((lg_cmp x6 0) = 0 → k90 v8 x5 x6 h))))) ∧ (¬ (lg_cmp x3 x4) = 0 → k47 v8 x3 x4 h))))))
set_option maxHeartbeats 4000000 in
set_option maxRecDepth 100000 in
theorem s_X9_compareShares_6 {l : Launch} {G : Cx} {d : Nat} {h0 : Hp} (hd : 4 ≤ d) {k47 : Int32 → Int64 → Int64 → Hp → Prop} {k90 : Int32 → Int64 → Int64 → Hp → Prop} {Q : Int32 → Hp → Prop} (hk47 : ∀ (v8 : Int32) (v10 : Int64) (v12 : Int64) (hh : Hp), k47 v8 v10 v12 hh → Rn l G d 0 0 MX9_compareShares h0 (qI Q) 47 [none, none, none, none, none, none, none, none, some (tI v8), none, some (tJ v10), none, some (tJ v12)] [] hh 0 0) (hk90 : ∀ (v8 : Int32) (v14 : Int64) (v16 : Int64) (hh : Hp), k90 v8 v14 v16 hh → Rn l G d 0 0 MX9_compareShares h0 (qI Q) 90 [none, none, none, none, none, none, none, none, some (tI v8), none, none, none, none, none, some (tJ v14), none, some (tJ v16)] [] hh 0 0) : ∀ {n : Nat} {v0 : Int64} {v2 : Int64} {v4 : Int64} {v6 : Int64} {v8 : Int32} {v9 : Int32} {h : Hp}, m_X9_compareShares_6 n k47 k90 Q v0 v2 v4 v6 v8 v9 h → Rn l G d 0 0 MX9_compareShares h0 (qI Q) 6 [some (tJ v0), none, some (tJ v2), none, some (tJ v4), none, some (tJ v6), none, some (tI v8), some (tI v9)] [] h 0 0 := by
  intro n
  induction n with
  | zero => intro v0 v2 v4 v6 v8 v9 h hm; exact hm.elim
  | succ n ih =>
    intro v0 v2 v4 v6 v8 v9 h hm
    have hk6 := fun (v0 : Int64) (v2 : Int64) (v4 : Int64) (v6 : Int64) (v8 : Int32) (v9 : Int32) (hh : Hp) (hm : m_X9_compareShares_6 n k47 k90 Q v0 v2 v4 v6 v8 v9 hh) => ih hm
    rw [m_X9_compareShares_6] at hm
    refine r_iload dX9_compareShares_6 rfl ?_
    refine r_sipush (v := 200) dX9_compareShares_8 rfl ?_
    refine r_icmp_ge (tgt := 125) dX9_compareShares_11 rfl (fun hc => ?_) (fun hc => ?_)
    · replace hm := hm.1 hc
      refine r_iconst (v := 0) dX9_compareShares_125 rfl ?_
      exact r_ireturn dX9_compareShares_126 rfl ⟨by decide, by decide⟩ ⟨_, rfl, hm⟩
    · replace hm := hm.2 hc
      refine r_lload_n dX9_compareShares_14 rfl rfl ?_
      refine r_lconst (v := 0) dX9_compareShares_15 rfl ?_
      refine r_lcmp dX9_compareShares_16 ?_
      refine r_if_le (tgt := 125) dX9_compareShares_17 rfl (fun hc => ?_) (fun hc => ?_)
      · replace hm := hm.1 hc
        refine r_iconst (v := 0) dX9_compareShares_125 rfl ?_
        exact r_ireturn dX9_compareShares_126 rfl ⟨by decide, by decide⟩ ⟨_, rfl, hm⟩
      · replace hm := hm.2 hc
        refine r_lload dX9_compareShares_20 rfl ?_
        refine r_lconst (v := 0) dX9_compareShares_22 rfl ?_
        refine r_lcmp dX9_compareShares_23 ?_
        refine r_if_le (tgt := 125) dX9_compareShares_24 rfl (fun hc => ?_) (fun hc => ?_)
        · replace hm := hm.1 hc
          refine r_iconst (v := 0) dX9_compareShares_125 rfl ?_
          exact r_ireturn dX9_compareShares_126 rfl ⟨by decide, by decide⟩ ⟨_, rfl, hm⟩
        · replace hm := hm.2 hc
          refine r_lload_n dX9_compareShares_27 rfl rfl ?_
          refine r_lload_n dX9_compareShares_28 rfl rfl ?_
          refine r_ldiv dX9_compareShares_29 hm.1 ?_
          replace hm := hm.2
          refine r_nmJ (fun x3 e_x3 => ?_)
          replace hm := hm x3 e_x3
          refine r_lstore (L' := [some (tJ v0), none, some (tJ v2), none, some (tJ v4), none, some (tJ v6), none, some (tI v8), some (tI v9), some (tJ x3), none]) dX9_compareShares_30 (by decide) rfl ?_
          refine r_lload dX9_compareShares_32 rfl ?_
          refine r_lload dX9_compareShares_34 rfl ?_
          refine r_ldiv dX9_compareShares_36 hm.1 ?_
          replace hm := hm.2
          refine r_nmJ (fun x4 e_x4 => ?_)
          replace hm := hm x4 e_x4
          refine r_lstore (L' := [some (tJ v0), none, some (tJ v2), none, some (tJ v4), none, some (tJ v6), none, some (tI v8), some (tI v9), some (tJ x3), none, some (tJ x4), none]) dX9_compareShares_37 (by decide) rfl ?_
          refine r_lload dX9_compareShares_39 rfl ?_
          refine r_lload dX9_compareShares_41 rfl ?_
          refine r_lcmp dX9_compareShares_43 ?_
          refine r_if_eq (tgt := 64) dX9_compareShares_44 rfl (fun hc => ?_) (fun hc => ?_)
          · replace hm := hm.1 hc
            refine r_lload_n dX9_compareShares_64 rfl rfl ?_
            refine r_lload_n dX9_compareShares_65 rfl rfl ?_
            refine r_lrem dX9_compareShares_66 hm.1 ?_
            replace hm := hm.2
            refine r_nmJ (fun x5 e_x5 => ?_)
            replace hm := hm x5 e_x5
            refine r_lstore (L' := [some (tJ v0), none, some (tJ v2), none, some (tJ v4), none, some (tJ v6), none, some (tI v8), some (tI v9), some (tJ x3), none, some (tJ x4), none, some (tJ x5), none]) dX9_compareShares_67 (by decide) rfl ?_
            refine r_lload dX9_compareShares_69 rfl ?_
            refine r_lload dX9_compareShares_71 rfl ?_
            refine r_lrem dX9_compareShares_73 hm.1 ?_
            replace hm := hm.2
            refine r_nmJ (fun x6 e_x6 => ?_)
            replace hm := hm x6 e_x6
            refine r_lstore (L' := [some (tJ v0), none, some (tJ v2), none, some (tJ v4), none, some (tJ v6), none, some (tI v8), some (tI v9), some (tJ x3), none, some (tJ x4), none, some (tJ x5), none, some (tJ x6), none]) dX9_compareShares_74 (by decide) rfl ?_
            refine r_lload dX9_compareShares_76 rfl ?_
            refine r_lconst (v := 0) dX9_compareShares_78 rfl ?_
            refine r_lcmp dX9_compareShares_79 ?_
            refine r_if_eq (tgt := 90) dX9_compareShares_80 rfl (fun hc => ?_) (fun hc => ?_)
            · replace hm := hm.1 hc
              refine r_keep (L' := [none, none, none, none, none, none, none, none, some (tI v8), none, none, none, none, none, some (tJ x5), none, some (tJ x6)]) [false, false, false, false, false, false, false, false, true, false, false, false, false, false, true, false, true] rfl ?_
              exact hk90 _ _ _ _ hm
            · replace hm := hm.2 hc
              refine r_lload dX9_compareShares_83 rfl ?_
              refine r_lconst (v := 0) dX9_compareShares_85 rfl ?_
              refine r_lcmp dX9_compareShares_86 ?_
              refine r_if_ne (tgt := 101) dX9_compareShares_87 rfl (fun hc => ?_) (fun hc => ?_)
              · replace hm := hm.1 hc
                refine r_lload_n dX9_compareShares_101 rfl rfl ?_
                refine r_lstore_n (L' := [some (tJ v2), none, some (tJ v2), none, some (tJ v4), none, some (tJ v6), none, some (tI v8), some (tI v9), some (tJ x3), none, some (tJ x4), none, some (tJ x5), none, some (tJ x6), none]) dX9_compareShares_102 rfl (by decide) rfl ?_
                refine r_lload dX9_compareShares_103 rfl ?_
                refine r_lstore_n (L' := [some (tJ v2), none, some (tJ x5), none, some (tJ v4), none, some (tJ v6), none, some (tI v8), some (tI v9), some (tJ x3), none, some (tJ x4), none, some (tJ x5), none, some (tJ x6), none]) dX9_compareShares_105 rfl (by decide) rfl ?_
                refine r_lload dX9_compareShares_106 rfl ?_
                refine r_lstore (L' := [some (tJ v2), none, some (tJ x5), none, some (tJ v6), none, some (tJ v6), none, some (tI v8), some (tI v9), some (tJ x3), none, some (tJ x4), none, some (tJ x5), none, some (tJ x6), none]) dX9_compareShares_108 (by decide) rfl ?_
                refine r_lload dX9_compareShares_110 rfl ?_
                refine r_lstore (L' := [some (tJ v2), none, some (tJ x5), none, some (tJ v6), none, some (tJ x6), none, some (tI v8), some (tI v9), some (tJ x3), none, some (tJ x4), none, some (tJ x5), none, some (tJ x6), none]) dX9_compareShares_112 (by decide) rfl ?_
                refine r_iload dX9_compareShares_114 rfl ?_
                refine r_ineg dX9_compareShares_116 ?_
                refine r_nmI (fun x7 e_x7 => ?_)
                replace hm := hm x7 e_x7
                refine r_istore (L' := [some (tJ v2), none, some (tJ x5), none, some (tJ v6), none, some (tJ x6), none, some (tI x7), some (tI v9), some (tJ x3), none, some (tJ x4), none, some (tJ x5), none, some (tJ x6), none]) dX9_compareShares_117 (by decide) rfl ?_
                obtain ⟨x8, e_x8⟩ : ∃ y : Int32, y = v9 + 1 := ⟨_, rfl⟩
                replace hm := hm x8 e_x8
                refine r_iinc (L' := [some (tJ v2), none, some (tJ x5), none, some (tJ v6), none, some (tJ x6), none, some (tI x7), some (tI x8), some (tJ x3), none, some (tJ x4), none, some (tJ x5), none, some (tJ x6), none]) dX9_compareShares_119 rfl (by rw [e_x8]; rfl) (by decide) rfl ?_
                refine r_goto (tgt := 6) dX9_compareShares_122 rfl ?_
                refine r_keep (L' := [some (tJ v2), none, some (tJ x5), none, some (tJ v6), none, some (tJ x6), none, some (tI x7), some (tI x8)]) [true, false, true, false, true, false, true, false, true, true] rfl ?_
                exact hk6 _ _ _ _ _ _ _ hm
              · replace hm := hm.2 hc
                refine r_keep (L' := [none, none, none, none, none, none, none, none, some (tI v8), none, none, none, none, none, some (tJ x5), none, some (tJ x6)]) [false, false, false, false, false, false, false, false, true, false, false, false, false, false, true, false, true] rfl ?_
                exact hk90 _ _ _ _ hm
          · replace hm := hm.2 hc
            refine r_keep (L' := [none, none, none, none, none, none, none, none, some (tI v8), none, some (tJ x3), none, some (tJ x4)]) [false, false, false, false, false, false, false, false, true, false, true, false, true] rfl ?_
            exact hk47 _ _ _ _ hm
def m_X9_compareShares (v0 : Int64) (v2 : Int64) (v4 : Int64) (v6 : Int64) (h : Hp) (Q : Int32 → Hp → Prop) : Prop := ∃ n6, m_X9_compareShares_6 n6 (m_X9_compareShares_47 Q) (m_X9_compareShares_90 Q) Q v0 v2 v4 v6 1 0 h
set_option maxHeartbeats 4000000 in
set_option maxRecDepth 100000 in
theorem s_X9_compareShares {l : Launch} {G : Cx} {d : Nat} (hd : 4 ≤ d) {v0 : Int64} {v2 : Int64} {v4 : Int64} {v6 : Int64} {h : Hp} {Q : Int32 → Hp → Prop} (hm : m_X9_compareShares v0 v2 v4 v6 h Q) : Ct l G d 0 0 yX9_compareShares MX9_compareShares [tJ v0, tJ v2, tJ v4, tJ v6] h (qI Q) := by
  unfold m_X9_compareShares at hm
  refine Ct.of (L := [some (tJ v0), none, some (tJ v2), none, some (tJ v4), none, some (tJ v6), none]) (by decide) rfl rfl (Nat.le_of_ble_eq_true rfl) rfl ?_
  refine r_iconst (v := 1) dX9_compareShares_0 rfl ?_
  refine r_istore (L' := [some (tJ v0), none, some (tJ v2), none, some (tJ v4), none, some (tJ v6), none, some (tI 1)]) dX9_compareShares_1 (by decide) rfl ?_
  refine r_iconst (v := 0) dX9_compareShares_3 rfl ?_
  refine r_istore (L' := [some (tJ v0), none, some (tJ v2), none, some (tJ v4), none, some (tJ v6), none, some (tI 1), some (tI 0)]) dX9_compareShares_4 (by decide) rfl ?_
  refine r_keep (L' := [some (tJ v0), none, some (tJ v2), none, some (tJ v4), none, some (tJ v6), none, some (tI 1), some (tI 0)]) [true, false, true, false, true, false, true, false, true, true] rfl ?_
  obtain ⟨n, hm⟩ := hm
  refine s_X9_compareShares_6 hd ?_ ?_ hm
  · exact (fun _ _ _ _ hm => s_X9_compareShares_47 hd hm)
  · exact (fun _ _ _ _ hm => s_X9_compareShares_90 hd hm)
theorem dX9_notePrice_0 : decode cX9_notePrice 0 = .ok (.iload_n 1, 1) := by decide +kernel
theorem dX9_notePrice_1 : decode cX9_notePrice 1 = .ok (.iconst 4, 1) := by decide +kernel
theorem dX9_notePrice_2 : decode cX9_notePrice 2 = .ok (.imul, 1) := by decide +kernel
theorem dX9_notePrice_3 : decode cX9_notePrice 3 = .ok (.istore 6, 2) := by decide +kernel
theorem dX9_notePrice_5 : decode cX9_notePrice 5 = .ok (.aload_n 0, 1) := by decide +kernel
theorem dX9_notePrice_6 : decode cX9_notePrice 6 = .ok (.getfield 15, 3) := by decide +kernel
theorem dX9_notePrice_9 : decode cX9_notePrice 9 = .ok (.iload_n 1, 1) := by decide +kernel
theorem dX9_notePrice_10 : decode cX9_notePrice 10 = .ok (.iaload, 1) := by decide +kernel
theorem dX9_notePrice_11 : decode cX9_notePrice 11 = .ok (.ifCond .eq 28, 3) := by decide +kernel
theorem dX9_notePrice_14 : decode cX9_notePrice 14 = .ok (.lload_n 2, 1) := by decide +kernel
theorem dX9_notePrice_15 : decode cX9_notePrice 15 = .ok (.lload 4, 2) := by decide +kernel
theorem dX9_notePrice_17 : decode cX9_notePrice 17 = .ok (.aload_n 0, 1) := by decide +kernel
theorem dX9_notePrice_18 : decode cX9_notePrice 18 = .ok (.getfield 19, 3) := by decide +kernel
theorem dX9_notePrice_21 : decode cX9_notePrice 21 = .ok (.iload 6, 2) := by decide +kernel
theorem dX9_notePrice_23 : decode cX9_notePrice 23 = .ok (.laload, 1) := by decide +kernel
theorem dX9_notePrice_24 : decode cX9_notePrice 24 = .ok (.aload_n 0, 1) := by decide +kernel
theorem dX9_notePrice_25 : decode cX9_notePrice 25 = .ok (.getfield 19, 3) := by decide +kernel
theorem dX9_notePrice_28 : decode cX9_notePrice 28 = .ok (.iload 6, 2) := by decide +kernel
theorem dX9_notePrice_30 : decode cX9_notePrice 30 = .ok (.iconst 1, 1) := by decide +kernel
theorem dX9_notePrice_31 : decode cX9_notePrice 31 = .ok (.iadd, 1) := by decide +kernel
theorem dX9_notePrice_32 : decode cX9_notePrice 32 = .ok (.laload, 1) := by decide +kernel
theorem dX9_notePrice_33 : decode cX9_notePrice 33 = .ok (.invokestatic 85, 3) := by decide +kernel
theorem dX9_notePrice_36 : decode cX9_notePrice 36 = .ok (.ifCond .ge 22, 3) := by decide +kernel
theorem dX9_notePrice_39 : decode cX9_notePrice 39 = .ok (.aload_n 0, 1) := by decide +kernel
theorem dX9_notePrice_40 : decode cX9_notePrice 40 = .ok (.getfield 19, 3) := by decide +kernel
theorem dX9_notePrice_43 : decode cX9_notePrice 43 = .ok (.iload 6, 2) := by decide +kernel
theorem dX9_notePrice_45 : decode cX9_notePrice 45 = .ok (.lload_n 2, 1) := by decide +kernel
theorem dX9_notePrice_46 : decode cX9_notePrice 46 = .ok (.lastore, 1) := by decide +kernel
theorem dX9_notePrice_47 : decode cX9_notePrice 47 = .ok (.aload_n 0, 1) := by decide +kernel
theorem dX9_notePrice_48 : decode cX9_notePrice 48 = .ok (.getfield 19, 3) := by decide +kernel
theorem dX9_notePrice_51 : decode cX9_notePrice 51 = .ok (.iload 6, 2) := by decide +kernel
theorem dX9_notePrice_53 : decode cX9_notePrice 53 = .ok (.iconst 1, 1) := by decide +kernel
theorem dX9_notePrice_54 : decode cX9_notePrice 54 = .ok (.iadd, 1) := by decide +kernel
theorem dX9_notePrice_55 : decode cX9_notePrice 55 = .ok (.lload 4, 2) := by decide +kernel
theorem dX9_notePrice_57 : decode cX9_notePrice 57 = .ok (.lastore, 1) := by decide +kernel
theorem dX9_notePrice_58 : decode cX9_notePrice 58 = .ok (.aload_n 0, 1) := by decide +kernel
theorem dX9_notePrice_59 : decode cX9_notePrice 59 = .ok (.getfield 15, 3) := by decide +kernel
theorem dX9_notePrice_62 : decode cX9_notePrice 62 = .ok (.iload_n 1, 1) := by decide +kernel
theorem dX9_notePrice_63 : decode cX9_notePrice 63 = .ok (.iaload, 1) := by decide +kernel
theorem dX9_notePrice_64 : decode cX9_notePrice 64 = .ok (.ifCond .eq 30, 3) := by decide +kernel
theorem dX9_notePrice_67 : decode cX9_notePrice 67 = .ok (.lload_n 2, 1) := by decide +kernel
theorem dX9_notePrice_68 : decode cX9_notePrice 68 = .ok (.lload 4, 2) := by decide +kernel
theorem dX9_notePrice_70 : decode cX9_notePrice 70 = .ok (.aload_n 0, 1) := by decide +kernel
theorem dX9_notePrice_71 : decode cX9_notePrice 71 = .ok (.getfield 19, 3) := by decide +kernel
theorem dX9_notePrice_74 : decode cX9_notePrice 74 = .ok (.iload 6, 2) := by decide +kernel
theorem dX9_notePrice_76 : decode cX9_notePrice 76 = .ok (.iconst 2, 1) := by decide +kernel
theorem dX9_notePrice_77 : decode cX9_notePrice 77 = .ok (.iadd, 1) := by decide +kernel
theorem dX9_notePrice_78 : decode cX9_notePrice 78 = .ok (.laload, 1) := by decide +kernel
theorem dX9_notePrice_79 : decode cX9_notePrice 79 = .ok (.aload_n 0, 1) := by decide +kernel
theorem dX9_notePrice_80 : decode cX9_notePrice 80 = .ok (.getfield 19, 3) := by decide +kernel
theorem dX9_notePrice_83 : decode cX9_notePrice 83 = .ok (.iload 6, 2) := by decide +kernel
theorem dX9_notePrice_85 : decode cX9_notePrice 85 = .ok (.iconst 3, 1) := by decide +kernel
theorem dX9_notePrice_86 : decode cX9_notePrice 86 = .ok (.iadd, 1) := by decide +kernel
theorem dX9_notePrice_87 : decode cX9_notePrice 87 = .ok (.laload, 1) := by decide +kernel
theorem dX9_notePrice_88 : decode cX9_notePrice 88 = .ok (.invokestatic 85, 3) := by decide +kernel
theorem dX9_notePrice_91 : decode cX9_notePrice 91 = .ok (.ifCond .le 24, 3) := by decide +kernel
theorem dX9_notePrice_94 : decode cX9_notePrice 94 = .ok (.aload_n 0, 1) := by decide +kernel
theorem dX9_notePrice_95 : decode cX9_notePrice 95 = .ok (.getfield 19, 3) := by decide +kernel
theorem dX9_notePrice_98 : decode cX9_notePrice 98 = .ok (.iload 6, 2) := by decide +kernel
theorem dX9_notePrice_100 : decode cX9_notePrice 100 = .ok (.iconst 2, 1) := by decide +kernel
theorem dX9_notePrice_101 : decode cX9_notePrice 101 = .ok (.iadd, 1) := by decide +kernel
theorem dX9_notePrice_102 : decode cX9_notePrice 102 = .ok (.lload_n 2, 1) := by decide +kernel
theorem dX9_notePrice_103 : decode cX9_notePrice 103 = .ok (.lastore, 1) := by decide +kernel
theorem dX9_notePrice_104 : decode cX9_notePrice 104 = .ok (.aload_n 0, 1) := by decide +kernel
theorem dX9_notePrice_105 : decode cX9_notePrice 105 = .ok (.getfield 19, 3) := by decide +kernel
theorem dX9_notePrice_108 : decode cX9_notePrice 108 = .ok (.iload 6, 2) := by decide +kernel
theorem dX9_notePrice_110 : decode cX9_notePrice 110 = .ok (.iconst 3, 1) := by decide +kernel
theorem dX9_notePrice_111 : decode cX9_notePrice 111 = .ok (.iadd, 1) := by decide +kernel
theorem dX9_notePrice_112 : decode cX9_notePrice 112 = .ok (.lload 4, 2) := by decide +kernel
theorem dX9_notePrice_114 : decode cX9_notePrice 114 = .ok (.lastore, 1) := by decide +kernel
theorem dX9_notePrice_115 : decode cX9_notePrice 115 = .ok (.aload_n 0, 1) := by decide +kernel
theorem dX9_notePrice_116 : decode cX9_notePrice 116 = .ok (.getfield 15, 3) := by decide +kernel
theorem dX9_notePrice_119 : decode cX9_notePrice 119 = .ok (.iload_n 1, 1) := by decide +kernel
theorem dX9_notePrice_120 : decode cX9_notePrice 120 = .ok (.dup2, 1) := by decide +kernel
theorem dX9_notePrice_121 : decode cX9_notePrice 121 = .ok (.iaload, 1) := by decide +kernel
theorem dX9_notePrice_122 : decode cX9_notePrice 122 = .ok (.iconst 1, 1) := by decide +kernel
theorem dX9_notePrice_123 : decode cX9_notePrice 123 = .ok (.iadd, 1) := by decide +kernel
theorem dX9_notePrice_124 : decode cX9_notePrice 124 = .ok (.iastore, 1) := by decide +kernel
theorem dX9_notePrice_125 : decode cX9_notePrice 125 = .ok (.return_, 1) := by decide +kernel
def m_X9_notePrice_115  (Q : Hp → Prop) (v1 : Int32) (h : Hp) : Prop := vp_in v1 64 ∧ (vp_in v1 64 ∧ (Q (wI h 27 (ix v1) ((hI h 27 (ix v1)) + 1))))
set_option maxHeartbeats 4000000 in
set_option maxRecDepth 100000 in
theorem s_X9_notePrice_115 {l : Launch} {G : Cx} {d : Nat} {h0 : Hp} (hd : 6 ≤ d) {Q : Hp → Prop} {v1 : Int32} {h : Hp} (hm : m_X9_notePrice_115 Q v1 h) : Rn l G d 0 0 MX9_notePrice h0 (qV Q) 115 [some (tR 9 0 (some 26)), some (tI v1)] [] h 0 0 := by
  unfold m_X9_notePrice_115 at hm
  refine r_aload_n dX9_notePrice_115 rfl rfl ?_
  refine r_getC (k := 2) cl_9 dX9_notePrice_116 t_217 gf_9_2.1 gf_9_2.2 (gc_9_2 _) ?_
  refine r_iload_n dX9_notePrice_119 rfl rfl ?_
  refine r_dup2 dX9_notePrice_120 rfl cv_cat1R ?_
  refine r_iald dX9_notePrice_121 hm.1 ?_
  replace hm := hm.2
  refine r_iconst (v := 1) dX9_notePrice_122 rfl ?_
  refine r_iadd dX9_notePrice_123 ?_
  refine r_iast dX9_notePrice_124 hm.1 ?_
  replace hm := hm.2
  exact r_return dX9_notePrice_125 rfl ⟨by decide, by decide⟩ ⟨rfl, hm⟩
def m_X9_notePrice_94  (Q : Hp → Prop) (v1 : Int32) (v2 : Int64) (v4 : Int64) (v6 : Int32) (h : Hp) : Prop := vp_in (v6 + 2) 256 ∧ (vp_in (v6 + 3) 256 ∧ (m_X9_notePrice_115 Q v1 (wJ (wJ h 28 (ix (v6 + 2)) v2) 28 (ix (v6 + 3)) v4)))
set_option maxHeartbeats 4000000 in
set_option maxRecDepth 100000 in
theorem s_X9_notePrice_94 {l : Launch} {G : Cx} {d : Nat} {h0 : Hp} (hd : 6 ≤ d) {Q : Hp → Prop} {v1 : Int32} {v2 : Int64} {v4 : Int64} {v6 : Int32} {h : Hp} (hm : m_X9_notePrice_94 Q v1 v2 v4 v6 h) : Rn l G d 0 0 MX9_notePrice h0 (qV Q) 94 [some (tR 9 0 (some 26)), some (tI v1), some (tJ v2), none, some (tJ v4), none, some (tI v6)] [] h 0 0 := by
  unfold m_X9_notePrice_94 at hm
  refine r_aload_n dX9_notePrice_94 rfl rfl ?_
  refine r_getC (k := 3) cl_9 dX9_notePrice_95 t_219 gf_9_3.1 gf_9_3.2 (gc_9_3 _) ?_
  refine r_iload dX9_notePrice_98 rfl ?_
  refine r_iconst (v := 2) dX9_notePrice_100 rfl ?_
  refine r_iadd dX9_notePrice_101 ?_
  refine r_lload_n dX9_notePrice_102 rfl rfl ?_
  refine r_last dX9_notePrice_103 hm.1 ?_
  replace hm := hm.2
  refine r_aload_n dX9_notePrice_104 rfl rfl ?_
  refine r_getC (k := 3) cl_9 dX9_notePrice_105 t_219 gf_9_3.1 gf_9_3.2 (gc_9_3 _) ?_
  refine r_iload dX9_notePrice_108 rfl ?_
  refine r_iconst (v := 3) dX9_notePrice_110 rfl ?_
  refine r_iadd dX9_notePrice_111 ?_
  refine r_lload dX9_notePrice_112 rfl ?_
  refine r_last dX9_notePrice_114 hm.1 ?_
  replace hm := hm.2
  refine r_keep (L' := [some (tR 9 0 (some 26)), some (tI v1)]) [true, true] rfl ?_
  exact s_X9_notePrice_115 hd hm
def m_X9_notePrice_58  (Q : Hp → Prop) (v1 : Int32) (v2 : Int64) (v4 : Int64) (v6 : Int32) (h : Hp) : Prop := vp_in v1 64 ∧ (((hI h 27 (ix v1)) = 0 → m_X9_notePrice_94 Q v1 v2 v4 v6 h) ∧ (¬ (hI h 27 (ix v1)) = 0 → vp_in (v6 + 2) 256 ∧ (vp_in (v6 + 3) 256 ∧ (m_X9_compareShares v2 v4 (hJ h 28 (ix (v6 + 2))) (hJ h 28 (ix (v6 + 3))) h (fun (x1 : Int32) (h2 : Hp) => (x1 ≤ 0 → m_X9_notePrice_115 Q v1 h2) ∧ (¬ x1 ≤ 0 → m_X9_notePrice_94 Q v1 v2 v4 v6 h2))))))
set_option maxHeartbeats 4000000 in
set_option maxRecDepth 100000 in
theorem s_X9_notePrice_58 {l : Launch} {G : Cx} {d : Nat} {h0 : Hp} (hd : 6 ≤ d) {Q : Hp → Prop} {v1 : Int32} {v2 : Int64} {v4 : Int64} {v6 : Int32} {h : Hp} (hm : m_X9_notePrice_58 Q v1 v2 v4 v6 h) : Rn l G d 0 0 MX9_notePrice h0 (qV Q) 58 [some (tR 9 0 (some 26)), some (tI v1), some (tJ v2), none, some (tJ v4), none, some (tI v6)] [] h 0 0 := by
  unfold m_X9_notePrice_58 at hm
  refine r_aload_n dX9_notePrice_58 rfl rfl ?_
  refine r_getC (k := 2) cl_9 dX9_notePrice_59 t_217 gf_9_2.1 gf_9_2.2 (gc_9_2 _) ?_
  refine r_iload_n dX9_notePrice_62 rfl rfl ?_
  refine r_iald dX9_notePrice_63 hm.1 ?_
  replace hm := hm.2
  refine r_if_eq (tgt := 94) dX9_notePrice_64 rfl (fun hc => ?_) (fun hc => ?_)
  · replace hm := hm.1 hc
    refine r_keep (L' := [some (tR 9 0 (some 26)), some (tI v1), some (tJ v2), none, some (tJ v4), none, some (tI v6)]) [true, true, true, false, true, false, true] rfl ?_
    exact s_X9_notePrice_94 hd hm
  · replace hm := hm.2 hc
    refine r_lload_n dX9_notePrice_67 rfl rfl ?_
    refine r_lload dX9_notePrice_68 rfl ?_
    refine r_aload_n dX9_notePrice_70 rfl rfl ?_
    refine r_getC (k := 3) cl_9 dX9_notePrice_71 t_219 gf_9_3.1 gf_9_3.2 (gc_9_3 _) ?_
    refine r_iload dX9_notePrice_74 rfl ?_
    refine r_iconst (v := 2) dX9_notePrice_76 rfl ?_
    refine r_iadd dX9_notePrice_77 ?_
    refine r_lald dX9_notePrice_78 hm.1 ?_
    replace hm := hm.2
    refine r_aload_n dX9_notePrice_79 rfl rfl ?_
    refine r_getC (k := 3) cl_9 dX9_notePrice_80 t_219 gf_9_3.1 gf_9_3.2 (gc_9_3 _) ?_
    refine r_iload dX9_notePrice_83 rfl ?_
    refine r_iconst (v := 3) dX9_notePrice_85 rfl ?_
    refine r_iadd dX9_notePrice_86 ?_
    refine r_lald dX9_notePrice_87 hm.1 ?_
    replace hm := hm.2
    refine r_callSI (d' := d - 1) (as := [tJ v2, tJ v4, tJ (hJ h 28 (ix (v6 + 2))), tJ (hJ h 28 (ix (v6 + 3)))]) (st := []) dX9_notePrice_88 mi_X9_compareShares t_1027 t_1028 rfl rfl (Nat.le_of_ble_eq_true rfl) (by omega) ⟨by decide, by decide⟩ ⟨rfl, rfl⟩ (s_X9_compareShares (by omega) hm) (fun x1 h2 hm => ?_)
    refine r_if_le (tgt := 115) dX9_notePrice_91 rfl (fun hc => ?_) (fun hc => ?_)
    · replace hm := hm.1 hc
      refine r_keep (L' := [some (tR 9 0 (some 26)), some (tI v1)]) [true, true] rfl ?_
      exact s_X9_notePrice_115 hd hm
    · replace hm := hm.2 hc
      refine r_keep (L' := [some (tR 9 0 (some 26)), some (tI v1), some (tJ v2), none, some (tJ v4), none, some (tI v6)]) [true, true, true, false, true, false, true] rfl ?_
      exact s_X9_notePrice_94 hd hm
def m_X9_notePrice_39  (Q : Hp → Prop) (v1 : Int32) (v2 : Int64) (v4 : Int64) (v6 : Int32) (h : Hp) : Prop := vp_in v6 256 ∧ (vp_in (v6 + 1) 256 ∧ (m_X9_notePrice_58 Q v1 v2 v4 v6 (wJ (wJ h 28 (ix v6) v2) 28 (ix (v6 + 1)) v4)))
set_option maxHeartbeats 4000000 in
set_option maxRecDepth 100000 in
theorem s_X9_notePrice_39 {l : Launch} {G : Cx} {d : Nat} {h0 : Hp} (hd : 6 ≤ d) {Q : Hp → Prop} {v1 : Int32} {v2 : Int64} {v4 : Int64} {v6 : Int32} {h : Hp} (hm : m_X9_notePrice_39 Q v1 v2 v4 v6 h) : Rn l G d 0 0 MX9_notePrice h0 (qV Q) 39 [some (tR 9 0 (some 26)), some (tI v1), some (tJ v2), none, some (tJ v4), none, some (tI v6)] [] h 0 0 := by
  unfold m_X9_notePrice_39 at hm
  refine r_aload_n dX9_notePrice_39 rfl rfl ?_
  refine r_getC (k := 3) cl_9 dX9_notePrice_40 t_219 gf_9_3.1 gf_9_3.2 (gc_9_3 _) ?_
  refine r_iload dX9_notePrice_43 rfl ?_
  refine r_lload_n dX9_notePrice_45 rfl rfl ?_
  refine r_last dX9_notePrice_46 hm.1 ?_
  replace hm := hm.2
  refine r_aload_n dX9_notePrice_47 rfl rfl ?_
  refine r_getC (k := 3) cl_9 dX9_notePrice_48 t_219 gf_9_3.1 gf_9_3.2 (gc_9_3 _) ?_
  refine r_iload dX9_notePrice_51 rfl ?_
  refine r_iconst (v := 1) dX9_notePrice_53 rfl ?_
  refine r_iadd dX9_notePrice_54 ?_
  refine r_lload dX9_notePrice_55 rfl ?_
  refine r_last dX9_notePrice_57 hm.1 ?_
  replace hm := hm.2
  refine r_keep (L' := [some (tR 9 0 (some 26)), some (tI v1), some (tJ v2), none, some (tJ v4), none, some (tI v6)]) [true, true, true, false, true, false, true] rfl ?_
  exact s_X9_notePrice_58 hd hm
def m_X9_notePrice (v1 : Int32) (v2 : Int64) (v4 : Int64) (h : Hp) (Q : Hp → Prop) : Prop := ∀ x3 : Int32, x3 = (v1 * 4) → vp_in v1 64 ∧ (((hI h 27 (ix v1)) = 0 → m_X9_notePrice_39 Q v1 v2 v4 x3 h) ∧ (¬ (hI h 27 (ix v1)) = 0 → vp_in x3 256 ∧ (vp_in (x3 + 1) 256 ∧ (m_X9_compareShares v2 v4 (hJ h 28 (ix x3)) (hJ h 28 (ix (x3 + 1))) h (fun (x4 : Int32) (h5 : Hp) => (0 ≤ x4 → m_X9_notePrice_58 Q v1 v2 v4 x3 h5) ∧ (¬ 0 ≤ x4 → m_X9_notePrice_39 Q v1 v2 v4 x3 h5))))))
set_option maxHeartbeats 4000000 in
set_option maxRecDepth 100000 in
theorem s_X9_notePrice {l : Launch} {G : Cx} {d : Nat} (hd : 6 ≤ d) {v1 : Int32} {v2 : Int64} {v4 : Int64} {h : Hp} {Q : Hp → Prop} (hm : m_X9_notePrice v1 v2 v4 h Q) : Ct l G d 0 0 yX9_notePrice MX9_notePrice [tR 9 0 (some 26), tI v1, tJ v2, tJ v4] h (qV Q) := by
  unfold m_X9_notePrice at hm
  refine Ct.of (L := [some (tR 9 0 (some 26)), some (tI v1), some (tJ v2), none, some (tJ v4), none]) (by decide) rfl rfl (Nat.le_of_ble_eq_true rfl) rfl ?_
  refine r_iload_n dX9_notePrice_0 rfl rfl ?_
  refine r_iconst (v := 4) dX9_notePrice_1 rfl ?_
  refine r_imul dX9_notePrice_2 ?_
  refine r_nmI (fun x3 e_x3 => ?_)
  replace hm := hm x3 e_x3
  refine r_istore (L' := [some (tR 9 0 (some 26)), some (tI v1), some (tJ v2), none, some (tJ v4), none, some (tI x3)]) dX9_notePrice_3 (by decide) rfl ?_
  refine r_aload_n dX9_notePrice_5 rfl rfl ?_
  refine r_getC (k := 2) cl_9 dX9_notePrice_6 t_217 gf_9_2.1 gf_9_2.2 (gc_9_2 _) ?_
  refine r_iload_n dX9_notePrice_9 rfl rfl ?_
  refine r_iald dX9_notePrice_10 hm.1 ?_
  replace hm := hm.2
  refine r_if_eq (tgt := 39) dX9_notePrice_11 rfl (fun hc => ?_) (fun hc => ?_)
  · replace hm := hm.1 hc
    refine r_keep (L' := [some (tR 9 0 (some 26)), some (tI v1), some (tJ v2), none, some (tJ v4), none, some (tI x3)]) [true, true, true, false, true, false, true] rfl ?_
    exact s_X9_notePrice_39 hd hm
  · replace hm := hm.2 hc
    refine r_lload_n dX9_notePrice_14 rfl rfl ?_
    refine r_lload dX9_notePrice_15 rfl ?_
    refine r_aload_n dX9_notePrice_17 rfl rfl ?_
    refine r_getC (k := 3) cl_9 dX9_notePrice_18 t_219 gf_9_3.1 gf_9_3.2 (gc_9_3 _) ?_
    refine r_iload dX9_notePrice_21 rfl ?_
    refine r_lald dX9_notePrice_23 hm.1 ?_
    replace hm := hm.2
    refine r_aload_n dX9_notePrice_24 rfl rfl ?_
    refine r_getC (k := 3) cl_9 dX9_notePrice_25 t_219 gf_9_3.1 gf_9_3.2 (gc_9_3 _) ?_
    refine r_iload dX9_notePrice_28 rfl ?_
    refine r_iconst (v := 1) dX9_notePrice_30 rfl ?_
    refine r_iadd dX9_notePrice_31 ?_
    refine r_lald dX9_notePrice_32 hm.1 ?_
    replace hm := hm.2
    refine r_callSI (d' := d - 1) (as := [tJ v2, tJ v4, tJ (hJ h 28 (ix x3)), tJ (hJ h 28 (ix (x3 + 1)))]) (st := []) dX9_notePrice_33 mi_X9_compareShares t_1027 t_1028 rfl rfl (Nat.le_of_ble_eq_true rfl) (by omega) ⟨by decide, by decide⟩ ⟨rfl, rfl⟩ (s_X9_compareShares (by omega) hm) (fun x4 h5 hm => ?_)
    refine r_if_ge (tgt := 58) dX9_notePrice_36 rfl (fun hc => ?_) (fun hc => ?_)
    · replace hm := hm.1 hc
      refine r_keep (L' := [some (tR 9 0 (some 26)), some (tI v1), some (tJ v2), none, some (tJ v4), none, some (tI x3)]) [true, true, true, false, true, false, true] rfl ?_
      exact s_X9_notePrice_58 hd hm
    · replace hm := hm.2 hc
      refine r_keep (L' := [some (tR 9 0 (some 26)), some (tI v1), some (tJ v2), none, some (tJ v4), none, some (tI x3)]) [true, true, true, false, true, false, true] rfl ?_
      exact s_X9_notePrice_39 hd hm
theorem dX9_noteLender_0 : decode cX9_noteLender 0 = .ok (.aload_n 1, 1) := by decide +kernel
theorem dX9_noteLender_1 : decode cX9_noteLender 1 = .ok (.iload_n 2, 1) := by decide +kernel
theorem dX9_noteLender_2 : decode cX9_noteLender 2 = .ok (.invokevirtual 72, 3) := by decide +kernel
theorem dX9_noteLender_5 : decode cX9_noteLender 5 = .ok (.istore_n 3, 1) := by decide +kernel
theorem dX9_noteLender_6 : decode cX9_noteLender 6 = .ok (.iload_n 3, 1) := by decide +kernel
theorem dX9_noteLender_7 : decode cX9_noteLender 7 = .ok (.ifCond .eq 14, 3) := by decide +kernel
theorem dX9_noteLender_10 : decode cX9_noteLender 10 = .ok (.aload_n 1, 1) := by decide +kernel
theorem dX9_noteLender_11 : decode cX9_noteLender 11 = .ok (.getfield 75, 3) := by decide +kernel
theorem dX9_noteLender_14 : decode cX9_noteLender 14 = .ok (.iload_n 2, 1) := by decide +kernel
theorem dX9_noteLender_15 : decode cX9_noteLender 15 = .ok (.laload, 1) := by decide +kernel
theorem dX9_noteLender_16 : decode cX9_noteLender 16 = .ok (.lconst 0, 1) := by decide +kernel
theorem dX9_noteLender_17 : decode cX9_noteLender 17 = .ok (.lcmp, 1) := by decide +kernel
theorem dX9_noteLender_18 : decode cX9_noteLender 18 = .ok (.ifCond .gt 4, 3) := by decide +kernel
theorem dX9_noteLender_21 : decode cX9_noteLender 21 = .ok (.return_, 1) := by decide +kernel
theorem dX9_noteLender_22 : decode cX9_noteLender 22 = .ok (.aload_n 1, 1) := by decide +kernel
theorem dX9_noteLender_23 : decode cX9_noteLender 23 = .ok (.getfield 55, 3) := by decide +kernel
theorem dX9_noteLender_26 : decode cX9_noteLender 26 = .ok (.iload_n 2, 1) := by decide +kernel
theorem dX9_noteLender_27 : decode cX9_noteLender 27 = .ok (.laload, 1) := by decide +kernel
theorem dX9_noteLender_28 : decode cX9_noteLender 28 = .ok (.aload_n 1, 1) := by decide +kernel
theorem dX9_noteLender_29 : decode cX9_noteLender 29 = .ok (.getfield 75, 3) := by decide +kernel
theorem dX9_noteLender_32 : decode cX9_noteLender 32 = .ok (.iload_n 2, 1) := by decide +kernel
theorem dX9_noteLender_33 : decode cX9_noteLender 33 = .ok (.laload, 1) := by decide +kernel
theorem dX9_noteLender_34 : decode cX9_noteLender 34 = .ok (.invokestatic 78, 3) := by decide +kernel
theorem dX9_noteLender_37 : decode cX9_noteLender 37 = .ok (.lstore 4, 2) := by decide +kernel
theorem dX9_noteLender_39 : decode cX9_noteLender 39 = .ok (.lload 4, 2) := by decide +kernel
theorem dX9_noteLender_41 : decode cX9_noteLender 41 = .ok (.lconst 0, 1) := by decide +kernel
theorem dX9_noteLender_42 : decode cX9_noteLender 42 = .ok (.lcmp, 1) := by decide +kernel
theorem dX9_noteLender_43 : decode cX9_noteLender 43 = .ok (.ifCond .le 15, 3) := by decide +kernel
theorem dX9_noteLender_46 : decode cX9_noteLender 46 = .ok (.aload_n 1, 1) := by decide +kernel
theorem dX9_noteLender_47 : decode cX9_noteLender 47 = .ok (.getfield 55, 3) := by decide +kernel
theorem dX9_noteLender_50 : decode cX9_noteLender 50 = .ok (.iload_n 2, 1) := by decide +kernel
theorem dX9_noteLender_51 : decode cX9_noteLender 51 = .ok (.laload, 1) := by decide +kernel
theorem dX9_noteLender_52 : decode cX9_noteLender 52 = .ok (.lload 4, 2) := by decide +kernel
theorem dX9_noteLender_54 : decode cX9_noteLender 54 = .ok (.ldiv, 1) := by decide +kernel
theorem dX9_noteLender_55 : decode cX9_noteLender 55 = .ok (.goto 9, 3) := by decide +kernel
theorem dX9_noteLender_58 : decode cX9_noteLender 58 = .ok (.aload_n 1, 1) := by decide +kernel
theorem dX9_noteLender_59 : decode cX9_noteLender 59 = .ok (.getfield 55, 3) := by decide +kernel
theorem dX9_noteLender_62 : decode cX9_noteLender 62 = .ok (.iload_n 2, 1) := by decide +kernel
theorem dX9_noteLender_63 : decode cX9_noteLender 63 = .ok (.laload, 1) := by decide +kernel
theorem dX9_noteLender_64 : decode cX9_noteLender 64 = .ok (.lstore 6, 2) := by decide +kernel
theorem dX9_noteLender_66 : decode cX9_noteLender 66 = .ok (.lload 4, 2) := by decide +kernel
theorem dX9_noteLender_68 : decode cX9_noteLender 68 = .ok (.lconst 0, 1) := by decide +kernel
theorem dX9_noteLender_69 : decode cX9_noteLender 69 = .ok (.lcmp, 1) := by decide +kernel
theorem dX9_noteLender_70 : decode cX9_noteLender 70 = .ok (.ifCond .le 15, 3) := by decide +kernel
theorem dX9_noteLender_73 : decode cX9_noteLender 73 = .ok (.aload_n 1, 1) := by decide +kernel
theorem dX9_noteLender_74 : decode cX9_noteLender 74 = .ok (.getfield 75, 3) := by decide +kernel
theorem dX9_noteLender_77 : decode cX9_noteLender 77 = .ok (.iload_n 2, 1) := by decide +kernel
theorem dX9_noteLender_78 : decode cX9_noteLender 78 = .ok (.laload, 1) := by decide +kernel
theorem dX9_noteLender_79 : decode cX9_noteLender 79 = .ok (.lload 4, 2) := by decide +kernel
theorem dX9_noteLender_81 : decode cX9_noteLender 81 = .ok (.ldiv, 1) := by decide +kernel
theorem dX9_noteLender_82 : decode cX9_noteLender 82 = .ok (.goto 9, 3) := by decide +kernel
theorem dX9_noteLender_85 : decode cX9_noteLender 85 = .ok (.aload_n 1, 1) := by decide +kernel
theorem dX9_noteLender_86 : decode cX9_noteLender 86 = .ok (.getfield 75, 3) := by decide +kernel
theorem dX9_noteLender_89 : decode cX9_noteLender 89 = .ok (.iload_n 2, 1) := by decide +kernel
theorem dX9_noteLender_90 : decode cX9_noteLender 90 = .ok (.laload, 1) := by decide +kernel
theorem dX9_noteLender_91 : decode cX9_noteLender 91 = .ok (.lstore 8, 2) := by decide +kernel
theorem dX9_noteLender_93 : decode cX9_noteLender 93 = .ok (.iconst 0, 1) := by decide +kernel
theorem dX9_noteLender_94 : decode cX9_noteLender 94 = .ok (.istore 10, 2) := by decide +kernel
theorem dX9_noteLender_96 : decode cX9_noteLender 96 = .ok (.iload 10, 2) := by decide +kernel
theorem dX9_noteLender_98 : decode cX9_noteLender 98 = .ok (.bipush 8, 2) := by decide +kernel
theorem dX9_noteLender_100 : decode cX9_noteLender 100 = .ok (.if_icmp .ge 34, 3) := by decide +kernel
theorem dX9_noteLender_103 : decode cX9_noteLender 103 = .ok (.iload_n 3, 1) := by decide +kernel
theorem dX9_noteLender_104 : decode cX9_noteLender 104 = .ok (.iload 10, 2) := by decide +kernel
theorem dX9_noteLender_106 : decode cX9_noteLender 106 = .ok (.ishr, 1) := by decide +kernel
theorem dX9_noteLender_107 : decode cX9_noteLender 107 = .ok (.iconst 1, 1) := by decide +kernel
theorem dX9_noteLender_108 : decode cX9_noteLender 108 = .ok (.iand, 1) := by decide +kernel
theorem dX9_noteLender_109 : decode cX9_noteLender 109 = .ok (.iconst 1, 1) := by decide +kernel
theorem dX9_noteLender_110 : decode cX9_noteLender 110 = .ok (.if_icmp .ne 18, 3) := by decide +kernel
theorem dX9_noteLender_113 : decode cX9_noteLender 113 = .ok (.aload_n 0, 1) := by decide +kernel
theorem dX9_noteLender_114 : decode cX9_noteLender 114 = .ok (.iload_n 2, 1) := by decide +kernel
theorem dX9_noteLender_115 : decode cX9_noteLender 115 = .ok (.bipush 8, 2) := by decide +kernel
theorem dX9_noteLender_117 : decode cX9_noteLender 117 = .ok (.imul, 1) := by decide +kernel
theorem dX9_noteLender_118 : decode cX9_noteLender 118 = .ok (.iload 10, 2) := by decide +kernel
theorem dX9_noteLender_120 : decode cX9_noteLender 120 = .ok (.iadd, 1) := by decide +kernel
theorem dX9_noteLender_121 : decode cX9_noteLender 121 = .ok (.lload 6, 2) := by decide +kernel
theorem dX9_noteLender_123 : decode cX9_noteLender 123 = .ok (.lload 8, 2) := by decide +kernel
theorem dX9_noteLender_125 : decode cX9_noteLender 125 = .ok (.invokevirtual 81, 3) := by decide +kernel
theorem dX9_noteLender_128 : decode cX9_noteLender 128 = .ok (.iinc 10 1, 3) := by decide +kernel
theorem dX9_noteLender_131 : decode cX9_noteLender 131 = .ok (.goto (-35), 3) := by decide +kernel
theorem dX9_noteLender_134 : decode cX9_noteLender 134 = .ok (.return_, 1) := by decide +kernel
def m_X9_noteLender_128 (k96 : Int32 → Int32 → Int64 → Int64 → Int32 → Hp → Prop) (Q : Hp → Prop) (v2 : Int32) (v3 : Int32) (v6 : Int64) (v8 : Int64) (v10 : Int32) (h : Hp) : Prop := ∀ x1 : Int32, x1 = v10 + 1 → k96 v2 v3 v6 v8 x1 h
set_option maxHeartbeats 4000000 in
set_option maxRecDepth 100000 in
theorem s_X9_noteLender_128 {l : Launch} {G : Cx} {d : Nat} {h0 : Hp} (hd : 8 ≤ d) {k96 : Int32 → Int32 → Int64 → Int64 → Int32 → Hp → Prop} {Q : Hp → Prop} (hk96 : ∀ (v2 : Int32) (v3 : Int32) (v6 : Int64) (v8 : Int64) (v10 : Int32) (hh : Hp), k96 v2 v3 v6 v8 v10 hh → Rn l G d 0 0 MX9_noteLender h0 (qV Q) 96 [some (tR 9 0 (some 26)), none, some (tI v2), some (tI v3), none, none, some (tJ v6), none, some (tJ v8), none, some (tI v10)] [] hh 0 0) {v2 : Int32} {v3 : Int32} {v6 : Int64} {v8 : Int64} {v10 : Int32} {h : Hp} (hm : m_X9_noteLender_128 k96 Q v2 v3 v6 v8 v10 h) : Rn l G d 0 0 MX9_noteLender h0 (qV Q) 128 [some (tR 9 0 (some 26)), none, some (tI v2), some (tI v3), none, none, some (tJ v6), none, some (tJ v8), none, some (tI v10)] [] h 0 0 := by
  unfold m_X9_noteLender_128 at hm
  obtain ⟨x1, e_x1⟩ : ∃ y : Int32, y = v10 + 1 := ⟨_, rfl⟩
  replace hm := hm x1 e_x1
  refine r_iinc (L' := [some (tR 9 0 (some 26)), none, some (tI v2), some (tI v3), none, none, some (tJ v6), none, some (tJ v8), none, some (tI x1)]) dX9_noteLender_128 rfl (by rw [e_x1]; rfl) (by decide) rfl ?_
  refine r_goto (tgt := 96) dX9_noteLender_131 rfl ?_
  refine r_keep (L' := [some (tR 9 0 (some 26)), none, some (tI v2), some (tI v3), none, none, some (tJ v6), none, some (tJ v8), none, some (tI x1)]) [true, false, true, true, false, false, true, false, true, false, true] rfl ?_
  exact hk96 _ _ _ _ _ _ hm
def m_X9_noteLender_96 : Nat → (Hp → Prop) → Int32 → Int32 → Int64 → Int64 → Int32 → Hp → Prop
  | 0, _, _, _, _, _, _, _ => False
  | n + 1, Q, v2, v3, v6, v8, v10, h => (8 ≤ v10 → Q h) ∧ (¬ 8 ≤ v10 → (¬ ((v3 >>> (v10 &&& 31)) &&& 1) = 1 → m_X9_noteLender_128 (fun (v2 : Int32) (v3 : Int32) (v6 : Int64) (v8 : Int64) (v10 : Int32) (hh : Hp) => m_X9_noteLender_96 n Q v2 v3 v6 v8 v10 hh) Q v2 v3 v6 v8 v10 h) ∧ (((v3 >>> (v10 &&& 31)) &&& 1) = 1 → m_X9_notePrice ((v2 * 8) + v10) v6 v8 h (fun (h3 : Hp) => m_X9_noteLender_128 (fun (v2 : Int32) (v3 : Int32) (v6 : Int64) (v8 : Int64) (v10 : Int32) (hh : Hp) => m_X9_noteLender_96 n Q v2 v3 v6 v8 v10 hh) Q v2 v3 v6 v8 v10 h3)))
set_option maxHeartbeats 4000000 in
set_option maxRecDepth 100000 in
theorem s_X9_noteLender_96 {l : Launch} {G : Cx} {d : Nat} {h0 : Hp} (hd : 8 ≤ d) {Q : Hp → Prop} : ∀ {n : Nat} {v2 : Int32} {v3 : Int32} {v6 : Int64} {v8 : Int64} {v10 : Int32} {h : Hp}, m_X9_noteLender_96 n Q v2 v3 v6 v8 v10 h → Rn l G d 0 0 MX9_noteLender h0 (qV Q) 96 [some (tR 9 0 (some 26)), none, some (tI v2), some (tI v3), none, none, some (tJ v6), none, some (tJ v8), none, some (tI v10)] [] h 0 0 := by
  intro n
  induction n with
  | zero => intro v2 v3 v6 v8 v10 h hm; exact hm.elim
  | succ n ih =>
    intro v2 v3 v6 v8 v10 h hm
    have hk96 := fun (v2 : Int32) (v3 : Int32) (v6 : Int64) (v8 : Int64) (v10 : Int32) (hh : Hp) (hm : m_X9_noteLender_96 n Q v2 v3 v6 v8 v10 hh) => ih hm
    rw [m_X9_noteLender_96] at hm
    refine r_iload dX9_noteLender_96 rfl ?_
    refine r_bipush (v := 8) dX9_noteLender_98 rfl ?_
    refine r_icmp_ge (tgt := 134) dX9_noteLender_100 rfl (fun hc => ?_) (fun hc => ?_)
    · replace hm := hm.1 hc
      exact r_return dX9_noteLender_134 rfl ⟨by decide, by decide⟩ ⟨rfl, hm⟩
    · replace hm := hm.2 hc
      refine r_iload_n dX9_noteLender_103 rfl rfl ?_
      refine r_iload dX9_noteLender_104 rfl ?_
      refine r_ishr dX9_noteLender_106 ?_
      refine r_iconst (v := 1) dX9_noteLender_107 rfl ?_
      refine r_iand dX9_noteLender_108 ?_
      refine r_iconst (v := 1) dX9_noteLender_109 rfl ?_
      refine r_icmp_ne (tgt := 128) dX9_noteLender_110 rfl (fun hc => ?_) (fun hc => ?_)
      · replace hm := hm.1 hc
        refine r_keep (L' := [some (tR 9 0 (some 26)), none, some (tI v2), some (tI v3), none, none, some (tJ v6), none, some (tJ v8), none, some (tI v10)]) [true, false, true, true, false, false, true, false, true, false, true] rfl ?_
        exact s_X9_noteLender_128 hd hk96 hm
      · replace hm := hm.2 hc
        refine r_aload_n dX9_noteLender_113 rfl rfl ?_
        refine r_iload_n dX9_noteLender_114 rfl rfl ?_
        refine r_bipush (v := 8) dX9_noteLender_115 rfl ?_
        refine r_imul dX9_noteLender_117 ?_
        refine r_iload dX9_noteLender_118 rfl ?_
        refine r_iadd dX9_noteLender_120 ?_
        refine r_lload dX9_noteLender_121 rfl ?_
        refine r_lload dX9_noteLender_123 rfl ?_
        refine r_callVU (d' := d - 1) (as := [tI ((v2 * 8) + v10), tJ v6, tJ v8]) (st := []) cl_9 dX9_noteLender_125 mi_X9_notePrice t_1023 t_1025 ts_37 rfl rfl (Nat.le_of_ble_eq_true rfl) (by omega) ⟨by decide, by decide⟩ ⟨rfl, rfl⟩ (s_X9_notePrice (by omega) hm) (fun h3 hm => ?_)
        refine r_keep (L' := [some (tR 9 0 (some 26)), none, some (tI v2), some (tI v3), none, none, some (tJ v6), none, some (tJ v8), none, some (tI v10)]) [true, false, true, true, false, false, true, false, true, false, true] rfl ?_
        exact s_X9_noteLender_128 hd hk96 hm
def m_X9_noteLender_91  (Q : Hp → Prop) (v2 : Int32) (v3 : Int32) (v6 : Int64) (s0 : Int64) (h : Hp) : Prop := ∃ n96, m_X9_noteLender_96 n96 Q v2 v3 v6 s0 0 h
set_option maxHeartbeats 4000000 in
set_option maxRecDepth 100000 in
theorem s_X9_noteLender_91 {l : Launch} {G : Cx} {d : Nat} {h0 : Hp} (hd : 8 ≤ d) {Q : Hp → Prop} {v2 : Int32} {v3 : Int32} {v6 : Int64} {s0 : Int64} {h : Hp} (hm : m_X9_noteLender_91 Q v2 v3 v6 s0 h) : Rn l G d 0 0 MX9_noteLender h0 (qV Q) 91 [some (tR 9 0 (some 26)), none, some (tI v2), some (tI v3), none, none, some (tJ v6)] [tJ s0] h 0 0 := by
  unfold m_X9_noteLender_91 at hm
  refine r_lstore (L' := [some (tR 9 0 (some 26)), none, some (tI v2), some (tI v3), none, none, some (tJ v6), none, some (tJ s0), none]) dX9_noteLender_91 (by decide) rfl ?_
  refine r_iconst (v := 0) dX9_noteLender_93 rfl ?_
  refine r_istore (L' := [some (tR 9 0 (some 26)), none, some (tI v2), some (tI v3), none, none, some (tJ v6), none, some (tJ s0), none, some (tI 0)]) dX9_noteLender_94 (by decide) rfl ?_
  refine r_keep (L' := [some (tR 9 0 (some 26)), none, some (tI v2), some (tI v3), none, none, some (tJ v6), none, some (tJ s0), none, some (tI 0)]) [true, false, true, true, false, false, true, false, true, false, true] rfl ?_
  obtain ⟨n, hm⟩ := hm
  refine s_X9_noteLender_96 hd hm
def m_X9_noteLender_64  (Q : Hp → Prop) (v2 : Int32) (v3 : Int32) (v4 : Int64) (s0 : Int64) (h : Hp) : Prop := ((lg_cmp v4 0) ≤ 0 → vp_in v2 8 ∧ (m_X9_noteLender_91 Q v2 v3 s0 (hJ h 22 (ix v2)) h)) ∧ (¬ (lg_cmp v4 0) ≤ 0 → vp_in v2 8 ∧ (¬ v4 = 0 ∧ (m_X9_noteLender_91 Q v2 v3 s0 ((hJ h 22 (ix v2)) / v4) h)))
set_option maxHeartbeats 4000000 in
set_option maxRecDepth 100000 in
theorem s_X9_noteLender_64 {l : Launch} {G : Cx} {d : Nat} {h0 : Hp} (hd : 8 ≤ d) {Q : Hp → Prop} {v2 : Int32} {v3 : Int32} {v4 : Int64} {s0 : Int64} {h : Hp} (hm : m_X9_noteLender_64 Q v2 v3 v4 s0 h) : Rn l G d 0 0 MX9_noteLender h0 (qV Q) 64 [some (tR 9 0 (some 26)), some (tR 5 0 (some 14)), some (tI v2), some (tI v3), some (tJ v4)] [tJ s0] h 0 0 := by
  unfold m_X9_noteLender_64 at hm
  refine r_lstore (L' := [some (tR 9 0 (some 26)), some (tR 5 0 (some 14)), some (tI v2), some (tI v3), some (tJ v4), none, some (tJ s0), none]) dX9_noteLender_64 (by decide) rfl ?_
  refine r_lload dX9_noteLender_66 rfl ?_
  refine r_lconst (v := 0) dX9_noteLender_68 rfl ?_
  refine r_lcmp dX9_noteLender_69 ?_
  refine r_if_le (tgt := 85) dX9_noteLender_70 rfl (fun hc => ?_) (fun hc => ?_)
  · replace hm := hm.1 hc
    refine r_aload_n dX9_noteLender_85 rfl rfl ?_
    refine r_getC (k := 11) cl_5 dX9_noteLender_86 t_156 gf_5_11.1 gf_5_11.2 (gc_5_11 _) ?_
    refine r_iload_n dX9_noteLender_89 rfl rfl ?_
    refine r_lald dX9_noteLender_90 hm.1 ?_
    replace hm := hm.2
    refine r_keep (L' := [some (tR 9 0 (some 26)), none, some (tI v2), some (tI v3), none, none, some (tJ s0)]) [true, false, true, true, false, false, true] rfl ?_
    exact s_X9_noteLender_91 hd hm
  · replace hm := hm.2 hc
    refine r_aload_n dX9_noteLender_73 rfl rfl ?_
    refine r_getC (k := 11) cl_5 dX9_noteLender_74 t_156 gf_5_11.1 gf_5_11.2 (gc_5_11 _) ?_
    refine r_iload_n dX9_noteLender_77 rfl rfl ?_
    refine r_lald dX9_noteLender_78 hm.1 ?_
    replace hm := hm.2
    refine r_lload dX9_noteLender_79 rfl ?_
    refine r_ldiv dX9_noteLender_81 hm.1 ?_
    replace hm := hm.2
    refine r_goto (tgt := 91) dX9_noteLender_82 rfl ?_
    refine r_keep (L' := [some (tR 9 0 (some 26)), none, some (tI v2), some (tI v3), none, none, some (tJ s0)]) [true, false, true, true, false, false, true] rfl ?_
    exact s_X9_noteLender_91 hd hm
def m_X9_noteLender (v2 : Int32) (h : Hp) (Q : Hp → Prop) : Prop := m_X5_borrowersOf v2 h (fun (x4 : Int32) (h5 : Hp) => (x4 = 0 → Q h5) ∧ (¬ x4 = 0 → vp_in v2 8 ∧ ((0 < (lg_cmp (hJ h5 22 (ix v2)) 0) → vp_in v2 8 ∧ (vp_in v2 8 ∧ (m_X9_commonDivisor (hJ h5 21 (ix v2)) (hJ h5 22 (ix v2)) h5 (fun (x6 : Int64) (h7 : Hp) => ((lg_cmp x6 0) ≤ 0 → vp_in v2 8 ∧ (m_X9_noteLender_64 Q v2 x4 x6 (hJ h7 21 (ix v2)) h7)) ∧ (¬ (lg_cmp x6 0) ≤ 0 → vp_in v2 8 ∧ (¬ x6 = 0 ∧ (m_X9_noteLender_64 Q v2 x4 x6 ((hJ h7 21 (ix v2)) / x6) h7))))))) ∧ (¬ 0 < (lg_cmp (hJ h5 22 (ix v2)) 0) → Q h5))))
set_option maxHeartbeats 4000000 in
set_option maxRecDepth 100000 in
theorem s_X9_noteLender {l : Launch} {G : Cx} {d : Nat} (hd : 8 ≤ d) {v2 : Int32} {h : Hp} {Q : Hp → Prop} (hm : m_X9_noteLender v2 h Q) : Ct l G d 0 0 yX9_noteLender MX9_noteLender [tR 9 0 (some 26), tR 5 0 (some 14), tI v2] h (qV Q) := by
  unfold m_X9_noteLender at hm
  refine Ct.of (L := [some (tR 9 0 (some 26)), some (tR 5 0 (some 14)), some (tI v2)]) (by decide) rfl rfl (Nat.le_of_ble_eq_true rfl) rfl ?_
  refine r_aload_n dX9_noteLender_0 rfl rfl ?_
  refine r_iload_n dX9_noteLender_1 rfl rfl ?_
  refine r_callVI (d' := d - 1) (as := [tI v2]) (st := []) cl_5 dX9_noteLender_2 mi_X5_borrowersOf t_1016 t_1017 t_1018 rfl rfl (Nat.le_of_ble_eq_true rfl) (by omega) ⟨by decide, by decide⟩ ⟨rfl, rfl⟩ (s_X5_borrowersOf (by omega) hm) (fun x4 h5 hm => ?_)
  refine r_istore_n (L' := [some (tR 9 0 (some 26)), some (tR 5 0 (some 14)), some (tI v2), some (tI x4)]) dX9_noteLender_5 rfl (by decide) rfl ?_
  refine r_iload_n dX9_noteLender_6 rfl rfl ?_
  refine r_if_eq (tgt := 21) dX9_noteLender_7 rfl (fun hc => ?_) (fun hc => ?_)
  · replace hm := hm.1 hc
    exact r_return dX9_noteLender_21 rfl ⟨by decide, by decide⟩ ⟨rfl, hm⟩
  · replace hm := hm.2 hc
    refine r_aload_n dX9_noteLender_10 rfl rfl ?_
    refine r_getC (k := 11) cl_5 dX9_noteLender_11 t_156 gf_5_11.1 gf_5_11.2 (gc_5_11 _) ?_
    refine r_iload_n dX9_noteLender_14 rfl rfl ?_
    refine r_lald dX9_noteLender_15 hm.1 ?_
    replace hm := hm.2
    refine r_lconst (v := 0) dX9_noteLender_16 rfl ?_
    refine r_lcmp dX9_noteLender_17 ?_
    refine r_if_gt (tgt := 22) dX9_noteLender_18 rfl (fun hc => ?_) (fun hc => ?_)
    · replace hm := hm.1 hc
      refine r_aload_n dX9_noteLender_22 rfl rfl ?_
      refine r_getC (k := 10) cl_5 dX9_noteLender_23 t_154 gf_5_10.1 gf_5_10.2 (gc_5_10 _) ?_
      refine r_iload_n dX9_noteLender_26 rfl rfl ?_
      refine r_lald dX9_noteLender_27 hm.1 ?_
      replace hm := hm.2
      refine r_aload_n dX9_noteLender_28 rfl rfl ?_
      refine r_getC (k := 11) cl_5 dX9_noteLender_29 t_156 gf_5_11.1 gf_5_11.2 (gc_5_11 _) ?_
      refine r_iload_n dX9_noteLender_32 rfl rfl ?_
      refine r_lald dX9_noteLender_33 hm.1 ?_
      replace hm := hm.2
      refine r_callSJ (d' := d - 1) (as := [tJ (hJ h5 21 (ix v2)), tJ (hJ h5 22 (ix v2))]) (st := []) dX9_noteLender_34 mi_X9_commonDivisor t_1020 t_1021 rfl rfl (Nat.le_of_ble_eq_true rfl) (by omega) ⟨by decide, by decide⟩ ⟨rfl, rfl⟩ (s_X9_commonDivisor (by omega) hm) (fun x6 h7 hm => ?_)
      refine r_lstore (L' := [some (tR 9 0 (some 26)), some (tR 5 0 (some 14)), some (tI v2), some (tI x4), some (tJ x6), none]) dX9_noteLender_37 (by decide) rfl ?_
      refine r_lload dX9_noteLender_39 rfl ?_
      refine r_lconst (v := 0) dX9_noteLender_41 rfl ?_
      refine r_lcmp dX9_noteLender_42 ?_
      refine r_if_le (tgt := 58) dX9_noteLender_43 rfl (fun hc => ?_) (fun hc => ?_)
      · replace hm := hm.1 hc
        refine r_aload_n dX9_noteLender_58 rfl rfl ?_
        refine r_getC (k := 10) cl_5 dX9_noteLender_59 t_154 gf_5_10.1 gf_5_10.2 (gc_5_10 _) ?_
        refine r_iload_n dX9_noteLender_62 rfl rfl ?_
        refine r_lald dX9_noteLender_63 hm.1 ?_
        replace hm := hm.2
        refine r_keep (L' := [some (tR 9 0 (some 26)), some (tR 5 0 (some 14)), some (tI v2), some (tI x4), some (tJ x6)]) [true, true, true, true, true] rfl ?_
        exact s_X9_noteLender_64 hd hm
      · replace hm := hm.2 hc
        refine r_aload_n dX9_noteLender_46 rfl rfl ?_
        refine r_getC (k := 10) cl_5 dX9_noteLender_47 t_154 gf_5_10.1 gf_5_10.2 (gc_5_10 _) ?_
        refine r_iload_n dX9_noteLender_50 rfl rfl ?_
        refine r_lald dX9_noteLender_51 hm.1 ?_
        replace hm := hm.2
        refine r_lload dX9_noteLender_52 rfl ?_
        refine r_ldiv dX9_noteLender_54 hm.1 ?_
        replace hm := hm.2
        refine r_goto (tgt := 64) dX9_noteLender_55 rfl ?_
        refine r_keep (L' := [some (tR 9 0 (some 26)), some (tR 5 0 (some 14)), some (tI v2), some (tI x4), some (tJ x6)]) [true, true, true, true, true] rfl ?_
        exact s_X9_noteLender_64 hd hm
    · replace hm := hm.2 hc
      exact r_return dX9_noteLender_21 rfl ⟨by decide, by decide⟩ ⟨rfl, hm⟩
theorem dX9_leastPair_0 : decode cX9_leastPair 0 = .ok (.iconst 0, 1) := rfl
theorem dX9_leastPair_1 : decode cX9_leastPair 1 = .ok (.istore_n 2, 1) := rfl
theorem dX9_leastPair_2 : decode cX9_leastPair 2 = .ok (.iload_n 2, 1) := rfl
theorem dX9_leastPair_3 : decode cX9_leastPair 3 = .ok (.bipush 64, 2) := by decide +kernel
theorem dX9_leastPair_5 : decode cX9_leastPair 5 = .ok (.if_icmp .ge 32, 3) := by decide +kernel
theorem dX9_leastPair_8 : decode cX9_leastPair 8 = .ok (.aload_n 0, 1) := rfl
theorem dX9_leastPair_9 : decode cX9_leastPair 9 = .ok (.getfield 15, 3) := rfl
theorem dX9_leastPair_12 : decode cX9_leastPair 12 = .ok (.iload_n 2, 1) := rfl
theorem dX9_leastPair_13 : decode cX9_leastPair 13 = .ok (.iaload, 1) := rfl
theorem dX9_leastPair_14 : decode cX9_leastPair 14 = .ok (.iload_n 1, 1) := rfl
theorem dX9_leastPair_15 : decode cX9_leastPair 15 = .ok (.if_icmp .ne 16, 3) := by decide +kernel
theorem dX9_leastPair_18 : decode cX9_leastPair 18 = .ok (.bipush 10, 2) := by decide +kernel
theorem dX9_leastPair_20 : decode cX9_leastPair 20 = .ok (.iload_n 2, 1) := rfl
theorem dX9_leastPair_21 : decode cX9_leastPair 21 = .ok (.bipush 8, 2) := by decide +kernel
theorem dX9_leastPair_23 : decode cX9_leastPair 23 = .ok (.idiv, 1) := rfl
theorem dX9_leastPair_24 : decode cX9_leastPair 24 = .ok (.imul, 1) := rfl
theorem dX9_leastPair_25 : decode cX9_leastPair 25 = .ok (.iload_n 2, 1) := rfl
theorem dX9_leastPair_26 : decode cX9_leastPair 26 = .ok (.bipush 8, 2) := by decide +kernel
theorem dX9_leastPair_28 : decode cX9_leastPair 28 = .ok (.irem, 1) := rfl
theorem dX9_leastPair_29 : decode cX9_leastPair 29 = .ok (.iadd, 1) := rfl
theorem dX9_leastPair_30 : decode cX9_leastPair 30 = .ok (.ireturn, 1) := rfl
theorem dX9_leastPair_31 : decode cX9_leastPair 31 = .ok (.iinc 2 1, 3) := by decide +kernel
theorem dX9_leastPair_34 : decode cX9_leastPair 34 = .ok (.goto (-32), 3) := by decide +kernel
theorem dX9_leastPair_37 : decode cX9_leastPair 37 = .ok (.iconst (-1), 1) := rfl
theorem dX9_leastPair_38 : decode cX9_leastPair 38 = .ok (.ireturn, 1) := rfl
def m_X9_leastPair_18  (Q : Int32 → Hp → Prop) (v2 : Int32) (h : Hp) : Prop := Q ((10 * (v2 / 8)) + (v2 - v2 / 8 * 8)) h
set_option maxHeartbeats 4000000 in
set_option maxRecDepth 100000 in
theorem s_X9_leastPair_18 {l : Launch} {G : Cx} {d : Nat} {h0 : Hp} (hd : 2 ≤ d) {Q : Int32 → Hp → Prop} {v2 : Int32} {h : Hp} (hm : m_X9_leastPair_18 Q v2 h) : Rn l G d 0 0 MX9_leastPair h0 (qI Q) 18 [none, none, some (tI v2)] [] h 0 0 := by
  unfold m_X9_leastPair_18 at hm
  refine r_bipush (v := 10) dX9_leastPair_18 rfl ?_
  refine r_iload_n dX9_leastPair_20 rfl rfl ?_
  refine r_bipush (v := 8) dX9_leastPair_21 rfl ?_
  refine r_idiv dX9_leastPair_23 (by decide) ?_
  refine r_imul dX9_leastPair_24 ?_
  refine r_iload_n dX9_leastPair_25 rfl rfl ?_
  refine r_bipush (v := 8) dX9_leastPair_26 rfl ?_
  refine r_irem dX9_leastPair_28 (by decide) ?_
  refine r_iadd dX9_leastPair_29 ?_
  exact r_ireturn dX9_leastPair_30 rfl ⟨by decide, by decide⟩ ⟨_, rfl, hm⟩
def m_X9_leastPair_2 : Nat → (Int32 → Hp → Prop) → (Int32 → Hp → Prop) → Int32 → Int32 → Hp → Prop
  | 0, _, _, _, _, _ => False
  | n + 1, k18, Q, v1, v2, h => (64 ≤ v2 → Q (-1) h) ∧ (¬ 64 ≤ v2 → vp_in v2 64 ∧ ((¬ (hI h 27 (ix v2)) = v1 → ∀ x1 : Int32, x1 = v2 + 1 → m_X9_leastPair_2 n k18 Q v1 x1 h) ∧ ((hI h 27 (ix v2)) = v1 → k18 v2 h)))
set_option maxHeartbeats 4000000 in
set_option maxRecDepth 100000 in
theorem s_X9_leastPair_2 {l : Launch} {G : Cx} {d : Nat} {h0 : Hp} (hd : 2 ≤ d) {k18 : Int32 → Hp → Prop} {Q : Int32 → Hp → Prop} (hk18 : ∀ (v2 : Int32) (hh : Hp), k18 v2 hh → Rn l G d 0 0 MX9_leastPair h0 (qI Q) 18 [none, none, some (tI v2)] [] hh 0 0) : ∀ {n : Nat} {v1 : Int32} {v2 : Int32} {h : Hp}, m_X9_leastPair_2 n k18 Q v1 v2 h → Rn l G d 0 0 MX9_leastPair h0 (qI Q) 2 [some (tR 9 0 (some 26)), some (tI v1), some (tI v2)] [] h 0 0 := by
  intro n
  induction n with
  | zero => intro v1 v2 h hm; exact hm.elim
  | succ n ih =>
    intro v1 v2 h hm
    have hk2 := fun (v1 : Int32) (v2 : Int32) (hh : Hp) (hm : m_X9_leastPair_2 n k18 Q v1 v2 hh) => ih hm
    rw [m_X9_leastPair_2] at hm
    refine r_iload_n dX9_leastPair_2 rfl rfl ?_
    refine r_bipush (v := 64) dX9_leastPair_3 rfl ?_
    refine r_icmp_ge (tgt := 37) dX9_leastPair_5 rfl (fun hc => ?_) (fun hc => ?_)
    · replace hm := hm.1 hc
      refine r_iconst (v := (-1)) dX9_leastPair_37 rfl ?_
      exact r_ireturn dX9_leastPair_38 rfl ⟨by decide, by decide⟩ ⟨_, rfl, hm⟩
    · replace hm := hm.2 hc
      refine r_aload_n dX9_leastPair_8 rfl rfl ?_
      refine r_getC (k := 2) cl_9 dX9_leastPair_9 t_217 gf_9_2.1 gf_9_2.2 (gc_9_2 _) ?_
      refine r_iload_n dX9_leastPair_12 rfl rfl ?_
      refine r_iald dX9_leastPair_13 hm.1 ?_
      replace hm := hm.2
      refine r_iload_n dX9_leastPair_14 rfl rfl ?_
      refine r_icmp_ne (tgt := 31) dX9_leastPair_15 rfl (fun hc => ?_) (fun hc => ?_)
      · replace hm := hm.1 hc
        obtain ⟨x1, e_x1⟩ : ∃ y : Int32, y = v2 + 1 := ⟨_, rfl⟩
        replace hm := hm x1 e_x1
        refine r_iinc (L' := [some (tR 9 0 (some 26)), some (tI v1), some (tI x1)]) dX9_leastPair_31 rfl (by rw [e_x1]; rfl) (by decide) rfl ?_
        refine r_goto (tgt := 2) dX9_leastPair_34 rfl ?_
        refine r_keep (L' := [some (tR 9 0 (some 26)), some (tI v1), some (tI x1)]) [true, true, true] rfl ?_
        exact hk2 _ _ _ hm
      · replace hm := hm.2 hc
        refine r_keep (L' := [none, none, some (tI v2)]) [false, false, true] rfl ?_
        exact hk18 _ _ hm
def m_X9_leastPair (v1 : Int32) (h : Hp) (Q : Int32 → Hp → Prop) : Prop := ∃ n2, m_X9_leastPair_2 n2 (m_X9_leastPair_18 Q) Q v1 0 h
set_option maxHeartbeats 4000000 in
set_option maxRecDepth 100000 in
theorem s_X9_leastPair {l : Launch} {G : Cx} {d : Nat} (hd : 2 ≤ d) {v1 : Int32} {h : Hp} {Q : Int32 → Hp → Prop} (hm : m_X9_leastPair v1 h Q) : Ct l G d 0 0 yX9_leastPair MX9_leastPair [tR 9 0 (some 26), tI v1] h (qI Q) := by
  unfold m_X9_leastPair at hm
  refine Ct.of (L := [some (tR 9 0 (some 26)), some (tI v1)]) (by decide) rfl rfl (Nat.le_of_ble_eq_true rfl) rfl ?_
  refine r_iconst (v := 0) dX9_leastPair_0 rfl ?_
  refine r_istore_n (L' := [some (tR 9 0 (some 26)), some (tI v1), some (tI 0)]) dX9_leastPair_1 rfl (by decide) rfl ?_
  refine r_keep (L' := [some (tR 9 0 (some 26)), some (tI v1), some (tI 0)]) [true, true, true] rfl ?_
  obtain ⟨n, hm⟩ := hm
  refine s_X9_leastPair_2 hd ?_ hm
  · exact (fun _ _ hm => s_X9_leastPair_18 hd hm)
