theorem dX12_closesUp_0 : decode cX12_closesUp 0 = .ok (.aload_n 0, 1) := rfl
theorem dX12_closesUp_1 : decode cX12_closesUp 1 = .ok (.getfield 374, 3) := rfl
theorem dX12_closesUp_4 : decode cX12_closesUp 4 = .ok (.ifCond .le 47, 3) := by decide +kernel
theorem dX12_closesUp_7 : decode cX12_closesUp 7 = .ok (.iload_n 2, 1) := rfl
theorem dX12_closesUp_8 : decode cX12_closesUp 8 = .ok (.ifCond .lt 23, 3) := by decide +kernel
theorem dX12_closesUp_11 : decode cX12_closesUp 11 = .ok (.aload_n 0, 1) := rfl
theorem dX12_closesUp_12 : decode cX12_closesUp 12 = .ok (.getfield 40, 3) := rfl
theorem dX12_closesUp_15 : decode cX12_closesUp 15 = .ok (.aload_n 0, 1) := rfl
theorem dX12_closesUp_16 : decode cX12_closesUp 16 = .ok (.getfield 94, 3) := rfl
theorem dX12_closesUp_19 : decode cX12_closesUp 19 = .ok (.aload_n 0, 1) := rfl
theorem dX12_closesUp_20 : decode cX12_closesUp 20 = .ok (.getfield 374, 3) := rfl
theorem dX12_closesUp_23 : decode cX12_closesUp 23 = .ok (.iconst 1, 1) := rfl
theorem dX12_closesUp_24 : decode cX12_closesUp 24 = .ok (.isub, 1) := rfl
theorem dX12_closesUp_25 : decode cX12_closesUp 25 = .ok (.iaload, 1) := rfl
theorem dX12_closesUp_26 : decode cX12_closesUp 26 = .ok (.iaload, 1) := rfl
theorem dX12_closesUp_27 : decode cX12_closesUp 27 = .ok (.iload_n 2, 1) := rfl
theorem dX12_closesUp_28 : decode cX12_closesUp 28 = .ok (.if_icmp .gt 23, 3) := by decide +kernel
theorem dX12_closesUp_31 : decode cX12_closesUp 31 = .ok (.aload_n 0, 1) := rfl
theorem dX12_closesUp_32 : decode cX12_closesUp 32 = .ok (.iload_n 1, 1) := rfl
theorem dX12_closesUp_33 : decode cX12_closesUp 33 = .ok (.bipush (-9), 2) := by decide +kernel
theorem dX12_closesUp_35 : decode cX12_closesUp 35 = .ok (.invokevirtual 377, 3) := rfl
theorem dX12_closesUp_38 : decode cX12_closesUp 38 = .ok (.aload_n 0, 1) := rfl
theorem dX12_closesUp_39 : decode cX12_closesUp 39 = .ok (.dup, 1) := rfl
theorem dX12_closesUp_40 : decode cX12_closesUp 40 = .ok (.getfield 374, 3) := rfl
theorem dX12_closesUp_43 : decode cX12_closesUp 43 = .ok (.iconst 1, 1) := rfl
theorem dX12_closesUp_44 : decode cX12_closesUp 44 = .ok (.isub, 1) := rfl
theorem dX12_closesUp_45 : decode cX12_closesUp 45 = .ok (.putfield 374, 3) := rfl
theorem dX12_closesUp_48 : decode cX12_closesUp 48 = .ok (.goto (-48), 3) := by decide +kernel
theorem dX12_closesUp_51 : decode cX12_closesUp 51 = .ok (.return_, 1) := rfl
def m_X12_closesUp_31 (k0 : Int32 → Int32 → Hp → Prop) (Q : Hp → Prop) (v1 : Int32) (v2 : Int32) (h : Hp) : Prop := m_X12_sign v1 (-9) h (fun (h2 : Hp) => k0 v1 v2 (wI h2 51 47 ((hI h2 51 47) - 1)))
set_option maxHeartbeats 4000000 in
set_option maxRecDepth 100000 in
theorem s_X12_closesUp_31 {l : Launch} {G : Cx} {d : Nat} {h0 : Hp} (hd : 4 ≤ d) {k0 : Int32 → Int32 → Hp → Prop} {Q : Hp → Prop} (hk0 : ∀ (v1 : Int32) (v2 : Int32) (hh : Hp), k0 v1 v2 hh → Rn l G d 0 0 MX12_closesUp h0 (qV Q) 0 [some (tR 12 0 (some 51)), some (tI v1), some (tI v2)] [] hh 0 0) {v1 : Int32} {v2 : Int32} {h : Hp} (hm : m_X12_closesUp_31 k0 Q v1 v2 h) : Rn l G d 0 0 MX12_closesUp h0 (qV Q) 31 [some (tR 12 0 (some 51)), some (tI v1), some (tI v2)] [] h 0 0 := by
  unfold m_X12_closesUp_31 at hm
  refine r_aload_n dX12_closesUp_31 rfl rfl ?_
  refine r_iload_n dX12_closesUp_32 rfl rfl ?_
  refine r_bipush (v := (-9)) dX12_closesUp_33 rfl ?_
  refine r_callVU (d' := d - 1) (as := [tI v1, tI (-9)]) (st := []) cl_12 dX12_closesUp_35 mi_X12_sign t_1717 t_1719 ts_83 rfl rfl (Nat.le_of_ble_eq_true rfl) (by omega) ⟨by decide, by decide⟩ ⟨rfl, rfl⟩ (s_X12_sign (by omega) hm) (fun h2 hm => ?_)
  refine r_aload_n dX12_closesUp_38 rfl rfl ?_
  refine r_dup dX12_closesUp_39 cv_cat1R ?_
  refine r_getI (k := 47) cl_12 dX12_closesUp_40 t_1319 (Or.inl rfl) gf_12_47 ?_
  refine r_iconst (v := 1) dX12_closesUp_43 rfl ?_
  refine r_isub dX12_closesUp_44 ?_
  refine r_putI0 (k := 47) cl_12 dX12_closesUp_45 t_1319 (Or.inl rfl) gf_12_47 pf_12_47.1 (Or.inl pf_12_47.2) ?_
  refine r_goto (tgt := 0) dX12_closesUp_48 rfl ?_
  refine r_keep (L' := [some (tR 12 0 (some 51)), some (tI v1), some (tI v2)]) [true, true, true] rfl ?_
  exact hk0 _ _ _ hm
def m_X12_closesUp_0 : Nat → (Hp → Prop) → Int32 → Int32 → Hp → Prop
  | 0, _, _, _, _ => False
  | n + 1, Q, v1, v2, h => ((hI h 51 47) ≤ 0 → Q h) ∧ (¬ (hI h 51 47) ≤ 0 → (v2 < 0 → m_X12_closesUp_31 (fun (v1 : Int32) (v2 : Int32) (hh : Hp) => m_X12_closesUp_0 n Q v1 v2 hh) Q v1 v2 h) ∧ (¬ v2 < 0 → vp_in ((hI h 51 47) - 1) 8 ∧ (vp_in (hI h 78 (ix ((hI h 51 47) - 1))) 2304 ∧ ((v2 < (hI h 62 (ix (hI h 78 (ix ((hI h 51 47) - 1))))) → Q h) ∧ (¬ v2 < (hI h 62 (ix (hI h 78 (ix ((hI h 51 47) - 1))))) → m_X12_closesUp_31 (fun (v1 : Int32) (v2 : Int32) (hh : Hp) => m_X12_closesUp_0 n Q v1 v2 hh) Q v1 v2 h)))))
set_option maxHeartbeats 4000000 in
set_option maxRecDepth 100000 in
theorem s_X12_closesUp_0 {l : Launch} {G : Cx} {d : Nat} {h0 : Hp} (hd : 4 ≤ d) {Q : Hp → Prop} : ∀ {n : Nat} {v1 : Int32} {v2 : Int32} {h : Hp}, m_X12_closesUp_0 n Q v1 v2 h → Rn l G d 0 0 MX12_closesUp h0 (qV Q) 0 [some (tR 12 0 (some 51)), some (tI v1), some (tI v2)] [] h 0 0 := by
  intro n
  induction n with
  | zero => intro v1 v2 h hm; exact hm.elim
  | succ n ih =>
    intro v1 v2 h hm
    have hk0 := fun (v1 : Int32) (v2 : Int32) (hh : Hp) (hm : m_X12_closesUp_0 n Q v1 v2 hh) => ih hm
    rw [m_X12_closesUp_0] at hm
    refine r_aload_n dX12_closesUp_0 rfl rfl ?_
    refine r_getI (k := 47) cl_12 dX12_closesUp_1 t_1319 (Or.inl rfl) gf_12_47 ?_
    refine r_if_le (tgt := 51) dX12_closesUp_4 rfl (fun hc => ?_) (fun hc => ?_)
    · replace hm := hm.1 hc
      exact r_return dX12_closesUp_51 rfl ⟨by decide, by decide⟩ ⟨rfl, hm⟩
    · replace hm := hm.2 hc
      refine r_iload_n dX12_closesUp_7 rfl rfl ?_
      refine r_if_lt (tgt := 31) dX12_closesUp_8 rfl (fun hc => ?_) (fun hc => ?_)
      · replace hm := hm.1 hc
        refine r_keep (L' := [some (tR 12 0 (some 51)), some (tI v1), some (tI v2)]) [true, true, true] rfl ?_
        exact s_X12_closesUp_31 hd hk0 hm
      · replace hm := hm.2 hc
        refine r_aload_n dX12_closesUp_11 rfl rfl ?_
        refine r_getC (k := 11) cl_12 dX12_closesUp_12 t_1283 gf_12_11.1 gf_12_11.2 (gc_12_11 _) ?_
        refine r_aload_n dX12_closesUp_15 rfl rfl ?_
        refine r_getC (k := 46) cl_12 dX12_closesUp_16 t_1318 gf_12_46.1 gf_12_46.2 (gc_12_46 _) ?_
        refine r_aload_n dX12_closesUp_19 rfl rfl ?_
        refine r_getI (k := 47) cl_12 dX12_closesUp_20 t_1319 (Or.inl rfl) gf_12_47 ?_
        refine r_iconst (v := 1) dX12_closesUp_23 rfl ?_
        refine r_isub dX12_closesUp_24 ?_
        refine r_iald dX12_closesUp_25 hm.1 ?_
        replace hm := hm.2
        refine r_iald dX12_closesUp_26 hm.1 ?_
        replace hm := hm.2
        refine r_iload_n dX12_closesUp_27 rfl rfl ?_
        refine r_icmp_gt (tgt := 51) dX12_closesUp_28 rfl (fun hc => ?_) (fun hc => ?_)
        · replace hm := hm.1 hc
          exact r_return dX12_closesUp_51 rfl ⟨by decide, by decide⟩ ⟨rfl, hm⟩
        · replace hm := hm.2 hc
          refine r_keep (L' := [some (tR 12 0 (some 51)), some (tI v1), some (tI v2)]) [true, true, true] rfl ?_
          exact s_X12_closesUp_31 hd hk0 hm
def m_X12_closesUp (v1 : Int32) (v2 : Int32) (h : Hp) (Q : Hp → Prop) : Prop := ∃ n0, m_X12_closesUp_0 n0 Q v1 v2 h
set_option maxHeartbeats 4000000 in
set_option maxRecDepth 100000 in
theorem s_X12_closesUp {l : Launch} {G : Cx} {d : Nat} (hd : 4 ≤ d) {v1 : Int32} {v2 : Int32} {h : Hp} {Q : Hp → Prop} (hm : m_X12_closesUp v1 v2 h Q) : Ct l G d 0 0 yX12_closesUp MX12_closesUp [tR 12 0 (some 51), tI v1, tI v2] h (qV Q) := by
  unfold m_X12_closesUp at hm
  refine Ct.of (L := [some (tR 12 0 (some 51)), some (tI v1), some (tI v2)]) (by decide) rfl rfl (Nat.le_of_ble_eq_true rfl) rfl ?_
  refine r_keep (L' := [some (tR 12 0 (some 51)), some (tI v1), some (tI v2)]) [true, true, true] rfl ?_
  obtain ⟨n, hm⟩ := hm
  refine s_X12_closesUp_0 hd hm
theorem dX12_laysOut_0 : decode cX12_laysOut 0 = .ok (.aload_n 0, 1) := by decide +kernel
theorem dX12_laysOut_1 : decode cX12_laysOut 1 = .ok (.iconst 0, 1) := by decide +kernel
theorem dX12_laysOut_2 : decode cX12_laysOut 2 = .ok (.putfield 371, 3) := by decide +kernel
theorem dX12_laysOut_5 : decode cX12_laysOut 5 = .ok (.aload_n 0, 1) := by decide +kernel
theorem dX12_laysOut_6 : decode cX12_laysOut 6 = .ok (.iconst 0, 1) := by decide +kernel
theorem dX12_laysOut_7 : decode cX12_laysOut 7 = .ok (.putfield 374, 3) := by decide +kernel
theorem dX12_laysOut_10 : decode cX12_laysOut 10 = .ok (.iload_n 2, 1) := by decide +kernel
theorem dX12_laysOut_11 : decode cX12_laysOut 11 = .ok (.istore 5, 2) := by decide +kernel
theorem dX12_laysOut_13 : decode cX12_laysOut 13 = .ok (.iload 5, 2) := by decide +kernel
theorem dX12_laysOut_15 : decode cX12_laysOut 15 = .ok (.iload_n 3, 1) := by decide +kernel
theorem dX12_laysOut_16 : decode cX12_laysOut 16 = .ok (.if_icmp .ge 268, 3) := by decide +kernel
theorem dX12_laysOut_19 : decode cX12_laysOut 19 = .ok (.aload_n 0, 1) := by decide +kernel
theorem dX12_laysOut_20 : decode cX12_laysOut 20 = .ok (.iload 4, 2) := by decide +kernel
theorem dX12_laysOut_22 : decode cX12_laysOut 22 = .ok (.iload 5, 2) := by decide +kernel
theorem dX12_laysOut_24 : decode cX12_laysOut 24 = .ok (.invokevirtual 380, 3) := by decide +kernel
theorem dX12_laysOut_27 : decode cX12_laysOut 27 = .ok (.iload 5, 2) := by decide +kernel
theorem dX12_laysOut_29 : decode cX12_laysOut 29 = .ok (.bipush 96, 2) := by decide +kernel
theorem dX12_laysOut_31 : decode cX12_laysOut 31 = .ok (.iload_n 1, 1) := by decide +kernel
theorem dX12_laysOut_32 : decode cX12_laysOut 32 = .ok (.imul, 1) := by decide +kernel
theorem dX12_laysOut_33 : decode cX12_laysOut 33 = .ok (.isub, 1) := by decide +kernel
theorem dX12_laysOut_34 : decode cX12_laysOut 34 = .ok (.istore 6, 2) := by decide +kernel
theorem dX12_laysOut_36 : decode cX12_laysOut 36 = .ok (.aload_n 0, 1) := by decide +kernel
theorem dX12_laysOut_37 : decode cX12_laysOut 37 = .ok (.getfield 81, 3) := by decide +kernel
theorem dX12_laysOut_40 : decode cX12_laysOut 40 = .ok (.iload 6, 2) := by decide +kernel
theorem dX12_laysOut_42 : decode cX12_laysOut 42 = .ok (.baload, 1) := by decide +kernel
theorem dX12_laysOut_43 : decode cX12_laysOut 43 = .ok (.ifCond .ne 212, 3) := by decide +kernel
theorem dX12_laysOut_46 : decode cX12_laysOut 46 = .ok (.aload_n 0, 1) := by decide +kernel
theorem dX12_laysOut_47 : decode cX12_laysOut 47 = .ok (.getfield 85, 3) := by decide +kernel
theorem dX12_laysOut_50 : decode cX12_laysOut 50 = .ok (.iload 6, 2) := by decide +kernel
theorem dX12_laysOut_52 : decode cX12_laysOut 52 = .ok (.baload, 1) := by decide +kernel
theorem dX12_laysOut_53 : decode cX12_laysOut 53 = .ok (.ifCond .ne 202, 3) := by decide +kernel
theorem dX12_laysOut_56 : decode cX12_laysOut 56 = .ok (.aload_n 0, 1) := by decide +kernel
theorem dX12_laysOut_57 : decode cX12_laysOut 57 = .ok (.getfield 28, 3) := by decide +kernel
theorem dX12_laysOut_60 : decode cX12_laysOut 60 = .ok (.iload 5, 2) := by decide +kernel
theorem dX12_laysOut_62 : decode cX12_laysOut 62 = .ok (.iaload, 1) := by decide +kernel
theorem dX12_laysOut_63 : decode cX12_laysOut 63 = .ok (.bipush 7, 2) := by decide +kernel
theorem dX12_laysOut_65 : decode cX12_laysOut 65 = .ok (.if_icmp .ne 5, 3) := by decide +kernel
theorem dX12_laysOut_68 : decode cX12_laysOut 68 = .ok (.iconst (-1), 1) := by decide +kernel
theorem dX12_laysOut_69 : decode cX12_laysOut 69 = .ok (.ireturn, 1) := by decide +kernel
theorem dX12_laysOut_70 : decode cX12_laysOut 70 = .ok (.aload_n 0, 1) := by decide +kernel
theorem dX12_laysOut_71 : decode cX12_laysOut 71 = .ok (.iload 4, 2) := by decide +kernel
theorem dX12_laysOut_73 : decode cX12_laysOut 73 = .ok (.aload_n 0, 1) := by decide +kernel
theorem dX12_laysOut_74 : decode cX12_laysOut 74 = .ok (.iload_n 1, 1) := by decide +kernel
theorem dX12_laysOut_75 : decode cX12_laysOut 75 = .ok (.iload 5, 2) := by decide +kernel
theorem dX12_laysOut_77 : decode cX12_laysOut 77 = .ok (.iload_n 2, 1) := by decide +kernel
theorem dX12_laysOut_78 : decode cX12_laysOut 78 = .ok (.invokevirtual 383, 3) := by decide +kernel
theorem dX12_laysOut_81 : decode cX12_laysOut 81 = .ok (.invokevirtual 377, 3) := by decide +kernel
theorem dX12_laysOut_84 : decode cX12_laysOut 84 = .ok (.aload_n 0, 1) := by decide +kernel
theorem dX12_laysOut_85 : decode cX12_laysOut 85 = .ok (.iload 4, 2) := by decide +kernel
theorem dX12_laysOut_87 : decode cX12_laysOut 87 = .ok (.aload_n 0, 1) := by decide +kernel
theorem dX12_laysOut_88 : decode cX12_laysOut 88 = .ok (.getfield 28, 3) := by decide +kernel
theorem dX12_laysOut_91 : decode cX12_laysOut 91 = .ok (.iload 5, 2) := by decide +kernel
theorem dX12_laysOut_93 : decode cX12_laysOut 93 = .ok (.iaload, 1) := by decide +kernel
theorem dX12_laysOut_94 : decode cX12_laysOut 94 = .ok (.invokevirtual 377, 3) := by decide +kernel
theorem dX12_laysOut_97 : decode cX12_laysOut 97 = .ok (.aload_n 0, 1) := by decide +kernel
theorem dX12_laysOut_98 : decode cX12_laysOut 98 = .ok (.iload 4, 2) := by decide +kernel
theorem dX12_laysOut_100 : decode cX12_laysOut 100 = .ok (.aload_n 0, 1) := by decide +kernel
theorem dX12_laysOut_101 : decode cX12_laysOut 101 = .ok (.getfield 28, 3) := by decide +kernel
theorem dX12_laysOut_104 : decode cX12_laysOut 104 = .ok (.iload 5, 2) := by decide +kernel
theorem dX12_laysOut_106 : decode cX12_laysOut 106 = .ok (.iaload, 1) := by decide +kernel
theorem dX12_laysOut_107 : decode cX12_laysOut 107 = .ok (.iconst 4, 1) := by decide +kernel
theorem dX12_laysOut_108 : decode cX12_laysOut 108 = .ok (.if_icmp .ne 13, 3) := by decide +kernel
theorem dX12_laysOut_111 : decode cX12_laysOut 111 = .ok (.aload_n 0, 1) := by decide +kernel
theorem dX12_laysOut_112 : decode cX12_laysOut 112 = .ok (.getfield 88, 3) := by decide +kernel
theorem dX12_laysOut_115 : decode cX12_laysOut 115 = .ok (.iload 6, 2) := by decide +kernel
theorem dX12_laysOut_117 : decode cX12_laysOut 117 = .ok (.iaload, 1) := by decide +kernel
theorem dX12_laysOut_118 : decode cX12_laysOut 118 = .ok (.goto 10, 3) := by decide +kernel
theorem dX12_laysOut_121 : decode cX12_laysOut 121 = .ok (.aload_n 0, 1) := by decide +kernel
theorem dX12_laysOut_122 : decode cX12_laysOut 122 = .ok (.getfield 31, 3) := by decide +kernel
theorem dX12_laysOut_125 : decode cX12_laysOut 125 = .ok (.iload 5, 2) := by decide +kernel
theorem dX12_laysOut_127 : decode cX12_laysOut 127 = .ok (.iaload, 1) := by decide +kernel
theorem dX12_laysOut_128 : decode cX12_laysOut 128 = .ok (.invokevirtual 377, 3) := by decide +kernel
theorem dX12_laysOut_131 : decode cX12_laysOut 131 = .ok (.aload_n 0, 1) := by decide +kernel
theorem dX12_laysOut_132 : decode cX12_laysOut 132 = .ok (.iload 5, 2) := by decide +kernel
theorem dX12_laysOut_134 : decode cX12_laysOut 134 = .ok (.invokevirtual 356, 3) := by decide +kernel
theorem dX12_laysOut_137 : decode cX12_laysOut 137 = .ok (.ifCond .eq 97, 3) := by decide +kernel
theorem dX12_laysOut_140 : decode cX12_laysOut 140 = .ok (.aload_n 0, 1) := by decide +kernel
theorem dX12_laysOut_141 : decode cX12_laysOut 141 = .ok (.iload 4, 2) := by decide +kernel
theorem dX12_laysOut_143 : decode cX12_laysOut 143 = .ok (.aload_n 0, 1) := by decide +kernel
theorem dX12_laysOut_144 : decode cX12_laysOut 144 = .ok (.getfield 46, 3) := by decide +kernel
theorem dX12_laysOut_147 : decode cX12_laysOut 147 = .ok (.iload 5, 2) := by decide +kernel
theorem dX12_laysOut_149 : decode cX12_laysOut 149 = .ok (.iaload, 1) := by decide +kernel
theorem dX12_laysOut_150 : decode cX12_laysOut 150 = .ok (.invokevirtual 377, 3) := by decide +kernel
theorem dX12_laysOut_153 : decode cX12_laysOut 153 = .ok (.aload_n 0, 1) := by decide +kernel
theorem dX12_laysOut_154 : decode cX12_laysOut 154 = .ok (.iload 4, 2) := by decide +kernel
theorem dX12_laysOut_156 : decode cX12_laysOut 156 = .ok (.aload_n 0, 1) := by decide +kernel
theorem dX12_laysOut_157 : decode cX12_laysOut 157 = .ok (.getfield 49, 3) := by decide +kernel
theorem dX12_laysOut_160 : decode cX12_laysOut 160 = .ok (.iload 5, 2) := by decide +kernel
theorem dX12_laysOut_162 : decode cX12_laysOut 162 = .ok (.iaload, 1) := by decide +kernel
theorem dX12_laysOut_163 : decode cX12_laysOut 163 = .ok (.invokevirtual 377, 3) := by decide +kernel
theorem dX12_laysOut_166 : decode cX12_laysOut 166 = .ok (.aload_n 0, 1) := by decide +kernel
theorem dX12_laysOut_167 : decode cX12_laysOut 167 = .ok (.iload 4, 2) := by decide +kernel
theorem dX12_laysOut_169 : decode cX12_laysOut 169 = .ok (.aload_n 0, 1) := by decide +kernel
theorem dX12_laysOut_170 : decode cX12_laysOut 170 = .ok (.getfield 52, 3) := by decide +kernel
theorem dX12_laysOut_173 : decode cX12_laysOut 173 = .ok (.iload 5, 2) := by decide +kernel
theorem dX12_laysOut_175 : decode cX12_laysOut 175 = .ok (.iaload, 1) := by decide +kernel
theorem dX12_laysOut_176 : decode cX12_laysOut 176 = .ok (.invokevirtual 377, 3) := by decide +kernel
theorem dX12_laysOut_179 : decode cX12_laysOut 179 = .ok (.aload_n 0, 1) := by decide +kernel
theorem dX12_laysOut_180 : decode cX12_laysOut 180 = .ok (.iload 4, 2) := by decide +kernel
theorem dX12_laysOut_182 : decode cX12_laysOut 182 = .ok (.aload_n 0, 1) := by decide +kernel
theorem dX12_laysOut_183 : decode cX12_laysOut 183 = .ok (.getfield 55, 3) := by decide +kernel
theorem dX12_laysOut_186 : decode cX12_laysOut 186 = .ok (.iload 5, 2) := by decide +kernel
theorem dX12_laysOut_188 : decode cX12_laysOut 188 = .ok (.iaload, 1) := by decide +kernel
theorem dX12_laysOut_189 : decode cX12_laysOut 189 = .ok (.invokevirtual 377, 3) := by decide +kernel
theorem dX12_laysOut_192 : decode cX12_laysOut 192 = .ok (.aload_n 0, 1) := by decide +kernel
theorem dX12_laysOut_193 : decode cX12_laysOut 193 = .ok (.iload 4, 2) := by decide +kernel
theorem dX12_laysOut_195 : decode cX12_laysOut 195 = .ok (.aload_n 0, 1) := by decide +kernel
theorem dX12_laysOut_196 : decode cX12_laysOut 196 = .ok (.getfield 58, 3) := by decide +kernel
theorem dX12_laysOut_199 : decode cX12_laysOut 199 = .ok (.iload 5, 2) := by decide +kernel
theorem dX12_laysOut_201 : decode cX12_laysOut 201 = .ok (.iaload, 1) := by decide +kernel
theorem dX12_laysOut_202 : decode cX12_laysOut 202 = .ok (.invokevirtual 377, 3) := by decide +kernel
theorem dX12_laysOut_205 : decode cX12_laysOut 205 = .ok (.aload_n 0, 1) := by decide +kernel
theorem dX12_laysOut_206 : decode cX12_laysOut 206 = .ok (.iload 4, 2) := by decide +kernel
theorem dX12_laysOut_208 : decode cX12_laysOut 208 = .ok (.aload_n 0, 1) := by decide +kernel
theorem dX12_laysOut_209 : decode cX12_laysOut 209 = .ok (.getfield 61, 3) := by decide +kernel
theorem dX12_laysOut_212 : decode cX12_laysOut 212 = .ok (.iload 5, 2) := by decide +kernel
theorem dX12_laysOut_214 : decode cX12_laysOut 214 = .ok (.iaload, 1) := by decide +kernel
theorem dX12_laysOut_215 : decode cX12_laysOut 215 = .ok (.invokevirtual 377, 3) := by decide +kernel
theorem dX12_laysOut_218 : decode cX12_laysOut 218 = .ok (.aload_n 0, 1) := by decide +kernel
theorem dX12_laysOut_219 : decode cX12_laysOut 219 = .ok (.iload 4, 2) := by decide +kernel
theorem dX12_laysOut_221 : decode cX12_laysOut 221 = .ok (.aload_n 0, 1) := by decide +kernel
theorem dX12_laysOut_222 : decode cX12_laysOut 222 = .ok (.getfield 64, 3) := by decide +kernel
theorem dX12_laysOut_225 : decode cX12_laysOut 225 = .ok (.iload 5, 2) := by decide +kernel
theorem dX12_laysOut_227 : decode cX12_laysOut 227 = .ok (.iaload, 1) := by decide +kernel
theorem dX12_laysOut_228 : decode cX12_laysOut 228 = .ok (.invokevirtual 377, 3) := by decide +kernel
theorem dX12_laysOut_231 : decode cX12_laysOut 231 = .ok (.goto 24, 3) := by decide +kernel
theorem dX12_laysOut_234 : decode cX12_laysOut 234 = .ok (.aload_n 0, 1) := by decide +kernel
theorem dX12_laysOut_235 : decode cX12_laysOut 235 = .ok (.getfield 94, 3) := by decide +kernel
theorem dX12_laysOut_238 : decode cX12_laysOut 238 = .ok (.aload_n 0, 1) := by decide +kernel
theorem dX12_laysOut_239 : decode cX12_laysOut 239 = .ok (.getfield 374, 3) := by decide +kernel
theorem dX12_laysOut_242 : decode cX12_laysOut 242 = .ok (.iload 5, 2) := by decide +kernel
theorem dX12_laysOut_244 : decode cX12_laysOut 244 = .ok (.iastore, 1) := by decide +kernel
theorem dX12_laysOut_245 : decode cX12_laysOut 245 = .ok (.aload_n 0, 1) := by decide +kernel
theorem dX12_laysOut_246 : decode cX12_laysOut 246 = .ok (.dup, 1) := by decide +kernel
theorem dX12_laysOut_247 : decode cX12_laysOut 247 = .ok (.getfield 374, 3) := by decide +kernel
theorem dX12_laysOut_250 : decode cX12_laysOut 250 = .ok (.iconst 1, 1) := by decide +kernel
theorem dX12_laysOut_251 : decode cX12_laysOut 251 = .ok (.iadd, 1) := by decide +kernel
theorem dX12_laysOut_252 : decode cX12_laysOut 252 = .ok (.putfield 374, 3) := by decide +kernel
theorem dX12_laysOut_255 : decode cX12_laysOut 255 = .ok (.aload_n 0, 1) := by decide +kernel
theorem dX12_laysOut_256 : decode cX12_laysOut 256 = .ok (.getfield 81, 3) := by decide +kernel
theorem dX12_laysOut_259 : decode cX12_laysOut 259 = .ok (.iload 6, 2) := by decide +kernel
theorem dX12_laysOut_261 : decode cX12_laysOut 261 = .ok (.baload, 1) := by decide +kernel
theorem dX12_laysOut_262 : decode cX12_laysOut 262 = .ok (.ifCond .eq 13, 3) := by decide +kernel
theorem dX12_laysOut_265 : decode cX12_laysOut 265 = .ok (.aload_n 0, 1) := by decide +kernel
theorem dX12_laysOut_266 : decode cX12_laysOut 266 = .ok (.getfield 40, 3) := by decide +kernel
theorem dX12_laysOut_269 : decode cX12_laysOut 269 = .ok (.iload 5, 2) := by decide +kernel
theorem dX12_laysOut_271 : decode cX12_laysOut 271 = .ok (.iaload, 1) := by decide +kernel
theorem dX12_laysOut_272 : decode cX12_laysOut 272 = .ok (.goto 7, 3) := by decide +kernel
theorem dX12_laysOut_275 : decode cX12_laysOut 275 = .ok (.iload 5, 2) := by decide +kernel
theorem dX12_laysOut_277 : decode cX12_laysOut 277 = .ok (.iconst 1, 1) := by decide +kernel
theorem dX12_laysOut_278 : decode cX12_laysOut 278 = .ok (.iadd, 1) := by decide +kernel
theorem dX12_laysOut_279 : decode cX12_laysOut 279 = .ok (.istore 5, 2) := by decide +kernel
theorem dX12_laysOut_281 : decode cX12_laysOut 281 = .ok (.goto (-268), 3) := by decide +kernel
theorem dX12_laysOut_284 : decode cX12_laysOut 284 = .ok (.aload_n 0, 1) := by decide +kernel
theorem dX12_laysOut_285 : decode cX12_laysOut 285 = .ok (.iload 4, 2) := by decide +kernel
theorem dX12_laysOut_287 : decode cX12_laysOut 287 = .ok (.iconst (-1), 1) := by decide +kernel
theorem dX12_laysOut_288 : decode cX12_laysOut 288 = .ok (.invokevirtual 380, 3) := by decide +kernel
theorem dX12_laysOut_291 : decode cX12_laysOut 291 = .ok (.aload_n 0, 1) := by decide +kernel
theorem dX12_laysOut_292 : decode cX12_laysOut 292 = .ok (.getfield 371, 3) := by decide +kernel
theorem dX12_laysOut_295 : decode cX12_laysOut 295 = .ok (.ireturn, 1) := by decide +kernel
def m_X12_laysOut_284  (Q : Int32 → Hp → Prop) (v4 : Int32) (h : Hp) : Prop := m_X12_closesUp v4 (-1) h (fun (h2 : Hp) => Q (hI h2 51 45) h2)
set_option maxHeartbeats 4000000 in
set_option maxRecDepth 100000 in
theorem s_X12_laysOut_284 {l : Launch} {G : Cx} {d : Nat} {h0 : Hp} (hd : 6 ≤ d) {Q : Int32 → Hp → Prop} {v4 : Int32} {h : Hp} (hm : m_X12_laysOut_284 Q v4 h) : Rn l G d 0 0 MX12_laysOut h0 (qI Q) 284 [some (tR 12 0 (some 51)), none, none, none, some (tI v4)] [] h 0 0 := by
  unfold m_X12_laysOut_284 at hm
  refine r_aload_n dX12_laysOut_284 rfl rfl ?_
  refine r_iload dX12_laysOut_285 rfl ?_
  refine r_iconst (v := (-1)) dX12_laysOut_287 rfl ?_
  refine r_callVU (d' := d - 1) (as := [tI v4, tI (-1)]) (st := []) cl_12 dX12_laysOut_288 mi_X12_closesUp t_1713 t_1715 ts_82 rfl rfl (Nat.le_of_ble_eq_true rfl) (by omega) ⟨by decide, by decide⟩ ⟨rfl, rfl⟩ (s_X12_closesUp (by omega) hm) (fun h2 hm => ?_)
  refine r_aload_n dX12_laysOut_291 rfl rfl ?_
  refine r_getI (k := 45) cl_12 dX12_laysOut_292 t_1317 (Or.inl rfl) gf_12_45 ?_
  exact r_ireturn dX12_laysOut_295 rfl ⟨by decide, by decide⟩ ⟨_, rfl, hm⟩
def m_X12_laysOut_279 (k13 : Int32 → Int32 → Int32 → Int32 → Int32 → Hp → Prop) (k284 : Int32 → Hp → Prop) (Q : Int32 → Hp → Prop) (v1 : Int32) (v2 : Int32) (v3 : Int32) (v4 : Int32) (s0 : Int32) (h : Hp) : Prop := k13 v1 v2 v3 v4 s0 h
set_option maxHeartbeats 4000000 in
set_option maxRecDepth 100000 in
theorem s_X12_laysOut_279 {l : Launch} {G : Cx} {d : Nat} {h0 : Hp} (hd : 6 ≤ d) {k13 : Int32 → Int32 → Int32 → Int32 → Int32 → Hp → Prop} {k284 : Int32 → Hp → Prop} {Q : Int32 → Hp → Prop} (hk13 : ∀ (v1 : Int32) (v2 : Int32) (v3 : Int32) (v4 : Int32) (v5 : Int32) (hh : Hp), k13 v1 v2 v3 v4 v5 hh → Rn l G d 0 0 MX12_laysOut h0 (qI Q) 13 [some (tR 12 0 (some 51)), some (tI v1), some (tI v2), some (tI v3), some (tI v4), some (tI v5)] [] hh 0 0) (hk284 : ∀ (v4 : Int32) (hh : Hp), k284 v4 hh → Rn l G d 0 0 MX12_laysOut h0 (qI Q) 284 [some (tR 12 0 (some 51)), none, none, none, some (tI v4)] [] hh 0 0) {v1 : Int32} {v2 : Int32} {v3 : Int32} {v4 : Int32} {s0 : Int32} {h : Hp} (hm : m_X12_laysOut_279 k13 k284 Q v1 v2 v3 v4 s0 h) : Rn l G d 0 0 MX12_laysOut h0 (qI Q) 279 [some (tR 12 0 (some 51)), some (tI v1), some (tI v2), some (tI v3), some (tI v4)] [tI s0] h 0 0 := by
  unfold m_X12_laysOut_279 at hm
  refine r_istore (L' := [some (tR 12 0 (some 51)), some (tI v1), some (tI v2), some (tI v3), some (tI v4), some (tI s0)]) dX12_laysOut_279 (by decide) rfl ?_
  refine r_goto (tgt := 13) dX12_laysOut_281 rfl ?_
  refine r_keep (L' := [some (tR 12 0 (some 51)), some (tI v1), some (tI v2), some (tI v3), some (tI v4), some (tI s0)]) [true, true, true, true, true, true] rfl ?_
  exact hk13 _ _ _ _ _ _ hm
def m_X12_laysOut_255 (k13 : Int32 → Int32 → Int32 → Int32 → Int32 → Hp → Prop) (k284 : Int32 → Hp → Prop) (Q : Int32 → Hp → Prop) (v1 : Int32) (v2 : Int32) (v3 : Int32) (v4 : Int32) (v5 : Int32) (v6 : Int32) (h : Hp) : Prop := vp_in v6 96 ∧ (((hI h 74 (ix v6)) = 0 → m_X12_laysOut_279 k13 k284 Q v1 v2 v3 v4 (v5 + 1) h) ∧ (¬ (hI h 74 (ix v6)) = 0 → vp_in v5 2304 ∧ (m_X12_laysOut_279 k13 k284 Q v1 v2 v3 v4 (hI h 62 (ix v5)) h)))
set_option maxHeartbeats 4000000 in
set_option maxRecDepth 100000 in
theorem s_X12_laysOut_255 {l : Launch} {G : Cx} {d : Nat} {h0 : Hp} (hd : 6 ≤ d) {k13 : Int32 → Int32 → Int32 → Int32 → Int32 → Hp → Prop} {k284 : Int32 → Hp → Prop} {Q : Int32 → Hp → Prop} (hk13 : ∀ (v1 : Int32) (v2 : Int32) (v3 : Int32) (v4 : Int32) (v5 : Int32) (hh : Hp), k13 v1 v2 v3 v4 v5 hh → Rn l G d 0 0 MX12_laysOut h0 (qI Q) 13 [some (tR 12 0 (some 51)), some (tI v1), some (tI v2), some (tI v3), some (tI v4), some (tI v5)] [] hh 0 0) (hk284 : ∀ (v4 : Int32) (hh : Hp), k284 v4 hh → Rn l G d 0 0 MX12_laysOut h0 (qI Q) 284 [some (tR 12 0 (some 51)), none, none, none, some (tI v4)] [] hh 0 0) {v1 : Int32} {v2 : Int32} {v3 : Int32} {v4 : Int32} {v5 : Int32} {v6 : Int32} {h : Hp} (hm : m_X12_laysOut_255 k13 k284 Q v1 v2 v3 v4 v5 v6 h) : Rn l G d 0 0 MX12_laysOut h0 (qI Q) 255 [some (tR 12 0 (some 51)), some (tI v1), some (tI v2), some (tI v3), some (tI v4), some (tI v5), some (tI v6)] [] h 0 0 := by
  unfold m_X12_laysOut_255 at hm
  refine r_aload_n dX12_laysOut_255 rfl rfl ?_
  refine r_getC (k := 38) cl_12 dX12_laysOut_256 t_1310 gf_12_38.1 gf_12_38.2 (gc_12_38 _) ?_
  refine r_iload dX12_laysOut_259 rfl ?_
  refine r_zald dX12_laysOut_261 hm.1 ?_
  replace hm := hm.2
  refine r_if_eq (tgt := 275) dX12_laysOut_262 rfl (fun hc => ?_) (fun hc => ?_)
  · replace hm := hm.1 hc
    refine r_iload dX12_laysOut_275 rfl ?_
    refine r_iconst (v := 1) dX12_laysOut_277 rfl ?_
    refine r_iadd dX12_laysOut_278 ?_
    refine r_keep (L' := [some (tR 12 0 (some 51)), some (tI v1), some (tI v2), some (tI v3), some (tI v4)]) [true, true, true, true, true] rfl ?_
    exact s_X12_laysOut_279 hd hk13 hk284 hm
  · replace hm := hm.2 hc
    refine r_aload_n dX12_laysOut_265 rfl rfl ?_
    refine r_getC (k := 11) cl_12 dX12_laysOut_266 t_1283 gf_12_11.1 gf_12_11.2 (gc_12_11 _) ?_
    refine r_iload dX12_laysOut_269 rfl ?_
    refine r_iald dX12_laysOut_271 hm.1 ?_
    replace hm := hm.2
    refine r_goto (tgt := 279) dX12_laysOut_272 rfl ?_
    refine r_keep (L' := [some (tR 12 0 (some 51)), some (tI v1), some (tI v2), some (tI v3), some (tI v4)]) [true, true, true, true, true] rfl ?_
    exact s_X12_laysOut_279 hd hk13 hk284 hm
def m_X12_laysOut_128 (k13 : Int32 → Int32 → Int32 → Int32 → Int32 → Hp → Prop) (k284 : Int32 → Hp → Prop) (Q : Int32 → Hp → Prop) (v1 : Int32) (v2 : Int32) (v3 : Int32) (v4 : Int32) (v5 : Int32) (v6 : Int32) (s1 : Int32) (s2 : Int32) (h : Hp) : Prop := m_X12_sign s1 s2 h (fun (h4 : Hp) => m_X12_isLeaf v5 h4 (fun (x5 : Int32) (h6 : Hp) => (x5 = 0 → vp_in (hI h6 51 47) 8 ∧ (m_X12_laysOut_255 k13 k284 Q v1 v2 v3 v4 v5 v6 (wI (wI h6 78 (ix (hI h6 51 47)) v5) 51 47 ((hI (wI h6 78 (ix (hI h6 51 47)) v5) 51 47) + 1)))) ∧ (¬ x5 = 0 → vp_in v5 2304 ∧ (m_X12_sign v4 (hI h6 64 (ix v5)) h6 (fun (h8 : Hp) => vp_in v5 2304 ∧ (m_X12_sign v4 (hI h8 65 (ix v5)) h8 (fun (h10 : Hp) => vp_in v5 2304 ∧ (m_X12_sign v4 (hI h10 66 (ix v5)) h10 (fun (h12 : Hp) => vp_in v5 2304 ∧ (m_X12_sign v4 (hI h12 67 (ix v5)) h12 (fun (h14 : Hp) => vp_in v5 2304 ∧ (m_X12_sign v4 (hI h14 68 (ix v5)) h14 (fun (h16 : Hp) => vp_in v5 2304 ∧ (m_X12_sign v4 (hI h16 69 (ix v5)) h16 (fun (h18 : Hp) => vp_in v5 2304 ∧ (m_X12_sign v4 (hI h18 70 (ix v5)) h18 (fun (h20 : Hp) => m_X12_laysOut_255 k13 k284 Q v1 v2 v3 v4 v5 v6 h20)))))))))))))))))
set_option maxHeartbeats 4000000 in
set_option maxRecDepth 100000 in
theorem s_X12_laysOut_128 {l : Launch} {G : Cx} {d : Nat} {h0 : Hp} (hd : 6 ≤ d) {k13 : Int32 → Int32 → Int32 → Int32 → Int32 → Hp → Prop} {k284 : Int32 → Hp → Prop} {Q : Int32 → Hp → Prop} (hk13 : ∀ (v1 : Int32) (v2 : Int32) (v3 : Int32) (v4 : Int32) (v5 : Int32) (hh : Hp), k13 v1 v2 v3 v4 v5 hh → Rn l G d 0 0 MX12_laysOut h0 (qI Q) 13 [some (tR 12 0 (some 51)), some (tI v1), some (tI v2), some (tI v3), some (tI v4), some (tI v5)] [] hh 0 0) (hk284 : ∀ (v4 : Int32) (hh : Hp), k284 v4 hh → Rn l G d 0 0 MX12_laysOut h0 (qI Q) 284 [some (tR 12 0 (some 51)), none, none, none, some (tI v4)] [] hh 0 0) {v1 : Int32} {v2 : Int32} {v3 : Int32} {v4 : Int32} {v5 : Int32} {v6 : Int32} {s1 : Int32} {s2 : Int32} {h : Hp} (hm : m_X12_laysOut_128 k13 k284 Q v1 v2 v3 v4 v5 v6 s1 s2 h) : Rn l G d 0 0 MX12_laysOut h0 (qI Q) 128 [some (tR 12 0 (some 51)), some (tI v1), some (tI v2), some (tI v3), some (tI v4), some (tI v5), some (tI v6)] [tI s2, tI s1, tR 12 0 (some 51)] h 0 0 := by
  unfold m_X12_laysOut_128 at hm
  refine r_callVU (d' := d - 1) (as := [tI s1, tI s2]) (st := []) cl_12 dX12_laysOut_128 mi_X12_sign t_1717 t_1719 ts_83 rfl rfl (Nat.le_of_ble_eq_true rfl) (by omega) ⟨by decide, by decide⟩ ⟨rfl, rfl⟩ (s_X12_sign (by omega) hm) (fun h4 hm => ?_)
  refine r_aload_n dX12_laysOut_131 rfl rfl ?_
  refine r_iload dX12_laysOut_132 rfl ?_
  refine r_callVI (d' := d - 1) (as := [tI v5]) (st := []) cl_12 dX12_laysOut_134 mi_X12_isLeaf t_1677 t_1679 ts_75 rfl rfl (Nat.le_of_ble_eq_true rfl) (by omega) ⟨by decide, by decide⟩ ⟨rfl, rfl⟩ (s_X12_isLeaf (by omega) hm) (fun x5 h6 hm => ?_)
  refine r_if_eq (tgt := 234) dX12_laysOut_137 rfl (fun hc => ?_) (fun hc => ?_)
  · replace hm := hm.1 hc
    refine r_aload_n dX12_laysOut_234 rfl rfl ?_
    refine r_getC (k := 46) cl_12 dX12_laysOut_235 t_1318 gf_12_46.1 gf_12_46.2 (gc_12_46 _) ?_
    refine r_aload_n dX12_laysOut_238 rfl rfl ?_
    refine r_getI (k := 47) cl_12 dX12_laysOut_239 t_1319 (Or.inl rfl) gf_12_47 ?_
    refine r_iload dX12_laysOut_242 rfl ?_
    refine r_iast dX12_laysOut_244 hm.1 ?_
    replace hm := hm.2
    refine r_aload_n dX12_laysOut_245 rfl rfl ?_
    refine r_dup dX12_laysOut_246 cv_cat1R ?_
    refine r_getI (k := 47) cl_12 dX12_laysOut_247 t_1319 (Or.inl rfl) gf_12_47 ?_
    refine r_iconst (v := 1) dX12_laysOut_250 rfl ?_
    refine r_iadd dX12_laysOut_251 ?_
    refine r_putI0 (k := 47) cl_12 dX12_laysOut_252 t_1319 (Or.inl rfl) gf_12_47 pf_12_47.1 (Or.inl pf_12_47.2) ?_
    refine r_keep (L' := [some (tR 12 0 (some 51)), some (tI v1), some (tI v2), some (tI v3), some (tI v4), some (tI v5), some (tI v6)]) [true, true, true, true, true, true, true] rfl ?_
    exact s_X12_laysOut_255 hd hk13 hk284 hm
  · replace hm := hm.2 hc
    refine r_aload_n dX12_laysOut_140 rfl rfl ?_
    refine r_iload dX12_laysOut_141 rfl ?_
    refine r_aload_n dX12_laysOut_143 rfl rfl ?_
    refine r_getC (k := 13) cl_12 dX12_laysOut_144 t_1285 gf_12_13.1 gf_12_13.2 (gc_12_13 _) ?_
    refine r_iload dX12_laysOut_147 rfl ?_
    refine r_iald dX12_laysOut_149 hm.1 ?_
    replace hm := hm.2
    refine r_callVU (d' := d - 1) (as := [tI v4, tI (hI h6 64 (ix v5))]) (st := []) cl_12 dX12_laysOut_150 mi_X12_sign t_1717 t_1719 ts_83 rfl rfl (Nat.le_of_ble_eq_true rfl) (by omega) ⟨by decide, by decide⟩ ⟨rfl, rfl⟩ (s_X12_sign (by omega) hm) (fun h8 hm => ?_)
    refine r_aload_n dX12_laysOut_153 rfl rfl ?_
    refine r_iload dX12_laysOut_154 rfl ?_
    refine r_aload_n dX12_laysOut_156 rfl rfl ?_
    refine r_getC (k := 14) cl_12 dX12_laysOut_157 t_1286 gf_12_14.1 gf_12_14.2 (gc_12_14 _) ?_
    refine r_iload dX12_laysOut_160 rfl ?_
    refine r_iald dX12_laysOut_162 hm.1 ?_
    replace hm := hm.2
    refine r_callVU (d' := d - 1) (as := [tI v4, tI (hI h8 65 (ix v5))]) (st := []) cl_12 dX12_laysOut_163 mi_X12_sign t_1717 t_1719 ts_83 rfl rfl (Nat.le_of_ble_eq_true rfl) (by omega) ⟨by decide, by decide⟩ ⟨rfl, rfl⟩ (s_X12_sign (by omega) hm) (fun h10 hm => ?_)
    refine r_aload_n dX12_laysOut_166 rfl rfl ?_
    refine r_iload dX12_laysOut_167 rfl ?_
    refine r_aload_n dX12_laysOut_169 rfl rfl ?_
    refine r_getC (k := 15) cl_12 dX12_laysOut_170 t_1287 gf_12_15.1 gf_12_15.2 (gc_12_15 _) ?_
    refine r_iload dX12_laysOut_173 rfl ?_
    refine r_iald dX12_laysOut_175 hm.1 ?_
    replace hm := hm.2
    refine r_callVU (d' := d - 1) (as := [tI v4, tI (hI h10 66 (ix v5))]) (st := []) cl_12 dX12_laysOut_176 mi_X12_sign t_1717 t_1719 ts_83 rfl rfl (Nat.le_of_ble_eq_true rfl) (by omega) ⟨by decide, by decide⟩ ⟨rfl, rfl⟩ (s_X12_sign (by omega) hm) (fun h12 hm => ?_)
    refine r_aload_n dX12_laysOut_179 rfl rfl ?_
    refine r_iload dX12_laysOut_180 rfl ?_
    refine r_aload_n dX12_laysOut_182 rfl rfl ?_
    refine r_getC (k := 16) cl_12 dX12_laysOut_183 t_1288 gf_12_16.1 gf_12_16.2 (gc_12_16 _) ?_
    refine r_iload dX12_laysOut_186 rfl ?_
    refine r_iald dX12_laysOut_188 hm.1 ?_
    replace hm := hm.2
    refine r_callVU (d' := d - 1) (as := [tI v4, tI (hI h12 67 (ix v5))]) (st := []) cl_12 dX12_laysOut_189 mi_X12_sign t_1717 t_1719 ts_83 rfl rfl (Nat.le_of_ble_eq_true rfl) (by omega) ⟨by decide, by decide⟩ ⟨rfl, rfl⟩ (s_X12_sign (by omega) hm) (fun h14 hm => ?_)
    refine r_aload_n dX12_laysOut_192 rfl rfl ?_
    refine r_iload dX12_laysOut_193 rfl ?_
    refine r_aload_n dX12_laysOut_195 rfl rfl ?_
    refine r_getC (k := 17) cl_12 dX12_laysOut_196 t_1289 gf_12_17.1 gf_12_17.2 (gc_12_17 _) ?_
    refine r_iload dX12_laysOut_199 rfl ?_
    refine r_iald dX12_laysOut_201 hm.1 ?_
    replace hm := hm.2
    refine r_callVU (d' := d - 1) (as := [tI v4, tI (hI h14 68 (ix v5))]) (st := []) cl_12 dX12_laysOut_202 mi_X12_sign t_1717 t_1719 ts_83 rfl rfl (Nat.le_of_ble_eq_true rfl) (by omega) ⟨by decide, by decide⟩ ⟨rfl, rfl⟩ (s_X12_sign (by omega) hm) (fun h16 hm => ?_)
    refine r_aload_n dX12_laysOut_205 rfl rfl ?_
    refine r_iload dX12_laysOut_206 rfl ?_
    refine r_aload_n dX12_laysOut_208 rfl rfl ?_
    refine r_getC (k := 18) cl_12 dX12_laysOut_209 t_1290 gf_12_18.1 gf_12_18.2 (gc_12_18 _) ?_
    refine r_iload dX12_laysOut_212 rfl ?_
    refine r_iald dX12_laysOut_214 hm.1 ?_
    replace hm := hm.2
    refine r_callVU (d' := d - 1) (as := [tI v4, tI (hI h16 69 (ix v5))]) (st := []) cl_12 dX12_laysOut_215 mi_X12_sign t_1717 t_1719 ts_83 rfl rfl (Nat.le_of_ble_eq_true rfl) (by omega) ⟨by decide, by decide⟩ ⟨rfl, rfl⟩ (s_X12_sign (by omega) hm) (fun h18 hm => ?_)
    refine r_aload_n dX12_laysOut_218 rfl rfl ?_
    refine r_iload dX12_laysOut_219 rfl ?_
    refine r_aload_n dX12_laysOut_221 rfl rfl ?_
    refine r_getC (k := 19) cl_12 dX12_laysOut_222 t_1291 gf_12_19.1 gf_12_19.2 (gc_12_19 _) ?_
    refine r_iload dX12_laysOut_225 rfl ?_
    refine r_iald dX12_laysOut_227 hm.1 ?_
    replace hm := hm.2
    refine r_callVU (d' := d - 1) (as := [tI v4, tI (hI h18 70 (ix v5))]) (st := []) cl_12 dX12_laysOut_228 mi_X12_sign t_1717 t_1719 ts_83 rfl rfl (Nat.le_of_ble_eq_true rfl) (by omega) ⟨by decide, by decide⟩ ⟨rfl, rfl⟩ (s_X12_sign (by omega) hm) (fun h20 hm => ?_)
    refine r_goto (tgt := 255) dX12_laysOut_231 rfl ?_
    refine r_keep (L' := [some (tR 12 0 (some 51)), some (tI v1), some (tI v2), some (tI v3), some (tI v4), some (tI v5), some (tI v6)]) [true, true, true, true, true, true, true] rfl ?_
    exact s_X12_laysOut_255 hd hk13 hk284 hm
def m_X12_laysOut_13 : Nat → (Int32 → Hp → Prop) → (Int32 → Hp → Prop) → Int32 → Int32 → Int32 → Int32 → Int32 → Hp → Prop
  | 0, _, _, _, _, _, _, _, _ => False
  | n + 1, k284, Q, v1, v2, v3, v4, v5, h => (v3 ≤ v5 → k284 v4 h) ∧ (¬ v3 ≤ v5 → m_X12_closesUp v4 v5 h (fun (h22 : Hp) => ∀ x23 : Int32, x23 = (v5 - (96 * v1)) → vp_in x23 96 ∧ ((¬ (hI h22 74 (ix x23)) = 0 → m_X12_laysOut_255 (fun (v1 : Int32) (v2 : Int32) (v3 : Int32) (v4 : Int32) (v5 : Int32) (hh : Hp) => m_X12_laysOut_13 n k284 Q v1 v2 v3 v4 v5 hh) k284 Q v1 v2 v3 v4 v5 x23 h22) ∧ ((hI h22 74 (ix x23)) = 0 → vp_in x23 96 ∧ ((¬ (hI h22 75 (ix x23)) = 0 → m_X12_laysOut_255 (fun (v1 : Int32) (v2 : Int32) (v3 : Int32) (v4 : Int32) (v5 : Int32) (hh : Hp) => m_X12_laysOut_13 n k284 Q v1 v2 v3 v4 v5 hh) k284 Q v1 v2 v3 v4 v5 x23 h22) ∧ ((hI h22 75 (ix x23)) = 0 → vp_in v5 2304 ∧ ((¬ (hI h22 58 (ix v5)) = 7 → m_X12_partLeft v1 v5 v2 h22 (fun (x24 : Int32) (h25 : Hp) => m_X12_sign v4 x24 h25 (fun (h27 : Hp) => vp_in v5 2304 ∧ (m_X12_sign v4 (hI h27 58 (ix v5)) h27 (fun (h29 : Hp) => vp_in v5 2304 ∧ ((¬ (hI h29 58 (ix v5)) = 4 → vp_in v5 2304 ∧ (m_X12_laysOut_128 (fun (v1 : Int32) (v2 : Int32) (v3 : Int32) (v4 : Int32) (v5 : Int32) (hh : Hp) => m_X12_laysOut_13 n k284 Q v1 v2 v3 v4 v5 hh) k284 Q v1 v2 v3 v4 v5 x23 v4 (hI h29 59 (ix v5)) h29)) ∧ ((hI h29 58 (ix v5)) = 4 → vp_in x23 96 ∧ (m_X12_laysOut_128 (fun (v1 : Int32) (v2 : Int32) (v3 : Int32) (v4 : Int32) (v5 : Int32) (hh : Hp) => m_X12_laysOut_13 n k284 Q v1 v2 v3 v4 v5 hh) k284 Q v1 v2 v3 v4 v5 x23 v4 (hI h29 76 (ix x23)) h29)))))))) ∧ ((hI h22 58 (ix v5)) = 7 → Q (-1) h22))))))))
set_option maxHeartbeats 4000000 in
set_option maxRecDepth 100000 in
theorem s_X12_laysOut_13 {l : Launch} {G : Cx} {d : Nat} {h0 : Hp} (hd : 6 ≤ d) {k284 : Int32 → Hp → Prop} {Q : Int32 → Hp → Prop} (hk284 : ∀ (v4 : Int32) (hh : Hp), k284 v4 hh → Rn l G d 0 0 MX12_laysOut h0 (qI Q) 284 [some (tR 12 0 (some 51)), none, none, none, some (tI v4)] [] hh 0 0) : ∀ {n : Nat} {v1 : Int32} {v2 : Int32} {v3 : Int32} {v4 : Int32} {v5 : Int32} {h : Hp}, m_X12_laysOut_13 n k284 Q v1 v2 v3 v4 v5 h → Rn l G d 0 0 MX12_laysOut h0 (qI Q) 13 [some (tR 12 0 (some 51)), some (tI v1), some (tI v2), some (tI v3), some (tI v4), some (tI v5)] [] h 0 0 := by
  intro n
  induction n with
  | zero => intro v1 v2 v3 v4 v5 h hm; exact hm.elim
  | succ n ih =>
    intro v1 v2 v3 v4 v5 h hm
    have hk13 := fun (v1 : Int32) (v2 : Int32) (v3 : Int32) (v4 : Int32) (v5 : Int32) (hh : Hp) (hm : m_X12_laysOut_13 n k284 Q v1 v2 v3 v4 v5 hh) => ih hm
    rw [m_X12_laysOut_13] at hm
    refine r_iload dX12_laysOut_13 rfl ?_
    refine r_iload_n dX12_laysOut_15 rfl rfl ?_
    refine r_icmp_ge (tgt := 284) dX12_laysOut_16 rfl (fun hc => ?_) (fun hc => ?_)
    · replace hm := hm.1 hc
      refine r_keep (L' := [some (tR 12 0 (some 51)), none, none, none, some (tI v4)]) [true, false, false, false, true] rfl ?_
      exact hk284 _ _ hm
    · replace hm := hm.2 hc
      refine r_aload_n dX12_laysOut_19 rfl rfl ?_
      refine r_iload dX12_laysOut_20 rfl ?_
      refine r_iload dX12_laysOut_22 rfl ?_
      refine r_callVU (d' := d - 1) (as := [tI v4, tI v5]) (st := []) cl_12 dX12_laysOut_24 mi_X12_closesUp t_1713 t_1715 ts_82 rfl rfl (Nat.le_of_ble_eq_true rfl) (by omega) ⟨by decide, by decide⟩ ⟨rfl, rfl⟩ (s_X12_closesUp (by omega) hm) (fun h22 hm => ?_)
      refine r_iload dX12_laysOut_27 rfl ?_
      refine r_bipush (v := 96) dX12_laysOut_29 rfl ?_
      refine r_iload_n dX12_laysOut_31 rfl rfl ?_
      refine r_imul dX12_laysOut_32 ?_
      refine r_isub dX12_laysOut_33 ?_
      refine r_nmI (fun x23 e_x23 => ?_)
      replace hm := hm x23 e_x23
      refine r_istore (L' := [some (tR 12 0 (some 51)), some (tI v1), some (tI v2), some (tI v3), some (tI v4), some (tI v5), some (tI x23)]) dX12_laysOut_34 (by decide) rfl ?_
      refine r_aload_n dX12_laysOut_36 rfl rfl ?_
      refine r_getC (k := 38) cl_12 dX12_laysOut_37 t_1310 gf_12_38.1 gf_12_38.2 (gc_12_38 _) ?_
      refine r_iload dX12_laysOut_40 rfl ?_
      refine r_zald dX12_laysOut_42 hm.1 ?_
      replace hm := hm.2
      refine r_if_ne (tgt := 255) dX12_laysOut_43 rfl (fun hc => ?_) (fun hc => ?_)
      · replace hm := hm.1 hc
        refine r_keep (L' := [some (tR 12 0 (some 51)), some (tI v1), some (tI v2), some (tI v3), some (tI v4), some (tI v5), some (tI x23)]) [true, true, true, true, true, true, true] rfl ?_
        exact s_X12_laysOut_255 hd hk13 hk284 hm
      · replace hm := hm.2 hc
        refine r_aload_n dX12_laysOut_46 rfl rfl ?_
        refine r_getC (k := 39) cl_12 dX12_laysOut_47 t_1311 gf_12_39.1 gf_12_39.2 (gc_12_39 _) ?_
        refine r_iload dX12_laysOut_50 rfl ?_
        refine r_zald dX12_laysOut_52 hm.1 ?_
        replace hm := hm.2
        refine r_if_ne (tgt := 255) dX12_laysOut_53 rfl (fun hc => ?_) (fun hc => ?_)
        · replace hm := hm.1 hc
          refine r_keep (L' := [some (tR 12 0 (some 51)), some (tI v1), some (tI v2), some (tI v3), some (tI v4), some (tI v5), some (tI x23)]) [true, true, true, true, true, true, true] rfl ?_
          exact s_X12_laysOut_255 hd hk13 hk284 hm
        · replace hm := hm.2 hc
          refine r_aload_n dX12_laysOut_56 rfl rfl ?_
          refine r_getC (k := 7) cl_12 dX12_laysOut_57 t_1279 gf_12_7.1 gf_12_7.2 (gc_12_7 _) ?_
          refine r_iload dX12_laysOut_60 rfl ?_
          refine r_iald dX12_laysOut_62 hm.1 ?_
          replace hm := hm.2
          refine r_bipush (v := 7) dX12_laysOut_63 rfl ?_
          refine r_icmp_ne (tgt := 70) dX12_laysOut_65 rfl (fun hc => ?_) (fun hc => ?_)
          · replace hm := hm.1 hc
            refine r_aload_n dX12_laysOut_70 rfl rfl ?_
            refine r_iload dX12_laysOut_71 rfl ?_
            refine r_aload_n dX12_laysOut_73 rfl rfl ?_
            refine r_iload_n dX12_laysOut_74 rfl rfl ?_
            refine r_iload dX12_laysOut_75 rfl ?_
            refine r_iload_n dX12_laysOut_77 rfl rfl ?_
            refine r_callVI (d' := d - 1) (as := [tI v1, tI v5, tI v2]) (st := [tI v4, tR 12 0 (some 51)]) cl_12 dX12_laysOut_78 mi_X12_partLeft t_1721 t_1723 ts_84 rfl rfl (Nat.le_of_ble_eq_true rfl) (by omega) ⟨by decide, by decide⟩ ⟨rfl, rfl⟩ (s_X12_partLeft (by omega) hm) (fun x24 h25 hm => ?_)
            refine r_callVU (d' := d - 1) (as := [tI v4, tI x24]) (st := []) cl_12 dX12_laysOut_81 mi_X12_sign t_1717 t_1719 ts_83 rfl rfl (Nat.le_of_ble_eq_true rfl) (by omega) ⟨by decide, by decide⟩ ⟨rfl, rfl⟩ (s_X12_sign (by omega) hm) (fun h27 hm => ?_)
            refine r_aload_n dX12_laysOut_84 rfl rfl ?_
            refine r_iload dX12_laysOut_85 rfl ?_
            refine r_aload_n dX12_laysOut_87 rfl rfl ?_
            refine r_getC (k := 7) cl_12 dX12_laysOut_88 t_1279 gf_12_7.1 gf_12_7.2 (gc_12_7 _) ?_
            refine r_iload dX12_laysOut_91 rfl ?_
            refine r_iald dX12_laysOut_93 hm.1 ?_
            replace hm := hm.2
            refine r_callVU (d' := d - 1) (as := [tI v4, tI (hI h27 58 (ix v5))]) (st := []) cl_12 dX12_laysOut_94 mi_X12_sign t_1717 t_1719 ts_83 rfl rfl (Nat.le_of_ble_eq_true rfl) (by omega) ⟨by decide, by decide⟩ ⟨rfl, rfl⟩ (s_X12_sign (by omega) hm) (fun h29 hm => ?_)
            refine r_aload_n dX12_laysOut_97 rfl rfl ?_
            refine r_iload dX12_laysOut_98 rfl ?_
            refine r_aload_n dX12_laysOut_100 rfl rfl ?_
            refine r_getC (k := 7) cl_12 dX12_laysOut_101 t_1279 gf_12_7.1 gf_12_7.2 (gc_12_7 _) ?_
            refine r_iload dX12_laysOut_104 rfl ?_
            refine r_iald dX12_laysOut_106 hm.1 ?_
            replace hm := hm.2
            refine r_iconst (v := 4) dX12_laysOut_107 rfl ?_
            refine r_icmp_ne (tgt := 121) dX12_laysOut_108 rfl (fun hc => ?_) (fun hc => ?_)
            · replace hm := hm.1 hc
              refine r_aload_n dX12_laysOut_121 rfl rfl ?_
              refine r_getC (k := 8) cl_12 dX12_laysOut_122 t_1280 gf_12_8.1 gf_12_8.2 (gc_12_8 _) ?_
              refine r_iload dX12_laysOut_125 rfl ?_
              refine r_iald dX12_laysOut_127 hm.1 ?_
              replace hm := hm.2
              refine r_keep (L' := [some (tR 12 0 (some 51)), some (tI v1), some (tI v2), some (tI v3), some (tI v4), some (tI v5), some (tI x23)]) [true, true, true, true, true, true, true] rfl ?_
              exact s_X12_laysOut_128 hd hk13 hk284 hm
            · replace hm := hm.2 hc
              refine r_aload_n dX12_laysOut_111 rfl rfl ?_
              refine r_getC (k := 40) cl_12 dX12_laysOut_112 t_1312 gf_12_40.1 gf_12_40.2 (gc_12_40 _) ?_
              refine r_iload dX12_laysOut_115 rfl ?_
              refine r_iald dX12_laysOut_117 hm.1 ?_
              replace hm := hm.2
              refine r_goto (tgt := 128) dX12_laysOut_118 rfl ?_
              refine r_keep (L' := [some (tR 12 0 (some 51)), some (tI v1), some (tI v2), some (tI v3), some (tI v4), some (tI v5), some (tI x23)]) [true, true, true, true, true, true, true] rfl ?_
              exact s_X12_laysOut_128 hd hk13 hk284 hm
          · replace hm := hm.2 hc
            refine r_iconst (v := (-1)) dX12_laysOut_68 rfl ?_
            exact r_ireturn dX12_laysOut_69 rfl ⟨by decide, by decide⟩ ⟨_, rfl, hm⟩
def m_X12_laysOut (v1 : Int32) (v2 : Int32) (v3 : Int32) (v4 : Int32) (h : Hp) (Q : Int32 → Hp → Prop) : Prop := ∃ n13, m_X12_laysOut_13 n13 (m_X12_laysOut_284 Q) Q v1 v2 v3 v4 v2 (wI (wI h 51 45 0) 51 47 0)
set_option maxHeartbeats 4000000 in
set_option maxRecDepth 100000 in
theorem s_X12_laysOut {l : Launch} {G : Cx} {d : Nat} (hd : 6 ≤ d) {v1 : Int32} {v2 : Int32} {v3 : Int32} {v4 : Int32} {h : Hp} {Q : Int32 → Hp → Prop} (hm : m_X12_laysOut v1 v2 v3 v4 h Q) : Ct l G d 0 0 yX12_laysOut MX12_laysOut [tR 12 0 (some 51), tI v1, tI v2, tI v3, tI v4] h (qI Q) := by
  unfold m_X12_laysOut at hm
  refine Ct.of (L := [some (tR 12 0 (some 51)), some (tI v1), some (tI v2), some (tI v3), some (tI v4)]) (by decide) rfl rfl (Nat.le_of_ble_eq_true rfl) rfl ?_
  refine r_aload_n dX12_laysOut_0 rfl rfl ?_
  refine r_iconst (v := 0) dX12_laysOut_1 rfl ?_
  refine r_putI0 (k := 45) cl_12 dX12_laysOut_2 t_1317 (Or.inl rfl) gf_12_45 pf_12_45.1 (Or.inl pf_12_45.2) ?_
  refine r_aload_n dX12_laysOut_5 rfl rfl ?_
  refine r_iconst (v := 0) dX12_laysOut_6 rfl ?_
  refine r_putI0 (k := 47) cl_12 dX12_laysOut_7 t_1319 (Or.inl rfl) gf_12_47 pf_12_47.1 (Or.inl pf_12_47.2) ?_
  refine r_iload_n dX12_laysOut_10 rfl rfl ?_
  refine r_istore (L' := [some (tR 12 0 (some 51)), some (tI v1), some (tI v2), some (tI v3), some (tI v4), some (tI v2)]) dX12_laysOut_11 (by decide) rfl ?_
  refine r_keep (L' := [some (tR 12 0 (some 51)), some (tI v1), some (tI v2), some (tI v3), some (tI v4), some (tI v2)]) [true, true, true, true, true, true] rfl ?_
  obtain ⟨n, hm⟩ := hm
  refine s_X12_laysOut_13 hd ?_ hm
  · exact (fun _ _ hm => s_X12_laysOut_284 hd hm)
theorem dX12_areAlike_0 : decode cX12_areAlike 0 = .ok (.aload_n 0, 1) := by decide +kernel
theorem dX12_areAlike_1 : decode cX12_areAlike 1 = .ok (.getfield 43, 3) := by decide +kernel
theorem dX12_areAlike_4 : decode cX12_areAlike 4 = .ok (.iload_n 2, 1) := by decide +kernel
theorem dX12_areAlike_5 : decode cX12_areAlike 5 = .ok (.iaload, 1) := by decide +kernel
theorem dX12_areAlike_6 : decode cX12_areAlike 6 = .ok (.ifCond .ge 5, 3) := by decide +kernel
theorem dX12_areAlike_9 : decode cX12_areAlike 9 = .ok (.iconst 0, 1) := by decide +kernel
theorem dX12_areAlike_10 : decode cX12_areAlike 10 = .ok (.ireturn, 1) := by decide +kernel
theorem dX12_areAlike_11 : decode cX12_areAlike 11 = .ok (.aload_n 0, 1) := by decide +kernel
theorem dX12_areAlike_12 : decode cX12_areAlike 12 = .ok (.iload_n 1, 1) := by decide +kernel
theorem dX12_areAlike_13 : decode cX12_areAlike 13 = .ok (.iload_n 2, 1) := by decide +kernel
theorem dX12_areAlike_14 : decode cX12_areAlike 14 = .ok (.iconst 1, 1) := by decide +kernel
theorem dX12_areAlike_15 : decode cX12_areAlike 15 = .ok (.iadd, 1) := by decide +kernel
theorem dX12_areAlike_16 : decode cX12_areAlike 16 = .ok (.aload_n 0, 1) := by decide +kernel
theorem dX12_areAlike_17 : decode cX12_areAlike 17 = .ok (.getfield 43, 3) := by decide +kernel
theorem dX12_areAlike_20 : decode cX12_areAlike 20 = .ok (.iload_n 2, 1) := by decide +kernel
theorem dX12_areAlike_21 : decode cX12_areAlike 21 = .ok (.iaload, 1) := by decide +kernel
theorem dX12_areAlike_22 : decode cX12_areAlike 22 = .ok (.iconst 0, 1) := by decide +kernel
theorem dX12_areAlike_23 : decode cX12_areAlike 23 = .ok (.invokevirtual 387, 3) := by decide +kernel
theorem dX12_areAlike_26 : decode cX12_areAlike 26 = .ok (.istore_n 3, 1) := by decide +kernel
theorem dX12_areAlike_27 : decode cX12_areAlike 27 = .ok (.iload_n 3, 1) := by decide +kernel
theorem dX12_areAlike_28 : decode cX12_areAlike 28 = .ok (.ifCond .ge 7, 3) := by decide +kernel
theorem dX12_areAlike_31 : decode cX12_areAlike 31 = .ok (.iconst (-1), 1) := by decide +kernel
theorem dX12_areAlike_32 : decode cX12_areAlike 32 = .ok (.goto 23, 3) := by decide +kernel
theorem dX12_areAlike_35 : decode cX12_areAlike 35 = .ok (.aload_n 0, 1) := by decide +kernel
theorem dX12_areAlike_36 : decode cX12_areAlike 36 = .ok (.iload_n 1, 1) := by decide +kernel
theorem dX12_areAlike_37 : decode cX12_areAlike 37 = .ok (.aload_n 0, 1) := by decide +kernel
theorem dX12_areAlike_38 : decode cX12_areAlike 38 = .ok (.getfield 43, 3) := by decide +kernel
theorem dX12_areAlike_41 : decode cX12_areAlike 41 = .ok (.iload_n 2, 1) := by decide +kernel
theorem dX12_areAlike_42 : decode cX12_areAlike 42 = .ok (.iaload, 1) := by decide +kernel
theorem dX12_areAlike_43 : decode cX12_areAlike 43 = .ok (.aload_n 0, 1) := by decide +kernel
theorem dX12_areAlike_44 : decode cX12_areAlike 44 = .ok (.getfield 40, 3) := by decide +kernel
theorem dX12_areAlike_47 : decode cX12_areAlike 47 = .ok (.iload_n 2, 1) := by decide +kernel
theorem dX12_areAlike_48 : decode cX12_areAlike 48 = .ok (.iaload, 1) := by decide +kernel
theorem dX12_areAlike_49 : decode cX12_areAlike 49 = .ok (.sipush 800, 3) := by decide +kernel
theorem dX12_areAlike_52 : decode cX12_areAlike 52 = .ok (.invokevirtual 387, 3) := by decide +kernel
theorem dX12_areAlike_55 : decode cX12_areAlike 55 = .ok (.istore 4, 2) := by decide +kernel
theorem dX12_areAlike_57 : decode cX12_areAlike 57 = .ok (.iload_n 3, 1) := by decide +kernel
theorem dX12_areAlike_58 : decode cX12_areAlike 58 = .ok (.iload 4, 2) := by decide +kernel
theorem dX12_areAlike_60 : decode cX12_areAlike 60 = .ok (.if_icmp .ne 7, 3) := by decide +kernel
theorem dX12_areAlike_63 : decode cX12_areAlike 63 = .ok (.iload_n 3, 1) := by decide +kernel
theorem dX12_areAlike_64 : decode cX12_areAlike 64 = .ok (.ifCond .ge 5, 3) := by decide +kernel
theorem dX12_areAlike_67 : decode cX12_areAlike 67 = .ok (.iconst 0, 1) := by decide +kernel
theorem dX12_areAlike_68 : decode cX12_areAlike 68 = .ok (.ireturn, 1) := by decide +kernel
theorem dX12_areAlike_69 : decode cX12_areAlike 69 = .ok (.iconst 0, 1) := by decide +kernel
theorem dX12_areAlike_70 : decode cX12_areAlike 70 = .ok (.istore 5, 2) := by decide +kernel
theorem dX12_areAlike_72 : decode cX12_areAlike 72 = .ok (.iload 5, 2) := by decide +kernel
theorem dX12_areAlike_74 : decode cX12_areAlike 74 = .ok (.iload_n 3, 1) := by decide +kernel
theorem dX12_areAlike_75 : decode cX12_areAlike 75 = .ok (.if_icmp .ge 32, 3) := by decide +kernel
theorem dX12_areAlike_78 : decode cX12_areAlike 78 = .ok (.aload_n 0, 1) := by decide +kernel
theorem dX12_areAlike_79 : decode cX12_areAlike 79 = .ok (.getfield 91, 3) := by decide +kernel
theorem dX12_areAlike_82 : decode cX12_areAlike 82 = .ok (.iload 5, 2) := by decide +kernel
theorem dX12_areAlike_84 : decode cX12_areAlike 84 = .ok (.iaload, 1) := by decide +kernel
theorem dX12_areAlike_85 : decode cX12_areAlike 85 = .ok (.aload_n 0, 1) := by decide +kernel
theorem dX12_areAlike_86 : decode cX12_areAlike 86 = .ok (.getfield 91, 3) := by decide +kernel
theorem dX12_areAlike_89 : decode cX12_areAlike 89 = .ok (.sipush 800, 3) := by decide +kernel
theorem dX12_areAlike_92 : decode cX12_areAlike 92 = .ok (.iload 5, 2) := by decide +kernel
theorem dX12_areAlike_94 : decode cX12_areAlike 94 = .ok (.iadd, 1) := by decide +kernel
theorem dX12_areAlike_95 : decode cX12_areAlike 95 = .ok (.iaload, 1) := by decide +kernel
theorem dX12_areAlike_96 : decode cX12_areAlike 96 = .ok (.if_icmp .eq 5, 3) := by decide +kernel
theorem dX12_areAlike_99 : decode cX12_areAlike 99 = .ok (.iconst 0, 1) := by decide +kernel
theorem dX12_areAlike_100 : decode cX12_areAlike 100 = .ok (.ireturn, 1) := by decide +kernel
theorem dX12_areAlike_101 : decode cX12_areAlike 101 = .ok (.iinc 5 1, 3) := by decide +kernel
theorem dX12_areAlike_104 : decode cX12_areAlike 104 = .ok (.goto (-32), 3) := by decide +kernel
theorem dX12_areAlike_107 : decode cX12_areAlike 107 = .ok (.iconst 1, 1) := by decide +kernel
theorem dX12_areAlike_108 : decode cX12_areAlike 108 = .ok (.ireturn, 1) := by decide +kernel
def m_X12_areAlike_72 : Nat → (Int32 → Hp → Prop) → Int32 → Int32 → Hp → Prop
  | 0, _, _, _, _ => False
  | n + 1, Q, v3, v5, h => (v3 ≤ v5 → Q 1 h) ∧ (¬ v3 ≤ v5 → vp_in v5 1600 ∧ (vp_in (800 + v5) 1600 ∧ (((hI h 77 (ix v5)) = (hI h 77 (ix (800 + v5))) → ∀ x1 : Int32, x1 = v5 + 1 → m_X12_areAlike_72 n Q v3 x1 h) ∧ (¬ (hI h 77 (ix v5)) = (hI h 77 (ix (800 + v5))) → Q 0 h))))
set_option maxHeartbeats 4000000 in
set_option maxRecDepth 100000 in
theorem s_X12_areAlike_72 {l : Launch} {G : Cx} {d : Nat} {h0 : Hp} (hd : 8 ≤ d) {Q : Int32 → Hp → Prop} : ∀ {n : Nat} {v3 : Int32} {v5 : Int32} {h : Hp}, m_X12_areAlike_72 n Q v3 v5 h → Rn l G d 0 0 MX12_areAlike h0 (qI Q) 72 [some (tR 12 0 (some 51)), none, none, some (tI v3), none, some (tI v5)] [] h 0 0 := by
  intro n
  induction n with
  | zero => intro v3 v5 h hm; exact hm.elim
  | succ n ih =>
    intro v3 v5 h hm
    have hk72 := fun (v3 : Int32) (v5 : Int32) (hh : Hp) (hm : m_X12_areAlike_72 n Q v3 v5 hh) => ih hm
    rw [m_X12_areAlike_72] at hm
    refine r_iload dX12_areAlike_72 rfl ?_
    refine r_iload_n dX12_areAlike_74 rfl rfl ?_
    refine r_icmp_ge (tgt := 107) dX12_areAlike_75 rfl (fun hc => ?_) (fun hc => ?_)
    · replace hm := hm.1 hc
      refine r_iconst (v := 1) dX12_areAlike_107 rfl ?_
      exact r_bret dX12_areAlike_108 rfl ⟨by decide, by decide⟩ (by unfold bz; decide) ⟨_, rfl, hm⟩
    · replace hm := hm.2 hc
      refine r_aload_n dX12_areAlike_78 rfl rfl ?_
      refine r_getC (k := 44) cl_12 dX12_areAlike_79 t_1316 gf_12_44.1 gf_12_44.2 (gc_12_44 _) ?_
      refine r_iload dX12_areAlike_82 rfl ?_
      refine r_iald dX12_areAlike_84 hm.1 ?_
      replace hm := hm.2
      refine r_aload_n dX12_areAlike_85 rfl rfl ?_
      refine r_getC (k := 44) cl_12 dX12_areAlike_86 t_1316 gf_12_44.1 gf_12_44.2 (gc_12_44 _) ?_
      refine r_sipush (v := 800) dX12_areAlike_89 rfl ?_
      refine r_iload dX12_areAlike_92 rfl ?_
      refine r_iadd dX12_areAlike_94 ?_
      refine r_iald dX12_areAlike_95 hm.1 ?_
      replace hm := hm.2
      refine r_icmp_eq (tgt := 101) dX12_areAlike_96 rfl (fun hc => ?_) (fun hc => ?_)
      · replace hm := hm.1 hc
        obtain ⟨x1, e_x1⟩ : ∃ y : Int32, y = v5 + 1 := ⟨_, rfl⟩
        replace hm := hm x1 e_x1
        refine r_iinc (L' := [some (tR 12 0 (some 51)), none, none, some (tI v3), none, some (tI x1)]) dX12_areAlike_101 rfl (by rw [e_x1]; rfl) (by decide) rfl ?_
        refine r_goto (tgt := 72) dX12_areAlike_104 rfl ?_
        refine r_keep (L' := [some (tR 12 0 (some 51)), none, none, some (tI v3), none, some (tI x1)]) [true, false, false, true, false, true] rfl ?_
        exact hk72 _ _ _ hm
      · replace hm := hm.2 hc
        refine r_iconst (v := 0) dX12_areAlike_99 rfl ?_
        exact r_bret dX12_areAlike_100 rfl ⟨by decide, by decide⟩ (by unfold bz; decide) ⟨_, rfl, hm⟩
def m_X12_areAlike_55  (Q : Int32 → Hp → Prop) (v3 : Int32) (s0 : Int32) (h : Hp) : Prop := (¬ v3 = s0 → Q 0 h) ∧ (v3 = s0 → (0 ≤ v3 → ∃ n72, m_X12_areAlike_72 n72 Q v3 0 h) ∧ (¬ 0 ≤ v3 → Q 0 h))
set_option maxHeartbeats 4000000 in
set_option maxRecDepth 100000 in
theorem s_X12_areAlike_55 {l : Launch} {G : Cx} {d : Nat} {h0 : Hp} (hd : 8 ≤ d) {Q : Int32 → Hp → Prop} {v3 : Int32} {s0 : Int32} {h : Hp} (hm : m_X12_areAlike_55 Q v3 s0 h) : Rn l G d 0 0 MX12_areAlike h0 (qI Q) 55 [some (tR 12 0 (some 51)), none, none, some (tI v3)] [tI s0] h 0 0 := by
  unfold m_X12_areAlike_55 at hm
  refine r_istore (L' := [some (tR 12 0 (some 51)), none, none, some (tI v3), some (tI s0)]) dX12_areAlike_55 (by decide) rfl ?_
  refine r_iload_n dX12_areAlike_57 rfl rfl ?_
  refine r_iload dX12_areAlike_58 rfl ?_
  refine r_icmp_ne (tgt := 67) dX12_areAlike_60 rfl (fun hc => ?_) (fun hc => ?_)
  · replace hm := hm.1 hc
    refine r_iconst (v := 0) dX12_areAlike_67 rfl ?_
    exact r_bret dX12_areAlike_68 rfl ⟨by decide, by decide⟩ (by unfold bz; decide) ⟨_, rfl, hm⟩
  · replace hm := hm.2 hc
    refine r_iload_n dX12_areAlike_63 rfl rfl ?_
    refine r_if_ge (tgt := 69) dX12_areAlike_64 rfl (fun hc => ?_) (fun hc => ?_)
    · replace hm := hm.1 hc
      refine r_iconst (v := 0) dX12_areAlike_69 rfl ?_
      refine r_istore (L' := [some (tR 12 0 (some 51)), none, none, some (tI v3), some (tI s0), some (tI 0)]) dX12_areAlike_70 (by decide) rfl ?_
      refine r_keep (L' := [some (tR 12 0 (some 51)), none, none, some (tI v3), none, some (tI 0)]) [true, false, false, true, false, true] rfl ?_
      obtain ⟨n, hm⟩ := hm
      refine s_X12_areAlike_72 hd hm
    · replace hm := hm.2 hc
      refine r_iconst (v := 0) dX12_areAlike_67 rfl ?_
      exact r_bret dX12_areAlike_68 rfl ⟨by decide, by decide⟩ (by unfold bz; decide) ⟨_, rfl, hm⟩
def m_X12_areAlike (v1 : Int32) (v2 : Int32) (h : Hp) (Q : Int32 → Hp → Prop) : Prop := vp_in v2 2304 ∧ ((0 ≤ (hI h 63 (ix v2)) → vp_in v2 2304 ∧ (m_X12_laysOut v1 (v2 + 1) (hI h 63 (ix v2)) 0 h (fun (x2 : Int32) (h3 : Hp) => (0 ≤ x2 → vp_in v2 2304 ∧ (vp_in v2 2304 ∧ (m_X12_laysOut v1 (hI h3 63 (ix v2)) (hI h3 62 (ix v2)) 800 h3 (fun (x4 : Int32) (h5 : Hp) => m_X12_areAlike_55 Q x2 x4 h5)))) ∧ (¬ 0 ≤ x2 → m_X12_areAlike_55 Q x2 (-1) h3)))) ∧ (¬ 0 ≤ (hI h 63 (ix v2)) → Q 0 h))
set_option maxHeartbeats 4000000 in
set_option maxRecDepth 100000 in
theorem s_X12_areAlike {l : Launch} {G : Cx} {d : Nat} (hd : 8 ≤ d) {v1 : Int32} {v2 : Int32} {h : Hp} {Q : Int32 → Hp → Prop} (hm : m_X12_areAlike v1 v2 h Q) : Ct l G d 0 0 yX12_areAlike MX12_areAlike [tR 12 0 (some 51), tI v1, tI v2] h (qI Q) := by
  unfold m_X12_areAlike at hm
  refine Ct.of (L := [some (tR 12 0 (some 51)), some (tI v1), some (tI v2)]) (by decide) rfl rfl (Nat.le_of_ble_eq_true rfl) rfl ?_
  refine r_aload_n dX12_areAlike_0 rfl rfl ?_
  refine r_getC (k := 12) cl_12 dX12_areAlike_1 t_1284 gf_12_12.1 gf_12_12.2 (gc_12_12 _) ?_
  refine r_iload_n dX12_areAlike_4 rfl rfl ?_
  refine r_iald dX12_areAlike_5 hm.1 ?_
  replace hm := hm.2
  refine r_if_ge (tgt := 11) dX12_areAlike_6 rfl (fun hc => ?_) (fun hc => ?_)
  · replace hm := hm.1 hc
    refine r_aload_n dX12_areAlike_11 rfl rfl ?_
    refine r_iload_n dX12_areAlike_12 rfl rfl ?_
    refine r_iload_n dX12_areAlike_13 rfl rfl ?_
    refine r_iconst (v := 1) dX12_areAlike_14 rfl ?_
    refine r_iadd dX12_areAlike_15 ?_
    refine r_aload_n dX12_areAlike_16 rfl rfl ?_
    refine r_getC (k := 12) cl_12 dX12_areAlike_17 t_1284 gf_12_12.1 gf_12_12.2 (gc_12_12 _) ?_
    refine r_iload_n dX12_areAlike_20 rfl rfl ?_
    refine r_iald dX12_areAlike_21 hm.1 ?_
    replace hm := hm.2
    refine r_iconst (v := 0) dX12_areAlike_22 rfl ?_
    refine r_callVI (d' := d - 1) (as := [tI v1, tI (v2 + 1), tI (hI h 63 (ix v2)), tI 0]) (st := []) cl_12 dX12_areAlike_23 mi_X12_laysOut t_1709 t_1711 ts_81 rfl rfl (Nat.le_of_ble_eq_true rfl) (by omega) ⟨by decide, by decide⟩ ⟨rfl, rfl⟩ (s_X12_laysOut (by omega) hm) (fun x2 h3 hm => ?_)
    refine r_istore_n (L' := [some (tR 12 0 (some 51)), some (tI v1), some (tI v2), some (tI x2)]) dX12_areAlike_26 rfl (by decide) rfl ?_
    refine r_iload_n dX12_areAlike_27 rfl rfl ?_
    refine r_if_ge (tgt := 35) dX12_areAlike_28 rfl (fun hc => ?_) (fun hc => ?_)
    · replace hm := hm.1 hc
      refine r_aload_n dX12_areAlike_35 rfl rfl ?_
      refine r_iload_n dX12_areAlike_36 rfl rfl ?_
      refine r_aload_n dX12_areAlike_37 rfl rfl ?_
      refine r_getC (k := 12) cl_12 dX12_areAlike_38 t_1284 gf_12_12.1 gf_12_12.2 (gc_12_12 _) ?_
      refine r_iload_n dX12_areAlike_41 rfl rfl ?_
      refine r_iald dX12_areAlike_42 hm.1 ?_
      replace hm := hm.2
      refine r_aload_n dX12_areAlike_43 rfl rfl ?_
      refine r_getC (k := 11) cl_12 dX12_areAlike_44 t_1283 gf_12_11.1 gf_12_11.2 (gc_12_11 _) ?_
      refine r_iload_n dX12_areAlike_47 rfl rfl ?_
      refine r_iald dX12_areAlike_48 hm.1 ?_
      replace hm := hm.2
      refine r_sipush (v := 800) dX12_areAlike_49 rfl ?_
      refine r_callVI (d' := d - 1) (as := [tI v1, tI (hI h3 63 (ix v2)), tI (hI h3 62 (ix v2)), tI 800]) (st := []) cl_12 dX12_areAlike_52 mi_X12_laysOut t_1709 t_1711 ts_81 rfl rfl (Nat.le_of_ble_eq_true rfl) (by omega) ⟨by decide, by decide⟩ ⟨rfl, rfl⟩ (s_X12_laysOut (by omega) hm) (fun x4 h5 hm => ?_)
      refine r_keep (L' := [some (tR 12 0 (some 51)), none, none, some (tI x2)]) [true, false, false, true] rfl ?_
      exact s_X12_areAlike_55 hd hm
    · replace hm := hm.2 hc
      refine r_iconst (v := (-1)) dX12_areAlike_31 rfl ?_
      refine r_goto (tgt := 55) dX12_areAlike_32 rfl ?_
      refine r_keep (L' := [some (tR 12 0 (some 51)), none, none, some (tI x2)]) [true, false, false, true] rfl ?_
      exact s_X12_areAlike_55 hd hm
  · replace hm := hm.2 hc
    refine r_iconst (v := 0) dX12_areAlike_9 rfl ?_
    exact r_bret dX12_areAlike_10 rfl ⟨by decide, by decide⟩ (by unfold bz; decide) ⟨_, rfl, hm⟩
theorem dX12_simplifies_0 : decode cX12_simplifies 0 = .ok (.iload_n 2, 1) := by decide +kernel
theorem dX12_simplifies_1 : decode cX12_simplifies 1 = .ok (.bipush 96, 2) := by decide +kernel
theorem dX12_simplifies_3 : decode cX12_simplifies 3 = .ok (.iload_n 1, 1) := by decide +kernel
theorem dX12_simplifies_4 : decode cX12_simplifies 4 = .ok (.imul, 1) := by decide +kernel
theorem dX12_simplifies_5 : decode cX12_simplifies 5 = .ok (.isub, 1) := by decide +kernel
theorem dX12_simplifies_6 : decode cX12_simplifies 6 = .ok (.istore_n 3, 1) := by decide +kernel
theorem dX12_simplifies_7 : decode cX12_simplifies 7 = .ok (.aload_n 0, 1) := by decide +kernel
theorem dX12_simplifies_8 : decode cX12_simplifies 8 = .ok (.getfield 88, 3) := by decide +kernel
theorem dX12_simplifies_11 : decode cX12_simplifies 11 = .ok (.iload_n 3, 1) := by decide +kernel
theorem dX12_simplifies_12 : decode cX12_simplifies 12 = .ok (.aload_n 0, 1) := by decide +kernel
theorem dX12_simplifies_13 : decode cX12_simplifies 13 = .ok (.getfield 31, 3) := by decide +kernel
theorem dX12_simplifies_16 : decode cX12_simplifies 16 = .ok (.iload_n 2, 1) := by decide +kernel
theorem dX12_simplifies_17 : decode cX12_simplifies 17 = .ok (.iaload, 1) := by decide +kernel
theorem dX12_simplifies_18 : decode cX12_simplifies 18 = .ok (.iastore, 1) := by decide +kernel
theorem dX12_simplifies_19 : decode cX12_simplifies 19 = .ok (.aload_n 0, 1) := by decide +kernel
theorem dX12_simplifies_20 : decode cX12_simplifies 20 = .ok (.iload_n 1, 1) := by decide +kernel
theorem dX12_simplifies_21 : decode cX12_simplifies 21 = .ok (.iload_n 2, 1) := by decide +kernel
theorem dX12_simplifies_22 : decode cX12_simplifies 22 = .ok (.iconst 1, 1) := by decide +kernel
theorem dX12_simplifies_23 : decode cX12_simplifies 23 = .ok (.iadd, 1) := by decide +kernel
theorem dX12_simplifies_24 : decode cX12_simplifies 24 = .ok (.aload_n 0, 1) := by decide +kernel
theorem dX12_simplifies_25 : decode cX12_simplifies 25 = .ok (.getfield 40, 3) := by decide +kernel
theorem dX12_simplifies_28 : decode cX12_simplifies 28 = .ok (.iload_n 2, 1) := by decide +kernel
theorem dX12_simplifies_29 : decode cX12_simplifies 29 = .ok (.iaload, 1) := by decide +kernel
theorem dX12_simplifies_30 : decode cX12_simplifies 30 = .ok (.invokevirtual 391, 3) := by decide +kernel
theorem dX12_simplifies_33 : decode cX12_simplifies 33 = .ok (.istore 4, 2) := by decide +kernel
theorem dX12_simplifies_35 : decode cX12_simplifies 35 = .ok (.aload_n 0, 1) := by decide +kernel
theorem dX12_simplifies_36 : decode cX12_simplifies 36 = .ok (.getfield 368, 3) := by decide +kernel
theorem dX12_simplifies_39 : decode cX12_simplifies 39 = .ok (.istore 5, 2) := by decide +kernel
theorem dX12_simplifies_41 : decode cX12_simplifies 41 = .ok (.iload 4, 2) := by decide +kernel
theorem dX12_simplifies_43 : decode cX12_simplifies 43 = .ok (.ifCond .eq 22, 3) := by decide +kernel
theorem dX12_simplifies_46 : decode cX12_simplifies 46 = .ok (.aload_n 0, 1) := by decide +kernel
theorem dX12_simplifies_47 : decode cX12_simplifies 47 = .ok (.getfield 28, 3) := by decide +kernel
theorem dX12_simplifies_50 : decode cX12_simplifies 50 = .ok (.iload_n 2, 1) := by decide +kernel
theorem dX12_simplifies_51 : decode cX12_simplifies 51 = .ok (.iaload, 1) := by decide +kernel
theorem dX12_simplifies_52 : decode cX12_simplifies 52 = .ok (.iconst 5, 1) := by decide +kernel
theorem dX12_simplifies_53 : decode cX12_simplifies 53 = .ok (.if_icmp .ne 32, 3) := by decide +kernel
theorem dX12_simplifies_56 : decode cX12_simplifies 56 = .ok (.aload_n 0, 1) := by decide +kernel
theorem dX12_simplifies_57 : decode cX12_simplifies 57 = .ok (.getfield 31, 3) := by decide +kernel
theorem dX12_simplifies_60 : decode cX12_simplifies 60 = .ok (.iload_n 2, 1) := by decide +kernel
theorem dX12_simplifies_61 : decode cX12_simplifies 61 = .ok (.iaload, 1) := by decide +kernel
theorem dX12_simplifies_62 : decode cX12_simplifies 62 = .ok (.ifCond .ne 23, 3) := by decide +kernel
theorem dX12_simplifies_65 : decode cX12_simplifies 65 = .ok (.aload_n 0, 1) := by decide +kernel
theorem dX12_simplifies_66 : decode cX12_simplifies 66 = .ok (.getfield 81, 3) := by decide +kernel
theorem dX12_simplifies_69 : decode cX12_simplifies 69 = .ok (.iload_n 3, 1) := by decide +kernel
theorem dX12_simplifies_70 : decode cX12_simplifies 70 = .ok (.iconst 1, 1) := by decide +kernel
theorem dX12_simplifies_71 : decode cX12_simplifies 71 = .ok (.bastore, 1) := by decide +kernel
theorem dX12_simplifies_72 : decode cX12_simplifies 72 = .ok (.aload_n 0, 1) := by decide +kernel
theorem dX12_simplifies_73 : decode cX12_simplifies 73 = .ok (.dup, 1) := by decide +kernel
theorem dX12_simplifies_74 : decode cX12_simplifies 74 = .ok (.getfield 394, 3) := by decide +kernel
theorem dX12_simplifies_77 : decode cX12_simplifies 77 = .ok (.iconst 1, 1) := by decide +kernel
theorem dX12_simplifies_78 : decode cX12_simplifies 78 = .ok (.iadd, 1) := by decide +kernel
theorem dX12_simplifies_79 : decode cX12_simplifies 79 = .ok (.putfield 394, 3) := by decide +kernel
theorem dX12_simplifies_82 : decode cX12_simplifies 82 = .ok (.goto 211, 3) := by decide +kernel
theorem dX12_simplifies_85 : decode cX12_simplifies 85 = .ok (.aload_n 0, 1) := by decide +kernel
theorem dX12_simplifies_86 : decode cX12_simplifies 86 = .ok (.getfield 28, 3) := by decide +kernel
theorem dX12_simplifies_89 : decode cX12_simplifies 89 = .ok (.iload_n 2, 1) := by decide +kernel
theorem dX12_simplifies_90 : decode cX12_simplifies 90 = .ok (.iaload, 1) := by decide +kernel
theorem dX12_simplifies_91 : decode cX12_simplifies 91 = .ok (.iconst 4, 1) := by decide +kernel
theorem dX12_simplifies_92 : decode cX12_simplifies 92 = .ok (.if_icmp .ne 12, 3) := by decide +kernel
theorem dX12_simplifies_95 : decode cX12_simplifies 95 = .ok (.aload_n 0, 1) := by decide +kernel
theorem dX12_simplifies_96 : decode cX12_simplifies 96 = .ok (.getfield 31, 3) := by decide +kernel
theorem dX12_simplifies_99 : decode cX12_simplifies 99 = .ok (.iload_n 2, 1) := by decide +kernel
theorem dX12_simplifies_100 : decode cX12_simplifies 100 = .ok (.iaload, 1) := by decide +kernel
theorem dX12_simplifies_101 : decode cX12_simplifies 101 = .ok (.ifCond .eq 23, 3) := by decide +kernel
theorem dX12_simplifies_104 : decode cX12_simplifies 104 = .ok (.aload_n 0, 1) := by decide +kernel
theorem dX12_simplifies_105 : decode cX12_simplifies 105 = .ok (.getfield 28, 3) := by decide +kernel
theorem dX12_simplifies_108 : decode cX12_simplifies 108 = .ok (.iload_n 2, 1) := by decide +kernel
theorem dX12_simplifies_109 : decode cX12_simplifies 109 = .ok (.iaload, 1) := by decide +kernel
theorem dX12_simplifies_110 : decode cX12_simplifies 110 = .ok (.iconst 5, 1) := by decide +kernel
theorem dX12_simplifies_111 : decode cX12_simplifies 111 = .ok (.if_icmp .ne 33, 3) := by decide +kernel
theorem dX12_simplifies_114 : decode cX12_simplifies 114 = .ok (.aload_n 0, 1) := by decide +kernel
theorem dX12_simplifies_115 : decode cX12_simplifies 115 = .ok (.getfield 31, 3) := by decide +kernel
theorem dX12_simplifies_118 : decode cX12_simplifies 118 = .ok (.iload_n 2, 1) := by decide +kernel
theorem dX12_simplifies_119 : decode cX12_simplifies 119 = .ok (.iaload, 1) := by decide +kernel
theorem dX12_simplifies_120 : decode cX12_simplifies 120 = .ok (.iconst 1, 1) := by decide +kernel
theorem dX12_simplifies_121 : decode cX12_simplifies 121 = .ok (.if_icmp .ne 23, 3) := by decide +kernel
theorem dX12_simplifies_124 : decode cX12_simplifies 124 = .ok (.aload_n 0, 1) := by decide +kernel
theorem dX12_simplifies_125 : decode cX12_simplifies 125 = .ok (.getfield 85, 3) := by decide +kernel
theorem dX12_simplifies_128 : decode cX12_simplifies 128 = .ok (.iload_n 3, 1) := by decide +kernel
theorem dX12_simplifies_129 : decode cX12_simplifies 129 = .ok (.iconst 1, 1) := by decide +kernel
theorem dX12_simplifies_130 : decode cX12_simplifies 130 = .ok (.bastore, 1) := by decide +kernel
theorem dX12_simplifies_131 : decode cX12_simplifies 131 = .ok (.aload_n 0, 1) := by decide +kernel
theorem dX12_simplifies_132 : decode cX12_simplifies 132 = .ok (.dup, 1) := by decide +kernel
theorem dX12_simplifies_133 : decode cX12_simplifies 133 = .ok (.getfield 394, 3) := by decide +kernel
theorem dX12_simplifies_136 : decode cX12_simplifies 136 = .ok (.iconst 1, 1) := by decide +kernel
theorem dX12_simplifies_137 : decode cX12_simplifies 137 = .ok (.iadd, 1) := by decide +kernel
theorem dX12_simplifies_138 : decode cX12_simplifies 138 = .ok (.putfield 394, 3) := by decide +kernel
theorem dX12_simplifies_141 : decode cX12_simplifies 141 = .ok (.goto 152, 3) := by decide +kernel
theorem dX12_simplifies_144 : decode cX12_simplifies 144 = .ok (.aload_n 0, 1) := by decide +kernel
theorem dX12_simplifies_145 : decode cX12_simplifies 145 = .ok (.getfield 28, 3) := by decide +kernel
theorem dX12_simplifies_148 : decode cX12_simplifies 148 = .ok (.iload_n 2, 1) := by decide +kernel
theorem dX12_simplifies_149 : decode cX12_simplifies 149 = .ok (.iaload, 1) := by decide +kernel
theorem dX12_simplifies_150 : decode cX12_simplifies 150 = .ok (.iconst 4, 1) := by decide +kernel
theorem dX12_simplifies_151 : decode cX12_simplifies 151 = .ok (.if_icmp .ne 67, 3) := by decide +kernel
theorem dX12_simplifies_154 : decode cX12_simplifies 154 = .ok (.iload 4, 2) := by decide +kernel
theorem dX12_simplifies_156 : decode cX12_simplifies 156 = .ok (.iconst 1, 1) := by decide +kernel
theorem dX12_simplifies_157 : decode cX12_simplifies 157 = .ok (.if_icmp .ne 61, 3) := by decide +kernel
theorem dX12_simplifies_160 : decode cX12_simplifies 160 = .ok (.aload_n 0, 1) := by decide +kernel
theorem dX12_simplifies_161 : decode cX12_simplifies 161 = .ok (.getfield 28, 3) := by decide +kernel
theorem dX12_simplifies_164 : decode cX12_simplifies 164 = .ok (.iload 5, 2) := by decide +kernel
theorem dX12_simplifies_166 : decode cX12_simplifies 166 = .ok (.iaload, 1) := by decide +kernel
theorem dX12_simplifies_167 : decode cX12_simplifies 167 = .ok (.iconst 4, 1) := by decide +kernel
theorem dX12_simplifies_168 : decode cX12_simplifies 168 = .ok (.if_icmp .ne 50, 3) := by decide +kernel
theorem dX12_simplifies_171 : decode cX12_simplifies 171 = .ok (.aload_n 0, 1) := by decide +kernel
theorem dX12_simplifies_172 : decode cX12_simplifies 172 = .ok (.getfield 88, 3) := by decide +kernel
theorem dX12_simplifies_175 : decode cX12_simplifies 175 = .ok (.iload_n 3, 1) := by decide +kernel
theorem dX12_simplifies_176 : decode cX12_simplifies 176 = .ok (.dup2, 1) := by decide +kernel
theorem dX12_simplifies_177 : decode cX12_simplifies 177 = .ok (.iaload, 1) := by decide +kernel
theorem dX12_simplifies_178 : decode cX12_simplifies 178 = .ok (.aload_n 0, 1) := by decide +kernel
theorem dX12_simplifies_179 : decode cX12_simplifies 179 = .ok (.getfield 88, 3) := by decide +kernel
theorem dX12_simplifies_182 : decode cX12_simplifies 182 = .ok (.iload 5, 2) := by decide +kernel
theorem dX12_simplifies_184 : decode cX12_simplifies 184 = .ok (.bipush 96, 2) := by decide +kernel
theorem dX12_simplifies_186 : decode cX12_simplifies 186 = .ok (.iload_n 1, 1) := by decide +kernel
theorem dX12_simplifies_187 : decode cX12_simplifies 187 = .ok (.imul, 1) := by decide +kernel
theorem dX12_simplifies_188 : decode cX12_simplifies 188 = .ok (.isub, 1) := by decide +kernel
theorem dX12_simplifies_189 : decode cX12_simplifies 189 = .ok (.iaload, 1) := by decide +kernel
theorem dX12_simplifies_190 : decode cX12_simplifies 190 = .ok (.iadd, 1) := by decide +kernel
theorem dX12_simplifies_191 : decode cX12_simplifies 191 = .ok (.iastore, 1) := by decide +kernel
theorem dX12_simplifies_192 : decode cX12_simplifies 192 = .ok (.aload_n 0, 1) := by decide +kernel
theorem dX12_simplifies_193 : decode cX12_simplifies 193 = .ok (.getfield 85, 3) := by decide +kernel
theorem dX12_simplifies_196 : decode cX12_simplifies 196 = .ok (.iload 5, 2) := by decide +kernel
theorem dX12_simplifies_198 : decode cX12_simplifies 198 = .ok (.bipush 96, 2) := by decide +kernel
theorem dX12_simplifies_200 : decode cX12_simplifies 200 = .ok (.iload_n 1, 1) := by decide +kernel
theorem dX12_simplifies_201 : decode cX12_simplifies 201 = .ok (.imul, 1) := by decide +kernel
theorem dX12_simplifies_202 : decode cX12_simplifies 202 = .ok (.isub, 1) := by decide +kernel
theorem dX12_simplifies_203 : decode cX12_simplifies 203 = .ok (.iconst 1, 1) := by decide +kernel
theorem dX12_simplifies_204 : decode cX12_simplifies 204 = .ok (.bastore, 1) := by decide +kernel
theorem dX12_simplifies_205 : decode cX12_simplifies 205 = .ok (.aload_n 0, 1) := by decide +kernel
theorem dX12_simplifies_206 : decode cX12_simplifies 206 = .ok (.dup, 1) := by decide +kernel
theorem dX12_simplifies_207 : decode cX12_simplifies 207 = .ok (.getfield 394, 3) := by decide +kernel
theorem dX12_simplifies_210 : decode cX12_simplifies 210 = .ok (.iconst 1, 1) := by decide +kernel
theorem dX12_simplifies_211 : decode cX12_simplifies 211 = .ok (.iadd, 1) := by decide +kernel
theorem dX12_simplifies_212 : decode cX12_simplifies 212 = .ok (.putfield 394, 3) := by decide +kernel
theorem dX12_simplifies_215 : decode cX12_simplifies 215 = .ok (.goto 78, 3) := by decide +kernel
theorem dX12_simplifies_218 : decode cX12_simplifies 218 = .ok (.aload_n 0, 1) := by decide +kernel
theorem dX12_simplifies_219 : decode cX12_simplifies 219 = .ok (.getfield 28, 3) := by decide +kernel
theorem dX12_simplifies_222 : decode cX12_simplifies 222 = .ok (.iload_n 2, 1) := by decide +kernel
theorem dX12_simplifies_223 : decode cX12_simplifies 223 = .ok (.iaload, 1) := by decide +kernel
theorem dX12_simplifies_224 : decode cX12_simplifies 224 = .ok (.bipush 6, 2) := by decide +kernel
theorem dX12_simplifies_226 : decode cX12_simplifies 226 = .ok (.if_icmp .lt 67, 3) := by decide +kernel
theorem dX12_simplifies_229 : decode cX12_simplifies 229 = .ok (.aload_n 0, 1) := by decide +kernel
theorem dX12_simplifies_230 : decode cX12_simplifies 230 = .ok (.iload_n 1, 1) := by decide +kernel
theorem dX12_simplifies_231 : decode cX12_simplifies 231 = .ok (.iload_n 2, 1) := by decide +kernel
theorem dX12_simplifies_232 : decode cX12_simplifies 232 = .ok (.invokevirtual 397, 3) := by decide +kernel
theorem dX12_simplifies_235 : decode cX12_simplifies 235 = .ok (.ifCond .eq 58, 3) := by decide +kernel
theorem dX12_simplifies_238 : decode cX12_simplifies 238 = .ok (.aload_n 0, 1) := by decide +kernel
theorem dX12_simplifies_239 : decode cX12_simplifies 239 = .ok (.getfield 85, 3) := by decide +kernel
theorem dX12_simplifies_242 : decode cX12_simplifies 242 = .ok (.iload_n 3, 1) := by decide +kernel
theorem dX12_simplifies_243 : decode cX12_simplifies 243 = .ok (.iconst 1, 1) := by decide +kernel
theorem dX12_simplifies_244 : decode cX12_simplifies 244 = .ok (.bastore, 1) := by decide +kernel
theorem dX12_simplifies_245 : decode cX12_simplifies 245 = .ok (.aload_n 0, 1) := by decide +kernel
theorem dX12_simplifies_246 : decode cX12_simplifies 246 = .ok (.getfield 43, 3) := by decide +kernel
theorem dX12_simplifies_249 : decode cX12_simplifies 249 = .ok (.iload_n 2, 1) := by decide +kernel
theorem dX12_simplifies_250 : decode cX12_simplifies 250 = .ok (.iaload, 1) := by decide +kernel
theorem dX12_simplifies_251 : decode cX12_simplifies 251 = .ok (.istore 6, 2) := by decide +kernel
theorem dX12_simplifies_253 : decode cX12_simplifies 253 = .ok (.iload 6, 2) := by decide +kernel
theorem dX12_simplifies_255 : decode cX12_simplifies 255 = .ok (.aload_n 0, 1) := by decide +kernel
theorem dX12_simplifies_256 : decode cX12_simplifies 256 = .ok (.getfield 40, 3) := by decide +kernel
theorem dX12_simplifies_259 : decode cX12_simplifies 259 = .ok (.iload_n 2, 1) := by decide +kernel
theorem dX12_simplifies_260 : decode cX12_simplifies 260 = .ok (.iaload, 1) := by decide +kernel
theorem dX12_simplifies_261 : decode cX12_simplifies 261 = .ok (.if_icmp .ge 22, 3) := by decide +kernel
theorem dX12_simplifies_264 : decode cX12_simplifies 264 = .ok (.aload_n 0, 1) := by decide +kernel
theorem dX12_simplifies_265 : decode cX12_simplifies 265 = .ok (.getfield 81, 3) := by decide +kernel
theorem dX12_simplifies_268 : decode cX12_simplifies 268 = .ok (.iload 6, 2) := by decide +kernel
theorem dX12_simplifies_270 : decode cX12_simplifies 270 = .ok (.bipush 96, 2) := by decide +kernel
theorem dX12_simplifies_272 : decode cX12_simplifies 272 = .ok (.iload_n 1, 1) := by decide +kernel
theorem dX12_simplifies_273 : decode cX12_simplifies 273 = .ok (.imul, 1) := by decide +kernel
theorem dX12_simplifies_274 : decode cX12_simplifies 274 = .ok (.isub, 1) := by decide +kernel
theorem dX12_simplifies_275 : decode cX12_simplifies 275 = .ok (.iconst 1, 1) := by decide +kernel
theorem dX12_simplifies_276 : decode cX12_simplifies 276 = .ok (.bastore, 1) := by decide +kernel
theorem dX12_simplifies_277 : decode cX12_simplifies 277 = .ok (.iinc 6 1, 3) := by decide +kernel
theorem dX12_simplifies_280 : decode cX12_simplifies 280 = .ok (.goto (-27), 3) := by decide +kernel
theorem dX12_simplifies_283 : decode cX12_simplifies 283 = .ok (.aload_n 0, 1) := by decide +kernel
theorem dX12_simplifies_284 : decode cX12_simplifies 284 = .ok (.dup, 1) := by decide +kernel
theorem dX12_simplifies_285 : decode cX12_simplifies 285 = .ok (.getfield 394, 3) := by decide +kernel
theorem dX12_simplifies_288 : decode cX12_simplifies 288 = .ok (.iconst 1, 1) := by decide +kernel
theorem dX12_simplifies_289 : decode cX12_simplifies 289 = .ok (.iadd, 1) := by decide +kernel
theorem dX12_simplifies_290 : decode cX12_simplifies 290 = .ok (.putfield 394, 3) := by decide +kernel
theorem dX12_simplifies_293 : decode cX12_simplifies 293 = .ok (.return_, 1) := by decide +kernel
def m_X12_simplifies_283  (Q : Hp → Prop) (h : Hp) : Prop := Q (wI h 51 41 ((hI h 51 41) + 1))
set_option maxHeartbeats 4000000 in
set_option maxRecDepth 100000 in
theorem s_X12_simplifies_283 {l : Launch} {G : Cx} {d : Nat} {h0 : Hp} (hd : 10 ≤ d) {Q : Hp → Prop} {h : Hp} (hm : m_X12_simplifies_283 Q h) : Rn l G d 0 0 MX12_simplifies h0 (qV Q) 283 [some (tR 12 0 (some 51))] [] h 0 0 := by
  unfold m_X12_simplifies_283 at hm
  refine r_aload_n dX12_simplifies_283 rfl rfl ?_
  refine r_dup dX12_simplifies_284 cv_cat1R ?_
  refine r_getI (k := 41) cl_12 dX12_simplifies_285 t_1313 (Or.inl rfl) gf_12_41 ?_
  refine r_iconst (v := 1) dX12_simplifies_288 rfl ?_
  refine r_iadd dX12_simplifies_289 ?_
  refine r_putI0 (k := 41) cl_12 dX12_simplifies_290 t_1313 (Or.inl rfl) gf_12_41 pf_12_41.1 (Or.inl pf_12_41.2) ?_
  exact r_return dX12_simplifies_293 rfl ⟨by decide, by decide⟩ ⟨rfl, hm⟩
def m_X12_simplifies_253 : Nat → (Hp → Prop) → (Hp → Prop) → Int32 → Int32 → Int32 → Hp → Prop
  | 0, _, _, _, _, _, _ => False
  | n + 1, k283, Q, v1, v2, v6, h => vp_in v2 2304 ∧ (((hI h 62 (ix v2)) ≤ v6 → k283 h) ∧ (¬ (hI h 62 (ix v2)) ≤ v6 → vp_in (v6 - (96 * v1)) 96 ∧ (∀ x1 : Int32, x1 = v6 + 1 → m_X12_simplifies_253 n k283 Q v1 v2 x1 (wI h 74 (ix (v6 - (96 * v1))) (1 &&& 1)))))
set_option maxHeartbeats 4000000 in
set_option maxRecDepth 100000 in
theorem s_X12_simplifies_253 {l : Launch} {G : Cx} {d : Nat} {h0 : Hp} (hd : 10 ≤ d) {k283 : Hp → Prop} {Q : Hp → Prop} (hk283 : ∀ (hh : Hp), k283 hh → Rn l G d 0 0 MX12_simplifies h0 (qV Q) 283 [some (tR 12 0 (some 51))] [] hh 0 0) : ∀ {n : Nat} {v1 : Int32} {v2 : Int32} {v6 : Int32} {h : Hp}, m_X12_simplifies_253 n k283 Q v1 v2 v6 h → Rn l G d 0 0 MX12_simplifies h0 (qV Q) 253 [some (tR 12 0 (some 51)), some (tI v1), some (tI v2), none, none, none, some (tI v6)] [] h 0 0 := by
  intro n
  induction n with
  | zero => intro v1 v2 v6 h hm; exact hm.elim
  | succ n ih =>
    intro v1 v2 v6 h hm
    have hk253 := fun (v1 : Int32) (v2 : Int32) (v6 : Int32) (hh : Hp) (hm : m_X12_simplifies_253 n k283 Q v1 v2 v6 hh) => ih hm
    rw [m_X12_simplifies_253] at hm
    refine r_iload dX12_simplifies_253 rfl ?_
    refine r_aload_n dX12_simplifies_255 rfl rfl ?_
    refine r_getC (k := 11) cl_12 dX12_simplifies_256 t_1283 gf_12_11.1 gf_12_11.2 (gc_12_11 _) ?_
    refine r_iload_n dX12_simplifies_259 rfl rfl ?_
    refine r_iald dX12_simplifies_260 hm.1 ?_
    replace hm := hm.2
    refine r_icmp_ge (tgt := 283) dX12_simplifies_261 rfl (fun hc => ?_) (fun hc => ?_)
    · replace hm := hm.1 hc
      refine r_keep (L' := [some (tR 12 0 (some 51))]) [true] rfl ?_
      exact hk283 _ hm
    · replace hm := hm.2 hc
      refine r_aload_n dX12_simplifies_264 rfl rfl ?_
      refine r_getC (k := 38) cl_12 dX12_simplifies_265 t_1310 gf_12_38.1 gf_12_38.2 (gc_12_38 _) ?_
      refine r_iload dX12_simplifies_268 rfl ?_
      refine r_bipush (v := 96) dX12_simplifies_270 rfl ?_
      refine r_iload_n dX12_simplifies_272 rfl rfl ?_
      refine r_imul dX12_simplifies_273 ?_
      refine r_isub dX12_simplifies_274 ?_
      refine r_iconst (v := 1) dX12_simplifies_275 rfl ?_
      refine r_zast dX12_simplifies_276 hm.1 ?_
      replace hm := hm.2
      obtain ⟨x1, e_x1⟩ : ∃ y : Int32, y = v6 + 1 := ⟨_, rfl⟩
      replace hm := hm x1 e_x1
      refine r_iinc (L' := [some (tR 12 0 (some 51)), some (tI v1), some (tI v2), none, none, none, some (tI x1)]) dX12_simplifies_277 rfl (by rw [e_x1]; rfl) (by decide) rfl ?_
      refine r_goto (tgt := 253) dX12_simplifies_280 rfl ?_
      refine r_keep (L' := [some (tR 12 0 (some 51)), some (tI v1), some (tI v2), none, none, none, some (tI x1)]) [true, true, true, false, false, false, true] rfl ?_
      exact hk253 _ _ _ _ hm
def m_X12_simplifies_218  (Q : Hp → Prop) (v1 : Int32) (v2 : Int32) (v3 : Int32) (h : Hp) : Prop := vp_in v2 2304 ∧ (((hI h 58 (ix v2)) < 6 → Q h) ∧ (¬ (hI h 58 (ix v2)) < 6 → m_X12_areAlike v1 v2 h (fun (x2 : Int32) (h3 : Hp) => (x2 = 0 → Q h3) ∧ (¬ x2 = 0 → vp_in v3 96 ∧ (vp_in v2 2304 ∧ (∀ x4 : Int32, x4 = (hI (wI h3 75 (ix v3) (1 &&& 1)) 63 (ix v2)) → ∃ n253, m_X12_simplifies_253 n253 (m_X12_simplifies_283 Q) Q v1 v2 x4 (wI h3 75 (ix v3) (1 &&& 1))))))))
set_option maxHeartbeats 4000000 in
set_option maxRecDepth 100000 in
theorem s_X12_simplifies_218 {l : Launch} {G : Cx} {d : Nat} {h0 : Hp} (hd : 10 ≤ d) {Q : Hp → Prop} {v1 : Int32} {v2 : Int32} {v3 : Int32} {h : Hp} (hm : m_X12_simplifies_218 Q v1 v2 v3 h) : Rn l G d 0 0 MX12_simplifies h0 (qV Q) 218 [some (tR 12 0 (some 51)), some (tI v1), some (tI v2), some (tI v3)] [] h 0 0 := by
  unfold m_X12_simplifies_218 at hm
  refine r_aload_n dX12_simplifies_218 rfl rfl ?_
  refine r_getC (k := 7) cl_12 dX12_simplifies_219 t_1279 gf_12_7.1 gf_12_7.2 (gc_12_7 _) ?_
  refine r_iload_n dX12_simplifies_222 rfl rfl ?_
  refine r_iald dX12_simplifies_223 hm.1 ?_
  replace hm := hm.2
  refine r_bipush (v := 6) dX12_simplifies_224 rfl ?_
  refine r_icmp_lt (tgt := 293) dX12_simplifies_226 rfl (fun hc => ?_) (fun hc => ?_)
  · replace hm := hm.1 hc
    exact r_return dX12_simplifies_293 rfl ⟨by decide, by decide⟩ ⟨rfl, hm⟩
  · replace hm := hm.2 hc
    refine r_aload_n dX12_simplifies_229 rfl rfl ?_
    refine r_iload_n dX12_simplifies_230 rfl rfl ?_
    refine r_iload_n dX12_simplifies_231 rfl rfl ?_
    refine r_callVI (d' := d - 1) (as := [tI v1, tI v2]) (st := []) cl_12 dX12_simplifies_232 mi_X12_areAlike t_1705 t_1707 ts_80 rfl rfl (Nat.le_of_ble_eq_true rfl) (by omega) ⟨by decide, by decide⟩ ⟨rfl, rfl⟩ (s_X12_areAlike (by omega) hm) (fun x2 h3 hm => ?_)
    refine r_if_eq (tgt := 293) dX12_simplifies_235 rfl (fun hc => ?_) (fun hc => ?_)
    · replace hm := hm.1 hc
      exact r_return dX12_simplifies_293 rfl ⟨by decide, by decide⟩ ⟨rfl, hm⟩
    · replace hm := hm.2 hc
      refine r_aload_n dX12_simplifies_238 rfl rfl ?_
      refine r_getC (k := 39) cl_12 dX12_simplifies_239 t_1311 gf_12_39.1 gf_12_39.2 (gc_12_39 _) ?_
      refine r_iload_n dX12_simplifies_242 rfl rfl ?_
      refine r_iconst (v := 1) dX12_simplifies_243 rfl ?_
      refine r_zast dX12_simplifies_244 hm.1 ?_
      replace hm := hm.2
      refine r_aload_n dX12_simplifies_245 rfl rfl ?_
      refine r_getC (k := 12) cl_12 dX12_simplifies_246 t_1284 gf_12_12.1 gf_12_12.2 (gc_12_12 _) ?_
      refine r_iload_n dX12_simplifies_249 rfl rfl ?_
      refine r_iald dX12_simplifies_250 hm.1 ?_
      replace hm := hm.2
      refine r_nmI (fun x4 e_x4 => ?_)
      replace hm := hm x4 e_x4
      refine r_istore (L' := [some (tR 12 0 (some 51)), some (tI v1), some (tI v2), some (tI v3), none, none, some (tI x4)]) dX12_simplifies_251 (by decide) rfl ?_
      refine r_keep (L' := [some (tR 12 0 (some 51)), some (tI v1), some (tI v2), none, none, none, some (tI x4)]) [true, true, true, false, false, false, true] rfl ?_
      obtain ⟨n, hm⟩ := hm
      refine s_X12_simplifies_253 hd ?_ hm
      · exact (fun _ hm => s_X12_simplifies_283 hd hm)
def m_X12_simplifies_144  (Q : Hp → Prop) (v1 : Int32) (v2 : Int32) (v3 : Int32) (v4 : Int32) (v5 : Int32) (h : Hp) : Prop := vp_in v2 2304 ∧ ((¬ (hI h 58 (ix v2)) = 4 → m_X12_simplifies_218 Q v1 v2 v3 h) ∧ ((hI h 58 (ix v2)) = 4 → (¬ v4 = 1 → m_X12_simplifies_218 Q v1 v2 v3 h) ∧ (v4 = 1 → vp_in v5 2304 ∧ ((¬ (hI h 58 (ix v5)) = 4 → m_X12_simplifies_218 Q v1 v2 v3 h) ∧ ((hI h 58 (ix v5)) = 4 → vp_in v3 96 ∧ (vp_in (v5 - (96 * v1)) 96 ∧ (vp_in v3 96 ∧ (vp_in (v5 - (96 * v1)) 96 ∧ (Q (wI (wI (wI h 76 (ix v3) ((hI h 76 (ix v3)) + (hI h 76 (ix (v5 - (96 * v1)))))) 75 (ix (v5 - (96 * v1))) (1 &&& 1)) 51 41 ((hI (wI (wI h 76 (ix v3) ((hI h 76 (ix v3)) + (hI h 76 (ix (v5 - (96 * v1)))))) 75 (ix (v5 - (96 * v1))) (1 &&& 1)) 51 41) + 1)))))))))))
set_option maxHeartbeats 4000000 in
set_option maxRecDepth 100000 in
theorem s_X12_simplifies_144 {l : Launch} {G : Cx} {d : Nat} {h0 : Hp} (hd : 10 ≤ d) {Q : Hp → Prop} {v1 : Int32} {v2 : Int32} {v3 : Int32} {v4 : Int32} {v5 : Int32} {h : Hp} (hm : m_X12_simplifies_144 Q v1 v2 v3 v4 v5 h) : Rn l G d 0 0 MX12_simplifies h0 (qV Q) 144 [some (tR 12 0 (some 51)), some (tI v1), some (tI v2), some (tI v3), some (tI v4), some (tI v5)] [] h 0 0 := by
  unfold m_X12_simplifies_144 at hm
  refine r_aload_n dX12_simplifies_144 rfl rfl ?_
  refine r_getC (k := 7) cl_12 dX12_simplifies_145 t_1279 gf_12_7.1 gf_12_7.2 (gc_12_7 _) ?_
  refine r_iload_n dX12_simplifies_148 rfl rfl ?_
  refine r_iald dX12_simplifies_149 hm.1 ?_
  replace hm := hm.2
  refine r_iconst (v := 4) dX12_simplifies_150 rfl ?_
  refine r_icmp_ne (tgt := 218) dX12_simplifies_151 rfl (fun hc => ?_) (fun hc => ?_)
  · replace hm := hm.1 hc
    refine r_keep (L' := [some (tR 12 0 (some 51)), some (tI v1), some (tI v2), some (tI v3)]) [true, true, true, true] rfl ?_
    exact s_X12_simplifies_218 hd hm
  · replace hm := hm.2 hc
    refine r_iload dX12_simplifies_154 rfl ?_
    refine r_iconst (v := 1) dX12_simplifies_156 rfl ?_
    refine r_icmp_ne (tgt := 218) dX12_simplifies_157 rfl (fun hc => ?_) (fun hc => ?_)
    · replace hm := hm.1 hc
      refine r_keep (L' := [some (tR 12 0 (some 51)), some (tI v1), some (tI v2), some (tI v3)]) [true, true, true, true] rfl ?_
      exact s_X12_simplifies_218 hd hm
    · replace hm := hm.2 hc
      refine r_aload_n dX12_simplifies_160 rfl rfl ?_
      refine r_getC (k := 7) cl_12 dX12_simplifies_161 t_1279 gf_12_7.1 gf_12_7.2 (gc_12_7 _) ?_
      refine r_iload dX12_simplifies_164 rfl ?_
      refine r_iald dX12_simplifies_166 hm.1 ?_
      replace hm := hm.2
      refine r_iconst (v := 4) dX12_simplifies_167 rfl ?_
      refine r_icmp_ne (tgt := 218) dX12_simplifies_168 rfl (fun hc => ?_) (fun hc => ?_)
      · replace hm := hm.1 hc
        refine r_keep (L' := [some (tR 12 0 (some 51)), some (tI v1), some (tI v2), some (tI v3)]) [true, true, true, true] rfl ?_
        exact s_X12_simplifies_218 hd hm
      · replace hm := hm.2 hc
        refine r_aload_n dX12_simplifies_171 rfl rfl ?_
        refine r_getC (k := 40) cl_12 dX12_simplifies_172 t_1312 gf_12_40.1 gf_12_40.2 (gc_12_40 _) ?_
        refine r_iload_n dX12_simplifies_175 rfl rfl ?_
        refine r_dup2 dX12_simplifies_176 rfl cv_cat1R ?_
        refine r_iald dX12_simplifies_177 hm.1 ?_
        replace hm := hm.2
        refine r_aload_n dX12_simplifies_178 rfl rfl ?_
        refine r_getC (k := 40) cl_12 dX12_simplifies_179 t_1312 gf_12_40.1 gf_12_40.2 (gc_12_40 _) ?_
        refine r_iload dX12_simplifies_182 rfl ?_
        refine r_bipush (v := 96) dX12_simplifies_184 rfl ?_
        refine r_iload_n dX12_simplifies_186 rfl rfl ?_
        refine r_imul dX12_simplifies_187 ?_
        refine r_isub dX12_simplifies_188 ?_
        refine r_iald dX12_simplifies_189 hm.1 ?_
        replace hm := hm.2
        refine r_iadd dX12_simplifies_190 ?_
        refine r_iast dX12_simplifies_191 hm.1 ?_
        replace hm := hm.2
        refine r_aload_n dX12_simplifies_192 rfl rfl ?_
        refine r_getC (k := 39) cl_12 dX12_simplifies_193 t_1311 gf_12_39.1 gf_12_39.2 (gc_12_39 _) ?_
        refine r_iload dX12_simplifies_196 rfl ?_
        refine r_bipush (v := 96) dX12_simplifies_198 rfl ?_
        refine r_iload_n dX12_simplifies_200 rfl rfl ?_
        refine r_imul dX12_simplifies_201 ?_
        refine r_isub dX12_simplifies_202 ?_
        refine r_iconst (v := 1) dX12_simplifies_203 rfl ?_
        refine r_zast dX12_simplifies_204 hm.1 ?_
        replace hm := hm.2
        refine r_aload_n dX12_simplifies_205 rfl rfl ?_
        refine r_dup dX12_simplifies_206 cv_cat1R ?_
        refine r_getI (k := 41) cl_12 dX12_simplifies_207 t_1313 (Or.inl rfl) gf_12_41 ?_
        refine r_iconst (v := 1) dX12_simplifies_210 rfl ?_
        refine r_iadd dX12_simplifies_211 ?_
        refine r_putI0 (k := 41) cl_12 dX12_simplifies_212 t_1313 (Or.inl rfl) gf_12_41 pf_12_41.1 (Or.inl pf_12_41.2) ?_
        refine r_goto (tgt := 293) dX12_simplifies_215 rfl ?_
        exact r_return dX12_simplifies_293 rfl ⟨by decide, by decide⟩ ⟨rfl, hm⟩
def m_X12_simplifies_124  (Q : Hp → Prop) (v3 : Int32) (h : Hp) : Prop := vp_in v3 96 ∧ (Q (wI (wI h 75 (ix v3) (1 &&& 1)) 51 41 ((hI (wI h 75 (ix v3) (1 &&& 1)) 51 41) + 1)))
set_option maxHeartbeats 4000000 in
set_option maxRecDepth 100000 in
theorem s_X12_simplifies_124 {l : Launch} {G : Cx} {d : Nat} {h0 : Hp} (hd : 10 ≤ d) {Q : Hp → Prop} {v3 : Int32} {h : Hp} (hm : m_X12_simplifies_124 Q v3 h) : Rn l G d 0 0 MX12_simplifies h0 (qV Q) 124 [some (tR 12 0 (some 51)), none, none, some (tI v3)] [] h 0 0 := by
  unfold m_X12_simplifies_124 at hm
  refine r_aload_n dX12_simplifies_124 rfl rfl ?_
  refine r_getC (k := 39) cl_12 dX12_simplifies_125 t_1311 gf_12_39.1 gf_12_39.2 (gc_12_39 _) ?_
  refine r_iload_n dX12_simplifies_128 rfl rfl ?_
  refine r_iconst (v := 1) dX12_simplifies_129 rfl ?_
  refine r_zast dX12_simplifies_130 hm.1 ?_
  replace hm := hm.2
  refine r_aload_n dX12_simplifies_131 rfl rfl ?_
  refine r_dup dX12_simplifies_132 cv_cat1R ?_
  refine r_getI (k := 41) cl_12 dX12_simplifies_133 t_1313 (Or.inl rfl) gf_12_41 ?_
  refine r_iconst (v := 1) dX12_simplifies_136 rfl ?_
  refine r_iadd dX12_simplifies_137 ?_
  refine r_putI0 (k := 41) cl_12 dX12_simplifies_138 t_1313 (Or.inl rfl) gf_12_41 pf_12_41.1 (Or.inl pf_12_41.2) ?_
  refine r_goto (tgt := 293) dX12_simplifies_141 rfl ?_
  exact r_return dX12_simplifies_293 rfl ⟨by decide, by decide⟩ ⟨rfl, hm⟩
def m_X12_simplifies_104  (Q : Hp → Prop) (v1 : Int32) (v2 : Int32) (v3 : Int32) (v4 : Int32) (v5 : Int32) (h : Hp) : Prop := vp_in v2 2304 ∧ ((¬ (hI h 58 (ix v2)) = 5 → m_X12_simplifies_144 Q v1 v2 v3 v4 v5 h) ∧ ((hI h 58 (ix v2)) = 5 → vp_in v2 2304 ∧ ((¬ (hI h 59 (ix v2)) = 1 → m_X12_simplifies_144 Q v1 v2 v3 v4 v5 h) ∧ ((hI h 59 (ix v2)) = 1 → m_X12_simplifies_124 Q v3 h))))
set_option maxHeartbeats 4000000 in
set_option maxRecDepth 100000 in
theorem s_X12_simplifies_104 {l : Launch} {G : Cx} {d : Nat} {h0 : Hp} (hd : 10 ≤ d) {Q : Hp → Prop} {v1 : Int32} {v2 : Int32} {v3 : Int32} {v4 : Int32} {v5 : Int32} {h : Hp} (hm : m_X12_simplifies_104 Q v1 v2 v3 v4 v5 h) : Rn l G d 0 0 MX12_simplifies h0 (qV Q) 104 [some (tR 12 0 (some 51)), some (tI v1), some (tI v2), some (tI v3), some (tI v4), some (tI v5)] [] h 0 0 := by
  unfold m_X12_simplifies_104 at hm
  refine r_aload_n dX12_simplifies_104 rfl rfl ?_
  refine r_getC (k := 7) cl_12 dX12_simplifies_105 t_1279 gf_12_7.1 gf_12_7.2 (gc_12_7 _) ?_
  refine r_iload_n dX12_simplifies_108 rfl rfl ?_
  refine r_iald dX12_simplifies_109 hm.1 ?_
  replace hm := hm.2
  refine r_iconst (v := 5) dX12_simplifies_110 rfl ?_
  refine r_icmp_ne (tgt := 144) dX12_simplifies_111 rfl (fun hc => ?_) (fun hc => ?_)
  · replace hm := hm.1 hc
    refine r_keep (L' := [some (tR 12 0 (some 51)), some (tI v1), some (tI v2), some (tI v3), some (tI v4), some (tI v5)]) [true, true, true, true, true, true] rfl ?_
    exact s_X12_simplifies_144 hd hm
  · replace hm := hm.2 hc
    refine r_aload_n dX12_simplifies_114 rfl rfl ?_
    refine r_getC (k := 8) cl_12 dX12_simplifies_115 t_1280 gf_12_8.1 gf_12_8.2 (gc_12_8 _) ?_
    refine r_iload_n dX12_simplifies_118 rfl rfl ?_
    refine r_iald dX12_simplifies_119 hm.1 ?_
    replace hm := hm.2
    refine r_iconst (v := 1) dX12_simplifies_120 rfl ?_
    refine r_icmp_ne (tgt := 144) dX12_simplifies_121 rfl (fun hc => ?_) (fun hc => ?_)
    · replace hm := hm.1 hc
      refine r_keep (L' := [some (tR 12 0 (some 51)), some (tI v1), some (tI v2), some (tI v3), some (tI v4), some (tI v5)]) [true, true, true, true, true, true] rfl ?_
      exact s_X12_simplifies_144 hd hm
    · replace hm := hm.2 hc
      refine r_keep (L' := [some (tR 12 0 (some 51)), none, none, some (tI v3)]) [true, false, false, true] rfl ?_
      exact s_X12_simplifies_124 hd hm
def m_X12_simplifies_85  (Q : Hp → Prop) (v1 : Int32) (v2 : Int32) (v3 : Int32) (v4 : Int32) (v5 : Int32) (h : Hp) : Prop := vp_in v2 2304 ∧ ((¬ (hI h 58 (ix v2)) = 4 → m_X12_simplifies_104 Q v1 v2 v3 v4 v5 h) ∧ ((hI h 58 (ix v2)) = 4 → vp_in v2 2304 ∧ (((hI h 59 (ix v2)) = 0 → m_X12_simplifies_124 Q v3 h) ∧ (¬ (hI h 59 (ix v2)) = 0 → m_X12_simplifies_104 Q v1 v2 v3 v4 v5 h))))
set_option maxHeartbeats 4000000 in
set_option maxRecDepth 100000 in
theorem s_X12_simplifies_85 {l : Launch} {G : Cx} {d : Nat} {h0 : Hp} (hd : 10 ≤ d) {Q : Hp → Prop} {v1 : Int32} {v2 : Int32} {v3 : Int32} {v4 : Int32} {v5 : Int32} {h : Hp} (hm : m_X12_simplifies_85 Q v1 v2 v3 v4 v5 h) : Rn l G d 0 0 MX12_simplifies h0 (qV Q) 85 [some (tR 12 0 (some 51)), some (tI v1), some (tI v2), some (tI v3), some (tI v4), some (tI v5)] [] h 0 0 := by
  unfold m_X12_simplifies_85 at hm
  refine r_aload_n dX12_simplifies_85 rfl rfl ?_
  refine r_getC (k := 7) cl_12 dX12_simplifies_86 t_1279 gf_12_7.1 gf_12_7.2 (gc_12_7 _) ?_
  refine r_iload_n dX12_simplifies_89 rfl rfl ?_
  refine r_iald dX12_simplifies_90 hm.1 ?_
  replace hm := hm.2
  refine r_iconst (v := 4) dX12_simplifies_91 rfl ?_
  refine r_icmp_ne (tgt := 104) dX12_simplifies_92 rfl (fun hc => ?_) (fun hc => ?_)
  · replace hm := hm.1 hc
    refine r_keep (L' := [some (tR 12 0 (some 51)), some (tI v1), some (tI v2), some (tI v3), some (tI v4), some (tI v5)]) [true, true, true, true, true, true] rfl ?_
    exact s_X12_simplifies_104 hd hm
  · replace hm := hm.2 hc
    refine r_aload_n dX12_simplifies_95 rfl rfl ?_
    refine r_getC (k := 8) cl_12 dX12_simplifies_96 t_1280 gf_12_8.1 gf_12_8.2 (gc_12_8 _) ?_
    refine r_iload_n dX12_simplifies_99 rfl rfl ?_
    refine r_iald dX12_simplifies_100 hm.1 ?_
    replace hm := hm.2
    refine r_if_eq (tgt := 124) dX12_simplifies_101 rfl (fun hc => ?_) (fun hc => ?_)
    · replace hm := hm.1 hc
      refine r_keep (L' := [some (tR 12 0 (some 51)), none, none, some (tI v3)]) [true, false, false, true] rfl ?_
      exact s_X12_simplifies_124 hd hm
    · replace hm := hm.2 hc
      refine r_keep (L' := [some (tR 12 0 (some 51)), some (tI v1), some (tI v2), some (tI v3), some (tI v4), some (tI v5)]) [true, true, true, true, true, true] rfl ?_
      exact s_X12_simplifies_104 hd hm
def m_X12_simplifies_65  (Q : Hp → Prop) (v3 : Int32) (h : Hp) : Prop := vp_in v3 96 ∧ (Q (wI (wI h 74 (ix v3) (1 &&& 1)) 51 41 ((hI (wI h 74 (ix v3) (1 &&& 1)) 51 41) + 1)))
set_option maxHeartbeats 4000000 in
set_option maxRecDepth 100000 in
theorem s_X12_simplifies_65 {l : Launch} {G : Cx} {d : Nat} {h0 : Hp} (hd : 10 ≤ d) {Q : Hp → Prop} {v3 : Int32} {h : Hp} (hm : m_X12_simplifies_65 Q v3 h) : Rn l G d 0 0 MX12_simplifies h0 (qV Q) 65 [some (tR 12 0 (some 51)), none, none, some (tI v3)] [] h 0 0 := by
  unfold m_X12_simplifies_65 at hm
  refine r_aload_n dX12_simplifies_65 rfl rfl ?_
  refine r_getC (k := 38) cl_12 dX12_simplifies_66 t_1310 gf_12_38.1 gf_12_38.2 (gc_12_38 _) ?_
  refine r_iload_n dX12_simplifies_69 rfl rfl ?_
  refine r_iconst (v := 1) dX12_simplifies_70 rfl ?_
  refine r_zast dX12_simplifies_71 hm.1 ?_
  replace hm := hm.2
  refine r_aload_n dX12_simplifies_72 rfl rfl ?_
  refine r_dup dX12_simplifies_73 cv_cat1R ?_
  refine r_getI (k := 41) cl_12 dX12_simplifies_74 t_1313 (Or.inl rfl) gf_12_41 ?_
  refine r_iconst (v := 1) dX12_simplifies_77 rfl ?_
  refine r_iadd dX12_simplifies_78 ?_
  refine r_putI0 (k := 41) cl_12 dX12_simplifies_79 t_1313 (Or.inl rfl) gf_12_41 pf_12_41.1 (Or.inl pf_12_41.2) ?_
  refine r_goto (tgt := 293) dX12_simplifies_82 rfl ?_
  exact r_return dX12_simplifies_293 rfl ⟨by decide, by decide⟩ ⟨rfl, hm⟩
def m_X12_simplifies (v1 : Int32) (v2 : Int32) (h : Hp) (Q : Hp → Prop) : Prop := ∀ x5 : Int32, x5 = (v2 - (96 * v1)) → vp_in v2 2304 ∧ (vp_in x5 96 ∧ (vp_in v2 2304 ∧ (m_X12_partsLeft v1 (v2 + 1) (hI (wI h 76 (ix x5) (hI h 59 (ix v2))) 62 (ix v2)) (wI h 76 (ix x5) (hI h 59 (ix v2))) (fun (x6 : Int32) (h7 : Hp) => ∀ x8 : Int32, x8 = (hI h7 51 43) → (x6 = 0 → m_X12_simplifies_65 Q x5 h7) ∧ (¬ x6 = 0 → vp_in v2 2304 ∧ ((¬ (hI h7 58 (ix v2)) = 5 → m_X12_simplifies_85 Q v1 v2 x5 x6 x8 h7) ∧ ((hI h7 58 (ix v2)) = 5 → vp_in v2 2304 ∧ ((¬ (hI h7 59 (ix v2)) = 0 → m_X12_simplifies_85 Q v1 v2 x5 x6 x8 h7) ∧ ((hI h7 59 (ix v2)) = 0 → m_X12_simplifies_65 Q x5 h7)))))))))
set_option maxHeartbeats 4000000 in
set_option maxRecDepth 100000 in
theorem s_X12_simplifies {l : Launch} {G : Cx} {d : Nat} (hd : 10 ≤ d) {v1 : Int32} {v2 : Int32} {h : Hp} {Q : Hp → Prop} (hm : m_X12_simplifies v1 v2 h Q) : Ct l G d 0 0 yX12_simplifies MX12_simplifies [tR 12 0 (some 51), tI v1, tI v2] h (qV Q) := by
  unfold m_X12_simplifies at hm
  refine Ct.of (L := [some (tR 12 0 (some 51)), some (tI v1), some (tI v2)]) (by decide) rfl rfl (Nat.le_of_ble_eq_true rfl) rfl ?_
  refine r_iload_n dX12_simplifies_0 rfl rfl ?_
  refine r_bipush (v := 96) dX12_simplifies_1 rfl ?_
  refine r_iload_n dX12_simplifies_3 rfl rfl ?_
  refine r_imul dX12_simplifies_4 ?_
  refine r_isub dX12_simplifies_5 ?_
  refine r_nmI (fun x5 e_x5 => ?_)
  replace hm := hm x5 e_x5
  refine r_istore_n (L' := [some (tR 12 0 (some 51)), some (tI v1), some (tI v2), some (tI x5)]) dX12_simplifies_6 rfl (by decide) rfl ?_
  refine r_aload_n dX12_simplifies_7 rfl rfl ?_
  refine r_getC (k := 40) cl_12 dX12_simplifies_8 t_1312 gf_12_40.1 gf_12_40.2 (gc_12_40 _) ?_
  refine r_iload_n dX12_simplifies_11 rfl rfl ?_
  refine r_aload_n dX12_simplifies_12 rfl rfl ?_
  refine r_getC (k := 8) cl_12 dX12_simplifies_13 t_1280 gf_12_8.1 gf_12_8.2 (gc_12_8 _) ?_
  refine r_iload_n dX12_simplifies_16 rfl rfl ?_
  refine r_iald dX12_simplifies_17 hm.1 ?_
  replace hm := hm.2
  refine r_iast dX12_simplifies_18 hm.1 ?_
  replace hm := hm.2
  refine r_aload_n dX12_simplifies_19 rfl rfl ?_
  refine r_iload_n dX12_simplifies_20 rfl rfl ?_
  refine r_iload_n dX12_simplifies_21 rfl rfl ?_
  refine r_iconst (v := 1) dX12_simplifies_22 rfl ?_
  refine r_iadd dX12_simplifies_23 ?_
  refine r_aload_n dX12_simplifies_24 rfl rfl ?_
  refine r_getC (k := 11) cl_12 dX12_simplifies_25 t_1283 gf_12_11.1 gf_12_11.2 (gc_12_11 _) ?_
  refine r_iload_n dX12_simplifies_28 rfl rfl ?_
  refine r_iald dX12_simplifies_29 hm.1 ?_
  replace hm := hm.2
  refine r_callVI (d' := d - 1) (as := [tI v1, tI (v2 + 1), tI (hI (wI h 76 (ix x5) (hI h 59 (ix v2))) 62 (ix v2))]) (st := []) cl_12 dX12_simplifies_30 mi_X12_partsLeft t_1701 t_1703 ts_79 rfl rfl (Nat.le_of_ble_eq_true rfl) (by omega) ⟨by decide, by decide⟩ ⟨rfl, rfl⟩ (s_X12_partsLeft (by omega) hm) (fun x6 h7 hm => ?_)
  refine r_istore (L' := [some (tR 12 0 (some 51)), some (tI v1), some (tI v2), some (tI x5), some (tI x6)]) dX12_simplifies_33 (by decide) rfl ?_
  refine r_aload_n dX12_simplifies_35 rfl rfl ?_
  refine r_getI (k := 43) cl_12 dX12_simplifies_36 t_1315 (Or.inl rfl) gf_12_43 ?_
  refine r_nmI (fun x8 e_x8 => ?_)
  replace hm := hm x8 e_x8
  refine r_istore (L' := [some (tR 12 0 (some 51)), some (tI v1), some (tI v2), some (tI x5), some (tI x6), some (tI x8)]) dX12_simplifies_39 (by decide) rfl ?_
  refine r_iload dX12_simplifies_41 rfl ?_
  refine r_if_eq (tgt := 65) dX12_simplifies_43 rfl (fun hc => ?_) (fun hc => ?_)
  · replace hm := hm.1 hc
    refine r_keep (L' := [some (tR 12 0 (some 51)), none, none, some (tI x5)]) [true, false, false, true] rfl ?_
    exact s_X12_simplifies_65 hd hm
  · replace hm := hm.2 hc
    refine r_aload_n dX12_simplifies_46 rfl rfl ?_
    refine r_getC (k := 7) cl_12 dX12_simplifies_47 t_1279 gf_12_7.1 gf_12_7.2 (gc_12_7 _) ?_
    refine r_iload_n dX12_simplifies_50 rfl rfl ?_
    refine r_iald dX12_simplifies_51 hm.1 ?_
    replace hm := hm.2
    refine r_iconst (v := 5) dX12_simplifies_52 rfl ?_
    refine r_icmp_ne (tgt := 85) dX12_simplifies_53 rfl (fun hc => ?_) (fun hc => ?_)
    · replace hm := hm.1 hc
      refine r_keep (L' := [some (tR 12 0 (some 51)), some (tI v1), some (tI v2), some (tI x5), some (tI x6), some (tI x8)]) [true, true, true, true, true, true] rfl ?_
      exact s_X12_simplifies_85 hd hm
    · replace hm := hm.2 hc
      refine r_aload_n dX12_simplifies_56 rfl rfl ?_
      refine r_getC (k := 8) cl_12 dX12_simplifies_57 t_1280 gf_12_8.1 gf_12_8.2 (gc_12_8 _) ?_
      refine r_iload_n dX12_simplifies_60 rfl rfl ?_
      refine r_iald dX12_simplifies_61 hm.1 ?_
      replace hm := hm.2
      refine r_if_ne (tgt := 85) dX12_simplifies_62 rfl (fun hc => ?_) (fun hc => ?_)
      · replace hm := hm.1 hc
        refine r_keep (L' := [some (tR 12 0 (some 51)), some (tI v1), some (tI v2), some (tI x5), some (tI x6), some (tI x8)]) [true, true, true, true, true, true] rfl ?_
        exact s_X12_simplifies_85 hd hm
      · replace hm := hm.2 hc
        refine r_keep (L' := [some (tR 12 0 (some 51)), none, none, some (tI x5)]) [true, false, false, true] rfl ?_
        exact s_X12_simplifies_65 hd hm
theorem dX12_plain_0 : decode cX12_plain 0 = .ok (.aload_n 0, 1) := by decide +kernel
theorem dX12_plain_1 : decode cX12_plain 1 = .ok (.iload_n 1, 1) := by decide +kernel
theorem dX12_plain_2 : decode cX12_plain 2 = .ok (.invokevirtual 352, 3) := by decide +kernel
theorem dX12_plain_5 : decode cX12_plain 5 = .ok (.ifCond .eq 12, 3) := by decide +kernel
theorem dX12_plain_8 : decode cX12_plain 8 = .ok (.iload_n 2, 1) := by decide +kernel
theorem dX12_plain_9 : decode cX12_plain 9 = .ok (.iconst 0, 1) := by decide +kernel
theorem dX12_plain_10 : decode cX12_plain 10 = .ok (.iconst 1, 1) := by decide +kernel
theorem dX12_plain_11 : decode cX12_plain 11 = .ok (.invokestatic 185, 3) := by decide +kernel
theorem dX12_plain_14 : decode cX12_plain 14 = .ok (.ifCond .ne 5, 3) := by decide +kernel
theorem dX12_plain_17 : decode cX12_plain 17 = .ok (.iconst (-1), 1) := by decide +kernel
theorem dX12_plain_18 : decode cX12_plain 18 = .ok (.ireturn, 1) := by decide +kernel
theorem dX12_plain_19 : decode cX12_plain 19 = .ok (.aload_n 0, 1) := by decide +kernel
theorem dX12_plain_20 : decode cX12_plain 20 = .ok (.iconst 0, 1) := by decide +kernel
theorem dX12_plain_21 : decode cX12_plain 21 = .ok (.putfield 394, 3) := by decide +kernel
theorem dX12_plain_24 : decode cX12_plain 24 = .ok (.iconst 0, 1) := by decide +kernel
theorem dX12_plain_25 : decode cX12_plain 25 = .ok (.istore_n 3, 1) := by decide +kernel
theorem dX12_plain_26 : decode cX12_plain 26 = .ok (.iload_n 3, 1) := by decide +kernel
theorem dX12_plain_27 : decode cX12_plain 27 = .ok (.bipush 96, 2) := by decide +kernel
theorem dX12_plain_29 : decode cX12_plain 29 = .ok (.if_icmp .ge 23, 3) := by decide +kernel
theorem dX12_plain_32 : decode cX12_plain 32 = .ok (.aload_n 0, 1) := by decide +kernel
theorem dX12_plain_33 : decode cX12_plain 33 = .ok (.getfield 81, 3) := by decide +kernel
theorem dX12_plain_36 : decode cX12_plain 36 = .ok (.iload_n 3, 1) := by decide +kernel
theorem dX12_plain_37 : decode cX12_plain 37 = .ok (.iconst 0, 1) := by decide +kernel
theorem dX12_plain_38 : decode cX12_plain 38 = .ok (.bastore, 1) := by decide +kernel
theorem dX12_plain_39 : decode cX12_plain 39 = .ok (.aload_n 0, 1) := by decide +kernel
theorem dX12_plain_40 : decode cX12_plain 40 = .ok (.getfield 85, 3) := by decide +kernel
theorem dX12_plain_43 : decode cX12_plain 43 = .ok (.iload_n 3, 1) := by decide +kernel
theorem dX12_plain_44 : decode cX12_plain 44 = .ok (.iconst 0, 1) := by decide +kernel
theorem dX12_plain_45 : decode cX12_plain 45 = .ok (.bastore, 1) := by decide +kernel
theorem dX12_plain_46 : decode cX12_plain 46 = .ok (.iinc 3 1, 3) := by decide +kernel
theorem dX12_plain_49 : decode cX12_plain 49 = .ok (.goto (-23), 3) := by decide +kernel
theorem dX12_plain_52 : decode cX12_plain 52 = .ok (.bipush 96, 2) := by decide +kernel
theorem dX12_plain_54 : decode cX12_plain 54 = .ok (.iload_n 1, 1) := by decide +kernel
theorem dX12_plain_55 : decode cX12_plain 55 = .ok (.imul, 1) := by decide +kernel
theorem dX12_plain_56 : decode cX12_plain 56 = .ok (.aload_n 0, 1) := by decide +kernel
theorem dX12_plain_57 : decode cX12_plain 57 = .ok (.getfield 13, 3) := by decide +kernel
theorem dX12_plain_60 : decode cX12_plain 60 = .ok (.iload_n 1, 1) := by decide +kernel
theorem dX12_plain_61 : decode cX12_plain 61 = .ok (.iaload, 1) := by decide +kernel
theorem dX12_plain_62 : decode cX12_plain 62 = .ok (.iadd, 1) := by decide +kernel
theorem dX12_plain_63 : decode cX12_plain 63 = .ok (.iconst 1, 1) := by decide +kernel
theorem dX12_plain_64 : decode cX12_plain 64 = .ok (.isub, 1) := by decide +kernel
theorem dX12_plain_65 : decode cX12_plain 65 = .ok (.istore_n 3, 1) := by decide +kernel
theorem dX12_plain_66 : decode cX12_plain 66 = .ok (.iload_n 3, 1) := by decide +kernel
theorem dX12_plain_67 : decode cX12_plain 67 = .ok (.bipush 96, 2) := by decide +kernel
theorem dX12_plain_69 : decode cX12_plain 69 = .ok (.iload_n 1, 1) := by decide +kernel
theorem dX12_plain_70 : decode cX12_plain 70 = .ok (.imul, 1) := by decide +kernel
theorem dX12_plain_71 : decode cX12_plain 71 = .ok (.if_icmp .lt 23, 3) := by decide +kernel
theorem dX12_plain_74 : decode cX12_plain 74 = .ok (.aload_n 0, 1) := by decide +kernel
theorem dX12_plain_75 : decode cX12_plain 75 = .ok (.iload_n 3, 1) := by decide +kernel
theorem dX12_plain_76 : decode cX12_plain 76 = .ok (.invokevirtual 356, 3) := by decide +kernel
theorem dX12_plain_79 : decode cX12_plain 79 = .ok (.ifCond .ne 9, 3) := by decide +kernel
theorem dX12_plain_82 : decode cX12_plain 82 = .ok (.aload_n 0, 1) := by decide +kernel
theorem dX12_plain_83 : decode cX12_plain 83 = .ok (.iload_n 1, 1) := by decide +kernel
theorem dX12_plain_84 : decode cX12_plain 84 = .ok (.iload_n 3, 1) := by decide +kernel
theorem dX12_plain_85 : decode cX12_plain 85 = .ok (.invokevirtual 401, 3) := by decide +kernel
theorem dX12_plain_88 : decode cX12_plain 88 = .ok (.iinc 3 (-1), 3) := by decide +kernel
theorem dX12_plain_91 : decode cX12_plain 91 = .ok (.goto (-25), 3) := by decide +kernel
theorem dX12_plain_94 : decode cX12_plain 94 = .ok (.iconst 0, 1) := by decide +kernel
theorem dX12_plain_95 : decode cX12_plain 95 = .ok (.istore_n 3, 1) := by decide +kernel
theorem dX12_plain_96 : decode cX12_plain 96 = .ok (.bipush 96, 2) := by decide +kernel
theorem dX12_plain_98 : decode cX12_plain 98 = .ok (.iload_n 1, 1) := by decide +kernel
theorem dX12_plain_99 : decode cX12_plain 99 = .ok (.imul, 1) := by decide +kernel
theorem dX12_plain_100 : decode cX12_plain 100 = .ok (.istore 4, 2) := by decide +kernel
theorem dX12_plain_102 : decode cX12_plain 102 = .ok (.iload 4, 2) := by decide +kernel
theorem dX12_plain_104 : decode cX12_plain 104 = .ok (.bipush 96, 2) := by decide +kernel
theorem dX12_plain_106 : decode cX12_plain 106 = .ok (.iload_n 1, 1) := by decide +kernel
theorem dX12_plain_107 : decode cX12_plain 107 = .ok (.imul, 1) := by decide +kernel
theorem dX12_plain_108 : decode cX12_plain 108 = .ok (.aload_n 0, 1) := by decide +kernel
theorem dX12_plain_109 : decode cX12_plain 109 = .ok (.getfield 13, 3) := by decide +kernel
theorem dX12_plain_112 : decode cX12_plain 112 = .ok (.iload_n 1, 1) := by decide +kernel
theorem dX12_plain_113 : decode cX12_plain 113 = .ok (.iaload, 1) := by decide +kernel
theorem dX12_plain_114 : decode cX12_plain 114 = .ok (.iadd, 1) := by decide +kernel
theorem dX12_plain_115 : decode cX12_plain 115 = .ok (.if_icmp .ge 63, 3) := by decide +kernel
theorem dX12_plain_118 : decode cX12_plain 118 = .ok (.aload_n 0, 1) := by decide +kernel
theorem dX12_plain_119 : decode cX12_plain 119 = .ok (.getfield 81, 3) := by decide +kernel
theorem dX12_plain_122 : decode cX12_plain 122 = .ok (.iload 4, 2) := by decide +kernel
theorem dX12_plain_124 : decode cX12_plain 124 = .ok (.bipush 96, 2) := by decide +kernel
theorem dX12_plain_126 : decode cX12_plain 126 = .ok (.iload_n 1, 1) := by decide +kernel
theorem dX12_plain_127 : decode cX12_plain 127 = .ok (.imul, 1) := by decide +kernel
theorem dX12_plain_128 : decode cX12_plain 128 = .ok (.isub, 1) := by decide +kernel
theorem dX12_plain_129 : decode cX12_plain 129 = .ok (.baload, 1) := by decide +kernel
theorem dX12_plain_130 : decode cX12_plain 130 = .ok (.istore 5, 2) := by decide +kernel
theorem dX12_plain_132 : decode cX12_plain 132 = .ok (.iload_n 3, 1) := by decide +kernel
theorem dX12_plain_133 : decode cX12_plain 133 = .ok (.iload 5, 2) := by decide +kernel
theorem dX12_plain_135 : decode cX12_plain 135 = .ok (.ifCond .ne 16, 3) := by decide +kernel
theorem dX12_plain_138 : decode cX12_plain 138 = .ok (.aload_n 0, 1) := by decide +kernel
theorem dX12_plain_139 : decode cX12_plain 139 = .ok (.iload 4, 2) := by decide +kernel
theorem dX12_plain_141 : decode cX12_plain 141 = .ok (.invokevirtual 356, 3) := by decide +kernel
theorem dX12_plain_144 : decode cX12_plain 144 = .ok (.ifCond .eq 7, 3) := by decide +kernel
theorem dX12_plain_147 : decode cX12_plain 147 = .ok (.iconst 1, 1) := by decide +kernel
theorem dX12_plain_148 : decode cX12_plain 148 = .ok (.goto 4, 3) := by decide +kernel
theorem dX12_plain_151 : decode cX12_plain 151 = .ok (.iconst 0, 1) := by decide +kernel
theorem dX12_plain_152 : decode cX12_plain 152 = .ok (.iadd, 1) := by decide +kernel
theorem dX12_plain_153 : decode cX12_plain 153 = .ok (.istore_n 3, 1) := by decide +kernel
theorem dX12_plain_154 : decode cX12_plain 154 = .ok (.iload 5, 2) := by decide +kernel
theorem dX12_plain_156 : decode cX12_plain 156 = .ok (.ifCond .eq 13, 3) := by decide +kernel
theorem dX12_plain_159 : decode cX12_plain 159 = .ok (.aload_n 0, 1) := by decide +kernel
theorem dX12_plain_160 : decode cX12_plain 160 = .ok (.getfield 40, 3) := by decide +kernel
theorem dX12_plain_163 : decode cX12_plain 163 = .ok (.iload 4, 2) := by decide +kernel
theorem dX12_plain_165 : decode cX12_plain 165 = .ok (.iaload, 1) := by decide +kernel
theorem dX12_plain_166 : decode cX12_plain 166 = .ok (.goto 7, 3) := by decide +kernel
theorem dX12_plain_169 : decode cX12_plain 169 = .ok (.iload 4, 2) := by decide +kernel
theorem dX12_plain_171 : decode cX12_plain 171 = .ok (.iconst 1, 1) := by decide +kernel
theorem dX12_plain_172 : decode cX12_plain 172 = .ok (.iadd, 1) := by decide +kernel
theorem dX12_plain_173 : decode cX12_plain 173 = .ok (.istore 4, 2) := by decide +kernel
theorem dX12_plain_175 : decode cX12_plain 175 = .ok (.goto (-73), 3) := by decide +kernel
theorem dX12_plain_178 : decode cX12_plain 178 = .ok (.iload_n 2, 1) := by decide +kernel
theorem dX12_plain_179 : decode cX12_plain 179 = .ok (.ifCond .ne 10, 3) := by decide +kernel
theorem dX12_plain_182 : decode cX12_plain 182 = .ok (.aload_n 0, 1) := by decide +kernel
theorem dX12_plain_183 : decode cX12_plain 183 = .ok (.getfield 394, 3) := by decide +kernel
theorem dX12_plain_186 : decode cX12_plain 186 = .ok (.goto 4, 3) := by decide +kernel
theorem dX12_plain_189 : decode cX12_plain 189 = .ok (.iload_n 3, 1) := by decide +kernel
theorem dX12_plain_190 : decode cX12_plain 190 = .ok (.ireturn, 1) := by decide +kernel
def m_X12_plain_178  (Q : Int32 → Hp → Prop) (v2 : Int32) (v3 : Int32) (h : Hp) : Prop := (¬ v2 = 0 → Q v3 h) ∧ (v2 = 0 → Q (hI h 51 41) h)
set_option maxHeartbeats 4000000 in
set_option maxRecDepth 100000 in
theorem s_X12_plain_178 {l : Launch} {G : Cx} {d : Nat} {h0 : Hp} (hd : 12 ≤ d) {Q : Int32 → Hp → Prop} {v2 : Int32} {v3 : Int32} {h : Hp} (hm : m_X12_plain_178 Q v2 v3 h) : Rn l G d 0 0 MX12_plain h0 (qI Q) 178 [some (tR 12 0 (some 51)), none, some (tI v2), some (tI v3)] [] h 0 0 := by
  unfold m_X12_plain_178 at hm
  refine r_iload_n dX12_plain_178 rfl rfl ?_
  refine r_if_ne (tgt := 189) dX12_plain_179 rfl (fun hc => ?_) (fun hc => ?_)
  · replace hm := hm.1 hc
    refine r_iload_n dX12_plain_189 rfl rfl ?_
    exact r_ireturn dX12_plain_190 rfl ⟨by decide, by decide⟩ ⟨_, rfl, hm⟩
  · replace hm := hm.2 hc
    refine r_aload_n dX12_plain_182 rfl rfl ?_
    refine r_getI (k := 41) cl_12 dX12_plain_183 t_1313 (Or.inl rfl) gf_12_41 ?_
    refine r_goto (tgt := 190) dX12_plain_186 rfl ?_
    exact r_ireturn dX12_plain_190 rfl ⟨by decide, by decide⟩ ⟨_, rfl, hm⟩
def m_X12_plain_173 (k102 : Int32 → Int32 → Int32 → Int32 → Hp → Prop) (k178 : Int32 → Int32 → Hp → Prop) (Q : Int32 → Hp → Prop) (v1 : Int32) (v2 : Int32) (v3 : Int32) (s0 : Int32) (h : Hp) : Prop := k102 v1 v2 v3 s0 h
set_option maxHeartbeats 4000000 in
set_option maxRecDepth 100000 in
theorem s_X12_plain_173 {l : Launch} {G : Cx} {d : Nat} {h0 : Hp} (hd : 12 ≤ d) {k102 : Int32 → Int32 → Int32 → Int32 → Hp → Prop} {k178 : Int32 → Int32 → Hp → Prop} {Q : Int32 → Hp → Prop} (hk102 : ∀ (v1 : Int32) (v2 : Int32) (v3 : Int32) (v4 : Int32) (hh : Hp), k102 v1 v2 v3 v4 hh → Rn l G d 0 0 MX12_plain h0 (qI Q) 102 [some (tR 12 0 (some 51)), some (tI v1), some (tI v2), some (tI v3), some (tI v4)] [] hh 0 0) (hk178 : ∀ (v2 : Int32) (v3 : Int32) (hh : Hp), k178 v2 v3 hh → Rn l G d 0 0 MX12_plain h0 (qI Q) 178 [some (tR 12 0 (some 51)), none, some (tI v2), some (tI v3)] [] hh 0 0) {v1 : Int32} {v2 : Int32} {v3 : Int32} {s0 : Int32} {h : Hp} (hm : m_X12_plain_173 k102 k178 Q v1 v2 v3 s0 h) : Rn l G d 0 0 MX12_plain h0 (qI Q) 173 [some (tR 12 0 (some 51)), some (tI v1), some (tI v2), some (tI v3)] [tI s0] h 0 0 := by
  unfold m_X12_plain_173 at hm
  refine r_istore (L' := [some (tR 12 0 (some 51)), some (tI v1), some (tI v2), some (tI v3), some (tI s0)]) dX12_plain_173 (by decide) rfl ?_
  refine r_goto (tgt := 102) dX12_plain_175 rfl ?_
  refine r_keep (L' := [some (tR 12 0 (some 51)), some (tI v1), some (tI v2), some (tI v3), some (tI s0)]) [true, true, true, true, true] rfl ?_
  exact hk102 _ _ _ _ _ hm
def m_X12_plain_152 (k102 : Int32 → Int32 → Int32 → Int32 → Hp → Prop) (k178 : Int32 → Int32 → Hp → Prop) (Q : Int32 → Hp → Prop) (v1 : Int32) (v2 : Int32) (v4 : Int32) (v5 : Int32) (s0 : Int32) (s1 : Int32) (h : Hp) : Prop := ∀ x1 : Int32, x1 = (s0 + s1) → (v5 = 0 → m_X12_plain_173 k102 k178 Q v1 v2 x1 (v4 + 1) h) ∧ (¬ v5 = 0 → vp_in v4 2304 ∧ (m_X12_plain_173 k102 k178 Q v1 v2 x1 (hI h 62 (ix v4)) h))
set_option maxHeartbeats 4000000 in
set_option maxRecDepth 100000 in
theorem s_X12_plain_152 {l : Launch} {G : Cx} {d : Nat} {h0 : Hp} (hd : 12 ≤ d) {k102 : Int32 → Int32 → Int32 → Int32 → Hp → Prop} {k178 : Int32 → Int32 → Hp → Prop} {Q : Int32 → Hp → Prop} (hk102 : ∀ (v1 : Int32) (v2 : Int32) (v3 : Int32) (v4 : Int32) (hh : Hp), k102 v1 v2 v3 v4 hh → Rn l G d 0 0 MX12_plain h0 (qI Q) 102 [some (tR 12 0 (some 51)), some (tI v1), some (tI v2), some (tI v3), some (tI v4)] [] hh 0 0) (hk178 : ∀ (v2 : Int32) (v3 : Int32) (hh : Hp), k178 v2 v3 hh → Rn l G d 0 0 MX12_plain h0 (qI Q) 178 [some (tR 12 0 (some 51)), none, some (tI v2), some (tI v3)] [] hh 0 0) {v1 : Int32} {v2 : Int32} {v4 : Int32} {v5 : Int32} {s0 : Int32} {s1 : Int32} {h : Hp} (hm : m_X12_plain_152 k102 k178 Q v1 v2 v4 v5 s0 s1 h) : Rn l G d 0 0 MX12_plain h0 (qI Q) 152 [some (tR 12 0 (some 51)), some (tI v1), some (tI v2), none, some (tI v4), some (tI v5)] [tI s1, tI s0] h 0 0 := by
  unfold m_X12_plain_152 at hm
  refine r_iadd dX12_plain_152 ?_
  refine r_nmI (fun x1 e_x1 => ?_)
  replace hm := hm x1 e_x1
  refine r_istore_n (L' := [some (tR 12 0 (some 51)), some (tI v1), some (tI v2), some (tI x1), some (tI v4), some (tI v5)]) dX12_plain_153 rfl (by decide) rfl ?_
  refine r_iload dX12_plain_154 rfl ?_
  refine r_if_eq (tgt := 169) dX12_plain_156 rfl (fun hc => ?_) (fun hc => ?_)
  · replace hm := hm.1 hc
    refine r_iload dX12_plain_169 rfl ?_
    refine r_iconst (v := 1) dX12_plain_171 rfl ?_
    refine r_iadd dX12_plain_172 ?_
    refine r_keep (L' := [some (tR 12 0 (some 51)), some (tI v1), some (tI v2), some (tI x1)]) [true, true, true, true] rfl ?_
    exact s_X12_plain_173 hd hk102 hk178 hm
  · replace hm := hm.2 hc
    refine r_aload_n dX12_plain_159 rfl rfl ?_
    refine r_getC (k := 11) cl_12 dX12_plain_160 t_1283 gf_12_11.1 gf_12_11.2 (gc_12_11 _) ?_
    refine r_iload dX12_plain_163 rfl ?_
    refine r_iald dX12_plain_165 hm.1 ?_
    replace hm := hm.2
    refine r_goto (tgt := 173) dX12_plain_166 rfl ?_
    refine r_keep (L' := [some (tR 12 0 (some 51)), some (tI v1), some (tI v2), some (tI x1)]) [true, true, true, true] rfl ?_
    exact s_X12_plain_173 hd hk102 hk178 hm
def m_X12_plain_151 (k102 : Int32 → Int32 → Int32 → Int32 → Hp → Prop) (k178 : Int32 → Int32 → Hp → Prop) (Q : Int32 → Hp → Prop) (v1 : Int32) (v2 : Int32) (v4 : Int32) (v5 : Int32) (s0 : Int32) (h : Hp) : Prop := m_X12_plain_152 k102 k178 Q v1 v2 v4 v5 s0 0 h
set_option maxHeartbeats 4000000 in
set_option maxRecDepth 100000 in
theorem s_X12_plain_151 {l : Launch} {G : Cx} {d : Nat} {h0 : Hp} (hd : 12 ≤ d) {k102 : Int32 → Int32 → Int32 → Int32 → Hp → Prop} {k178 : Int32 → Int32 → Hp → Prop} {Q : Int32 → Hp → Prop} (hk102 : ∀ (v1 : Int32) (v2 : Int32) (v3 : Int32) (v4 : Int32) (hh : Hp), k102 v1 v2 v3 v4 hh → Rn l G d 0 0 MX12_plain h0 (qI Q) 102 [some (tR 12 0 (some 51)), some (tI v1), some (tI v2), some (tI v3), some (tI v4)] [] hh 0 0) (hk178 : ∀ (v2 : Int32) (v3 : Int32) (hh : Hp), k178 v2 v3 hh → Rn l G d 0 0 MX12_plain h0 (qI Q) 178 [some (tR 12 0 (some 51)), none, some (tI v2), some (tI v3)] [] hh 0 0) {v1 : Int32} {v2 : Int32} {v4 : Int32} {v5 : Int32} {s0 : Int32} {h : Hp} (hm : m_X12_plain_151 k102 k178 Q v1 v2 v4 v5 s0 h) : Rn l G d 0 0 MX12_plain h0 (qI Q) 151 [some (tR 12 0 (some 51)), some (tI v1), some (tI v2), none, some (tI v4), some (tI v5)] [tI s0] h 0 0 := by
  unfold m_X12_plain_151 at hm
  refine r_iconst (v := 0) dX12_plain_151 rfl ?_
  refine r_keep (L' := [some (tR 12 0 (some 51)), some (tI v1), some (tI v2), none, some (tI v4), some (tI v5)]) [true, true, true, false, true, true] rfl ?_
  exact s_X12_plain_152 hd hk102 hk178 hm
def m_X12_plain_102 : Nat → (Int32 → Int32 → Hp → Prop) → (Int32 → Hp → Prop) → Int32 → Int32 → Int32 → Int32 → Hp → Prop
  | 0, _, _, _, _, _, _, _ => False
  | n + 1, k178, Q, v1, v2, v3, v4, h => vp_in v1 24 ∧ ((((96 * v1) + (hI h 53 (ix v1))) ≤ v4 → k178 v2 v3 h) ∧ (¬ ((96 * v1) + (hI h 53 (ix v1))) ≤ v4 → vp_in (v4 - (96 * v1)) 96 ∧ (∀ x2 : Int32, x2 = (hI h 74 (ix (v4 - (96 * v1)))) → (¬ x2 = 0 → m_X12_plain_151 (fun (v1 : Int32) (v2 : Int32) (v3 : Int32) (v4 : Int32) (hh : Hp) => m_X12_plain_102 n k178 Q v1 v2 v3 v4 hh) k178 Q v1 v2 v4 x2 v3 h) ∧ (x2 = 0 → m_X12_isLeaf v4 h (fun (x3 : Int32) (h4 : Hp) => (x3 = 0 → m_X12_plain_151 (fun (v1 : Int32) (v2 : Int32) (v3 : Int32) (v4 : Int32) (hh : Hp) => m_X12_plain_102 n k178 Q v1 v2 v3 v4 hh) k178 Q v1 v2 v4 x2 v3 h4) ∧ (¬ x3 = 0 → m_X12_plain_152 (fun (v1 : Int32) (v2 : Int32) (v3 : Int32) (v4 : Int32) (hh : Hp) => m_X12_plain_102 n k178 Q v1 v2 v3 v4 hh) k178 Q v1 v2 v4 x2 v3 1 h4))))))
set_option maxHeartbeats 4000000 in
set_option maxRecDepth 100000 in
theorem s_X12_plain_102 {l : Launch} {G : Cx} {d : Nat} {h0 : Hp} (hd : 12 ≤ d) {k178 : Int32 → Int32 → Hp → Prop} {Q : Int32 → Hp → Prop} (hk178 : ∀ (v2 : Int32) (v3 : Int32) (hh : Hp), k178 v2 v3 hh → Rn l G d 0 0 MX12_plain h0 (qI Q) 178 [some (tR 12 0 (some 51)), none, some (tI v2), some (tI v3)] [] hh 0 0) : ∀ {n : Nat} {v1 : Int32} {v2 : Int32} {v3 : Int32} {v4 : Int32} {h : Hp}, m_X12_plain_102 n k178 Q v1 v2 v3 v4 h → Rn l G d 0 0 MX12_plain h0 (qI Q) 102 [some (tR 12 0 (some 51)), some (tI v1), some (tI v2), some (tI v3), some (tI v4)] [] h 0 0 := by
  intro n
  induction n with
  | zero => intro v1 v2 v3 v4 h hm; exact hm.elim
  | succ n ih =>
    intro v1 v2 v3 v4 h hm
    have hk102 := fun (v1 : Int32) (v2 : Int32) (v3 : Int32) (v4 : Int32) (hh : Hp) (hm : m_X12_plain_102 n k178 Q v1 v2 v3 v4 hh) => ih hm
    rw [m_X12_plain_102] at hm
    refine r_iload dX12_plain_102 rfl ?_
    refine r_bipush (v := 96) dX12_plain_104 rfl ?_
    refine r_iload_n dX12_plain_106 rfl rfl ?_
    refine r_imul dX12_plain_107 ?_
    refine r_aload_n dX12_plain_108 rfl rfl ?_
    refine r_getC (k := 2) cl_12 dX12_plain_109 t_1274 gf_12_2.1 gf_12_2.2 (gc_12_2 _) ?_
    refine r_iload_n dX12_plain_112 rfl rfl ?_
    refine r_iald dX12_plain_113 hm.1 ?_
    replace hm := hm.2
    refine r_iadd dX12_plain_114 ?_
    refine r_icmp_ge (tgt := 178) dX12_plain_115 rfl (fun hc => ?_) (fun hc => ?_)
    · replace hm := hm.1 hc
      refine r_keep (L' := [some (tR 12 0 (some 51)), none, some (tI v2), some (tI v3)]) [true, false, true, true] rfl ?_
      exact hk178 _ _ _ hm
    · replace hm := hm.2 hc
      refine r_aload_n dX12_plain_118 rfl rfl ?_
      refine r_getC (k := 38) cl_12 dX12_plain_119 t_1310 gf_12_38.1 gf_12_38.2 (gc_12_38 _) ?_
      refine r_iload dX12_plain_122 rfl ?_
      refine r_bipush (v := 96) dX12_plain_124 rfl ?_
      refine r_iload_n dX12_plain_126 rfl rfl ?_
      refine r_imul dX12_plain_127 ?_
      refine r_isub dX12_plain_128 ?_
      refine r_zald dX12_plain_129 hm.1 ?_
      replace hm := hm.2
      refine r_nmI (fun x2 e_x2 => ?_)
      replace hm := hm x2 e_x2
      refine r_istore (L' := [some (tR 12 0 (some 51)), some (tI v1), some (tI v2), some (tI v3), some (tI v4), some (tI x2)]) dX12_plain_130 (by decide) rfl ?_
      refine r_iload_n dX12_plain_132 rfl rfl ?_
      refine r_iload dX12_plain_133 rfl ?_
      refine r_if_ne (tgt := 151) dX12_plain_135 rfl (fun hc => ?_) (fun hc => ?_)
      · replace hm := hm.1 hc
        refine r_keep (L' := [some (tR 12 0 (some 51)), some (tI v1), some (tI v2), none, some (tI v4), some (tI x2)]) [true, true, true, false, true, true] rfl ?_
        exact s_X12_plain_151 hd hk102 hk178 hm
      · replace hm := hm.2 hc
        refine r_aload_n dX12_plain_138 rfl rfl ?_
        refine r_iload dX12_plain_139 rfl ?_
        refine r_callVI (d' := d - 1) (as := [tI v4]) (st := [tI v3]) cl_12 dX12_plain_141 mi_X12_isLeaf t_1677 t_1679 ts_75 rfl rfl (Nat.le_of_ble_eq_true rfl) (by omega) ⟨by decide, by decide⟩ ⟨rfl, rfl⟩ (s_X12_isLeaf (by omega) hm) (fun x3 h4 hm => ?_)
        refine r_if_eq (tgt := 151) dX12_plain_144 rfl (fun hc => ?_) (fun hc => ?_)
        · replace hm := hm.1 hc
          refine r_keep (L' := [some (tR 12 0 (some 51)), some (tI v1), some (tI v2), none, some (tI v4), some (tI x2)]) [true, true, true, false, true, true] rfl ?_
          exact s_X12_plain_151 hd hk102 hk178 hm
        · replace hm := hm.2 hc
          refine r_iconst (v := 1) dX12_plain_147 rfl ?_
          refine r_goto (tgt := 152) dX12_plain_148 rfl ?_
          refine r_keep (L' := [some (tR 12 0 (some 51)), some (tI v1), some (tI v2), none, some (tI v4), some (tI x2)]) [true, true, true, false, true, true] rfl ?_
          exact s_X12_plain_152 hd hk102 hk178 hm
def m_X12_plain_94  (Q : Int32 → Hp → Prop) (v1 : Int32) (v2 : Int32) (h : Hp) : Prop := ∀ x5 : Int32, x5 = (96 * v1) → ∃ n102, m_X12_plain_102 n102 (m_X12_plain_178 Q) Q v1 v2 0 x5 h
set_option maxHeartbeats 4000000 in
set_option maxRecDepth 100000 in
theorem s_X12_plain_94 {l : Launch} {G : Cx} {d : Nat} {h0 : Hp} (hd : 12 ≤ d) {Q : Int32 → Hp → Prop} {v1 : Int32} {v2 : Int32} {h : Hp} (hm : m_X12_plain_94 Q v1 v2 h) : Rn l G d 0 0 MX12_plain h0 (qI Q) 94 [some (tR 12 0 (some 51)), some (tI v1), some (tI v2)] [] h 0 0 := by
  unfold m_X12_plain_94 at hm
  refine r_iconst (v := 0) dX12_plain_94 rfl ?_
  refine r_istore_n (L' := [some (tR 12 0 (some 51)), some (tI v1), some (tI v2), some (tI 0)]) dX12_plain_95 rfl (by decide) rfl ?_
  refine r_bipush (v := 96) dX12_plain_96 rfl ?_
  refine r_iload_n dX12_plain_98 rfl rfl ?_
  refine r_imul dX12_plain_99 ?_
  refine r_nmI (fun x5 e_x5 => ?_)
  replace hm := hm x5 e_x5
  refine r_istore (L' := [some (tR 12 0 (some 51)), some (tI v1), some (tI v2), some (tI 0), some (tI x5)]) dX12_plain_100 (by decide) rfl ?_
  refine r_keep (L' := [some (tR 12 0 (some 51)), some (tI v1), some (tI v2), some (tI 0), some (tI x5)]) [true, true, true, true, true] rfl ?_
  obtain ⟨n, hm⟩ := hm
  refine s_X12_plain_102 hd ?_ hm
  · exact (fun _ _ _ hm => s_X12_plain_178 hd hm)
def m_X12_plain_88 (k66 : Int32 → Int32 → Int32 → Hp → Prop) (k94 : Int32 → Int32 → Hp → Prop) (Q : Int32 → Hp → Prop) (v1 : Int32) (v2 : Int32) (v3 : Int32) (h : Hp) : Prop := ∀ x6 : Int32, x6 = v3 + (-1) → k66 v1 v2 x6 h
set_option maxHeartbeats 4000000 in
set_option maxRecDepth 100000 in
theorem s_X12_plain_88 {l : Launch} {G : Cx} {d : Nat} {h0 : Hp} (hd : 12 ≤ d) {k66 : Int32 → Int32 → Int32 → Hp → Prop} {k94 : Int32 → Int32 → Hp → Prop} {Q : Int32 → Hp → Prop} (hk66 : ∀ (v1 : Int32) (v2 : Int32) (v3 : Int32) (hh : Hp), k66 v1 v2 v3 hh → Rn l G d 0 0 MX12_plain h0 (qI Q) 66 [some (tR 12 0 (some 51)), some (tI v1), some (tI v2), some (tI v3)] [] hh 0 0) (hk94 : ∀ (v1 : Int32) (v2 : Int32) (hh : Hp), k94 v1 v2 hh → Rn l G d 0 0 MX12_plain h0 (qI Q) 94 [some (tR 12 0 (some 51)), some (tI v1), some (tI v2)] [] hh 0 0) {v1 : Int32} {v2 : Int32} {v3 : Int32} {h : Hp} (hm : m_X12_plain_88 k66 k94 Q v1 v2 v3 h) : Rn l G d 0 0 MX12_plain h0 (qI Q) 88 [some (tR 12 0 (some 51)), some (tI v1), some (tI v2), some (tI v3)] [] h 0 0 := by
  unfold m_X12_plain_88 at hm
  obtain ⟨x6, e_x6⟩ : ∃ y : Int32, y = v3 + (-1) := ⟨_, rfl⟩
  replace hm := hm x6 e_x6
  refine r_iinc (L' := [some (tR 12 0 (some 51)), some (tI v1), some (tI v2), some (tI x6)]) dX12_plain_88 rfl (by rw [e_x6]; rfl) (by decide) rfl ?_
  refine r_goto (tgt := 66) dX12_plain_91 rfl ?_
  refine r_keep (L' := [some (tR 12 0 (some 51)), some (tI v1), some (tI v2), some (tI x6)]) [true, true, true, true] rfl ?_
  exact hk66 _ _ _ _ hm
def m_X12_plain_66 : Nat → (Int32 → Int32 → Hp → Prop) → (Int32 → Hp → Prop) → Int32 → Int32 → Int32 → Hp → Prop
  | 0, _, _, _, _, _, _ => False
  | n + 1, k94, Q, v1, v2, v3, h => (v3 < (96 * v1) → k94 v1 v2 h) ∧ (¬ v3 < (96 * v1) → m_X12_isLeaf v3 h (fun (x7 : Int32) (h8 : Hp) => (¬ x7 = 0 → m_X12_plain_88 (fun (v1 : Int32) (v2 : Int32) (v3 : Int32) (hh : Hp) => m_X12_plain_66 n k94 Q v1 v2 v3 hh) k94 Q v1 v2 v3 h8) ∧ (x7 = 0 → m_X12_simplifies v1 v3 h8 (fun (h10 : Hp) => m_X12_plain_88 (fun (v1 : Int32) (v2 : Int32) (v3 : Int32) (hh : Hp) => m_X12_plain_66 n k94 Q v1 v2 v3 hh) k94 Q v1 v2 v3 h10))))
set_option maxHeartbeats 4000000 in
set_option maxRecDepth 100000 in
theorem s_X12_plain_66 {l : Launch} {G : Cx} {d : Nat} {h0 : Hp} (hd : 12 ≤ d) {k94 : Int32 → Int32 → Hp → Prop} {Q : Int32 → Hp → Prop} (hk94 : ∀ (v1 : Int32) (v2 : Int32) (hh : Hp), k94 v1 v2 hh → Rn l G d 0 0 MX12_plain h0 (qI Q) 94 [some (tR 12 0 (some 51)), some (tI v1), some (tI v2)] [] hh 0 0) : ∀ {n : Nat} {v1 : Int32} {v2 : Int32} {v3 : Int32} {h : Hp}, m_X12_plain_66 n k94 Q v1 v2 v3 h → Rn l G d 0 0 MX12_plain h0 (qI Q) 66 [some (tR 12 0 (some 51)), some (tI v1), some (tI v2), some (tI v3)] [] h 0 0 := by
  intro n
  induction n with
  | zero => intro v1 v2 v3 h hm; exact hm.elim
  | succ n ih =>
    intro v1 v2 v3 h hm
    have hk66 := fun (v1 : Int32) (v2 : Int32) (v3 : Int32) (hh : Hp) (hm : m_X12_plain_66 n k94 Q v1 v2 v3 hh) => ih hm
    rw [m_X12_plain_66] at hm
    refine r_iload_n dX12_plain_66 rfl rfl ?_
    refine r_bipush (v := 96) dX12_plain_67 rfl ?_
    refine r_iload_n dX12_plain_69 rfl rfl ?_
    refine r_imul dX12_plain_70 ?_
    refine r_icmp_lt (tgt := 94) dX12_plain_71 rfl (fun hc => ?_) (fun hc => ?_)
    · replace hm := hm.1 hc
      refine r_keep (L' := [some (tR 12 0 (some 51)), some (tI v1), some (tI v2)]) [true, true, true] rfl ?_
      exact hk94 _ _ _ hm
    · replace hm := hm.2 hc
      refine r_aload_n dX12_plain_74 rfl rfl ?_
      refine r_iload_n dX12_plain_75 rfl rfl ?_
      refine r_callVI (d' := d - 1) (as := [tI v3]) (st := []) cl_12 dX12_plain_76 mi_X12_isLeaf t_1677 t_1679 ts_75 rfl rfl (Nat.le_of_ble_eq_true rfl) (by omega) ⟨by decide, by decide⟩ ⟨rfl, rfl⟩ (s_X12_isLeaf (by omega) hm) (fun x7 h8 hm => ?_)
      refine r_if_ne (tgt := 88) dX12_plain_79 rfl (fun hc => ?_) (fun hc => ?_)
      · replace hm := hm.1 hc
        refine r_keep (L' := [some (tR 12 0 (some 51)), some (tI v1), some (tI v2), some (tI v3)]) [true, true, true, true] rfl ?_
        exact s_X12_plain_88 hd hk66 hk94 hm
      · replace hm := hm.2 hc
        refine r_aload_n dX12_plain_82 rfl rfl ?_
        refine r_iload_n dX12_plain_83 rfl rfl ?_
        refine r_iload_n dX12_plain_84 rfl rfl ?_
        refine r_callVU (d' := d - 1) (as := [tI v1, tI v3]) (st := []) cl_12 dX12_plain_85 mi_X12_simplifies t_1697 t_1699 ts_78 rfl rfl (Nat.le_of_ble_eq_true rfl) (by omega) ⟨by decide, by decide⟩ ⟨rfl, rfl⟩ (s_X12_simplifies (by omega) hm) (fun h10 hm => ?_)
        refine r_keep (L' := [some (tR 12 0 (some 51)), some (tI v1), some (tI v2), some (tI v3)]) [true, true, true, true] rfl ?_
        exact s_X12_plain_88 hd hk66 hk94 hm
def m_X12_plain_52  (Q : Int32 → Hp → Prop) (v1 : Int32) (v2 : Int32) (h : Hp) : Prop := vp_in v1 24 ∧ (∀ x11 : Int32, x11 = (((96 * v1) + (hI h 53 (ix v1))) - 1) → ∃ n66, m_X12_plain_66 n66 (m_X12_plain_94 Q) Q v1 v2 x11 h)
set_option maxHeartbeats 4000000 in
set_option maxRecDepth 100000 in
theorem s_X12_plain_52 {l : Launch} {G : Cx} {d : Nat} {h0 : Hp} (hd : 12 ≤ d) {Q : Int32 → Hp → Prop} {v1 : Int32} {v2 : Int32} {h : Hp} (hm : m_X12_plain_52 Q v1 v2 h) : Rn l G d 0 0 MX12_plain h0 (qI Q) 52 [some (tR 12 0 (some 51)), some (tI v1), some (tI v2)] [] h 0 0 := by
  unfold m_X12_plain_52 at hm
  refine r_bipush (v := 96) dX12_plain_52 rfl ?_
  refine r_iload_n dX12_plain_54 rfl rfl ?_
  refine r_imul dX12_plain_55 ?_
  refine r_aload_n dX12_plain_56 rfl rfl ?_
  refine r_getC (k := 2) cl_12 dX12_plain_57 t_1274 gf_12_2.1 gf_12_2.2 (gc_12_2 _) ?_
  refine r_iload_n dX12_plain_60 rfl rfl ?_
  refine r_iald dX12_plain_61 hm.1 ?_
  replace hm := hm.2
  refine r_iadd dX12_plain_62 ?_
  refine r_iconst (v := 1) dX12_plain_63 rfl ?_
  refine r_isub dX12_plain_64 ?_
  refine r_nmI (fun x11 e_x11 => ?_)
  replace hm := hm x11 e_x11
  refine r_istore_n (L' := [some (tR 12 0 (some 51)), some (tI v1), some (tI v2), some (tI x11)]) dX12_plain_65 rfl (by decide) rfl ?_
  refine r_keep (L' := [some (tR 12 0 (some 51)), some (tI v1), some (tI v2), some (tI x11)]) [true, true, true, true] rfl ?_
  obtain ⟨n, hm⟩ := hm
  refine s_X12_plain_66 hd ?_ hm
  · exact (fun _ _ _ hm => s_X12_plain_94 hd hm)
def m_X12_plain_26 : Nat → (Int32 → Int32 → Hp → Prop) → (Int32 → Hp → Prop) → Int32 → Int32 → Int32 → Hp → Prop
  | 0, _, _, _, _, _, _ => False
  | n + 1, k52, Q, v1, v2, v3, h => (96 ≤ v3 → k52 v1 v2 h) ∧ (¬ 96 ≤ v3 → vp_in v3 96 ∧ (vp_in v3 96 ∧ (∀ x12 : Int32, x12 = v3 + 1 → m_X12_plain_26 n k52 Q v1 v2 x12 (wI (wI h 74 (ix v3) (0 &&& 1)) 75 (ix v3) (0 &&& 1)))))
set_option maxHeartbeats 4000000 in
set_option maxRecDepth 100000 in
theorem s_X12_plain_26 {l : Launch} {G : Cx} {d : Nat} {h0 : Hp} (hd : 12 ≤ d) {k52 : Int32 → Int32 → Hp → Prop} {Q : Int32 → Hp → Prop} (hk52 : ∀ (v1 : Int32) (v2 : Int32) (hh : Hp), k52 v1 v2 hh → Rn l G d 0 0 MX12_plain h0 (qI Q) 52 [some (tR 12 0 (some 51)), some (tI v1), some (tI v2)] [] hh 0 0) : ∀ {n : Nat} {v1 : Int32} {v2 : Int32} {v3 : Int32} {h : Hp}, m_X12_plain_26 n k52 Q v1 v2 v3 h → Rn l G d 0 0 MX12_plain h0 (qI Q) 26 [some (tR 12 0 (some 51)), some (tI v1), some (tI v2), some (tI v3)] [] h 0 0 := by
  intro n
  induction n with
  | zero => intro v1 v2 v3 h hm; exact hm.elim
  | succ n ih =>
    intro v1 v2 v3 h hm
    have hk26 := fun (v1 : Int32) (v2 : Int32) (v3 : Int32) (hh : Hp) (hm : m_X12_plain_26 n k52 Q v1 v2 v3 hh) => ih hm
    rw [m_X12_plain_26] at hm
    refine r_iload_n dX12_plain_26 rfl rfl ?_
    refine r_bipush (v := 96) dX12_plain_27 rfl ?_
    refine r_icmp_ge (tgt := 52) dX12_plain_29 rfl (fun hc => ?_) (fun hc => ?_)
    · replace hm := hm.1 hc
      refine r_keep (L' := [some (tR 12 0 (some 51)), some (tI v1), some (tI v2)]) [true, true, true] rfl ?_
      exact hk52 _ _ _ hm
    · replace hm := hm.2 hc
      refine r_aload_n dX12_plain_32 rfl rfl ?_
      refine r_getC (k := 38) cl_12 dX12_plain_33 t_1310 gf_12_38.1 gf_12_38.2 (gc_12_38 _) ?_
      refine r_iload_n dX12_plain_36 rfl rfl ?_
      refine r_iconst (v := 0) dX12_plain_37 rfl ?_
      refine r_zast dX12_plain_38 hm.1 ?_
      replace hm := hm.2
      refine r_aload_n dX12_plain_39 rfl rfl ?_
      refine r_getC (k := 39) cl_12 dX12_plain_40 t_1311 gf_12_39.1 gf_12_39.2 (gc_12_39 _) ?_
      refine r_iload_n dX12_plain_43 rfl rfl ?_
      refine r_iconst (v := 0) dX12_plain_44 rfl ?_
      refine r_zast dX12_plain_45 hm.1 ?_
      replace hm := hm.2
      obtain ⟨x12, e_x12⟩ : ∃ y : Int32, y = v3 + 1 := ⟨_, rfl⟩
      replace hm := hm x12 e_x12
      refine r_iinc (L' := [some (tR 12 0 (some 51)), some (tI v1), some (tI v2), some (tI x12)]) dX12_plain_46 rfl (by rw [e_x12]; rfl) (by decide) rfl ?_
      refine r_goto (tgt := 26) dX12_plain_49 rfl ?_
      refine r_keep (L' := [some (tR 12 0 (some 51)), some (tI v1), some (tI v2), some (tI x12)]) [true, true, true, true] rfl ?_
      exact hk26 _ _ _ _ hm
def m_X12_plain (v1 : Int32) (v2 : Int32) (h : Hp) (Q : Int32 → Hp → Prop) : Prop := m_X12_isDeal v1 h (fun (x13 : Int32) (h14 : Hp) => (x13 = 0 → Q (-1) h14) ∧ (¬ x13 = 0 → m_X12_within v2 0 1 h14 (fun (x15 : Int32) (h16 : Hp) => (¬ x15 = 0 → ∃ n26, m_X12_plain_26 n26 (m_X12_plain_52 Q) Q v1 v2 0 (wI h16 51 41 0)) ∧ (x15 = 0 → Q (-1) h16))))
set_option maxHeartbeats 4000000 in
set_option maxRecDepth 100000 in
theorem s_X12_plain {l : Launch} {G : Cx} {d : Nat} (hd : 12 ≤ d) {v1 : Int32} {v2 : Int32} {h : Hp} {Q : Int32 → Hp → Prop} (hm : m_X12_plain v1 v2 h Q) : Ct l G d 0 0 yX12_plain MX12_plain [tR 12 0 (some 51), tI v1, tI v2] h (qI Q) := by
  unfold m_X12_plain at hm
  refine Ct.of (L := [some (tR 12 0 (some 51)), some (tI v1), some (tI v2)]) (by decide) rfl rfl (Nat.le_of_ble_eq_true rfl) rfl ?_
  refine r_aload_n dX12_plain_0 rfl rfl ?_
  refine r_iload_n dX12_plain_1 rfl rfl ?_
  refine r_callVI (d' := d - 1) (as := [tI v1]) (st := []) cl_12 dX12_plain_2 mi_X12_isDeal t_1673 t_1675 ts_74 rfl rfl (Nat.le_of_ble_eq_true rfl) (by omega) ⟨by decide, by decide⟩ ⟨rfl, rfl⟩ (s_X12_isDeal (by omega) hm) (fun x13 h14 hm => ?_)
  refine r_if_eq (tgt := 17) dX12_plain_5 rfl (fun hc => ?_) (fun hc => ?_)
  · replace hm := hm.1 hc
    refine r_iconst (v := (-1)) dX12_plain_17 rfl ?_
    exact r_ireturn dX12_plain_18 rfl ⟨by decide, by decide⟩ ⟨_, rfl, hm⟩
  · replace hm := hm.2 hc
    refine r_iload_n dX12_plain_8 rfl rfl ?_
    refine r_iconst (v := 0) dX12_plain_9 rfl ?_
    refine r_iconst (v := 1) dX12_plain_10 rfl ?_
    refine r_callSI (d' := d - 1) (as := [tI v2, tI 0, tI 1]) (st := []) dX12_plain_11 mi_X12_within t_1557 t_1558 rfl rfl (Nat.le_of_ble_eq_true rfl) (by omega) ⟨by decide, by decide⟩ ⟨rfl, rfl⟩ (s_X12_within (by omega) hm) (fun x15 h16 hm => ?_)
    refine r_if_ne (tgt := 19) dX12_plain_14 rfl (fun hc => ?_) (fun hc => ?_)
    · replace hm := hm.1 hc
      refine r_aload_n dX12_plain_19 rfl rfl ?_
      refine r_iconst (v := 0) dX12_plain_20 rfl ?_
      refine r_putI0 (k := 41) cl_12 dX12_plain_21 t_1313 (Or.inl rfl) gf_12_41 pf_12_41.1 (Or.inl pf_12_41.2) ?_
      refine r_iconst (v := 0) dX12_plain_24 rfl ?_
      refine r_istore_n (L' := [some (tR 12 0 (some 51)), some (tI v1), some (tI v2), some (tI 0)]) dX12_plain_25 rfl (by decide) rfl ?_
      refine r_keep (L' := [some (tR 12 0 (some 51)), some (tI v1), some (tI v2), some (tI 0)]) [true, true, true, true] rfl ?_
      obtain ⟨n, hm⟩ := hm
      refine s_X12_plain_26 hd ?_ hm
      · exact (fun _ _ _ hm => s_X12_plain_52 hd hm)
    · replace hm := hm.2 hc
      refine r_iconst (v := (-1)) dX12_plain_17 rfl ?_
      exact r_ireturn dX12_plain_18 rfl ⟨by decide, by decide⟩ ⟨_, rfl, hm⟩
theorem dX12_flow_0 : decode cX12_flow 0 = .ok (.lload 5, 2) := rfl
theorem dX12_flow_2 : decode cX12_flow 2 = .ok (.lconst 0, 1) := rfl
theorem dX12_flow_3 : decode cX12_flow 3 = .ok (.lcmp, 1) := rfl
theorem dX12_flow_4 : decode cX12_flow 4 = .ok (.ifCond .ne 4, 3) := by decide +kernel
theorem dX12_flow_7 : decode cX12_flow 7 = .ok (.return_, 1) := rfl
theorem dX12_flow_8 : decode cX12_flow 8 = .ok (.aload_n 0, 1) := rfl
theorem dX12_flow_9 : decode cX12_flow 9 = .ok (.getfield 97, 3) := rfl
theorem dX12_flow_12 : decode cX12_flow 12 = .ok (.aload_n 0, 1) := rfl
theorem dX12_flow_13 : decode cX12_flow 13 = .ok (.getfield 404, 3) := rfl
theorem dX12_flow_16 : decode cX12_flow 16 = .ok (.iload_n 1, 1) := rfl
theorem dX12_flow_17 : decode cX12_flow 17 = .ok (.iastore, 1) := rfl
theorem dX12_flow_18 : decode cX12_flow 18 = .ok (.aload_n 0, 1) := rfl
theorem dX12_flow_19 : decode cX12_flow 19 = .ok (.getfield 100, 3) := rfl
theorem dX12_flow_22 : decode cX12_flow 22 = .ok (.aload_n 0, 1) := rfl
theorem dX12_flow_23 : decode cX12_flow 23 = .ok (.getfield 404, 3) := rfl
theorem dX12_flow_26 : decode cX12_flow 26 = .ok (.iload_n 2, 1) := rfl
theorem dX12_flow_27 : decode cX12_flow 27 = .ok (.iastore, 1) := rfl
theorem dX12_flow_28 : decode cX12_flow 28 = .ok (.aload_n 0, 1) := rfl
theorem dX12_flow_29 : decode cX12_flow 29 = .ok (.getfield 103, 3) := rfl
theorem dX12_flow_32 : decode cX12_flow 32 = .ok (.aload_n 0, 1) := rfl
theorem dX12_flow_33 : decode cX12_flow 33 = .ok (.getfield 404, 3) := rfl
theorem dX12_flow_36 : decode cX12_flow 36 = .ok (.iload_n 3, 1) := rfl
theorem dX12_flow_37 : decode cX12_flow 37 = .ok (.iastore, 1) := rfl
theorem dX12_flow_38 : decode cX12_flow 38 = .ok (.aload_n 0, 1) := rfl
theorem dX12_flow_39 : decode cX12_flow 39 = .ok (.getfield 106, 3) := rfl
theorem dX12_flow_42 : decode cX12_flow 42 = .ok (.aload_n 0, 1) := rfl
theorem dX12_flow_43 : decode cX12_flow 43 = .ok (.getfield 404, 3) := rfl
theorem dX12_flow_46 : decode cX12_flow 46 = .ok (.iload 4, 2) := rfl
theorem dX12_flow_48 : decode cX12_flow 48 = .ok (.iastore, 1) := rfl
theorem dX12_flow_49 : decode cX12_flow 49 = .ok (.aload_n 0, 1) := rfl
theorem dX12_flow_50 : decode cX12_flow 50 = .ok (.getfield 109, 3) := rfl
theorem dX12_flow_53 : decode cX12_flow 53 = .ok (.aload_n 0, 1) := rfl
theorem dX12_flow_54 : decode cX12_flow 54 = .ok (.getfield 404, 3) := rfl
theorem dX12_flow_57 : decode cX12_flow 57 = .ok (.lload 5, 2) := rfl
theorem dX12_flow_59 : decode cX12_flow 59 = .ok (.lastore, 1) := rfl
theorem dX12_flow_60 : decode cX12_flow 60 = .ok (.aload_n 0, 1) := rfl
theorem dX12_flow_61 : decode cX12_flow 61 = .ok (.dup, 1) := rfl
theorem dX12_flow_62 : decode cX12_flow 62 = .ok (.getfield 404, 3) := rfl
theorem dX12_flow_65 : decode cX12_flow 65 = .ok (.iconst 1, 1) := rfl
theorem dX12_flow_66 : decode cX12_flow 66 = .ok (.iadd, 1) := rfl
theorem dX12_flow_67 : decode cX12_flow 67 = .ok (.putfield 404, 3) := rfl
theorem dX12_flow_70 : decode cX12_flow 70 = .ok (.return_, 1) := rfl
def m_X12_flow (v1 : Int32) (v2 : Int32) (v3 : Int32) (v4 : Int32) (v5 : Int64) (h : Hp) (Q : Hp → Prop) : Prop := (¬ (lg_cmp v5 0) = 0 → vp_in (hI h 51 48) 256 ∧ (vp_in (hI (wI h 79 (ix (hI h 51 48)) v1) 51 48) 256 ∧ (vp_in (hI (wI (wI h 79 (ix (hI h 51 48)) v1) 80 (ix (hI (wI h 79 (ix (hI h 51 48)) v1) 51 48)) v2) 51 48) 256 ∧ (vp_in (hI (wI (wI (wI h 79 (ix (hI h 51 48)) v1) 80 (ix (hI (wI h 79 (ix (hI h 51 48)) v1) 51 48)) v2) 81 (ix (hI (wI (wI h 79 (ix (hI h 51 48)) v1) 80 (ix (hI (wI h 79 (ix (hI h 51 48)) v1) 51 48)) v2) 51 48)) v3) 51 48) 256 ∧ (vp_in (hI (wI (wI (wI (wI h 79 (ix (hI h 51 48)) v1) 80 (ix (hI (wI h 79 (ix (hI h 51 48)) v1) 51 48)) v2) 81 (ix (hI (wI (wI h 79 (ix (hI h 51 48)) v1) 80 (ix (hI (wI h 79 (ix (hI h 51 48)) v1) 51 48)) v2) 51 48)) v3) 82 (ix (hI (wI (wI (wI h 79 (ix (hI h 51 48)) v1) 80 (ix (hI (wI h 79 (ix (hI h 51 48)) v1) 51 48)) v2) 81 (ix (hI (wI (wI h 79 (ix (hI h 51 48)) v1) 80 (ix (hI (wI h 79 (ix (hI h 51 48)) v1) 51 48)) v2) 51 48)) v3) 51 48)) v4) 51 48) 256 ∧ (Q (wI (wJ (wI (wI (wI (wI h 79 (ix (hI h 51 48)) v1) 80 (ix (hI (wI h 79 (ix (hI h 51 48)) v1) 51 48)) v2) 81 (ix (hI (wI (wI h 79 (ix (hI h 51 48)) v1) 80 (ix (hI (wI h 79 (ix (hI h 51 48)) v1) 51 48)) v2) 51 48)) v3) 82 (ix (hI (wI (wI (wI h 79 (ix (hI h 51 48)) v1) 80 (ix (hI (wI h 79 (ix (hI h 51 48)) v1) 51 48)) v2) 81 (ix (hI (wI (wI h 79 (ix (hI h 51 48)) v1) 80 (ix (hI (wI h 79 (ix (hI h 51 48)) v1) 51 48)) v2) 51 48)) v3) 51 48)) v4) 83 (ix (hI (wI (wI (wI (wI h 79 (ix (hI h 51 48)) v1) 80 (ix (hI (wI h 79 (ix (hI h 51 48)) v1) 51 48)) v2) 81 (ix (hI (wI (wI h 79 (ix (hI h 51 48)) v1) 80 (ix (hI (wI h 79 (ix (hI h 51 48)) v1) 51 48)) v2) 51 48)) v3) 82 (ix (hI (wI (wI (wI h 79 (ix (hI h 51 48)) v1) 80 (ix (hI (wI h 79 (ix (hI h 51 48)) v1) 51 48)) v2) 81 (ix (hI (wI (wI h 79 (ix (hI h 51 48)) v1) 80 (ix (hI (wI h 79 (ix (hI h 51 48)) v1) 51 48)) v2) 51 48)) v3) 51 48)) v4) 51 48)) v5) 51 48 ((hI (wJ (wI (wI (wI (wI h 79 (ix (hI h 51 48)) v1) 80 (ix (hI (wI h 79 (ix (hI h 51 48)) v1) 51 48)) v2) 81 (ix (hI (wI (wI h 79 (ix (hI h 51 48)) v1) 80 (ix (hI (wI h 79 (ix (hI h 51 48)) v1) 51 48)) v2) 51 48)) v3) 82 (ix (hI (wI (wI (wI h 79 (ix (hI h 51 48)) v1) 80 (ix (hI (wI h 79 (ix (hI h 51 48)) v1) 51 48)) v2) 81 (ix (hI (wI (wI h 79 (ix (hI h 51 48)) v1) 80 (ix (hI (wI h 79 (ix (hI h 51 48)) v1) 51 48)) v2) 51 48)) v3) 51 48)) v4) 83 (ix (hI (wI (wI (wI (wI h 79 (ix (hI h 51 48)) v1) 80 (ix (hI (wI h 79 (ix (hI h 51 48)) v1) 51 48)) v2) 81 (ix (hI (wI (wI h 79 (ix (hI h 51 48)) v1) 80 (ix (hI (wI h 79 (ix (hI h 51 48)) v1) 51 48)) v2) 51 48)) v3) 82 (ix (hI (wI (wI (wI h 79 (ix (hI h 51 48)) v1) 80 (ix (hI (wI h 79 (ix (hI h 51 48)) v1) 51 48)) v2) 81 (ix (hI (wI (wI h 79 (ix (hI h 51 48)) v1) 80 (ix (hI (wI h 79 (ix (hI h 51 48)) v1) 51 48)) v2) 51 48)) v3) 51 48)) v4) 51 48)) v5) 51 48) + 1)))))))) ∧ ((lg_cmp v5 0) = 0 → Q h)
set_option maxHeartbeats 4000000 in
set_option maxRecDepth 100000 in
theorem s_X12_flow {l : Launch} {G : Cx} {d : Nat} (hd : 2 ≤ d) {v1 : Int32} {v2 : Int32} {v3 : Int32} {v4 : Int32} {v5 : Int64} {h : Hp} {Q : Hp → Prop} (hm : m_X12_flow v1 v2 v3 v4 v5 h Q) : Ct l G d 0 0 yX12_flow MX12_flow [tR 12 0 (some 51), tI v1, tI v2, tI v3, tI v4, tJ v5] h (qV Q) := by
  unfold m_X12_flow at hm
  refine Ct.of (L := [some (tR 12 0 (some 51)), some (tI v1), some (tI v2), some (tI v3), some (tI v4), some (tJ v5), none]) (by decide) rfl rfl (Nat.le_of_ble_eq_true rfl) rfl ?_
  refine r_lload dX12_flow_0 rfl ?_
  refine r_lconst (v := 0) dX12_flow_2 rfl ?_
  refine r_lcmp dX12_flow_3 ?_
  refine r_if_ne (tgt := 8) dX12_flow_4 rfl (fun hc => ?_) (fun hc => ?_)
  · replace hm := hm.1 hc
    refine r_aload_n dX12_flow_8 rfl rfl ?_
    refine r_getC (k := 49) cl_12 dX12_flow_9 t_1321 gf_12_49.1 gf_12_49.2 (gc_12_49 _) ?_
    refine r_aload_n dX12_flow_12 rfl rfl ?_
    refine r_getI (k := 48) cl_12 dX12_flow_13 t_1320 (Or.inl rfl) gf_12_48 ?_
    refine r_iload_n dX12_flow_16 rfl rfl ?_
    refine r_iast dX12_flow_17 hm.1 ?_
    replace hm := hm.2
    refine r_aload_n dX12_flow_18 rfl rfl ?_
    refine r_getC (k := 50) cl_12 dX12_flow_19 t_1322 gf_12_50.1 gf_12_50.2 (gc_12_50 _) ?_
    refine r_aload_n dX12_flow_22 rfl rfl ?_
    refine r_getI (k := 48) cl_12 dX12_flow_23 t_1320 (Or.inl rfl) gf_12_48 ?_
    refine r_iload_n dX12_flow_26 rfl rfl ?_
    refine r_iast dX12_flow_27 hm.1 ?_
    replace hm := hm.2
    refine r_aload_n dX12_flow_28 rfl rfl ?_
    refine r_getC (k := 51) cl_12 dX12_flow_29 t_1323 gf_12_51.1 gf_12_51.2 (gc_12_51 _) ?_
    refine r_aload_n dX12_flow_32 rfl rfl ?_
    refine r_getI (k := 48) cl_12 dX12_flow_33 t_1320 (Or.inl rfl) gf_12_48 ?_
    refine r_iload_n dX12_flow_36 rfl rfl ?_
    refine r_iast dX12_flow_37 hm.1 ?_
    replace hm := hm.2
    refine r_aload_n dX12_flow_38 rfl rfl ?_
    refine r_getC (k := 52) cl_12 dX12_flow_39 t_1324 gf_12_52.1 gf_12_52.2 (gc_12_52 _) ?_
    refine r_aload_n dX12_flow_42 rfl rfl ?_
    refine r_getI (k := 48) cl_12 dX12_flow_43 t_1320 (Or.inl rfl) gf_12_48 ?_
    refine r_iload dX12_flow_46 rfl ?_
    refine r_iast dX12_flow_48 hm.1 ?_
    replace hm := hm.2
    refine r_aload_n dX12_flow_49 rfl rfl ?_
    refine r_getC (k := 53) cl_12 dX12_flow_50 t_1325 gf_12_53.1 gf_12_53.2 (gc_12_53 _) ?_
    refine r_aload_n dX12_flow_53 rfl rfl ?_
    refine r_getI (k := 48) cl_12 dX12_flow_54 t_1320 (Or.inl rfl) gf_12_48 ?_
    refine r_lload dX12_flow_57 rfl ?_
    refine r_last dX12_flow_59 hm.1 ?_
    replace hm := hm.2
    refine r_aload_n dX12_flow_60 rfl rfl ?_
    refine r_dup dX12_flow_61 cv_cat1R ?_
    refine r_getI (k := 48) cl_12 dX12_flow_62 t_1320 (Or.inl rfl) gf_12_48 ?_
    refine r_iconst (v := 1) dX12_flow_65 rfl ?_
    refine r_iadd dX12_flow_66 ?_
    refine r_putI0 (k := 48) cl_12 dX12_flow_67 t_1320 (Or.inl rfl) gf_12_48 pf_12_48.1 (Or.inl pf_12_48.2) ?_
    exact r_return dX12_flow_70 rfl ⟨by decide, by decide⟩ ⟨rfl, hm⟩
  · replace hm := hm.2 hc
    exact r_return dX12_flow_7 rfl ⟨by decide, by decide⟩ ⟨rfl, hm⟩
theorem dX12_passes_0 : decode cX12_passes 0 = .ok (.bipush 96, 2) := by decide +kernel
theorem dX12_passes_2 : decode cX12_passes 2 = .ok (.iload_n 1, 1) := by decide +kernel
theorem dX12_passes_3 : decode cX12_passes 3 = .ok (.imul, 1) := by decide +kernel
theorem dX12_passes_4 : decode cX12_passes 4 = .ok (.istore 4, 2) := by decide +kernel
theorem dX12_passes_6 : decode cX12_passes 6 = .ok (.iload 4, 2) := by decide +kernel
theorem dX12_passes_8 : decode cX12_passes 8 = .ok (.bipush 96, 2) := by decide +kernel
theorem dX12_passes_10 : decode cX12_passes 10 = .ok (.iload_n 1, 1) := by decide +kernel
theorem dX12_passes_11 : decode cX12_passes 11 = .ok (.imul, 1) := by decide +kernel
theorem dX12_passes_12 : decode cX12_passes 12 = .ok (.aload_n 0, 1) := by decide +kernel
theorem dX12_passes_13 : decode cX12_passes 13 = .ok (.getfield 13, 3) := by decide +kernel
theorem dX12_passes_16 : decode cX12_passes 16 = .ok (.iload_n 1, 1) := by decide +kernel
theorem dX12_passes_17 : decode cX12_passes 17 = .ok (.iaload, 1) := by decide +kernel
theorem dX12_passes_18 : decode cX12_passes 18 = .ok (.iadd, 1) := by decide +kernel
theorem dX12_passes_19 : decode cX12_passes 19 = .ok (.if_icmp .ge 203, 3) := by decide +kernel
theorem dX12_passes_22 : decode cX12_passes 22 = .ok (.aload_n 0, 1) := by decide +kernel
theorem dX12_passes_23 : decode cX12_passes 23 = .ok (.iload 4, 2) := by decide +kernel
theorem dX12_passes_25 : decode cX12_passes 25 = .ok (.invokevirtual 356, 3) := by decide +kernel
theorem dX12_passes_28 : decode cX12_passes 28 = .ok (.ifCond .ne 6, 3) := by decide +kernel
theorem dX12_passes_31 : decode cX12_passes 31 = .ok (.goto 185, 3) := by decide +kernel
theorem dX12_passes_34 : decode cX12_passes 34 = .ok (.aload_n 0, 1) := by decide +kernel
theorem dX12_passes_35 : decode cX12_passes 35 = .ok (.iload 4, 2) := by decide +kernel
theorem dX12_passes_37 : decode cX12_passes 37 = .ok (.iload_n 2, 1) := by decide +kernel
theorem dX12_passes_38 : decode cX12_passes 38 = .ok (.iload_n 3, 1) := by decide +kernel
theorem dX12_passes_39 : decode cX12_passes 39 = .ok (.invokevirtual 407, 3) := by decide +kernel
theorem dX12_passes_42 : decode cX12_passes 42 = .ok (.lstore 5, 2) := by decide +kernel
theorem dX12_passes_44 : decode cX12_passes 44 = .ok (.lload 5, 2) := by decide +kernel
theorem dX12_passes_46 : decode cX12_passes 46 = .ok (.lconst 0, 1) := by decide +kernel
theorem dX12_passes_47 : decode cX12_passes 47 = .ok (.lcmp, 1) := by decide +kernel
theorem dX12_passes_48 : decode cX12_passes 48 = .ok (.ifCond .ne 6, 3) := by decide +kernel
theorem dX12_passes_51 : decode cX12_passes 51 = .ok (.goto 165, 3) := by decide +kernel
theorem dX12_passes_54 : decode cX12_passes 54 = .ok (.aload_n 0, 1) := by decide +kernel
theorem dX12_passes_55 : decode cX12_passes 55 = .ok (.iload 4, 2) := by decide +kernel
theorem dX12_passes_57 : decode cX12_passes 57 = .ok (.invokevirtual 362, 3) := by decide +kernel
theorem dX12_passes_60 : decode cX12_passes 60 = .ok (.istore 7, 2) := by decide +kernel
theorem dX12_passes_62 : decode cX12_passes 62 = .ok (.aload_n 0, 1) := by decide +kernel
theorem dX12_passes_63 : decode cX12_passes 63 = .ok (.aload_n 0, 1) := by decide +kernel
theorem dX12_passes_64 : decode cX12_passes 64 = .ok (.getfield 61, 3) := by decide +kernel
theorem dX12_passes_67 : decode cX12_passes 67 = .ok (.iload 4, 2) := by decide +kernel
theorem dX12_passes_69 : decode cX12_passes 69 = .ok (.iaload, 1) := by decide +kernel
theorem dX12_passes_70 : decode cX12_passes 70 = .ok (.iload 7, 2) := by decide +kernel
theorem dX12_passes_72 : decode cX12_passes 72 = .ok (.iadd, 1) := by decide +kernel
theorem dX12_passes_73 : decode cX12_passes 73 = .ok (.aload_n 0, 1) := by decide +kernel
theorem dX12_passes_74 : decode cX12_passes 74 = .ok (.getfield 46, 3) := by decide +kernel
theorem dX12_passes_77 : decode cX12_passes 77 = .ok (.iload 4, 2) := by decide +kernel
theorem dX12_passes_79 : decode cX12_passes 79 = .ok (.iaload, 1) := by decide +kernel
theorem dX12_passes_80 : decode cX12_passes 80 = .ok (.aload_n 0, 1) := by decide +kernel
theorem dX12_passes_81 : decode cX12_passes 81 = .ok (.getfield 49, 3) := by decide +kernel
theorem dX12_passes_84 : decode cX12_passes 84 = .ok (.iload 4, 2) := by decide +kernel
theorem dX12_passes_86 : decode cX12_passes 86 = .ok (.iaload, 1) := by decide +kernel
theorem dX12_passes_87 : decode cX12_passes 87 = .ok (.aload_n 0, 1) := by decide +kernel
theorem dX12_passes_88 : decode cX12_passes 88 = .ok (.getfield 52, 3) := by decide +kernel
theorem dX12_passes_91 : decode cX12_passes 91 = .ok (.iload 4, 2) := by decide +kernel
theorem dX12_passes_93 : decode cX12_passes 93 = .ok (.iaload, 1) := by decide +kernel
theorem dX12_passes_94 : decode cX12_passes 94 = .ok (.lload 5, 2) := by decide +kernel
theorem dX12_passes_96 : decode cX12_passes 96 = .ok (.aload_n 0, 1) := by decide +kernel
theorem dX12_passes_97 : decode cX12_passes 97 = .ok (.getfield 55, 3) := by decide +kernel
theorem dX12_passes_100 : decode cX12_passes 100 = .ok (.iload 4, 2) := by decide +kernel
theorem dX12_passes_102 : decode cX12_passes 102 = .ok (.iaload, 1) := by decide +kernel
theorem dX12_passes_103 : decode cX12_passes 103 = .ok (.i2l, 1) := by decide +kernel
theorem dX12_passes_104 : decode cX12_passes 104 = .ok (.lmul, 1) := by decide +kernel
theorem dX12_passes_105 : decode cX12_passes 105 = .ok (.invokevirtual 411, 3) := by decide +kernel
theorem dX12_passes_108 : decode cX12_passes 108 = .ok (.aload_n 0, 1) := by decide +kernel
theorem dX12_passes_109 : decode cX12_passes 109 = .ok (.getfield 28, 3) := by decide +kernel
theorem dX12_passes_112 : decode cX12_passes 112 = .ok (.iload 4, 2) := by decide +kernel
theorem dX12_passes_114 : decode cX12_passes 114 = .ok (.iaload, 1) := by decide +kernel
theorem dX12_passes_115 : decode cX12_passes 115 = .ok (.iconst 3, 1) := by decide +kernel
theorem dX12_passes_116 : decode cX12_passes 116 = .ok (.if_icmp .ne 49, 3) := by decide +kernel
theorem dX12_passes_119 : decode cX12_passes 119 = .ok (.aload_n 0, 1) := by decide +kernel
theorem dX12_passes_120 : decode cX12_passes 120 = .ok (.aload_n 0, 1) := by decide +kernel
theorem dX12_passes_121 : decode cX12_passes 121 = .ok (.getfield 64, 3) := by decide +kernel
theorem dX12_passes_124 : decode cX12_passes 124 = .ok (.iload 4, 2) := by decide +kernel
theorem dX12_passes_126 : decode cX12_passes 126 = .ok (.iaload, 1) := by decide +kernel
theorem dX12_passes_127 : decode cX12_passes 127 = .ok (.iload 7, 2) := by decide +kernel
theorem dX12_passes_129 : decode cX12_passes 129 = .ok (.iadd, 1) := by decide +kernel
theorem dX12_passes_130 : decode cX12_passes 130 = .ok (.aload_n 0, 1) := by decide +kernel
theorem dX12_passes_131 : decode cX12_passes 131 = .ok (.getfield 49, 3) := by decide +kernel
theorem dX12_passes_134 : decode cX12_passes 134 = .ok (.iload 4, 2) := by decide +kernel
theorem dX12_passes_136 : decode cX12_passes 136 = .ok (.iaload, 1) := by decide +kernel
theorem dX12_passes_137 : decode cX12_passes 137 = .ok (.aload_n 0, 1) := by decide +kernel
theorem dX12_passes_138 : decode cX12_passes 138 = .ok (.getfield 46, 3) := by decide +kernel
theorem dX12_passes_141 : decode cX12_passes 141 = .ok (.iload 4, 2) := by decide +kernel
theorem dX12_passes_143 : decode cX12_passes 143 = .ok (.iaload, 1) := by decide +kernel
theorem dX12_passes_144 : decode cX12_passes 144 = .ok (.aload_n 0, 1) := by decide +kernel
theorem dX12_passes_145 : decode cX12_passes 145 = .ok (.getfield 52, 3) := by decide +kernel
theorem dX12_passes_148 : decode cX12_passes 148 = .ok (.iload 4, 2) := by decide +kernel
theorem dX12_passes_150 : decode cX12_passes 150 = .ok (.iaload, 1) := by decide +kernel
theorem dX12_passes_151 : decode cX12_passes 151 = .ok (.lload 5, 2) := by decide +kernel
theorem dX12_passes_153 : decode cX12_passes 153 = .ok (.aload_n 0, 1) := by decide +kernel
theorem dX12_passes_154 : decode cX12_passes 154 = .ok (.getfield 55, 3) := by decide +kernel
theorem dX12_passes_157 : decode cX12_passes 157 = .ok (.iload 4, 2) := by decide +kernel
theorem dX12_passes_159 : decode cX12_passes 159 = .ok (.iaload, 1) := by decide +kernel
theorem dX12_passes_160 : decode cX12_passes 160 = .ok (.i2l, 1) := by decide +kernel
theorem dX12_passes_161 : decode cX12_passes 161 = .ok (.lmul, 1) := by decide +kernel
theorem dX12_passes_162 : decode cX12_passes 162 = .ok (.invokevirtual 411, 3) := by decide +kernel
theorem dX12_passes_165 : decode cX12_passes 165 = .ok (.aload_n 0, 1) := by decide +kernel
theorem dX12_passes_166 : decode cX12_passes 166 = .ok (.getfield 28, 3) := by decide +kernel
theorem dX12_passes_169 : decode cX12_passes 169 = .ok (.iload 4, 2) := by decide +kernel
theorem dX12_passes_171 : decode cX12_passes 171 = .ok (.iaload, 1) := by decide +kernel
theorem dX12_passes_172 : decode cX12_passes 172 = .ok (.iconst 2, 1) := by decide +kernel
theorem dX12_passes_173 : decode cX12_passes 173 = .ok (.if_icmp .lt 43, 3) := by decide +kernel
theorem dX12_passes_176 : decode cX12_passes 176 = .ok (.aload_n 0, 1) := by decide +kernel
theorem dX12_passes_177 : decode cX12_passes 177 = .ok (.aload_n 0, 1) := by decide +kernel
theorem dX12_passes_178 : decode cX12_passes 178 = .ok (.getfield 64, 3) := by decide +kernel
theorem dX12_passes_181 : decode cX12_passes 181 = .ok (.iload 4, 2) := by decide +kernel
theorem dX12_passes_183 : decode cX12_passes 183 = .ok (.iaload, 1) := by decide +kernel
theorem dX12_passes_184 : decode cX12_passes 184 = .ok (.iload 7, 2) := by decide +kernel
theorem dX12_passes_186 : decode cX12_passes 186 = .ok (.iadd, 1) := by decide +kernel
theorem dX12_passes_187 : decode cX12_passes 187 = .ok (.aload_n 0, 1) := by decide +kernel
theorem dX12_passes_188 : decode cX12_passes 188 = .ok (.getfield 49, 3) := by decide +kernel
theorem dX12_passes_191 : decode cX12_passes 191 = .ok (.iload 4, 2) := by decide +kernel
theorem dX12_passes_193 : decode cX12_passes 193 = .ok (.iaload, 1) := by decide +kernel
theorem dX12_passes_194 : decode cX12_passes 194 = .ok (.aload_n 0, 1) := by decide +kernel
theorem dX12_passes_195 : decode cX12_passes 195 = .ok (.getfield 46, 3) := by decide +kernel
theorem dX12_passes_198 : decode cX12_passes 198 = .ok (.iload 4, 2) := by decide +kernel
theorem dX12_passes_200 : decode cX12_passes 200 = .ok (.iaload, 1) := by decide +kernel
theorem dX12_passes_201 : decode cX12_passes 201 = .ok (.iconst 0, 1) := by decide +kernel
theorem dX12_passes_202 : decode cX12_passes 202 = .ok (.lload 5, 2) := by decide +kernel
theorem dX12_passes_204 : decode cX12_passes 204 = .ok (.aload_n 0, 1) := by decide +kernel
theorem dX12_passes_205 : decode cX12_passes 205 = .ok (.getfield 58, 3) := by decide +kernel
theorem dX12_passes_208 : decode cX12_passes 208 = .ok (.iload 4, 2) := by decide +kernel
theorem dX12_passes_210 : decode cX12_passes 210 = .ok (.iaload, 1) := by decide +kernel
theorem dX12_passes_211 : decode cX12_passes 211 = .ok (.i2l, 1) := by decide +kernel
theorem dX12_passes_212 : decode cX12_passes 212 = .ok (.lmul, 1) := by decide +kernel
theorem dX12_passes_213 : decode cX12_passes 213 = .ok (.invokevirtual 411, 3) := by decide +kernel
theorem dX12_passes_216 : decode cX12_passes 216 = .ok (.iinc 4 1, 3) := by decide +kernel
theorem dX12_passes_219 : decode cX12_passes 219 = .ok (.goto (-213), 3) := by decide +kernel
theorem dX12_passes_222 : decode cX12_passes 222 = .ok (.return_, 1) := by decide +kernel
def m_X12_passes_216 (k6 : Int32 → Int32 → Int32 → Int32 → Hp → Prop) (Q : Hp → Prop) (v1 : Int32) (v2 : Int32) (v3 : Int32) (v4 : Int32) (h : Hp) : Prop := ∀ x1 : Int32, x1 = v4 + 1 → k6 v1 v2 v3 x1 h
set_option maxHeartbeats 4000000 in
set_option maxRecDepth 100000 in
theorem s_X12_passes_216 {l : Launch} {G : Cx} {d : Nat} {h0 : Hp} (hd : 4 ≤ d) {k6 : Int32 → Int32 → Int32 → Int32 → Hp → Prop} {Q : Hp → Prop} (hk6 : ∀ (v1 : Int32) (v2 : Int32) (v3 : Int32) (v4 : Int32) (hh : Hp), k6 v1 v2 v3 v4 hh → Rn l G d 0 0 MX12_passes h0 (qV Q) 6 [some (tR 12 0 (some 51)), some (tI v1), some (tI v2), some (tI v3), some (tI v4)] [] hh 0 0) {v1 : Int32} {v2 : Int32} {v3 : Int32} {v4 : Int32} {h : Hp} (hm : m_X12_passes_216 k6 Q v1 v2 v3 v4 h) : Rn l G d 0 0 MX12_passes h0 (qV Q) 216 [some (tR 12 0 (some 51)), some (tI v1), some (tI v2), some (tI v3), some (tI v4)] [] h 0 0 := by
  unfold m_X12_passes_216 at hm
  obtain ⟨x1, e_x1⟩ : ∃ y : Int32, y = v4 + 1 := ⟨_, rfl⟩
  replace hm := hm x1 e_x1
  refine r_iinc (L' := [some (tR 12 0 (some 51)), some (tI v1), some (tI v2), some (tI v3), some (tI x1)]) dX12_passes_216 rfl (by rw [e_x1]; rfl) (by decide) rfl ?_
  refine r_goto (tgt := 6) dX12_passes_219 rfl ?_
  refine r_keep (L' := [some (tR 12 0 (some 51)), some (tI v1), some (tI v2), some (tI v3), some (tI x1)]) [true, true, true, true, true] rfl ?_
  exact hk6 _ _ _ _ _ hm
def m_X12_passes_165 (k6 : Int32 → Int32 → Int32 → Int32 → Hp → Prop) (Q : Hp → Prop) (v1 : Int32) (v2 : Int32) (v3 : Int32) (v4 : Int32) (v5 : Int64) (v7 : Int32) (h : Hp) : Prop := vp_in v4 2304 ∧ (((hI h 58 (ix v4)) < 2 → m_X12_passes_216 k6 Q v1 v2 v3 v4 h) ∧ (¬ (hI h 58 (ix v4)) < 2 → vp_in v4 2304 ∧ (vp_in v4 2304 ∧ (vp_in v4 2304 ∧ (vp_in v4 2304 ∧ (m_X12_flow ((hI h 70 (ix v4)) + v7) (hI h 65 (ix v4)) (hI h 64 (ix v4)) 0 (v5 * ((hI h 68 (ix v4)).toInt64)) h (fun (h3 : Hp) => m_X12_passes_216 k6 Q v1 v2 v3 v4 h3)))))))
set_option maxHeartbeats 4000000 in
set_option maxRecDepth 100000 in
theorem s_X12_passes_165 {l : Launch} {G : Cx} {d : Nat} {h0 : Hp} (hd : 4 ≤ d) {k6 : Int32 → Int32 → Int32 → Int32 → Hp → Prop} {Q : Hp → Prop} (hk6 : ∀ (v1 : Int32) (v2 : Int32) (v3 : Int32) (v4 : Int32) (hh : Hp), k6 v1 v2 v3 v4 hh → Rn l G d 0 0 MX12_passes h0 (qV Q) 6 [some (tR 12 0 (some 51)), some (tI v1), some (tI v2), some (tI v3), some (tI v4)] [] hh 0 0) {v1 : Int32} {v2 : Int32} {v3 : Int32} {v4 : Int32} {v5 : Int64} {v7 : Int32} {h : Hp} (hm : m_X12_passes_165 k6 Q v1 v2 v3 v4 v5 v7 h) : Rn l G d 0 0 MX12_passes h0 (qV Q) 165 [some (tR 12 0 (some 51)), some (tI v1), some (tI v2), some (tI v3), some (tI v4), some (tJ v5), none, some (tI v7)] [] h 0 0 := by
  unfold m_X12_passes_165 at hm
  refine r_aload_n dX12_passes_165 rfl rfl ?_
  refine r_getC (k := 7) cl_12 dX12_passes_166 t_1279 gf_12_7.1 gf_12_7.2 (gc_12_7 _) ?_
  refine r_iload dX12_passes_169 rfl ?_
  refine r_iald dX12_passes_171 hm.1 ?_
  replace hm := hm.2
  refine r_iconst (v := 2) dX12_passes_172 rfl ?_
  refine r_icmp_lt (tgt := 216) dX12_passes_173 rfl (fun hc => ?_) (fun hc => ?_)
  · replace hm := hm.1 hc
    refine r_keep (L' := [some (tR 12 0 (some 51)), some (tI v1), some (tI v2), some (tI v3), some (tI v4)]) [true, true, true, true, true] rfl ?_
    exact s_X12_passes_216 hd hk6 hm
  · replace hm := hm.2 hc
    refine r_aload_n dX12_passes_176 rfl rfl ?_
    refine r_aload_n dX12_passes_177 rfl rfl ?_
    refine r_getC (k := 19) cl_12 dX12_passes_178 t_1291 gf_12_19.1 gf_12_19.2 (gc_12_19 _) ?_
    refine r_iload dX12_passes_181 rfl ?_
    refine r_iald dX12_passes_183 hm.1 ?_
    replace hm := hm.2
    refine r_iload dX12_passes_184 rfl ?_
    refine r_iadd dX12_passes_186 ?_
    refine r_aload_n dX12_passes_187 rfl rfl ?_
    refine r_getC (k := 14) cl_12 dX12_passes_188 t_1286 gf_12_14.1 gf_12_14.2 (gc_12_14 _) ?_
    refine r_iload dX12_passes_191 rfl ?_
    refine r_iald dX12_passes_193 hm.1 ?_
    replace hm := hm.2
    refine r_aload_n dX12_passes_194 rfl rfl ?_
    refine r_getC (k := 13) cl_12 dX12_passes_195 t_1285 gf_12_13.1 gf_12_13.2 (gc_12_13 _) ?_
    refine r_iload dX12_passes_198 rfl ?_
    refine r_iald dX12_passes_200 hm.1 ?_
    replace hm := hm.2
    refine r_iconst (v := 0) dX12_passes_201 rfl ?_
    refine r_lload dX12_passes_202 rfl ?_
    refine r_aload_n dX12_passes_204 rfl rfl ?_
    refine r_getC (k := 17) cl_12 dX12_passes_205 t_1289 gf_12_17.1 gf_12_17.2 (gc_12_17 _) ?_
    refine r_iload dX12_passes_208 rfl ?_
    refine r_iald dX12_passes_210 hm.1 ?_
    replace hm := hm.2
    refine r_i2l dX12_passes_211 ?_
    refine r_lmul dX12_passes_212 ?_
    refine r_callVU (d' := d - 1) (as := [tI ((hI h 70 (ix v4)) + v7), tI (hI h 65 (ix v4)), tI (hI h 64 (ix v4)), tI 0, tJ (v5 * ((hI h 68 (ix v4)).toInt64))]) (st := []) cl_12 dX12_passes_213 mi_X12_flow t_1737 t_1739 ts_87 rfl rfl (Nat.le_of_ble_eq_true rfl) (by omega) ⟨by decide, by decide⟩ ⟨rfl, rfl⟩ (s_X12_flow (by omega) hm) (fun h3 hm => ?_)
    refine r_keep (L' := [some (tR 12 0 (some 51)), some (tI v1), some (tI v2), some (tI v3), some (tI v4)]) [true, true, true, true, true] rfl ?_
    exact s_X12_passes_216 hd hk6 hm
def m_X12_passes_6 : Nat → (Hp → Prop) → Int32 → Int32 → Int32 → Int32 → Hp → Prop
  | 0, _, _, _, _, _, _ => False
  | n + 1, Q, v1, v2, v3, v4, h => vp_in v1 24 ∧ ((((96 * v1) + (hI h 53 (ix v1))) ≤ v4 → Q h) ∧ (¬ ((96 * v1) + (hI h 53 (ix v1))) ≤ v4 → m_X12_isLeaf v4 h (fun (x4 : Int32) (h5 : Hp) => (¬ x4 = 0 → m_X12_times v4 v2 v3 h5 (fun (x6 : Int64) (h7 : Hp) => (¬ (lg_cmp x6 0) = 0 → m_X12_later v4 h7 (fun (x8 : Int32) (h9 : Hp) => vp_in v4 2304 ∧ (vp_in v4 2304 ∧ (vp_in v4 2304 ∧ (vp_in v4 2304 ∧ (vp_in v4 2304 ∧ (m_X12_flow ((hI h9 69 (ix v4)) + x8) (hI h9 64 (ix v4)) (hI h9 65 (ix v4)) (hI h9 66 (ix v4)) (x6 * ((hI h9 67 (ix v4)).toInt64)) h9 (fun (h11 : Hp) => vp_in v4 2304 ∧ ((¬ (hI h11 58 (ix v4)) = 3 → m_X12_passes_165 (fun (v1 : Int32) (v2 : Int32) (v3 : Int32) (v4 : Int32) (hh : Hp) => m_X12_passes_6 n Q v1 v2 v3 v4 hh) Q v1 v2 v3 v4 x6 x8 h11) ∧ ((hI h11 58 (ix v4)) = 3 → vp_in v4 2304 ∧ (vp_in v4 2304 ∧ (vp_in v4 2304 ∧ (vp_in v4 2304 ∧ (vp_in v4 2304 ∧ (m_X12_flow ((hI h11 70 (ix v4)) + x8) (hI h11 65 (ix v4)) (hI h11 64 (ix v4)) (hI h11 66 (ix v4)) (x6 * ((hI h11 67 (ix v4)).toInt64)) h11 (fun (h13 : Hp) => m_X12_passes_165 (fun (v1 : Int32) (v2 : Int32) (v3 : Int32) (v4 : Int32) (hh : Hp) => m_X12_passes_6 n Q v1 v2 v3 v4 hh) Q v1 v2 v3 v4 x6 x8 h13)))))))))))))))) ∧ ((lg_cmp x6 0) = 0 → m_X12_passes_216 (fun (v1 : Int32) (v2 : Int32) (v3 : Int32) (v4 : Int32) (hh : Hp) => m_X12_passes_6 n Q v1 v2 v3 v4 hh) Q v1 v2 v3 v4 h7))) ∧ (x4 = 0 → m_X12_passes_216 (fun (v1 : Int32) (v2 : Int32) (v3 : Int32) (v4 : Int32) (hh : Hp) => m_X12_passes_6 n Q v1 v2 v3 v4 hh) Q v1 v2 v3 v4 h5))))
set_option maxHeartbeats 4000000 in
set_option maxRecDepth 100000 in
theorem s_X12_passes_6 {l : Launch} {G : Cx} {d : Nat} {h0 : Hp} (hd : 4 ≤ d) {Q : Hp → Prop} : ∀ {n : Nat} {v1 : Int32} {v2 : Int32} {v3 : Int32} {v4 : Int32} {h : Hp}, m_X12_passes_6 n Q v1 v2 v3 v4 h → Rn l G d 0 0 MX12_passes h0 (qV Q) 6 [some (tR 12 0 (some 51)), some (tI v1), some (tI v2), some (tI v3), some (tI v4)] [] h 0 0 := by
  intro n
  induction n with
  | zero => intro v1 v2 v3 v4 h hm; exact hm.elim
  | succ n ih =>
    intro v1 v2 v3 v4 h hm
    have hk6 := fun (v1 : Int32) (v2 : Int32) (v3 : Int32) (v4 : Int32) (hh : Hp) (hm : m_X12_passes_6 n Q v1 v2 v3 v4 hh) => ih hm
    rw [m_X12_passes_6] at hm
    refine r_iload dX12_passes_6 rfl ?_
    refine r_bipush (v := 96) dX12_passes_8 rfl ?_
    refine r_iload_n dX12_passes_10 rfl rfl ?_
    refine r_imul dX12_passes_11 ?_
    refine r_aload_n dX12_passes_12 rfl rfl ?_
    refine r_getC (k := 2) cl_12 dX12_passes_13 t_1274 gf_12_2.1 gf_12_2.2 (gc_12_2 _) ?_
    refine r_iload_n dX12_passes_16 rfl rfl ?_
    refine r_iald dX12_passes_17 hm.1 ?_
    replace hm := hm.2
    refine r_iadd dX12_passes_18 ?_
    refine r_icmp_ge (tgt := 222) dX12_passes_19 rfl (fun hc => ?_) (fun hc => ?_)
    · replace hm := hm.1 hc
      exact r_return dX12_passes_222 rfl ⟨by decide, by decide⟩ ⟨rfl, hm⟩
    · replace hm := hm.2 hc
      refine r_aload_n dX12_passes_22 rfl rfl ?_
      refine r_iload dX12_passes_23 rfl ?_
      refine r_callVI (d' := d - 1) (as := [tI v4]) (st := []) cl_12 dX12_passes_25 mi_X12_isLeaf t_1677 t_1679 ts_75 rfl rfl (Nat.le_of_ble_eq_true rfl) (by omega) ⟨by decide, by decide⟩ ⟨rfl, rfl⟩ (s_X12_isLeaf (by omega) hm) (fun x4 h5 hm => ?_)
      refine r_if_ne (tgt := 34) dX12_passes_28 rfl (fun hc => ?_) (fun hc => ?_)
      · replace hm := hm.1 hc
        refine r_aload_n dX12_passes_34 rfl rfl ?_
        refine r_iload dX12_passes_35 rfl ?_
        refine r_iload_n dX12_passes_37 rfl rfl ?_
        refine r_iload_n dX12_passes_38 rfl rfl ?_
        refine r_callVJ (d' := d - 1) (as := [tI v4, tI v2, tI v3]) (st := []) cl_12 dX12_passes_39 mi_X12_times t_1733 t_1735 ts_86 rfl rfl (Nat.le_of_ble_eq_true rfl) (by omega) ⟨by decide, by decide⟩ ⟨rfl, rfl⟩ (s_X12_times (by omega) hm) (fun x6 h7 hm => ?_)
        refine r_lstore (L' := [some (tR 12 0 (some 51)), some (tI v1), some (tI v2), some (tI v3), some (tI v4), some (tJ x6), none]) dX12_passes_42 (by decide) rfl ?_
        refine r_lload dX12_passes_44 rfl ?_
        refine r_lconst (v := 0) dX12_passes_46 rfl ?_
        refine r_lcmp dX12_passes_47 ?_
        refine r_if_ne (tgt := 54) dX12_passes_48 rfl (fun hc => ?_) (fun hc => ?_)
        · replace hm := hm.1 hc
          refine r_aload_n dX12_passes_54 rfl rfl ?_
          refine r_iload dX12_passes_55 rfl ?_
          refine r_callVI (d' := d - 1) (as := [tI v4]) (st := []) cl_12 dX12_passes_57 mi_X12_later t_1689 t_1691 ts_77 rfl rfl (Nat.le_of_ble_eq_true rfl) (by omega) ⟨by decide, by decide⟩ ⟨rfl, rfl⟩ (s_X12_later (by omega) hm) (fun x8 h9 hm => ?_)
          refine r_istore (L' := [some (tR 12 0 (some 51)), some (tI v1), some (tI v2), some (tI v3), some (tI v4), some (tJ x6), none, some (tI x8)]) dX12_passes_60 (by decide) rfl ?_
          refine r_aload_n dX12_passes_62 rfl rfl ?_
          refine r_aload_n dX12_passes_63 rfl rfl ?_
          refine r_getC (k := 18) cl_12 dX12_passes_64 t_1290 gf_12_18.1 gf_12_18.2 (gc_12_18 _) ?_
          refine r_iload dX12_passes_67 rfl ?_
          refine r_iald dX12_passes_69 hm.1 ?_
          replace hm := hm.2
          refine r_iload dX12_passes_70 rfl ?_
          refine r_iadd dX12_passes_72 ?_
          refine r_aload_n dX12_passes_73 rfl rfl ?_
          refine r_getC (k := 13) cl_12 dX12_passes_74 t_1285 gf_12_13.1 gf_12_13.2 (gc_12_13 _) ?_
          refine r_iload dX12_passes_77 rfl ?_
          refine r_iald dX12_passes_79 hm.1 ?_
          replace hm := hm.2
          refine r_aload_n dX12_passes_80 rfl rfl ?_
          refine r_getC (k := 14) cl_12 dX12_passes_81 t_1286 gf_12_14.1 gf_12_14.2 (gc_12_14 _) ?_
          refine r_iload dX12_passes_84 rfl ?_
          refine r_iald dX12_passes_86 hm.1 ?_
          replace hm := hm.2
          refine r_aload_n dX12_passes_87 rfl rfl ?_
          refine r_getC (k := 15) cl_12 dX12_passes_88 t_1287 gf_12_15.1 gf_12_15.2 (gc_12_15 _) ?_
          refine r_iload dX12_passes_91 rfl ?_
          refine r_iald dX12_passes_93 hm.1 ?_
          replace hm := hm.2
          refine r_lload dX12_passes_94 rfl ?_
          refine r_aload_n dX12_passes_96 rfl rfl ?_
          refine r_getC (k := 16) cl_12 dX12_passes_97 t_1288 gf_12_16.1 gf_12_16.2 (gc_12_16 _) ?_
          refine r_iload dX12_passes_100 rfl ?_
          refine r_iald dX12_passes_102 hm.1 ?_
          replace hm := hm.2
          refine r_i2l dX12_passes_103 ?_
          refine r_lmul dX12_passes_104 ?_
          refine r_callVU (d' := d - 1) (as := [tI ((hI h9 69 (ix v4)) + x8), tI (hI h9 64 (ix v4)), tI (hI h9 65 (ix v4)), tI (hI h9 66 (ix v4)), tJ (x6 * ((hI h9 67 (ix v4)).toInt64))]) (st := []) cl_12 dX12_passes_105 mi_X12_flow t_1737 t_1739 ts_87 rfl rfl (Nat.le_of_ble_eq_true rfl) (by omega) ⟨by decide, by decide⟩ ⟨rfl, rfl⟩ (s_X12_flow (by omega) hm) (fun h11 hm => ?_)
          refine r_aload_n dX12_passes_108 rfl rfl ?_
          refine r_getC (k := 7) cl_12 dX12_passes_109 t_1279 gf_12_7.1 gf_12_7.2 (gc_12_7 _) ?_
          refine r_iload dX12_passes_112 rfl ?_
          refine r_iald dX12_passes_114 hm.1 ?_
          replace hm := hm.2
          refine r_iconst (v := 3) dX12_passes_115 rfl ?_
          refine r_icmp_ne (tgt := 165) dX12_passes_116 rfl (fun hc => ?_) (fun hc => ?_)
          · replace hm := hm.1 hc
            refine r_keep (L' := [some (tR 12 0 (some 51)), some (tI v1), some (tI v2), some (tI v3), some (tI v4), some (tJ x6), none, some (tI x8)]) [true, true, true, true, true, true, false, true] rfl ?_
            exact s_X12_passes_165 hd hk6 hm
          · replace hm := hm.2 hc
            refine r_aload_n dX12_passes_119 rfl rfl ?_
            refine r_aload_n dX12_passes_120 rfl rfl ?_
            refine r_getC (k := 19) cl_12 dX12_passes_121 t_1291 gf_12_19.1 gf_12_19.2 (gc_12_19 _) ?_
            refine r_iload dX12_passes_124 rfl ?_
            refine r_iald dX12_passes_126 hm.1 ?_
            replace hm := hm.2
            refine r_iload dX12_passes_127 rfl ?_
            refine r_iadd dX12_passes_129 ?_
            refine r_aload_n dX12_passes_130 rfl rfl ?_
            refine r_getC (k := 14) cl_12 dX12_passes_131 t_1286 gf_12_14.1 gf_12_14.2 (gc_12_14 _) ?_
            refine r_iload dX12_passes_134 rfl ?_
            refine r_iald dX12_passes_136 hm.1 ?_
            replace hm := hm.2
            refine r_aload_n dX12_passes_137 rfl rfl ?_
            refine r_getC (k := 13) cl_12 dX12_passes_138 t_1285 gf_12_13.1 gf_12_13.2 (gc_12_13 _) ?_
            refine r_iload dX12_passes_141 rfl ?_
            refine r_iald dX12_passes_143 hm.1 ?_
            replace hm := hm.2
            refine r_aload_n dX12_passes_144 rfl rfl ?_
            refine r_getC (k := 15) cl_12 dX12_passes_145 t_1287 gf_12_15.1 gf_12_15.2 (gc_12_15 _) ?_
            refine r_iload dX12_passes_148 rfl ?_
            refine r_iald dX12_passes_150 hm.1 ?_
            replace hm := hm.2
            refine r_lload dX12_passes_151 rfl ?_
            refine r_aload_n dX12_passes_153 rfl rfl ?_
            refine r_getC (k := 16) cl_12 dX12_passes_154 t_1288 gf_12_16.1 gf_12_16.2 (gc_12_16 _) ?_
            refine r_iload dX12_passes_157 rfl ?_
            refine r_iald dX12_passes_159 hm.1 ?_
            replace hm := hm.2
            refine r_i2l dX12_passes_160 ?_
            refine r_lmul dX12_passes_161 ?_
            refine r_callVU (d' := d - 1) (as := [tI ((hI h11 70 (ix v4)) + x8), tI (hI h11 65 (ix v4)), tI (hI h11 64 (ix v4)), tI (hI h11 66 (ix v4)), tJ (x6 * ((hI h11 67 (ix v4)).toInt64))]) (st := []) cl_12 dX12_passes_162 mi_X12_flow t_1737 t_1739 ts_87 rfl rfl (Nat.le_of_ble_eq_true rfl) (by omega) ⟨by decide, by decide⟩ ⟨rfl, rfl⟩ (s_X12_flow (by omega) hm) (fun h13 hm => ?_)
            refine r_keep (L' := [some (tR 12 0 (some 51)), some (tI v1), some (tI v2), some (tI v3), some (tI v4), some (tJ x6), none, some (tI x8)]) [true, true, true, true, true, true, false, true] rfl ?_
            exact s_X12_passes_165 hd hk6 hm
        · replace hm := hm.2 hc
          refine r_goto (tgt := 216) dX12_passes_51 rfl ?_
          refine r_keep (L' := [some (tR 12 0 (some 51)), some (tI v1), some (tI v2), some (tI v3), some (tI v4)]) [true, true, true, true, true] rfl ?_
          exact s_X12_passes_216 hd hk6 hm
      · replace hm := hm.2 hc
        refine r_goto (tgt := 216) dX12_passes_31 rfl ?_
        refine r_keep (L' := [some (tR 12 0 (some 51)), some (tI v1), some (tI v2), some (tI v3), some (tI v4)]) [true, true, true, true, true] rfl ?_
        exact s_X12_passes_216 hd hk6 hm
def m_X12_passes (v1 : Int32) (v2 : Int32) (v3 : Int32) (h : Hp) (Q : Hp → Prop) : Prop := ∀ x14 : Int32, x14 = (96 * v1) → ∃ n6, m_X12_passes_6 n6 Q v1 v2 v3 x14 h
set_option maxHeartbeats 4000000 in
set_option maxRecDepth 100000 in
theorem s_X12_passes {l : Launch} {G : Cx} {d : Nat} (hd : 4 ≤ d) {v1 : Int32} {v2 : Int32} {v3 : Int32} {h : Hp} {Q : Hp → Prop} (hm : m_X12_passes v1 v2 v3 h Q) : Ct l G d 0 0 yX12_passes MX12_passes [tR 12 0 (some 51), tI v1, tI v2, tI v3] h (qV Q) := by
  unfold m_X12_passes at hm
  refine Ct.of (L := [some (tR 12 0 (some 51)), some (tI v1), some (tI v2), some (tI v3)]) (by decide) rfl rfl (Nat.le_of_ble_eq_true rfl) rfl ?_
  refine r_bipush (v := 96) dX12_passes_0 rfl ?_
  refine r_iload_n dX12_passes_2 rfl rfl ?_
  refine r_imul dX12_passes_3 ?_
  refine r_nmI (fun x14 e_x14 => ?_)
  replace hm := hm x14 e_x14
  refine r_istore (L' := [some (tR 12 0 (some 51)), some (tI v1), some (tI v2), some (tI v3), some (tI x14)]) dX12_passes_4 (by decide) rfl ?_
  refine r_keep (L' := [some (tR 12 0 (some 51)), some (tI v1), some (tI v2), some (tI v3), some (tI x14)]) [true, true, true, true, true] rfl ?_
  obtain ⟨n, hm⟩ := hm
  refine s_X12_passes_6 hd hm
theorem dX12_among_0 : decode cX12_among 0 = .ok (.lconst 0, 1) := by decide +kernel
theorem dX12_among_1 : decode cX12_among 1 = .ok (.lstore 4, 2) := by decide +kernel
theorem dX12_among_3 : decode cX12_among 3 = .ok (.iload_n 1, 1) := by decide +kernel
theorem dX12_among_4 : decode cX12_among 4 = .ok (.istore 6, 2) := by decide +kernel
theorem dX12_among_6 : decode cX12_among 6 = .ok (.iload 6, 2) := by decide +kernel
theorem dX12_among_8 : decode cX12_among 8 = .ok (.iload_n 2, 1) := by decide +kernel
theorem dX12_among_9 : decode cX12_among 9 = .ok (.if_icmp .ge 85, 3) := by decide +kernel
theorem dX12_among_12 : decode cX12_among 12 = .ok (.aload_n 0, 1) := by decide +kernel
theorem dX12_among_13 : decode cX12_among 13 = .ok (.getfield 97, 3) := by decide +kernel
theorem dX12_among_16 : decode cX12_among 16 = .ok (.iload 6, 2) := by decide +kernel
theorem dX12_among_18 : decode cX12_among 18 = .ok (.iaload, 1) := by decide +kernel
theorem dX12_among_19 : decode cX12_among 19 = .ok (.aload_n 0, 1) := by decide +kernel
theorem dX12_among_20 : decode cX12_among 20 = .ok (.getfield 97, 3) := by decide +kernel
theorem dX12_among_23 : decode cX12_among 23 = .ok (.iload_n 3, 1) := by decide +kernel
theorem dX12_among_24 : decode cX12_among 24 = .ok (.iaload, 1) := by decide +kernel
theorem dX12_among_25 : decode cX12_among 25 = .ok (.if_icmp .ne 63, 3) := by decide +kernel
theorem dX12_among_28 : decode cX12_among 28 = .ok (.aload_n 0, 1) := by decide +kernel
theorem dX12_among_29 : decode cX12_among 29 = .ok (.getfield 100, 3) := by decide +kernel
theorem dX12_among_32 : decode cX12_among 32 = .ok (.iload 6, 2) := by decide +kernel
theorem dX12_among_34 : decode cX12_among 34 = .ok (.iaload, 1) := by decide +kernel
theorem dX12_among_35 : decode cX12_among 35 = .ok (.aload_n 0, 1) := by decide +kernel
theorem dX12_among_36 : decode cX12_among 36 = .ok (.getfield 100, 3) := by decide +kernel
theorem dX12_among_39 : decode cX12_among 39 = .ok (.iload_n 3, 1) := by decide +kernel
theorem dX12_among_40 : decode cX12_among 40 = .ok (.iaload, 1) := by decide +kernel
theorem dX12_among_41 : decode cX12_among 41 = .ok (.if_icmp .ne 47, 3) := by decide +kernel
theorem dX12_among_44 : decode cX12_among 44 = .ok (.aload_n 0, 1) := by decide +kernel
theorem dX12_among_45 : decode cX12_among 45 = .ok (.getfield 103, 3) := by decide +kernel
theorem dX12_among_48 : decode cX12_among 48 = .ok (.iload 6, 2) := by decide +kernel
theorem dX12_among_50 : decode cX12_among 50 = .ok (.iaload, 1) := by decide +kernel
theorem dX12_among_51 : decode cX12_among 51 = .ok (.aload_n 0, 1) := by decide +kernel
theorem dX12_among_52 : decode cX12_among 52 = .ok (.getfield 103, 3) := by decide +kernel
theorem dX12_among_55 : decode cX12_among 55 = .ok (.iload_n 3, 1) := by decide +kernel
theorem dX12_among_56 : decode cX12_among 56 = .ok (.iaload, 1) := by decide +kernel
theorem dX12_among_57 : decode cX12_among 57 = .ok (.if_icmp .ne 31, 3) := by decide +kernel
theorem dX12_among_60 : decode cX12_among 60 = .ok (.aload_n 0, 1) := by decide +kernel
theorem dX12_among_61 : decode cX12_among 61 = .ok (.getfield 106, 3) := by decide +kernel
theorem dX12_among_64 : decode cX12_among 64 = .ok (.iload 6, 2) := by decide +kernel
theorem dX12_among_66 : decode cX12_among 66 = .ok (.iaload, 1) := by decide +kernel
theorem dX12_among_67 : decode cX12_among 67 = .ok (.aload_n 0, 1) := by decide +kernel
theorem dX12_among_68 : decode cX12_among 68 = .ok (.getfield 106, 3) := by decide +kernel
theorem dX12_among_71 : decode cX12_among 71 = .ok (.iload_n 3, 1) := by decide +kernel
theorem dX12_among_72 : decode cX12_among 72 = .ok (.iaload, 1) := by decide +kernel
theorem dX12_among_73 : decode cX12_among 73 = .ok (.if_icmp .ne 15, 3) := by decide +kernel
theorem dX12_among_76 : decode cX12_among 76 = .ok (.lload 4, 2) := by decide +kernel
theorem dX12_among_78 : decode cX12_among 78 = .ok (.aload_n 0, 1) := by decide +kernel
theorem dX12_among_79 : decode cX12_among 79 = .ok (.getfield 109, 3) := by decide +kernel
theorem dX12_among_82 : decode cX12_among 82 = .ok (.iload 6, 2) := by decide +kernel
theorem dX12_among_84 : decode cX12_among 84 = .ok (.laload, 1) := by decide +kernel
theorem dX12_among_85 : decode cX12_among 85 = .ok (.ladd, 1) := by decide +kernel
theorem dX12_among_86 : decode cX12_among 86 = .ok (.lstore 4, 2) := by decide +kernel
theorem dX12_among_88 : decode cX12_among 88 = .ok (.iinc 6 1, 3) := by decide +kernel
theorem dX12_among_91 : decode cX12_among 91 = .ok (.goto (-85), 3) := by decide +kernel
theorem dX12_among_94 : decode cX12_among 94 = .ok (.lload 4, 2) := by decide +kernel
theorem dX12_among_96 : decode cX12_among 96 = .ok (.lreturn, 1) := by decide +kernel
def m_X12_among_88 (k6 : Int32 → Int32 → Int64 → Int32 → Hp → Prop) (Q : Int64 → Hp → Prop) (v2 : Int32) (v3 : Int32) (v4 : Int64) (v6 : Int32) (h : Hp) : Prop := ∀ x1 : Int32, x1 = v6 + 1 → k6 v2 v3 v4 x1 h
set_option maxHeartbeats 4000000 in
set_option maxRecDepth 100000 in
theorem s_X12_among_88 {l : Launch} {G : Cx} {d : Nat} {h0 : Hp} (hd : 2 ≤ d) {k6 : Int32 → Int32 → Int64 → Int32 → Hp → Prop} {Q : Int64 → Hp → Prop} (hk6 : ∀ (v2 : Int32) (v3 : Int32) (v4 : Int64) (v6 : Int32) (hh : Hp), k6 v2 v3 v4 v6 hh → Rn l G d 0 0 MX12_among h0 (qJ Q) 6 [some (tR 12 0 (some 51)), none, some (tI v2), some (tI v3), some (tJ v4), none, some (tI v6)] [] hh 0 0) {v2 : Int32} {v3 : Int32} {v4 : Int64} {v6 : Int32} {h : Hp} (hm : m_X12_among_88 k6 Q v2 v3 v4 v6 h) : Rn l G d 0 0 MX12_among h0 (qJ Q) 88 [some (tR 12 0 (some 51)), none, some (tI v2), some (tI v3), some (tJ v4), none, some (tI v6)] [] h 0 0 := by
  unfold m_X12_among_88 at hm
  obtain ⟨x1, e_x1⟩ : ∃ y : Int32, y = v6 + 1 := ⟨_, rfl⟩
  replace hm := hm x1 e_x1
  refine r_iinc (L' := [some (tR 12 0 (some 51)), none, some (tI v2), some (tI v3), some (tJ v4), none, some (tI x1)]) dX12_among_88 rfl (by rw [e_x1]; rfl) (by decide) rfl ?_
  refine r_goto (tgt := 6) dX12_among_91 rfl ?_
  refine r_keep (L' := [some (tR 12 0 (some 51)), none, some (tI v2), some (tI v3), some (tJ v4), none, some (tI x1)]) [true, false, true, true, true, false, true] rfl ?_
  exact hk6 _ _ _ _ _ hm
def m_X12_among_6 : Nat → (Int64 → Hp → Prop) → Int32 → Int32 → Int64 → Int32 → Hp → Prop
  | 0, _, _, _, _, _, _ => False
  | n + 1, Q, v2, v3, v4, v6, h => (v2 ≤ v6 → Q v4 h) ∧ (¬ v2 ≤ v6 → vp_in v6 256 ∧ (vp_in v3 256 ∧ ((¬ (hI h 79 (ix v6)) = (hI h 79 (ix v3)) → m_X12_among_88 (fun (v2 : Int32) (v3 : Int32) (v4 : Int64) (v6 : Int32) (hh : Hp) => m_X12_among_6 n Q v2 v3 v4 v6 hh) Q v2 v3 v4 v6 h) ∧ ((hI h 79 (ix v6)) = (hI h 79 (ix v3)) → vp_in v6 256 ∧ (vp_in v3 256 ∧ ((¬ (hI h 80 (ix v6)) = (hI h 80 (ix v3)) → m_X12_among_88 (fun (v2 : Int32) (v3 : Int32) (v4 : Int64) (v6 : Int32) (hh : Hp) => m_X12_among_6 n Q v2 v3 v4 v6 hh) Q v2 v3 v4 v6 h) ∧ ((hI h 80 (ix v6)) = (hI h 80 (ix v3)) → vp_in v6 256 ∧ (vp_in v3 256 ∧ ((¬ (hI h 81 (ix v6)) = (hI h 81 (ix v3)) → m_X12_among_88 (fun (v2 : Int32) (v3 : Int32) (v4 : Int64) (v6 : Int32) (hh : Hp) => m_X12_among_6 n Q v2 v3 v4 v6 hh) Q v2 v3 v4 v6 h) ∧ ((hI h 81 (ix v6)) = (hI h 81 (ix v3)) → vp_in v6 256 ∧ (vp_in v3 256 ∧ ((¬ (hI h 82 (ix v6)) = (hI h 82 (ix v3)) → m_X12_among_88 (fun (v2 : Int32) (v3 : Int32) (v4 : Int64) (v6 : Int32) (hh : Hp) => m_X12_among_6 n Q v2 v3 v4 v6 hh) Q v2 v3 v4 v6 h) ∧ ((hI h 82 (ix v6)) = (hI h 82 (ix v3)) → vp_in v6 256 ∧ (∀ x2 : Int64, x2 = (v4 + (hJ h 83 (ix v6))) → m_X12_among_88 (fun (v2 : Int32) (v3 : Int32) (v4 : Int64) (v6 : Int32) (hh : Hp) => m_X12_among_6 n Q v2 v3 v4 v6 hh) Q v2 v3 x2 v6 h))))))))))))))
set_option maxHeartbeats 4000000 in
set_option maxRecDepth 100000 in
theorem s_X12_among_6 {l : Launch} {G : Cx} {d : Nat} {h0 : Hp} (hd : 2 ≤ d) {Q : Int64 → Hp → Prop} : ∀ {n : Nat} {v2 : Int32} {v3 : Int32} {v4 : Int64} {v6 : Int32} {h : Hp}, m_X12_among_6 n Q v2 v3 v4 v6 h → Rn l G d 0 0 MX12_among h0 (qJ Q) 6 [some (tR 12 0 (some 51)), none, some (tI v2), some (tI v3), some (tJ v4), none, some (tI v6)] [] h 0 0 := by
  intro n
  induction n with
  | zero => intro v2 v3 v4 v6 h hm; exact hm.elim
  | succ n ih =>
    intro v2 v3 v4 v6 h hm
    have hk6 := fun (v2 : Int32) (v3 : Int32) (v4 : Int64) (v6 : Int32) (hh : Hp) (hm : m_X12_among_6 n Q v2 v3 v4 v6 hh) => ih hm
    rw [m_X12_among_6] at hm
    refine r_iload dX12_among_6 rfl ?_
    refine r_iload_n dX12_among_8 rfl rfl ?_
    refine r_icmp_ge (tgt := 94) dX12_among_9 rfl (fun hc => ?_) (fun hc => ?_)
    · replace hm := hm.1 hc
      refine r_lload dX12_among_94 rfl ?_
      exact r_lreturn dX12_among_96 rfl ⟨by decide, by decide⟩ ⟨_, rfl, hm⟩
    · replace hm := hm.2 hc
      refine r_aload_n dX12_among_12 rfl rfl ?_
      refine r_getC (k := 49) cl_12 dX12_among_13 t_1321 gf_12_49.1 gf_12_49.2 (gc_12_49 _) ?_
      refine r_iload dX12_among_16 rfl ?_
      refine r_iald dX12_among_18 hm.1 ?_
      replace hm := hm.2
      refine r_aload_n dX12_among_19 rfl rfl ?_
      refine r_getC (k := 49) cl_12 dX12_among_20 t_1321 gf_12_49.1 gf_12_49.2 (gc_12_49 _) ?_
      refine r_iload_n dX12_among_23 rfl rfl ?_
      refine r_iald dX12_among_24 hm.1 ?_
      replace hm := hm.2
      refine r_icmp_ne (tgt := 88) dX12_among_25 rfl (fun hc => ?_) (fun hc => ?_)
      · replace hm := hm.1 hc
        refine r_keep (L' := [some (tR 12 0 (some 51)), none, some (tI v2), some (tI v3), some (tJ v4), none, some (tI v6)]) [true, false, true, true, true, false, true] rfl ?_
        exact s_X12_among_88 hd hk6 hm
      · replace hm := hm.2 hc
        refine r_aload_n dX12_among_28 rfl rfl ?_
        refine r_getC (k := 50) cl_12 dX12_among_29 t_1322 gf_12_50.1 gf_12_50.2 (gc_12_50 _) ?_
        refine r_iload dX12_among_32 rfl ?_
        refine r_iald dX12_among_34 hm.1 ?_
        replace hm := hm.2
        refine r_aload_n dX12_among_35 rfl rfl ?_
        refine r_getC (k := 50) cl_12 dX12_among_36 t_1322 gf_12_50.1 gf_12_50.2 (gc_12_50 _) ?_
        refine r_iload_n dX12_among_39 rfl rfl ?_
        refine r_iald dX12_among_40 hm.1 ?_
        replace hm := hm.2
        refine r_icmp_ne (tgt := 88) dX12_among_41 rfl (fun hc => ?_) (fun hc => ?_)
        · replace hm := hm.1 hc
          refine r_keep (L' := [some (tR 12 0 (some 51)), none, some (tI v2), some (tI v3), some (tJ v4), none, some (tI v6)]) [true, false, true, true, true, false, true] rfl ?_
          exact s_X12_among_88 hd hk6 hm
        · replace hm := hm.2 hc
          refine r_aload_n dX12_among_44 rfl rfl ?_
          refine r_getC (k := 51) cl_12 dX12_among_45 t_1323 gf_12_51.1 gf_12_51.2 (gc_12_51 _) ?_
          refine r_iload dX12_among_48 rfl ?_
          refine r_iald dX12_among_50 hm.1 ?_
          replace hm := hm.2
          refine r_aload_n dX12_among_51 rfl rfl ?_
          refine r_getC (k := 51) cl_12 dX12_among_52 t_1323 gf_12_51.1 gf_12_51.2 (gc_12_51 _) ?_
          refine r_iload_n dX12_among_55 rfl rfl ?_
          refine r_iald dX12_among_56 hm.1 ?_
          replace hm := hm.2
          refine r_icmp_ne (tgt := 88) dX12_among_57 rfl (fun hc => ?_) (fun hc => ?_)
          · replace hm := hm.1 hc
            refine r_keep (L' := [some (tR 12 0 (some 51)), none, some (tI v2), some (tI v3), some (tJ v4), none, some (tI v6)]) [true, false, true, true, true, false, true] rfl ?_
            exact s_X12_among_88 hd hk6 hm
          · replace hm := hm.2 hc
            refine r_aload_n dX12_among_60 rfl rfl ?_
            refine r_getC (k := 52) cl_12 dX12_among_61 t_1324 gf_12_52.1 gf_12_52.2 (gc_12_52 _) ?_
            refine r_iload dX12_among_64 rfl ?_
            refine r_iald dX12_among_66 hm.1 ?_
            replace hm := hm.2
            refine r_aload_n dX12_among_67 rfl rfl ?_
            refine r_getC (k := 52) cl_12 dX12_among_68 t_1324 gf_12_52.1 gf_12_52.2 (gc_12_52 _) ?_
            refine r_iload_n dX12_among_71 rfl rfl ?_
            refine r_iald dX12_among_72 hm.1 ?_
            replace hm := hm.2
            refine r_icmp_ne (tgt := 88) dX12_among_73 rfl (fun hc => ?_) (fun hc => ?_)
            · replace hm := hm.1 hc
              refine r_keep (L' := [some (tR 12 0 (some 51)), none, some (tI v2), some (tI v3), some (tJ v4), none, some (tI v6)]) [true, false, true, true, true, false, true] rfl ?_
              exact s_X12_among_88 hd hk6 hm
            · replace hm := hm.2 hc
              refine r_lload dX12_among_76 rfl ?_
              refine r_aload_n dX12_among_78 rfl rfl ?_
              refine r_getC (k := 53) cl_12 dX12_among_79 t_1325 gf_12_53.1 gf_12_53.2 (gc_12_53 _) ?_
              refine r_iload dX12_among_82 rfl ?_
              refine r_lald dX12_among_84 hm.1 ?_
              replace hm := hm.2
              refine r_ladd dX12_among_85 ?_
              refine r_nmJ (fun x2 e_x2 => ?_)
              replace hm := hm x2 e_x2
              refine r_lstore (L' := [some (tR 12 0 (some 51)), none, some (tI v2), some (tI v3), some (tJ x2), none, some (tI v6)]) dX12_among_86 (by decide) rfl ?_
              refine r_keep (L' := [some (tR 12 0 (some 51)), none, some (tI v2), some (tI v3), some (tJ x2), none, some (tI v6)]) [true, false, true, true, true, false, true] rfl ?_
              exact s_X12_among_88 hd hk6 hm
def m_X12_among (v1 : Int32) (v2 : Int32) (v3 : Int32) (h : Hp) (Q : Int64 → Hp → Prop) : Prop := ∃ n6, m_X12_among_6 n6 Q v2 v3 0 v1 h
set_option maxHeartbeats 4000000 in
set_option maxRecDepth 100000 in
theorem s_X12_among {l : Launch} {G : Cx} {d : Nat} (hd : 2 ≤ d) {v1 : Int32} {v2 : Int32} {v3 : Int32} {h : Hp} {Q : Int64 → Hp → Prop} (hm : m_X12_among v1 v2 v3 h Q) : Ct l G d 0 0 yX12_among MX12_among [tR 12 0 (some 51), tI v1, tI v2, tI v3] h (qJ Q) := by
  unfold m_X12_among at hm
  refine Ct.of (L := [some (tR 12 0 (some 51)), some (tI v1), some (tI v2), some (tI v3)]) (by decide) rfl rfl (Nat.le_of_ble_eq_true rfl) rfl ?_
  refine r_lconst (v := 0) dX12_among_0 rfl ?_
  refine r_lstore (L' := [some (tR 12 0 (some 51)), some (tI v1), some (tI v2), some (tI v3), some (tJ 0), none]) dX12_among_1 (by decide) rfl ?_
  refine r_iload_n dX12_among_3 rfl rfl ?_
  refine r_istore (L' := [some (tR 12 0 (some 51)), some (tI v1), some (tI v2), some (tI v3), some (tJ 0), none, some (tI v1)]) dX12_among_4 (by decide) rfl ?_
  refine r_keep (L' := [some (tR 12 0 (some 51)), none, some (tI v2), some (tI v3), some (tJ 0), none, some (tI v1)]) [true, false, true, true, true, false, true] rfl ?_
  obtain ⟨n, hm⟩ := hm
  refine s_X12_among_6 hd hm
theorem dX12_same_0 : decode cX12_same 0 = .ok (.aload_n 0, 1) := by decide +kernel
theorem dX12_same_1 : decode cX12_same 1 = .ok (.iload_n 1, 1) := by decide +kernel
theorem dX12_same_2 : decode cX12_same 2 = .ok (.invokevirtual 352, 3) := by decide +kernel
theorem dX12_same_5 : decode cX12_same 5 = .ok (.ifCond .eq 11, 3) := by decide +kernel
theorem dX12_same_8 : decode cX12_same 8 = .ok (.aload_n 0, 1) := by decide +kernel
theorem dX12_same_9 : decode cX12_same 9 = .ok (.iload_n 2, 1) := by decide +kernel
theorem dX12_same_10 : decode cX12_same 10 = .ok (.invokevirtual 352, 3) := by decide +kernel
theorem dX12_same_13 : decode cX12_same 13 = .ok (.ifCond .ne 6, 3) := by decide +kernel
theorem dX12_same_16 : decode cX12_same 16 = .ok (.bipush (-2), 2) := by decide +kernel
theorem dX12_same_18 : decode cX12_same 18 = .ok (.ireturn, 1) := by decide +kernel
theorem dX12_same_19 : decode cX12_same 19 = .ok (.aload_n 0, 1) := by decide +kernel
theorem dX12_same_20 : decode cX12_same 20 = .ok (.getfield 22, 3) := by decide +kernel
theorem dX12_same_23 : decode cX12_same 23 = .ok (.iload_n 1, 1) := by decide +kernel
theorem dX12_same_24 : decode cX12_same 24 = .ok (.iaload, 1) := by decide +kernel
theorem dX12_same_25 : decode cX12_same 25 = .ok (.aload_n 0, 1) := by decide +kernel
theorem dX12_same_26 : decode cX12_same 26 = .ok (.getfield 22, 3) := by decide +kernel
theorem dX12_same_29 : decode cX12_same 29 = .ok (.iload_n 2, 1) := by decide +kernel
theorem dX12_same_30 : decode cX12_same 30 = .ok (.iaload, 1) := by decide +kernel
theorem dX12_same_31 : decode cX12_same 31 = .ok (.if_icmp .le 12, 3) := by decide +kernel
theorem dX12_same_34 : decode cX12_same 34 = .ok (.aload_n 0, 1) := by decide +kernel
theorem dX12_same_35 : decode cX12_same 35 = .ok (.getfield 22, 3) := by decide +kernel
theorem dX12_same_38 : decode cX12_same 38 = .ok (.iload_n 1, 1) := by decide +kernel
theorem dX12_same_39 : decode cX12_same 39 = .ok (.iaload, 1) := by decide +kernel
theorem dX12_same_40 : decode cX12_same 40 = .ok (.goto 9, 3) := by decide +kernel
theorem dX12_same_43 : decode cX12_same 43 = .ok (.aload_n 0, 1) := by decide +kernel
theorem dX12_same_44 : decode cX12_same 44 = .ok (.getfield 22, 3) := by decide +kernel
theorem dX12_same_47 : decode cX12_same 47 = .ok (.iload_n 2, 1) := by decide +kernel
theorem dX12_same_48 : decode cX12_same 48 = .ok (.iaload, 1) := by decide +kernel
theorem dX12_same_49 : decode cX12_same 49 = .ok (.istore_n 3, 1) := by decide +kernel
theorem dX12_same_50 : decode cX12_same 50 = .ok (.iconst 0, 1) := by decide +kernel
theorem dX12_same_51 : decode cX12_same 51 = .ok (.istore 4, 2) := by decide +kernel
theorem dX12_same_53 : decode cX12_same 53 = .ok (.iload 4, 2) := by decide +kernel
theorem dX12_same_55 : decode cX12_same 55 = .ok (.bipush 32, 2) := by decide +kernel
theorem dX12_same_57 : decode cX12_same 57 = .ok (.iload_n 3, 1) := by decide +kernel
theorem dX12_same_58 : decode cX12_same 58 = .ok (.ishl, 1) := by decide +kernel
theorem dX12_same_59 : decode cX12_same 59 = .ok (.if_icmp .ge 82, 3) := by decide +kernel
theorem dX12_same_62 : decode cX12_same 62 = .ok (.aload_n 0, 1) := by decide +kernel
theorem dX12_same_63 : decode cX12_same 63 = .ok (.iconst 0, 1) := by decide +kernel
theorem dX12_same_64 : decode cX12_same 64 = .ok (.putfield 404, 3) := by decide +kernel
theorem dX12_same_67 : decode cX12_same 67 = .ok (.aload_n 0, 1) := by decide +kernel
theorem dX12_same_68 : decode cX12_same 68 = .ok (.iload_n 1, 1) := by decide +kernel
theorem dX12_same_69 : decode cX12_same 69 = .ok (.iload 4, 2) := by decide +kernel
theorem dX12_same_71 : decode cX12_same 71 = .ok (.iconst 5, 1) := by decide +kernel
theorem dX12_same_72 : decode cX12_same 72 = .ok (.invokevirtual 415, 3) := by decide +kernel
theorem dX12_same_75 : decode cX12_same 75 = .ok (.aload_n 0, 1) := by decide +kernel
theorem dX12_same_76 : decode cX12_same 76 = .ok (.getfield 404, 3) := by decide +kernel
theorem dX12_same_79 : decode cX12_same 79 = .ok (.istore 5, 2) := by decide +kernel
theorem dX12_same_81 : decode cX12_same 81 = .ok (.aload_n 0, 1) := by decide +kernel
theorem dX12_same_82 : decode cX12_same 82 = .ok (.iload_n 2, 1) := by decide +kernel
theorem dX12_same_83 : decode cX12_same 83 = .ok (.iload 4, 2) := by decide +kernel
theorem dX12_same_85 : decode cX12_same 85 = .ok (.iconst 5, 1) := by decide +kernel
theorem dX12_same_86 : decode cX12_same 86 = .ok (.invokevirtual 415, 3) := by decide +kernel
theorem dX12_same_89 : decode cX12_same 89 = .ok (.iconst 0, 1) := by decide +kernel
theorem dX12_same_90 : decode cX12_same 90 = .ok (.istore 6, 2) := by decide +kernel
theorem dX12_same_92 : decode cX12_same 92 = .ok (.iload 6, 2) := by decide +kernel
theorem dX12_same_94 : decode cX12_same 94 = .ok (.aload_n 0, 1) := by decide +kernel
theorem dX12_same_95 : decode cX12_same 95 = .ok (.getfield 404, 3) := by decide +kernel
theorem dX12_same_98 : decode cX12_same 98 = .ok (.if_icmp .ge 37, 3) := by decide +kernel
theorem dX12_same_101 : decode cX12_same 101 = .ok (.aload_n 0, 1) := by decide +kernel
theorem dX12_same_102 : decode cX12_same 102 = .ok (.iconst 0, 1) := by decide +kernel
theorem dX12_same_103 : decode cX12_same 103 = .ok (.iload 5, 2) := by decide +kernel
theorem dX12_same_105 : decode cX12_same 105 = .ok (.iload 6, 2) := by decide +kernel
theorem dX12_same_107 : decode cX12_same 107 = .ok (.invokevirtual 419, 3) := by decide +kernel
theorem dX12_same_110 : decode cX12_same 110 = .ok (.aload_n 0, 1) := by decide +kernel
theorem dX12_same_111 : decode cX12_same 111 = .ok (.iload 5, 2) := by decide +kernel
theorem dX12_same_113 : decode cX12_same 113 = .ok (.aload_n 0, 1) := by decide +kernel
theorem dX12_same_114 : decode cX12_same 114 = .ok (.getfield 404, 3) := by decide +kernel
theorem dX12_same_117 : decode cX12_same 117 = .ok (.iload 6, 2) := by decide +kernel
theorem dX12_same_119 : decode cX12_same 119 = .ok (.invokevirtual 419, 3) := by decide +kernel
theorem dX12_same_122 : decode cX12_same 122 = .ok (.lcmp, 1) := by decide +kernel
theorem dX12_same_123 : decode cX12_same 123 = .ok (.ifCond .eq 6, 3) := by decide +kernel
theorem dX12_same_126 : decode cX12_same 126 = .ok (.iload 4, 2) := by decide +kernel
theorem dX12_same_128 : decode cX12_same 128 = .ok (.ireturn, 1) := by decide +kernel
theorem dX12_same_129 : decode cX12_same 129 = .ok (.iinc 6 1, 3) := by decide +kernel
theorem dX12_same_132 : decode cX12_same 132 = .ok (.goto (-40), 3) := by decide +kernel
theorem dX12_same_135 : decode cX12_same 135 = .ok (.iinc 4 1, 3) := by decide +kernel
theorem dX12_same_138 : decode cX12_same 138 = .ok (.goto (-85), 3) := by decide +kernel
theorem dX12_same_141 : decode cX12_same 141 = .ok (.iconst (-1), 1) := by decide +kernel
theorem dX12_same_142 : decode cX12_same 142 = .ok (.ireturn, 1) := by decide +kernel
def m_X12_same_135 (k53 : Int32 → Int32 → Int32 → Int32 → Hp → Prop) (Q : Int32 → Hp → Prop) (v1 : Int32) (v2 : Int32) (v3 : Int32) (v4 : Int32) (h : Hp) : Prop := ∀ x1 : Int32, x1 = v4 + 1 → k53 v1 v2 v3 x1 h
set_option maxHeartbeats 4000000 in
set_option maxRecDepth 100000 in
theorem s_X12_same_135 {l : Launch} {G : Cx} {d : Nat} {h0 : Hp} (hd : 6 ≤ d) {k53 : Int32 → Int32 → Int32 → Int32 → Hp → Prop} {Q : Int32 → Hp → Prop} (hk53 : ∀ (v1 : Int32) (v2 : Int32) (v3 : Int32) (v4 : Int32) (hh : Hp), k53 v1 v2 v3 v4 hh → Rn l G d 0 0 MX12_same h0 (qI Q) 53 [some (tR 12 0 (some 51)), some (tI v1), some (tI v2), some (tI v3), some (tI v4)] [] hh 0 0) {v1 : Int32} {v2 : Int32} {v3 : Int32} {v4 : Int32} {h : Hp} (hm : m_X12_same_135 k53 Q v1 v2 v3 v4 h) : Rn l G d 0 0 MX12_same h0 (qI Q) 135 [some (tR 12 0 (some 51)), some (tI v1), some (tI v2), some (tI v3), some (tI v4)] [] h 0 0 := by
  unfold m_X12_same_135 at hm
  obtain ⟨x1, e_x1⟩ : ∃ y : Int32, y = v4 + 1 := ⟨_, rfl⟩
  replace hm := hm x1 e_x1
  refine r_iinc (L' := [some (tR 12 0 (some 51)), some (tI v1), some (tI v2), some (tI v3), some (tI x1)]) dX12_same_135 rfl (by rw [e_x1]; rfl) (by decide) rfl ?_
  refine r_goto (tgt := 53) dX12_same_138 rfl ?_
  refine r_keep (L' := [some (tR 12 0 (some 51)), some (tI v1), some (tI v2), some (tI v3), some (tI x1)]) [true, true, true, true, true] rfl ?_
  exact hk53 _ _ _ _ _ hm
def m_X12_same_92 : Nat → (Int32 → Int32 → Int32 → Int32 → Hp → Prop) → (Int32 → Hp → Prop) → Int32 → Int32 → Int32 → Int32 → Int32 → Int32 → Hp → Prop
  | 0, _, _, _, _, _, _, _, _, _ => False
  | n + 1, k135, Q, v1, v2, v3, v4, v5, v6, h => ((hI h 51 48) ≤ v6 → k135 v1 v2 v3 v4 h) ∧ (¬ (hI h 51 48) ≤ v6 → m_X12_among 0 v5 v6 h (fun (x2 : Int64) (h3 : Hp) => m_X12_among v5 (hI h3 51 48) v6 h3 (fun (x4 : Int64) (h5 : Hp) => ((lg_cmp x2 x4) = 0 → ∀ x6 : Int32, x6 = v6 + 1 → m_X12_same_92 n k135 Q v1 v2 v3 v4 v5 x6 h5) ∧ (¬ (lg_cmp x2 x4) = 0 → Q v4 h5))))
set_option maxHeartbeats 4000000 in
set_option maxRecDepth 100000 in
theorem s_X12_same_92 {l : Launch} {G : Cx} {d : Nat} {h0 : Hp} (hd : 6 ≤ d) {k135 : Int32 → Int32 → Int32 → Int32 → Hp → Prop} {Q : Int32 → Hp → Prop} (hk135 : ∀ (v1 : Int32) (v2 : Int32) (v3 : Int32) (v4 : Int32) (hh : Hp), k135 v1 v2 v3 v4 hh → Rn l G d 0 0 MX12_same h0 (qI Q) 135 [some (tR 12 0 (some 51)), some (tI v1), some (tI v2), some (tI v3), some (tI v4)] [] hh 0 0) : ∀ {n : Nat} {v1 : Int32} {v2 : Int32} {v3 : Int32} {v4 : Int32} {v5 : Int32} {v6 : Int32} {h : Hp}, m_X12_same_92 n k135 Q v1 v2 v3 v4 v5 v6 h → Rn l G d 0 0 MX12_same h0 (qI Q) 92 [some (tR 12 0 (some 51)), some (tI v1), some (tI v2), some (tI v3), some (tI v4), some (tI v5), some (tI v6)] [] h 0 0 := by
  intro n
  induction n with
  | zero => intro v1 v2 v3 v4 v5 v6 h hm; exact hm.elim
  | succ n ih =>
    intro v1 v2 v3 v4 v5 v6 h hm
    have hk92 := fun (v1 : Int32) (v2 : Int32) (v3 : Int32) (v4 : Int32) (v5 : Int32) (v6 : Int32) (hh : Hp) (hm : m_X12_same_92 n k135 Q v1 v2 v3 v4 v5 v6 hh) => ih hm
    rw [m_X12_same_92] at hm
    refine r_iload dX12_same_92 rfl ?_
    refine r_aload_n dX12_same_94 rfl rfl ?_
    refine r_getI (k := 48) cl_12 dX12_same_95 t_1320 (Or.inl rfl) gf_12_48 ?_
    refine r_icmp_ge (tgt := 135) dX12_same_98 rfl (fun hc => ?_) (fun hc => ?_)
    · replace hm := hm.1 hc
      refine r_keep (L' := [some (tR 12 0 (some 51)), some (tI v1), some (tI v2), some (tI v3), some (tI v4)]) [true, true, true, true, true] rfl ?_
      exact hk135 _ _ _ _ _ hm
    · replace hm := hm.2 hc
      refine r_aload_n dX12_same_101 rfl rfl ?_
      refine r_iconst (v := 0) dX12_same_102 rfl ?_
      refine r_iload dX12_same_103 rfl ?_
      refine r_iload dX12_same_105 rfl ?_
      refine r_callVJ (d' := d - 1) (as := [tI 0, tI v5, tI v6]) (st := []) cl_12 dX12_same_107 mi_X12_among t_1741 t_1743 ts_88 rfl rfl (Nat.le_of_ble_eq_true rfl) (by omega) ⟨by decide, by decide⟩ ⟨rfl, rfl⟩ (s_X12_among (by omega) hm) (fun x2 h3 hm => ?_)
      refine r_aload_n dX12_same_110 rfl rfl ?_
      refine r_iload dX12_same_111 rfl ?_
      refine r_aload_n dX12_same_113 rfl rfl ?_
      refine r_getI (k := 48) cl_12 dX12_same_114 t_1320 (Or.inl rfl) gf_12_48 ?_
      refine r_iload dX12_same_117 rfl ?_
      refine r_callVJ (d' := d - 1) (as := [tI v5, tI (hI h3 51 48), tI v6]) (st := [tJ x2]) cl_12 dX12_same_119 mi_X12_among t_1741 t_1743 ts_88 rfl rfl (Nat.le_of_ble_eq_true rfl) (by omega) ⟨by decide, by decide⟩ ⟨rfl, rfl⟩ (s_X12_among (by omega) hm) (fun x4 h5 hm => ?_)
      refine r_lcmp dX12_same_122 ?_
      refine r_if_eq (tgt := 129) dX12_same_123 rfl (fun hc => ?_) (fun hc => ?_)
      · replace hm := hm.1 hc
        obtain ⟨x6, e_x6⟩ : ∃ y : Int32, y = v6 + 1 := ⟨_, rfl⟩
        replace hm := hm x6 e_x6
        refine r_iinc (L' := [some (tR 12 0 (some 51)), some (tI v1), some (tI v2), some (tI v3), some (tI v4), some (tI v5), some (tI x6)]) dX12_same_129 rfl (by rw [e_x6]; rfl) (by decide) rfl ?_
        refine r_goto (tgt := 92) dX12_same_132 rfl ?_
        refine r_keep (L' := [some (tR 12 0 (some 51)), some (tI v1), some (tI v2), some (tI v3), some (tI v4), some (tI v5), some (tI x6)]) [true, true, true, true, true, true, true] rfl ?_
        exact hk92 _ _ _ _ _ _ _ hm
      · replace hm := hm.2 hc
        refine r_iload dX12_same_126 rfl ?_
        exact r_ireturn dX12_same_128 rfl ⟨by decide, by decide⟩ ⟨_, rfl, hm⟩
def m_X12_same_53 : Nat → (Int32 → Hp → Prop) → Int32 → Int32 → Int32 → Int32 → Hp → Prop
  | 0, _, _, _, _, _, _ => False
  | n + 1, Q, v1, v2, v3, v4, h => ((32 <<< (v3 &&& 31)) ≤ v4 → Q (-1) h) ∧ (¬ (32 <<< (v3 &&& 31)) ≤ v4 → m_X12_passes v1 v4 5 (wI h 51 48 0) (fun (h8 : Hp) => ∀ x9 : Int32, x9 = (hI h8 51 48) → m_X12_passes v2 v4 5 h8 (fun (h11 : Hp) => ∃ n92, m_X12_same_92 n92 (m_X12_same_135 (fun (v1 : Int32) (v2 : Int32) (v3 : Int32) (v4 : Int32) (hh : Hp) => m_X12_same_53 n Q v1 v2 v3 v4 hh) Q) Q v1 v2 v3 v4 x9 0 h11)))
set_option maxHeartbeats 4000000 in
set_option maxRecDepth 100000 in
theorem s_X12_same_53 {l : Launch} {G : Cx} {d : Nat} {h0 : Hp} (hd : 6 ≤ d) {Q : Int32 → Hp → Prop} : ∀ {n : Nat} {v1 : Int32} {v2 : Int32} {v3 : Int32} {v4 : Int32} {h : Hp}, m_X12_same_53 n Q v1 v2 v3 v4 h → Rn l G d 0 0 MX12_same h0 (qI Q) 53 [some (tR 12 0 (some 51)), some (tI v1), some (tI v2), some (tI v3), some (tI v4)] [] h 0 0 := by
  intro n
  induction n with
  | zero => intro v1 v2 v3 v4 h hm; exact hm.elim
  | succ n ih =>
    intro v1 v2 v3 v4 h hm
    have hk53 := fun (v1 : Int32) (v2 : Int32) (v3 : Int32) (v4 : Int32) (hh : Hp) (hm : m_X12_same_53 n Q v1 v2 v3 v4 hh) => ih hm
    rw [m_X12_same_53] at hm
    refine r_iload dX12_same_53 rfl ?_
    refine r_bipush (v := 32) dX12_same_55 rfl ?_
    refine r_iload_n dX12_same_57 rfl rfl ?_
    refine r_ishl dX12_same_58 ?_
    refine r_icmp_ge (tgt := 141) dX12_same_59 rfl (fun hc => ?_) (fun hc => ?_)
    · replace hm := hm.1 hc
      refine r_iconst (v := (-1)) dX12_same_141 rfl ?_
      exact r_ireturn dX12_same_142 rfl ⟨by decide, by decide⟩ ⟨_, rfl, hm⟩
    · replace hm := hm.2 hc
      refine r_aload_n dX12_same_62 rfl rfl ?_
      refine r_iconst (v := 0) dX12_same_63 rfl ?_
      refine r_putI0 (k := 48) cl_12 dX12_same_64 t_1320 (Or.inl rfl) gf_12_48 pf_12_48.1 (Or.inl pf_12_48.2) ?_
      refine r_aload_n dX12_same_67 rfl rfl ?_
      refine r_iload_n dX12_same_68 rfl rfl ?_
      refine r_iload dX12_same_69 rfl ?_
      refine r_iconst (v := 5) dX12_same_71 rfl ?_
      refine r_callVU (d' := d - 1) (as := [tI v1, tI v4, tI 5]) (st := []) cl_12 dX12_same_72 mi_X12_passes t_1729 t_1731 ts_85 rfl rfl (Nat.le_of_ble_eq_true rfl) (by omega) ⟨by decide, by decide⟩ ⟨rfl, rfl⟩ (s_X12_passes (by omega) hm) (fun h8 hm => ?_)
      refine r_aload_n dX12_same_75 rfl rfl ?_
      refine r_getI (k := 48) cl_12 dX12_same_76 t_1320 (Or.inl rfl) gf_12_48 ?_
      refine r_nmI (fun x9 e_x9 => ?_)
      replace hm := hm x9 e_x9
      refine r_istore (L' := [some (tR 12 0 (some 51)), some (tI v1), some (tI v2), some (tI v3), some (tI v4), some (tI x9)]) dX12_same_79 (by decide) rfl ?_
      refine r_aload_n dX12_same_81 rfl rfl ?_
      refine r_iload_n dX12_same_82 rfl rfl ?_
      refine r_iload dX12_same_83 rfl ?_
      refine r_iconst (v := 5) dX12_same_85 rfl ?_
      refine r_callVU (d' := d - 1) (as := [tI v2, tI v4, tI 5]) (st := []) cl_12 dX12_same_86 mi_X12_passes t_1729 t_1731 ts_85 rfl rfl (Nat.le_of_ble_eq_true rfl) (by omega) ⟨by decide, by decide⟩ ⟨rfl, rfl⟩ (s_X12_passes (by omega) hm) (fun h11 hm => ?_)
      refine r_iconst (v := 0) dX12_same_89 rfl ?_
      refine r_istore (L' := [some (tR 12 0 (some 51)), some (tI v1), some (tI v2), some (tI v3), some (tI v4), some (tI x9), some (tI 0)]) dX12_same_90 (by decide) rfl ?_
      refine r_keep (L' := [some (tR 12 0 (some 51)), some (tI v1), some (tI v2), some (tI v3), some (tI v4), some (tI x9), some (tI 0)]) [true, true, true, true, true, true, true] rfl ?_
      obtain ⟨n, hm⟩ := hm
      refine s_X12_same_92 hd ?_ hm
      · exact (fun _ _ _ _ _ hm => s_X12_same_135 hd hk53 hm)
def m_X12_same_49  (Q : Int32 → Hp → Prop) (v1 : Int32) (v2 : Int32) (s0 : Int32) (h : Hp) : Prop := ∃ n53, m_X12_same_53 n53 Q v1 v2 s0 0 h
set_option maxHeartbeats 4000000 in
set_option maxRecDepth 100000 in
theorem s_X12_same_49 {l : Launch} {G : Cx} {d : Nat} {h0 : Hp} (hd : 6 ≤ d) {Q : Int32 → Hp → Prop} {v1 : Int32} {v2 : Int32} {s0 : Int32} {h : Hp} (hm : m_X12_same_49 Q v1 v2 s0 h) : Rn l G d 0 0 MX12_same h0 (qI Q) 49 [some (tR 12 0 (some 51)), some (tI v1), some (tI v2)] [tI s0] h 0 0 := by
  unfold m_X12_same_49 at hm
  refine r_istore_n (L' := [some (tR 12 0 (some 51)), some (tI v1), some (tI v2), some (tI s0)]) dX12_same_49 rfl (by decide) rfl ?_
  refine r_iconst (v := 0) dX12_same_50 rfl ?_
  refine r_istore (L' := [some (tR 12 0 (some 51)), some (tI v1), some (tI v2), some (tI s0), some (tI 0)]) dX12_same_51 (by decide) rfl ?_
  refine r_keep (L' := [some (tR 12 0 (some 51)), some (tI v1), some (tI v2), some (tI s0), some (tI 0)]) [true, true, true, true, true] rfl ?_
  obtain ⟨n, hm⟩ := hm
  refine s_X12_same_53 hd hm
def m_X12_same (v1 : Int32) (v2 : Int32) (h : Hp) (Q : Int32 → Hp → Prop) : Prop := m_X12_isDeal v1 h (fun (x12 : Int32) (h13 : Hp) => (x12 = 0 → Q (-2) h13) ∧ (¬ x12 = 0 → m_X12_isDeal v2 h13 (fun (x14 : Int32) (h15 : Hp) => (¬ x14 = 0 → vp_in v1 24 ∧ (vp_in v2 24 ∧ (((hI h15 56 (ix v1)) ≤ (hI h15 56 (ix v2)) → vp_in v2 24 ∧ (m_X12_same_49 Q v1 v2 (hI h15 56 (ix v2)) h15)) ∧ (¬ (hI h15 56 (ix v1)) ≤ (hI h15 56 (ix v2)) → vp_in v1 24 ∧ (m_X12_same_49 Q v1 v2 (hI h15 56 (ix v1)) h15))))) ∧ (x14 = 0 → Q (-2) h15))))
set_option maxHeartbeats 4000000 in
set_option maxRecDepth 100000 in
theorem s_X12_same {l : Launch} {G : Cx} {d : Nat} (hd : 6 ≤ d) {v1 : Int32} {v2 : Int32} {h : Hp} {Q : Int32 → Hp → Prop} (hm : m_X12_same v1 v2 h Q) : Ct l G d 0 0 yX12_same MX12_same [tR 12 0 (some 51), tI v1, tI v2] h (qI Q) := by
  unfold m_X12_same at hm
  refine Ct.of (L := [some (tR 12 0 (some 51)), some (tI v1), some (tI v2)]) (by decide) rfl rfl (Nat.le_of_ble_eq_true rfl) rfl ?_
  refine r_aload_n dX12_same_0 rfl rfl ?_
  refine r_iload_n dX12_same_1 rfl rfl ?_
  refine r_callVI (d' := d - 1) (as := [tI v1]) (st := []) cl_12 dX12_same_2 mi_X12_isDeal t_1673 t_1675 ts_74 rfl rfl (Nat.le_of_ble_eq_true rfl) (by omega) ⟨by decide, by decide⟩ ⟨rfl, rfl⟩ (s_X12_isDeal (by omega) hm) (fun x12 h13 hm => ?_)
  refine r_if_eq (tgt := 16) dX12_same_5 rfl (fun hc => ?_) (fun hc => ?_)
  · replace hm := hm.1 hc
    refine r_bipush (v := (-2)) dX12_same_16 rfl ?_
    exact r_ireturn dX12_same_18 rfl ⟨by decide, by decide⟩ ⟨_, rfl, hm⟩
  · replace hm := hm.2 hc
    refine r_aload_n dX12_same_8 rfl rfl ?_
    refine r_iload_n dX12_same_9 rfl rfl ?_
    refine r_callVI (d' := d - 1) (as := [tI v2]) (st := []) cl_12 dX12_same_10 mi_X12_isDeal t_1673 t_1675 ts_74 rfl rfl (Nat.le_of_ble_eq_true rfl) (by omega) ⟨by decide, by decide⟩ ⟨rfl, rfl⟩ (s_X12_isDeal (by omega) hm) (fun x14 h15 hm => ?_)
    refine r_if_ne (tgt := 19) dX12_same_13 rfl (fun hc => ?_) (fun hc => ?_)
    · replace hm := hm.1 hc
      refine r_aload_n dX12_same_19 rfl rfl ?_
      refine r_getC (k := 5) cl_12 dX12_same_20 t_1277 gf_12_5.1 gf_12_5.2 (gc_12_5 _) ?_
      refine r_iload_n dX12_same_23 rfl rfl ?_
      refine r_iald dX12_same_24 hm.1 ?_
      replace hm := hm.2
      refine r_aload_n dX12_same_25 rfl rfl ?_
      refine r_getC (k := 5) cl_12 dX12_same_26 t_1277 gf_12_5.1 gf_12_5.2 (gc_12_5 _) ?_
      refine r_iload_n dX12_same_29 rfl rfl ?_
      refine r_iald dX12_same_30 hm.1 ?_
      replace hm := hm.2
      refine r_icmp_le (tgt := 43) dX12_same_31 rfl (fun hc => ?_) (fun hc => ?_)
      · replace hm := hm.1 hc
        refine r_aload_n dX12_same_43 rfl rfl ?_
        refine r_getC (k := 5) cl_12 dX12_same_44 t_1277 gf_12_5.1 gf_12_5.2 (gc_12_5 _) ?_
        refine r_iload_n dX12_same_47 rfl rfl ?_
        refine r_iald dX12_same_48 hm.1 ?_
        replace hm := hm.2
        refine r_keep (L' := [some (tR 12 0 (some 51)), some (tI v1), some (tI v2)]) [true, true, true] rfl ?_
        exact s_X12_same_49 hd hm
      · replace hm := hm.2 hc
        refine r_aload_n dX12_same_34 rfl rfl ?_
        refine r_getC (k := 5) cl_12 dX12_same_35 t_1277 gf_12_5.1 gf_12_5.2 (gc_12_5 _) ?_
        refine r_iload_n dX12_same_38 rfl rfl ?_
        refine r_iald dX12_same_39 hm.1 ?_
        replace hm := hm.2
        refine r_goto (tgt := 49) dX12_same_40 rfl ?_
        refine r_keep (L' := [some (tR 12 0 (some 51)), some (tI v1), some (tI v2)]) [true, true, true] rfl ?_
        exact s_X12_same_49 hd hm
    · replace hm := hm.2 hc
      refine r_bipush (v := (-2)) dX12_same_16 rfl ?_
      exact r_ireturn dX12_same_18 rfl ⟨by decide, by decide⟩ ⟨_, rfl, hm⟩
theorem dX12_add_0 : decode cX12_add 0 = .ok (.aload_n 0, 1) := rfl
theorem dX12_add_1 : decode cX12_add 1 = .ok (.iload_n 1, 1) := rfl
theorem dX12_add_2 : decode cX12_add 2 = .ok (.invokevirtual 352, 3) := rfl
theorem dX12_add_5 : decode cX12_add 5 = .ok (.ifCond .eq 12, 3) := by decide +kernel
theorem dX12_add_8 : decode cX12_add 8 = .ok (.aload_n 0, 1) := rfl
theorem dX12_add_9 : decode cX12_add 9 = .ok (.getfield 422, 3) := rfl
theorem dX12_add_12 : decode cX12_add 12 = .ok (.bipush 6, 2) := by decide +kernel
theorem dX12_add_14 : decode cX12_add 14 = .ok (.if_icmp .ne 5, 3) := by decide +kernel
theorem dX12_add_17 : decode cX12_add 17 = .ok (.iconst (-1), 1) := rfl
theorem dX12_add_18 : decode cX12_add 18 = .ok (.ireturn, 1) := rfl
theorem dX12_add_19 : decode cX12_add 19 = .ok (.iconst 0, 1) := rfl
theorem dX12_add_20 : decode cX12_add 20 = .ok (.istore_n 2, 1) := rfl
theorem dX12_add_21 : decode cX12_add 21 = .ok (.iload_n 2, 1) := rfl
theorem dX12_add_22 : decode cX12_add 22 = .ok (.aload_n 0, 1) := rfl
theorem dX12_add_23 : decode cX12_add 23 = .ok (.getfield 422, 3) := rfl
theorem dX12_add_26 : decode cX12_add 26 = .ok (.if_icmp .ge 21, 3) := by decide +kernel
theorem dX12_add_29 : decode cX12_add 29 = .ok (.aload_n 0, 1) := rfl
theorem dX12_add_30 : decode cX12_add 30 = .ok (.getfield 113, 3) := rfl
theorem dX12_add_33 : decode cX12_add 33 = .ok (.iload_n 2, 1) := rfl
theorem dX12_add_34 : decode cX12_add 34 = .ok (.iaload, 1) := rfl
theorem dX12_add_35 : decode cX12_add 35 = .ok (.iload_n 1, 1) := rfl
theorem dX12_add_36 : decode cX12_add 36 = .ok (.if_icmp .ne 5, 3) := by decide +kernel
theorem dX12_add_39 : decode cX12_add 39 = .ok (.iconst (-1), 1) := rfl
theorem dX12_add_40 : decode cX12_add 40 = .ok (.ireturn, 1) := rfl
theorem dX12_add_41 : decode cX12_add 41 = .ok (.iinc 2 1, 3) := by decide +kernel
theorem dX12_add_44 : decode cX12_add 44 = .ok (.goto (-23), 3) := by decide +kernel
theorem dX12_add_47 : decode cX12_add 47 = .ok (.aload_n 0, 1) := rfl
theorem dX12_add_48 : decode cX12_add 48 = .ok (.getfield 113, 3) := rfl
theorem dX12_add_51 : decode cX12_add 51 = .ok (.aload_n 0, 1) := rfl
theorem dX12_add_52 : decode cX12_add 52 = .ok (.getfield 422, 3) := rfl
theorem dX12_add_55 : decode cX12_add 55 = .ok (.iload_n 1, 1) := rfl
theorem dX12_add_56 : decode cX12_add 56 = .ok (.iastore, 1) := rfl
theorem dX12_add_57 : decode cX12_add 57 = .ok (.aload_n 0, 1) := rfl
theorem dX12_add_58 : decode cX12_add 58 = .ok (.dup, 1) := rfl
theorem dX12_add_59 : decode cX12_add 59 = .ok (.getfield 422, 3) := rfl
theorem dX12_add_62 : decode cX12_add 62 = .ok (.iconst 1, 1) := rfl
theorem dX12_add_63 : decode cX12_add 63 = .ok (.iadd, 1) := rfl
theorem dX12_add_64 : decode cX12_add 64 = .ok (.putfield 422, 3) := rfl
theorem dX12_add_67 : decode cX12_add 67 = .ok (.aload_n 0, 1) := rfl
theorem dX12_add_68 : decode cX12_add 68 = .ok (.getfield 422, 3) := rfl
theorem dX12_add_71 : decode cX12_add 71 = .ok (.ireturn, 1) := rfl
def m_X12_add_47  (Q : Int32 → Hp → Prop) (v1 : Int32) (h : Hp) : Prop := vp_in (hI h 51 54) 6 ∧ (Q (hI (wI (wI h 84 (ix (hI h 51 54)) v1) 51 54 ((hI (wI h 84 (ix (hI h 51 54)) v1) 51 54) + 1)) 51 54) (wI (wI h 84 (ix (hI h 51 54)) v1) 51 54 ((hI (wI h 84 (ix (hI h 51 54)) v1) 51 54) + 1)))
set_option maxHeartbeats 4000000 in
set_option maxRecDepth 100000 in
theorem s_X12_add_47 {l : Launch} {G : Cx} {d : Nat} {h0 : Hp} (hd : 4 ≤ d) {Q : Int32 → Hp → Prop} {v1 : Int32} {h : Hp} (hm : m_X12_add_47 Q v1 h) : Rn l G d 0 0 MX12_add h0 (qI Q) 47 [some (tR 12 0 (some 51)), some (tI v1)] [] h 0 0 := by
  unfold m_X12_add_47 at hm
  refine r_aload_n dX12_add_47 rfl rfl ?_
  refine r_getC (k := 56) cl_12 dX12_add_48 t_1328 gf_12_56.1 gf_12_56.2 (gc_12_56 _) ?_
  refine r_aload_n dX12_add_51 rfl rfl ?_
  refine r_getI (k := 54) cl_12 dX12_add_52 t_1326 (Or.inl rfl) gf_12_54 ?_
  refine r_iload_n dX12_add_55 rfl rfl ?_
  refine r_iast dX12_add_56 hm.1 ?_
  replace hm := hm.2
  refine r_aload_n dX12_add_57 rfl rfl ?_
  refine r_dup dX12_add_58 cv_cat1R ?_
  refine r_getI (k := 54) cl_12 dX12_add_59 t_1326 (Or.inl rfl) gf_12_54 ?_
  refine r_iconst (v := 1) dX12_add_62 rfl ?_
  refine r_iadd dX12_add_63 ?_
  refine r_putI0 (k := 54) cl_12 dX12_add_64 t_1326 (Or.inl rfl) gf_12_54 pf_12_54.1 (Or.inl pf_12_54.2) ?_
  refine r_aload_n dX12_add_67 rfl rfl ?_
  refine r_getI (k := 54) cl_12 dX12_add_68 t_1326 (Or.inl rfl) gf_12_54 ?_
  exact r_ireturn dX12_add_71 rfl ⟨by decide, by decide⟩ ⟨_, rfl, hm⟩
def m_X12_add_21 : Nat → (Int32 → Hp → Prop) → (Int32 → Hp → Prop) → Int32 → Int32 → Hp → Prop
  | 0, _, _, _, _, _ => False
  | n + 1, k47, Q, v1, v2, h => ((hI h 51 54) ≤ v2 → k47 v1 h) ∧ (¬ (hI h 51 54) ≤ v2 → vp_in v2 6 ∧ ((¬ (hI h 84 (ix v2)) = v1 → ∀ x1 : Int32, x1 = v2 + 1 → m_X12_add_21 n k47 Q v1 x1 h) ∧ ((hI h 84 (ix v2)) = v1 → Q (-1) h)))
set_option maxHeartbeats 4000000 in
set_option maxRecDepth 100000 in
theorem s_X12_add_21 {l : Launch} {G : Cx} {d : Nat} {h0 : Hp} (hd : 4 ≤ d) {k47 : Int32 → Hp → Prop} {Q : Int32 → Hp → Prop} (hk47 : ∀ (v1 : Int32) (hh : Hp), k47 v1 hh → Rn l G d 0 0 MX12_add h0 (qI Q) 47 [some (tR 12 0 (some 51)), some (tI v1)] [] hh 0 0) : ∀ {n : Nat} {v1 : Int32} {v2 : Int32} {h : Hp}, m_X12_add_21 n k47 Q v1 v2 h → Rn l G d 0 0 MX12_add h0 (qI Q) 21 [some (tR 12 0 (some 51)), some (tI v1), some (tI v2)] [] h 0 0 := by
  intro n
  induction n with
  | zero => intro v1 v2 h hm; exact hm.elim
  | succ n ih =>
    intro v1 v2 h hm
    have hk21 := fun (v1 : Int32) (v2 : Int32) (hh : Hp) (hm : m_X12_add_21 n k47 Q v1 v2 hh) => ih hm
    rw [m_X12_add_21] at hm
    refine r_iload_n dX12_add_21 rfl rfl ?_
    refine r_aload_n dX12_add_22 rfl rfl ?_
    refine r_getI (k := 54) cl_12 dX12_add_23 t_1326 (Or.inl rfl) gf_12_54 ?_
    refine r_icmp_ge (tgt := 47) dX12_add_26 rfl (fun hc => ?_) (fun hc => ?_)
    · replace hm := hm.1 hc
      refine r_keep (L' := [some (tR 12 0 (some 51)), some (tI v1)]) [true, true] rfl ?_
      exact hk47 _ _ hm
    · replace hm := hm.2 hc
      refine r_aload_n dX12_add_29 rfl rfl ?_
      refine r_getC (k := 56) cl_12 dX12_add_30 t_1328 gf_12_56.1 gf_12_56.2 (gc_12_56 _) ?_
      refine r_iload_n dX12_add_33 rfl rfl ?_
      refine r_iald dX12_add_34 hm.1 ?_
      replace hm := hm.2
      refine r_iload_n dX12_add_35 rfl rfl ?_
      refine r_icmp_ne (tgt := 41) dX12_add_36 rfl (fun hc => ?_) (fun hc => ?_)
      · replace hm := hm.1 hc
        obtain ⟨x1, e_x1⟩ : ∃ y : Int32, y = v2 + 1 := ⟨_, rfl⟩
        replace hm := hm x1 e_x1
        refine r_iinc (L' := [some (tR 12 0 (some 51)), some (tI v1), some (tI x1)]) dX12_add_41 rfl (by rw [e_x1]; rfl) (by decide) rfl ?_
        refine r_goto (tgt := 21) dX12_add_44 rfl ?_
        refine r_keep (L' := [some (tR 12 0 (some 51)), some (tI v1), some (tI x1)]) [true, true, true] rfl ?_
        exact hk21 _ _ _ hm
      · replace hm := hm.2 hc
        refine r_iconst (v := (-1)) dX12_add_39 rfl ?_
        exact r_ireturn dX12_add_40 rfl ⟨by decide, by decide⟩ ⟨_, rfl, hm⟩
def m_X12_add (v1 : Int32) (h : Hp) (Q : Int32 → Hp → Prop) : Prop := m_X12_isDeal v1 h (fun (x2 : Int32) (h3 : Hp) => (x2 = 0 → Q (-1) h3) ∧ (¬ x2 = 0 → (¬ (hI h3 51 54) = 6 → ∃ n21, m_X12_add_21 n21 (m_X12_add_47 Q) Q v1 0 h3) ∧ ((hI h3 51 54) = 6 → Q (-1) h3)))
set_option maxHeartbeats 4000000 in
set_option maxRecDepth 100000 in
theorem s_X12_add {l : Launch} {G : Cx} {d : Nat} (hd : 4 ≤ d) {v1 : Int32} {h : Hp} {Q : Int32 → Hp → Prop} (hm : m_X12_add v1 h Q) : Ct l G d 0 0 yX12_add MX12_add [tR 12 0 (some 51), tI v1] h (qI Q) := by
  unfold m_X12_add at hm
  refine Ct.of (L := [some (tR 12 0 (some 51)), some (tI v1)]) (by decide) rfl rfl (Nat.le_of_ble_eq_true rfl) rfl ?_
  refine r_aload_n dX12_add_0 rfl rfl ?_
  refine r_iload_n dX12_add_1 rfl rfl ?_
  refine r_callVI (d' := d - 1) (as := [tI v1]) (st := []) cl_12 dX12_add_2 mi_X12_isDeal t_1673 t_1675 ts_74 rfl rfl (Nat.le_of_ble_eq_true rfl) (by omega) ⟨by decide, by decide⟩ ⟨rfl, rfl⟩ (s_X12_isDeal (by omega) hm) (fun x2 h3 hm => ?_)
  refine r_if_eq (tgt := 17) dX12_add_5 rfl (fun hc => ?_) (fun hc => ?_)
  · replace hm := hm.1 hc
    refine r_iconst (v := (-1)) dX12_add_17 rfl ?_
    exact r_ireturn dX12_add_18 rfl ⟨by decide, by decide⟩ ⟨_, rfl, hm⟩
  · replace hm := hm.2 hc
    refine r_aload_n dX12_add_8 rfl rfl ?_
    refine r_getI (k := 54) cl_12 dX12_add_9 t_1326 (Or.inl rfl) gf_12_54 ?_
    refine r_bipush (v := 6) dX12_add_12 rfl ?_
    refine r_icmp_ne (tgt := 19) dX12_add_14 rfl (fun hc => ?_) (fun hc => ?_)
    · replace hm := hm.1 hc
      refine r_iconst (v := 0) dX12_add_19 rfl ?_
      refine r_istore_n (L' := [some (tR 12 0 (some 51)), some (tI v1), some (tI 0)]) dX12_add_20 rfl (by decide) rfl ?_
      refine r_keep (L' := [some (tR 12 0 (some 51)), some (tI v1), some (tI 0)]) [true, true, true] rfl ?_
      obtain ⟨n, hm⟩ := hm
      refine s_X12_add_21 hd ?_ hm
      · exact (fun _ _ hm => s_X12_add_47 hd hm)
    · replace hm := hm.2 hc
      refine r_iconst (v := (-1)) dX12_add_17 rfl ?_
      exact r_ireturn dX12_add_18 rfl ⟨by decide, by decide⟩ ⟨_, rfl, hm⟩
theorem dX12_clear_0 : decode cX12_clear 0 = .ok (.aload_n 0, 1) := rfl
theorem dX12_clear_1 : decode cX12_clear 1 = .ok (.getfield 422, 3) := rfl
theorem dX12_clear_4 : decode cX12_clear 4 = .ok (.istore_n 1, 1) := rfl
theorem dX12_clear_5 : decode cX12_clear 5 = .ok (.aload_n 0, 1) := rfl
theorem dX12_clear_6 : decode cX12_clear 6 = .ok (.iconst 0, 1) := rfl
theorem dX12_clear_7 : decode cX12_clear 7 = .ok (.putfield 422, 3) := rfl
theorem dX12_clear_10 : decode cX12_clear 10 = .ok (.iload_n 1, 1) := rfl
theorem dX12_clear_11 : decode cX12_clear 11 = .ok (.ireturn, 1) := rfl
def m_X12_clear  (h : Hp) (Q : Int32 → Hp → Prop) : Prop := ∀ x1 : Int32, x1 = (hI h 51 54) → Q x1 (wI h 51 54 0)
set_option maxHeartbeats 4000000 in
set_option maxRecDepth 100000 in
theorem s_X12_clear {l : Launch} {G : Cx} {d : Nat} (hd : 2 ≤ d) {h : Hp} {Q : Int32 → Hp → Prop} (hm : m_X12_clear h Q) : Ct l G d 0 0 yX12_clear MX12_clear [tR 12 0 (some 51)] h (qI Q) := by
  unfold m_X12_clear at hm
  refine Ct.of (L := [some (tR 12 0 (some 51))]) (by decide) rfl rfl (Nat.le_of_ble_eq_true rfl) rfl ?_
  refine r_aload_n dX12_clear_0 rfl rfl ?_
  refine r_getI (k := 54) cl_12 dX12_clear_1 t_1326 (Or.inl rfl) gf_12_54 ?_
  refine r_nmI (fun x1 e_x1 => ?_)
  replace hm := hm x1 e_x1
  refine r_istore_n (L' := [some (tR 12 0 (some 51)), some (tI x1)]) dX12_clear_4 rfl (by decide) rfl ?_
  refine r_aload_n dX12_clear_5 rfl rfl ?_
  refine r_iconst (v := 0) dX12_clear_6 rfl ?_
  refine r_putI0 (k := 54) cl_12 dX12_clear_7 t_1326 (Or.inl rfl) gf_12_54 pf_12_54.1 (Or.inl pf_12_54.2) ?_
  refine r_iload_n dX12_clear_10 rfl rfl ?_
  exact r_ireturn dX12_clear_11 rfl ⟨by decide, by decide⟩ ⟨_, rfl, hm⟩
theorem dX12_bundleAtHand_0 : decode cX12_bundleAtHand 0 = .ok (.aload_n 0, 1) := rfl
theorem dX12_bundleAtHand_1 : decode cX12_bundleAtHand 1 = .ok (.aload_n 0, 1) := rfl
theorem dX12_bundleAtHand_2 : decode cX12_bundleAtHand 2 = .ok (.getfield 422, 3) := rfl
theorem dX12_bundleAtHand_5 : decode cX12_bundleAtHand 5 = .ok (.putfield 425, 3) := rfl
theorem dX12_bundleAtHand_8 : decode cX12_bundleAtHand 8 = .ok (.iconst 0, 1) := rfl
theorem dX12_bundleAtHand_9 : decode cX12_bundleAtHand 9 = .ok (.istore_n 1, 1) := rfl
theorem dX12_bundleAtHand_10 : decode cX12_bundleAtHand 10 = .ok (.iload_n 1, 1) := rfl
theorem dX12_bundleAtHand_11 : decode cX12_bundleAtHand 11 = .ok (.aload_n 0, 1) := rfl
theorem dX12_bundleAtHand_12 : decode cX12_bundleAtHand 12 = .ok (.getfield 422, 3) := rfl
theorem dX12_bundleAtHand_15 : decode cX12_bundleAtHand 15 = .ok (.if_icmp .ge 21, 3) := by decide +kernel
theorem dX12_bundleAtHand_18 : decode cX12_bundleAtHand 18 = .ok (.aload_n 0, 1) := rfl
theorem dX12_bundleAtHand_19 : decode cX12_bundleAtHand 19 = .ok (.getfield 116, 3) := rfl
theorem dX12_bundleAtHand_22 : decode cX12_bundleAtHand 22 = .ok (.iload_n 1, 1) := rfl
theorem dX12_bundleAtHand_23 : decode cX12_bundleAtHand 23 = .ok (.aload_n 0, 1) := rfl
theorem dX12_bundleAtHand_24 : decode cX12_bundleAtHand 24 = .ok (.getfield 113, 3) := rfl
theorem dX12_bundleAtHand_27 : decode cX12_bundleAtHand 27 = .ok (.iload_n 1, 1) := rfl
theorem dX12_bundleAtHand_28 : decode cX12_bundleAtHand 28 = .ok (.iaload, 1) := rfl
theorem dX12_bundleAtHand_29 : decode cX12_bundleAtHand 29 = .ok (.iastore, 1) := rfl
theorem dX12_bundleAtHand_30 : decode cX12_bundleAtHand 30 = .ok (.iinc 1 1, 3) := by decide +kernel
theorem dX12_bundleAtHand_33 : decode cX12_bundleAtHand 33 = .ok (.goto (-23), 3) := by decide +kernel
theorem dX12_bundleAtHand_36 : decode cX12_bundleAtHand 36 = .ok (.return_, 1) := rfl
def m_X12_bundleAtHand_10 : Nat → (Hp → Prop) → Int32 → Hp → Prop
  | 0, _, _, _ => False
  | n + 1, Q, v1, h => ((hI h 51 54) ≤ v1 → Q h) ∧ (¬ (hI h 51 54) ≤ v1 → vp_in v1 6 ∧ (vp_in v1 6 ∧ (∀ x1 : Int32, x1 = v1 + 1 → m_X12_bundleAtHand_10 n Q x1 (wI h 85 (ix v1) (hI h 84 (ix v1))))))
set_option maxHeartbeats 4000000 in
set_option maxRecDepth 100000 in
theorem s_X12_bundleAtHand_10 {l : Launch} {G : Cx} {d : Nat} {h0 : Hp} (hd : 2 ≤ d) {Q : Hp → Prop} : ∀ {n : Nat} {v1 : Int32} {h : Hp}, m_X12_bundleAtHand_10 n Q v1 h → Rn l G d 0 0 MX12_bundleAtHand h0 (qV Q) 10 [some (tR 12 0 (some 51)), some (tI v1)] [] h 0 0 := by
  intro n
  induction n with
  | zero => intro v1 h hm; exact hm.elim
  | succ n ih =>
    intro v1 h hm
    have hk10 := fun (v1 : Int32) (hh : Hp) (hm : m_X12_bundleAtHand_10 n Q v1 hh) => ih hm
    rw [m_X12_bundleAtHand_10] at hm
    refine r_iload_n dX12_bundleAtHand_10 rfl rfl ?_
    refine r_aload_n dX12_bundleAtHand_11 rfl rfl ?_
    refine r_getI (k := 54) cl_12 dX12_bundleAtHand_12 t_1326 (Or.inl rfl) gf_12_54 ?_
    refine r_icmp_ge (tgt := 36) dX12_bundleAtHand_15 rfl (fun hc => ?_) (fun hc => ?_)
    · replace hm := hm.1 hc
      exact r_return dX12_bundleAtHand_36 rfl ⟨by decide, by decide⟩ ⟨rfl, hm⟩
    · replace hm := hm.2 hc
      refine r_aload_n dX12_bundleAtHand_18 rfl rfl ?_
      refine r_getC (k := 57) cl_12 dX12_bundleAtHand_19 t_1329 gf_12_57.1 gf_12_57.2 (gc_12_57 _) ?_
      refine r_iload_n dX12_bundleAtHand_22 rfl rfl ?_
      refine r_aload_n dX12_bundleAtHand_23 rfl rfl ?_
      refine r_getC (k := 56) cl_12 dX12_bundleAtHand_24 t_1328 gf_12_56.1 gf_12_56.2 (gc_12_56 _) ?_
      refine r_iload_n dX12_bundleAtHand_27 rfl rfl ?_
      refine r_iald dX12_bundleAtHand_28 hm.1 ?_
      replace hm := hm.2
      refine r_iast dX12_bundleAtHand_29 hm.1 ?_
      replace hm := hm.2
      obtain ⟨x1, e_x1⟩ : ∃ y : Int32, y = v1 + 1 := ⟨_, rfl⟩
      replace hm := hm x1 e_x1
      refine r_iinc (L' := [some (tR 12 0 (some 51)), some (tI x1)]) dX12_bundleAtHand_30 rfl (by rw [e_x1]; rfl) (by decide) rfl ?_
      refine r_goto (tgt := 10) dX12_bundleAtHand_33 rfl ?_
      refine r_keep (L' := [some (tR 12 0 (some 51)), some (tI x1)]) [true, true] rfl ?_
      exact hk10 _ _ hm
def m_X12_bundleAtHand  (h : Hp) (Q : Hp → Prop) : Prop := ∃ n10, m_X12_bundleAtHand_10 n10 Q 0 (wI h 51 55 (hI h 51 54))
set_option maxHeartbeats 4000000 in
set_option maxRecDepth 100000 in
theorem s_X12_bundleAtHand {l : Launch} {G : Cx} {d : Nat} (hd : 2 ≤ d) {h : Hp} {Q : Hp → Prop} (hm : m_X12_bundleAtHand h Q) : Ct l G d 0 0 yX12_bundleAtHand MX12_bundleAtHand [tR 12 0 (some 51)] h (qV Q) := by
  unfold m_X12_bundleAtHand at hm
  refine Ct.of (L := [some (tR 12 0 (some 51))]) (by decide) rfl rfl (Nat.le_of_ble_eq_true rfl) rfl ?_
  refine r_aload_n dX12_bundleAtHand_0 rfl rfl ?_
  refine r_aload_n dX12_bundleAtHand_1 rfl rfl ?_
  refine r_getI (k := 54) cl_12 dX12_bundleAtHand_2 t_1326 (Or.inl rfl) gf_12_54 ?_
  refine r_putI0 (k := 55) cl_12 dX12_bundleAtHand_5 t_1327 (Or.inl rfl) gf_12_55 pf_12_55.1 (Or.inl pf_12_55.2) ?_
  refine r_iconst (v := 0) dX12_bundleAtHand_8 rfl ?_
  refine r_istore_n (L' := [some (tR 12 0 (some 51)), some (tI 0)]) dX12_bundleAtHand_9 rfl (by decide) rfl ?_
  refine r_keep (L' := [some (tR 12 0 (some 51)), some (tI 0)]) [true, true] rfl ?_
  obtain ⟨n, hm⟩ := hm
  refine s_X12_bundleAtHand_10 hd hm
theorem dX12_choicesAtHand_0 : decode cX12_choicesAtHand 0 = .ok (.iconst 0, 1) := rfl
theorem dX12_choicesAtHand_1 : decode cX12_choicesAtHand 1 = .ok (.istore_n 1, 1) := rfl
theorem dX12_choicesAtHand_2 : decode cX12_choicesAtHand 2 = .ok (.iconst 0, 1) := rfl
theorem dX12_choicesAtHand_3 : decode cX12_choicesAtHand 3 = .ok (.istore_n 2, 1) := rfl
theorem dX12_choicesAtHand_4 : decode cX12_choicesAtHand 4 = .ok (.iload_n 2, 1) := rfl
theorem dX12_choicesAtHand_5 : decode cX12_choicesAtHand 5 = .ok (.aload_n 0, 1) := rfl
theorem dX12_choicesAtHand_6 : decode cX12_choicesAtHand 6 = .ok (.getfield 425, 3) := rfl
theorem dX12_choicesAtHand_9 : decode cX12_choicesAtHand 9 = .ok (.if_icmp .ge 23, 3) := by decide +kernel
theorem dX12_choicesAtHand_12 : decode cX12_choicesAtHand 12 = .ok (.iload_n 1, 1) := rfl
theorem dX12_choicesAtHand_13 : decode cX12_choicesAtHand 13 = .ok (.aload_n 0, 1) := rfl
theorem dX12_choicesAtHand_14 : decode cX12_choicesAtHand 14 = .ok (.getfield 22, 3) := rfl
theorem dX12_choicesAtHand_17 : decode cX12_choicesAtHand 17 = .ok (.aload_n 0, 1) := rfl
theorem dX12_choicesAtHand_18 : decode cX12_choicesAtHand 18 = .ok (.getfield 116, 3) := rfl
theorem dX12_choicesAtHand_21 : decode cX12_choicesAtHand 21 = .ok (.iload_n 2, 1) := rfl
theorem dX12_choicesAtHand_22 : decode cX12_choicesAtHand 22 = .ok (.iaload, 1) := rfl
theorem dX12_choicesAtHand_23 : decode cX12_choicesAtHand 23 = .ok (.iaload, 1) := rfl
theorem dX12_choicesAtHand_24 : decode cX12_choicesAtHand 24 = .ok (.iadd, 1) := rfl
theorem dX12_choicesAtHand_25 : decode cX12_choicesAtHand 25 = .ok (.istore_n 1, 1) := rfl
theorem dX12_choicesAtHand_26 : decode cX12_choicesAtHand 26 = .ok (.iinc 2 1, 3) := by decide +kernel
theorem dX12_choicesAtHand_29 : decode cX12_choicesAtHand 29 = .ok (.goto (-25), 3) := by decide +kernel
theorem dX12_choicesAtHand_32 : decode cX12_choicesAtHand 32 = .ok (.iload_n 1, 1) := rfl
theorem dX12_choicesAtHand_33 : decode cX12_choicesAtHand 33 = .ok (.ireturn, 1) := rfl
def m_X12_choicesAtHand_4 : Nat → (Int32 → Hp → Prop) → Int32 → Int32 → Hp → Prop
  | 0, _, _, _, _ => False
  | n + 1, Q, v1, v2, h => ((hI h 51 55) ≤ v2 → Q v1 h) ∧ (¬ (hI h 51 55) ≤ v2 → vp_in v2 6 ∧ (vp_in (hI h 85 (ix v2)) 24 ∧ (∀ x1 : Int32, x1 = (v1 + (hI h 56 (ix (hI h 85 (ix v2))))) → ∀ x2 : Int32, x2 = v2 + 1 → m_X12_choicesAtHand_4 n Q x1 x2 h)))
set_option maxHeartbeats 4000000 in
set_option maxRecDepth 100000 in
theorem s_X12_choicesAtHand_4 {l : Launch} {G : Cx} {d : Nat} {h0 : Hp} (hd : 2 ≤ d) {Q : Int32 → Hp → Prop} : ∀ {n : Nat} {v1 : Int32} {v2 : Int32} {h : Hp}, m_X12_choicesAtHand_4 n Q v1 v2 h → Rn l G d 0 0 MX12_choicesAtHand h0 (qI Q) 4 [some (tR 12 0 (some 51)), some (tI v1), some (tI v2)] [] h 0 0 := by
  intro n
  induction n with
  | zero => intro v1 v2 h hm; exact hm.elim
  | succ n ih =>
    intro v1 v2 h hm
    have hk4 := fun (v1 : Int32) (v2 : Int32) (hh : Hp) (hm : m_X12_choicesAtHand_4 n Q v1 v2 hh) => ih hm
    rw [m_X12_choicesAtHand_4] at hm
    refine r_iload_n dX12_choicesAtHand_4 rfl rfl ?_
    refine r_aload_n dX12_choicesAtHand_5 rfl rfl ?_
    refine r_getI (k := 55) cl_12 dX12_choicesAtHand_6 t_1327 (Or.inl rfl) gf_12_55 ?_
    refine r_icmp_ge (tgt := 32) dX12_choicesAtHand_9 rfl (fun hc => ?_) (fun hc => ?_)
    · replace hm := hm.1 hc
      refine r_iload_n dX12_choicesAtHand_32 rfl rfl ?_
      exact r_ireturn dX12_choicesAtHand_33 rfl ⟨by decide, by decide⟩ ⟨_, rfl, hm⟩
    · replace hm := hm.2 hc
      refine r_iload_n dX12_choicesAtHand_12 rfl rfl ?_
      refine r_aload_n dX12_choicesAtHand_13 rfl rfl ?_
      refine r_getC (k := 5) cl_12 dX12_choicesAtHand_14 t_1277 gf_12_5.1 gf_12_5.2 (gc_12_5 _) ?_
      refine r_aload_n dX12_choicesAtHand_17 rfl rfl ?_
      refine r_getC (k := 57) cl_12 dX12_choicesAtHand_18 t_1329 gf_12_57.1 gf_12_57.2 (gc_12_57 _) ?_
      refine r_iload_n dX12_choicesAtHand_21 rfl rfl ?_
      refine r_iald dX12_choicesAtHand_22 hm.1 ?_
      replace hm := hm.2
      refine r_iald dX12_choicesAtHand_23 hm.1 ?_
      replace hm := hm.2
      refine r_iadd dX12_choicesAtHand_24 ?_
      refine r_nmI (fun x1 e_x1 => ?_)
      replace hm := hm x1 e_x1
      refine r_istore_n (L' := [some (tR 12 0 (some 51)), some (tI x1), some (tI v2)]) dX12_choicesAtHand_25 rfl (by decide) rfl ?_
      obtain ⟨x2, e_x2⟩ : ∃ y : Int32, y = v2 + 1 := ⟨_, rfl⟩
      replace hm := hm x2 e_x2
      refine r_iinc (L' := [some (tR 12 0 (some 51)), some (tI x1), some (tI x2)]) dX12_choicesAtHand_26 rfl (by rw [e_x2]; rfl) (by decide) rfl ?_
      refine r_goto (tgt := 4) dX12_choicesAtHand_29 rfl ?_
      refine r_keep (L' := [some (tR 12 0 (some 51)), some (tI x1), some (tI x2)]) [true, true, true] rfl ?_
      exact hk4 _ _ _ hm
def m_X12_choicesAtHand  (h : Hp) (Q : Int32 → Hp → Prop) : Prop := ∃ n4, m_X12_choicesAtHand_4 n4 Q 0 0 h
set_option maxHeartbeats 4000000 in
set_option maxRecDepth 100000 in
theorem s_X12_choicesAtHand {l : Launch} {G : Cx} {d : Nat} (hd : 2 ≤ d) {h : Hp} {Q : Int32 → Hp → Prop} (hm : m_X12_choicesAtHand h Q) : Ct l G d 0 0 yX12_choicesAtHand MX12_choicesAtHand [tR 12 0 (some 51)] h (qI Q) := by
  unfold m_X12_choicesAtHand at hm
  refine Ct.of (L := [some (tR 12 0 (some 51))]) (by decide) rfl rfl (Nat.le_of_ble_eq_true rfl) rfl ?_
  refine r_iconst (v := 0) dX12_choicesAtHand_0 rfl ?_
  refine r_istore_n (L' := [some (tR 12 0 (some 51)), some (tI 0)]) dX12_choicesAtHand_1 rfl (by decide) rfl ?_
  refine r_iconst (v := 0) dX12_choicesAtHand_2 rfl ?_
  refine r_istore_n (L' := [some (tR 12 0 (some 51)), some (tI 0), some (tI 0)]) dX12_choicesAtHand_3 rfl (by decide) rfl ?_
  refine r_keep (L' := [some (tR 12 0 (some 51)), some (tI 0), some (tI 0)]) [true, true, true] rfl ?_
  obtain ⟨n, hm⟩ := hm
  refine s_X12_choicesAtHand_4 hd hm
theorem dX12_eventsAtHand_0 : decode cX12_eventsAtHand 0 = .ok (.iconst 0, 1) := rfl
theorem dX12_eventsAtHand_1 : decode cX12_eventsAtHand 1 = .ok (.istore_n 1, 1) := rfl
theorem dX12_eventsAtHand_2 : decode cX12_eventsAtHand 2 = .ok (.iconst 0, 1) := rfl
theorem dX12_eventsAtHand_3 : decode cX12_eventsAtHand 3 = .ok (.istore_n 2, 1) := rfl
theorem dX12_eventsAtHand_4 : decode cX12_eventsAtHand 4 = .ok (.iload_n 2, 1) := rfl
theorem dX12_eventsAtHand_5 : decode cX12_eventsAtHand 5 = .ok (.aload_n 0, 1) := rfl
theorem dX12_eventsAtHand_6 : decode cX12_eventsAtHand 6 = .ok (.getfield 425, 3) := rfl
theorem dX12_eventsAtHand_9 : decode cX12_eventsAtHand 9 = .ok (.if_icmp .ge 23, 3) := by decide +kernel
theorem dX12_eventsAtHand_12 : decode cX12_eventsAtHand 12 = .ok (.iload_n 1, 1) := rfl
theorem dX12_eventsAtHand_13 : decode cX12_eventsAtHand 13 = .ok (.aload_n 0, 1) := rfl
theorem dX12_eventsAtHand_14 : decode cX12_eventsAtHand 14 = .ok (.getfield 25, 3) := rfl
theorem dX12_eventsAtHand_17 : decode cX12_eventsAtHand 17 = .ok (.aload_n 0, 1) := rfl
theorem dX12_eventsAtHand_18 : decode cX12_eventsAtHand 18 = .ok (.getfield 116, 3) := rfl
theorem dX12_eventsAtHand_21 : decode cX12_eventsAtHand 21 = .ok (.iload_n 2, 1) := rfl
theorem dX12_eventsAtHand_22 : decode cX12_eventsAtHand 22 = .ok (.iaload, 1) := rfl
theorem dX12_eventsAtHand_23 : decode cX12_eventsAtHand 23 = .ok (.iaload, 1) := rfl
theorem dX12_eventsAtHand_24 : decode cX12_eventsAtHand 24 = .ok (.ior, 1) := rfl
theorem dX12_eventsAtHand_25 : decode cX12_eventsAtHand 25 = .ok (.istore_n 1, 1) := rfl
theorem dX12_eventsAtHand_26 : decode cX12_eventsAtHand 26 = .ok (.iinc 2 1, 3) := by decide +kernel
theorem dX12_eventsAtHand_29 : decode cX12_eventsAtHand 29 = .ok (.goto (-25), 3) := by decide +kernel
theorem dX12_eventsAtHand_32 : decode cX12_eventsAtHand 32 = .ok (.iload_n 1, 1) := rfl
theorem dX12_eventsAtHand_33 : decode cX12_eventsAtHand 33 = .ok (.ireturn, 1) := rfl
def m_X12_eventsAtHand_4 : Nat → (Int32 → Hp → Prop) → Int32 → Int32 → Hp → Prop
  | 0, _, _, _, _ => False
  | n + 1, Q, v1, v2, h => ((hI h 51 55) ≤ v2 → Q v1 h) ∧ (¬ (hI h 51 55) ≤ v2 → vp_in v2 6 ∧ (vp_in (hI h 85 (ix v2)) 24 ∧ (∀ x1 : Int32, x1 = (v1 ||| (hI h 57 (ix (hI h 85 (ix v2))))) → ∀ x2 : Int32, x2 = v2 + 1 → m_X12_eventsAtHand_4 n Q x1 x2 h)))
set_option maxHeartbeats 4000000 in
set_option maxRecDepth 100000 in
theorem s_X12_eventsAtHand_4 {l : Launch} {G : Cx} {d : Nat} {h0 : Hp} (hd : 2 ≤ d) {Q : Int32 → Hp → Prop} : ∀ {n : Nat} {v1 : Int32} {v2 : Int32} {h : Hp}, m_X12_eventsAtHand_4 n Q v1 v2 h → Rn l G d 0 0 MX12_eventsAtHand h0 (qI Q) 4 [some (tR 12 0 (some 51)), some (tI v1), some (tI v2)] [] h 0 0 := by
  intro n
  induction n with
  | zero => intro v1 v2 h hm; exact hm.elim
  | succ n ih =>
    intro v1 v2 h hm
    have hk4 := fun (v1 : Int32) (v2 : Int32) (hh : Hp) (hm : m_X12_eventsAtHand_4 n Q v1 v2 hh) => ih hm
    rw [m_X12_eventsAtHand_4] at hm
    refine r_iload_n dX12_eventsAtHand_4 rfl rfl ?_
    refine r_aload_n dX12_eventsAtHand_5 rfl rfl ?_
    refine r_getI (k := 55) cl_12 dX12_eventsAtHand_6 t_1327 (Or.inl rfl) gf_12_55 ?_
    refine r_icmp_ge (tgt := 32) dX12_eventsAtHand_9 rfl (fun hc => ?_) (fun hc => ?_)
    · replace hm := hm.1 hc
      refine r_iload_n dX12_eventsAtHand_32 rfl rfl ?_
      exact r_ireturn dX12_eventsAtHand_33 rfl ⟨by decide, by decide⟩ ⟨_, rfl, hm⟩
    · replace hm := hm.2 hc
      refine r_iload_n dX12_eventsAtHand_12 rfl rfl ?_
      refine r_aload_n dX12_eventsAtHand_13 rfl rfl ?_
      refine r_getC (k := 6) cl_12 dX12_eventsAtHand_14 t_1278 gf_12_6.1 gf_12_6.2 (gc_12_6 _) ?_
      refine r_aload_n dX12_eventsAtHand_17 rfl rfl ?_
      refine r_getC (k := 57) cl_12 dX12_eventsAtHand_18 t_1329 gf_12_57.1 gf_12_57.2 (gc_12_57 _) ?_
      refine r_iload_n dX12_eventsAtHand_21 rfl rfl ?_
      refine r_iald dX12_eventsAtHand_22 hm.1 ?_
      replace hm := hm.2
      refine r_iald dX12_eventsAtHand_23 hm.1 ?_
      replace hm := hm.2
      refine r_ior dX12_eventsAtHand_24 ?_
      refine r_nmI (fun x1 e_x1 => ?_)
      replace hm := hm x1 e_x1
      refine r_istore_n (L' := [some (tR 12 0 (some 51)), some (tI x1), some (tI v2)]) dX12_eventsAtHand_25 rfl (by decide) rfl ?_
      obtain ⟨x2, e_x2⟩ : ∃ y : Int32, y = v2 + 1 := ⟨_, rfl⟩
      replace hm := hm x2 e_x2
      refine r_iinc (L' := [some (tR 12 0 (some 51)), some (tI x1), some (tI x2)]) dX12_eventsAtHand_26 rfl (by rw [e_x2]; rfl) (by decide) rfl ?_
      refine r_goto (tgt := 4) dX12_eventsAtHand_29 rfl ?_
      refine r_keep (L' := [some (tR 12 0 (some 51)), some (tI x1), some (tI x2)]) [true, true, true] rfl ?_
      exact hk4 _ _ _ hm
def m_X12_eventsAtHand  (h : Hp) (Q : Int32 → Hp → Prop) : Prop := ∃ n4, m_X12_eventsAtHand_4 n4 Q 0 0 h
set_option maxHeartbeats 4000000 in
set_option maxRecDepth 100000 in
theorem s_X12_eventsAtHand {l : Launch} {G : Cx} {d : Nat} (hd : 2 ≤ d) {h : Hp} {Q : Int32 → Hp → Prop} (hm : m_X12_eventsAtHand h Q) : Ct l G d 0 0 yX12_eventsAtHand MX12_eventsAtHand [tR 12 0 (some 51)] h (qI Q) := by
  unfold m_X12_eventsAtHand at hm
  refine Ct.of (L := [some (tR 12 0 (some 51))]) (by decide) rfl rfl (Nat.le_of_ble_eq_true rfl) rfl ?_
  refine r_iconst (v := 0) dX12_eventsAtHand_0 rfl ?_
  refine r_istore_n (L' := [some (tR 12 0 (some 51)), some (tI 0)]) dX12_eventsAtHand_1 rfl (by decide) rfl ?_
  refine r_iconst (v := 0) dX12_eventsAtHand_2 rfl ?_
  refine r_istore_n (L' := [some (tR 12 0 (some 51)), some (tI 0), some (tI 0)]) dX12_eventsAtHand_3 rfl (by decide) rfl ?_
  refine r_keep (L' := [some (tR 12 0 (some 51)), some (tI 0), some (tI 0)]) [true, true, true] rfl ?_
  obtain ⟨n, hm⟩ := hm
  refine s_X12_eventsAtHand_4 hd hm
theorem dX12_bitsOf_0 : decode cX12_bitsOf 0 = .ok (.iconst 0, 1) := rfl
theorem dX12_bitsOf_1 : decode cX12_bitsOf 1 = .ok (.istore_n 1, 1) := rfl
theorem dX12_bitsOf_2 : decode cX12_bitsOf 2 = .ok (.iconst 0, 1) := rfl
theorem dX12_bitsOf_3 : decode cX12_bitsOf 3 = .ok (.istore_n 2, 1) := rfl
theorem dX12_bitsOf_4 : decode cX12_bitsOf 4 = .ok (.iload_n 2, 1) := rfl
theorem dX12_bitsOf_5 : decode cX12_bitsOf 5 = .ok (.bipush 24, 2) := by decide +kernel
theorem dX12_bitsOf_7 : decode cX12_bitsOf 7 = .ok (.if_icmp .ge 17, 3) := by decide +kernel
theorem dX12_bitsOf_10 : decode cX12_bitsOf 10 = .ok (.iload_n 1, 1) := rfl
theorem dX12_bitsOf_11 : decode cX12_bitsOf 11 = .ok (.iload_n 0, 1) := rfl
theorem dX12_bitsOf_12 : decode cX12_bitsOf 12 = .ok (.iload_n 2, 1) := rfl
theorem dX12_bitsOf_13 : decode cX12_bitsOf 13 = .ok (.ishr, 1) := rfl
theorem dX12_bitsOf_14 : decode cX12_bitsOf 14 = .ok (.iconst 1, 1) := rfl
theorem dX12_bitsOf_15 : decode cX12_bitsOf 15 = .ok (.iand, 1) := rfl
theorem dX12_bitsOf_16 : decode cX12_bitsOf 16 = .ok (.iadd, 1) := rfl
theorem dX12_bitsOf_17 : decode cX12_bitsOf 17 = .ok (.istore_n 1, 1) := rfl
theorem dX12_bitsOf_18 : decode cX12_bitsOf 18 = .ok (.iinc 2 1, 3) := by decide +kernel
theorem dX12_bitsOf_21 : decode cX12_bitsOf 21 = .ok (.goto (-17), 3) := by decide +kernel
theorem dX12_bitsOf_24 : decode cX12_bitsOf 24 = .ok (.iload_n 1, 1) := rfl
theorem dX12_bitsOf_25 : decode cX12_bitsOf 25 = .ok (.ireturn, 1) := rfl
def m_X12_bitsOf_4 : Nat → (Int32 → Hp → Prop) → Int32 → Int32 → Int32 → Hp → Prop
  | 0, _, _, _, _, _ => False
  | n + 1, Q, v0, v1, v2, h => (24 ≤ v2 → Q v1 h) ∧ (¬ 24 ≤ v2 → ∀ x1 : Int32, x1 = (v1 + ((v0 >>> (v2 &&& 31)) &&& 1)) → ∀ x2 : Int32, x2 = v2 + 1 → m_X12_bitsOf_4 n Q v0 x1 x2 h)
set_option maxHeartbeats 4000000 in
set_option maxRecDepth 100000 in
theorem s_X12_bitsOf_4 {l : Launch} {G : Cx} {d : Nat} {h0 : Hp} (hd : 2 ≤ d) {Q : Int32 → Hp → Prop} : ∀ {n : Nat} {v0 : Int32} {v1 : Int32} {v2 : Int32} {h : Hp}, m_X12_bitsOf_4 n Q v0 v1 v2 h → Rn l G d 0 0 MX12_bitsOf h0 (qI Q) 4 [some (tI v0), some (tI v1), some (tI v2)] [] h 0 0 := by
  intro n
  induction n with
  | zero => intro v0 v1 v2 h hm; exact hm.elim
  | succ n ih =>
    intro v0 v1 v2 h hm
    have hk4 := fun (v0 : Int32) (v1 : Int32) (v2 : Int32) (hh : Hp) (hm : m_X12_bitsOf_4 n Q v0 v1 v2 hh) => ih hm
    rw [m_X12_bitsOf_4] at hm
    refine r_iload_n dX12_bitsOf_4 rfl rfl ?_
    refine r_bipush (v := 24) dX12_bitsOf_5 rfl ?_
    refine r_icmp_ge (tgt := 24) dX12_bitsOf_7 rfl (fun hc => ?_) (fun hc => ?_)
    · replace hm := hm.1 hc
      refine r_iload_n dX12_bitsOf_24 rfl rfl ?_
      exact r_ireturn dX12_bitsOf_25 rfl ⟨by decide, by decide⟩ ⟨_, rfl, hm⟩
    · replace hm := hm.2 hc
      refine r_iload_n dX12_bitsOf_10 rfl rfl ?_
      refine r_iload_n dX12_bitsOf_11 rfl rfl ?_
      refine r_iload_n dX12_bitsOf_12 rfl rfl ?_
      refine r_ishr dX12_bitsOf_13 ?_
      refine r_iconst (v := 1) dX12_bitsOf_14 rfl ?_
      refine r_iand dX12_bitsOf_15 ?_
      refine r_iadd dX12_bitsOf_16 ?_
      refine r_nmI (fun x1 e_x1 => ?_)
      replace hm := hm x1 e_x1
      refine r_istore_n (L' := [some (tI v0), some (tI x1), some (tI v2)]) dX12_bitsOf_17 rfl (by decide) rfl ?_
      obtain ⟨x2, e_x2⟩ : ∃ y : Int32, y = v2 + 1 := ⟨_, rfl⟩
      replace hm := hm x2 e_x2
      refine r_iinc (L' := [some (tI v0), some (tI x1), some (tI x2)]) dX12_bitsOf_18 rfl (by rw [e_x2]; rfl) (by decide) rfl ?_
      refine r_goto (tgt := 4) dX12_bitsOf_21 rfl ?_
      refine r_keep (L' := [some (tI v0), some (tI x1), some (tI x2)]) [true, true, true] rfl ?_
      exact hk4 _ _ _ _ hm
def m_X12_bitsOf (v0 : Int32) (h : Hp) (Q : Int32 → Hp → Prop) : Prop := ∃ n4, m_X12_bitsOf_4 n4 Q v0 0 0 h
set_option maxHeartbeats 4000000 in
set_option maxRecDepth 100000 in
theorem s_X12_bitsOf {l : Launch} {G : Cx} {d : Nat} (hd : 2 ≤ d) {v0 : Int32} {h : Hp} {Q : Int32 → Hp → Prop} (hm : m_X12_bitsOf v0 h Q) : Ct l G d 0 0 yX12_bitsOf MX12_bitsOf [tI v0] h (qI Q) := by
  unfold m_X12_bitsOf at hm
  refine Ct.of (L := [some (tI v0)]) (by decide) rfl rfl (Nat.le_of_ble_eq_true rfl) rfl ?_
  refine r_iconst (v := 0) dX12_bitsOf_0 rfl ?_
  refine r_istore_n (L' := [some (tI v0), some (tI 0)]) dX12_bitsOf_1 rfl (by decide) rfl ?_
  refine r_iconst (v := 0) dX12_bitsOf_2 rfl ?_
  refine r_istore_n (L' := [some (tI v0), some (tI 0), some (tI 0)]) dX12_bitsOf_3 rfl (by decide) rfl ?_
  refine r_keep (L' := [some (tI v0), some (tI 0), some (tI 0)]) [true, true, true] rfl ?_
  obtain ⟨n, hm⟩ := hm
  refine s_X12_bitsOf_4 hd hm
theorem dX12_isLookedAt_0 : decode cX12_isLookedAt 0 = .ok (.aload_n 0, 1) := rfl
theorem dX12_isLookedAt_1 : decode cX12_isLookedAt 1 = .ok (.invokevirtual 428, 3) := rfl
theorem dX12_isLookedAt_4 : decode cX12_isLookedAt 4 = .ok (.invokestatic 431, 3) := rfl
theorem dX12_isLookedAt_7 : decode cX12_isLookedAt 7 = .ok (.aload_n 0, 1) := rfl
theorem dX12_isLookedAt_8 : decode cX12_isLookedAt 8 = .ok (.invokevirtual 434, 3) := rfl
theorem dX12_isLookedAt_11 : decode cX12_isLookedAt 11 = .ok (.iadd, 1) := rfl
theorem dX12_isLookedAt_12 : decode cX12_isLookedAt 12 = .ok (.bipush 8, 2) := by decide +kernel
theorem dX12_isLookedAt_14 : decode cX12_isLookedAt 14 = .ok (.if_icmp .gt 7, 3) := by decide +kernel
theorem dX12_isLookedAt_17 : decode cX12_isLookedAt 17 = .ok (.iconst 1, 1) := rfl
theorem dX12_isLookedAt_18 : decode cX12_isLookedAt 18 = .ok (.goto 4, 3) := by decide +kernel
theorem dX12_isLookedAt_21 : decode cX12_isLookedAt 21 = .ok (.iconst 0, 1) := rfl
theorem dX12_isLookedAt_22 : decode cX12_isLookedAt 22 = .ok (.ireturn, 1) := rfl
def m_X12_isLookedAt  (h : Hp) (Q : Int32 → Hp → Prop) : Prop := m_X12_eventsAtHand h (fun (x1 : Int32) (h2 : Hp) => m_X12_bitsOf x1 h2 (fun (x3 : Int32) (h4 : Hp) => m_X12_choicesAtHand h4 (fun (x5 : Int32) (h6 : Hp) => (8 < (x3 + x5) → Q 0 h6) ∧ (¬ 8 < (x3 + x5) → Q 1 h6))))
set_option maxHeartbeats 4000000 in
set_option maxRecDepth 100000 in
theorem s_X12_isLookedAt {l : Launch} {G : Cx} {d : Nat} (hd : 4 ≤ d) {h : Hp} {Q : Int32 → Hp → Prop} (hm : m_X12_isLookedAt h Q) : Ct l G d 0 0 yX12_isLookedAt MX12_isLookedAt [tR 12 0 (some 51)] h (qI Q) := by
  unfold m_X12_isLookedAt at hm
  refine Ct.of (L := [some (tR 12 0 (some 51))]) (by decide) rfl rfl (Nat.le_of_ble_eq_true rfl) rfl ?_
  refine r_aload_n dX12_isLookedAt_0 rfl rfl ?_
  refine r_callVI (d' := d - 1) (as := []) (st := []) cl_12 dX12_isLookedAt_1 mi_X12_eventsAtHand t_1806 t_1808 ts_99 rfl rfl (Nat.le_of_ble_eq_true rfl) (by omega) ⟨by decide, by decide⟩ ⟨rfl, rfl⟩ (s_X12_eventsAtHand (by omega) hm) (fun x1 h2 hm => ?_)
  refine r_callSI (d' := d - 1) (as := [tI x1]) (st := []) dX12_isLookedAt_4 mi_X12_bitsOf t_1810 t_1811 rfl rfl (Nat.le_of_ble_eq_true rfl) (by omega) ⟨by decide, by decide⟩ ⟨rfl, rfl⟩ (s_X12_bitsOf (by omega) hm) (fun x3 h4 hm => ?_)
  refine r_aload_n dX12_isLookedAt_7 rfl rfl ?_
  refine r_callVI (d' := d - 1) (as := []) (st := [tI x3]) cl_12 dX12_isLookedAt_8 mi_X12_choicesAtHand t_1765 t_1767 ts_91 rfl rfl (Nat.le_of_ble_eq_true rfl) (by omega) ⟨by decide, by decide⟩ ⟨rfl, rfl⟩ (s_X12_choicesAtHand (by omega) hm) (fun x5 h6 hm => ?_)
  refine r_iadd dX12_isLookedAt_11 ?_
  refine r_bipush (v := 8) dX12_isLookedAt_12 rfl ?_
  refine r_icmp_gt (tgt := 21) dX12_isLookedAt_14 rfl (fun hc => ?_) (fun hc => ?_)
  · replace hm := hm.1 hc
    refine r_iconst (v := 0) dX12_isLookedAt_21 rfl ?_
    exact r_bret dX12_isLookedAt_22 rfl ⟨by decide, by decide⟩ (by unfold bz; decide) ⟨_, rfl, hm⟩
  · replace hm := hm.2 hc
    refine r_iconst (v := 1) dX12_isLookedAt_17 rfl ?_
    refine r_goto (tgt := 22) dX12_isLookedAt_18 rfl ?_
    exact r_bret dX12_isLookedAt_22 rfl ⟨by decide, by decide⟩ (by unfold bz; decide) ⟨_, rfl, hm⟩
theorem dX12_codesAtHand_0 : decode cX12_codesAtHand 0 = .ok (.bipush 32, 2) := by decide +kernel
theorem dX12_codesAtHand_2 : decode cX12_codesAtHand 2 = .ok (.aload_n 0, 1) := rfl
theorem dX12_codesAtHand_3 : decode cX12_codesAtHand 3 = .ok (.invokevirtual 434, 3) := rfl
theorem dX12_codesAtHand_6 : decode cX12_codesAtHand 6 = .ok (.ishl, 1) := rfl
theorem dX12_codesAtHand_7 : decode cX12_codesAtHand 7 = .ok (.ireturn, 1) := rfl
def m_X12_codesAtHand  (h : Hp) (Q : Int32 → Hp → Prop) : Prop := m_X12_choicesAtHand h (fun (x1 : Int32) (h2 : Hp) => Q (32 <<< (x1 &&& 31)) h2)
set_option maxHeartbeats 4000000 in
set_option maxRecDepth 100000 in
theorem s_X12_codesAtHand {l : Launch} {G : Cx} {d : Nat} (hd : 4 ≤ d) {h : Hp} {Q : Int32 → Hp → Prop} (hm : m_X12_codesAtHand h Q) : Ct l G d 0 0 yX12_codesAtHand MX12_codesAtHand [tR 12 0 (some 51)] h (qI Q) := by
  unfold m_X12_codesAtHand at hm
  refine Ct.of (L := [some (tR 12 0 (some 51))]) (by decide) rfl rfl (Nat.le_of_ble_eq_true rfl) rfl ?_
  refine r_bipush (v := 32) dX12_codesAtHand_0 rfl ?_
  refine r_aload_n dX12_codesAtHand_2 rfl rfl ?_
  refine r_callVI (d' := d - 1) (as := []) (st := [tI 32]) cl_12 dX12_codesAtHand_3 mi_X12_choicesAtHand t_1765 t_1767 ts_91 rfl rfl (Nat.le_of_ble_eq_true rfl) (by omega) ⟨by decide, by decide⟩ ⟨rfl, rfl⟩ (s_X12_choicesAtHand (by omega) hm) (fun x1 h2 hm => ?_)
  refine r_ishl dX12_codesAtHand_6 ?_
  exact r_ireturn dX12_codesAtHand_7 rfl ⟨by decide, by decide⟩ ⟨_, rfl, hm⟩
theorem dX12_codeFrom_0 : decode cX12_codeFrom 0 = .ok (.bipush 31, 2) := by decide +kernel
theorem dX12_codeFrom_2 : decode cX12_codeFrom 2 = .ok (.aload_n 0, 1) := rfl
theorem dX12_codeFrom_3 : decode cX12_codeFrom 3 = .ok (.invokevirtual 428, 3) := rfl
theorem dX12_codeFrom_6 : decode cX12_codeFrom 6 = .ok (.isub, 1) := rfl
theorem dX12_codeFrom_7 : decode cX12_codeFrom 7 = .ok (.istore_n 2, 1) := rfl
theorem dX12_codeFrom_8 : decode cX12_codeFrom 8 = .ok (.iload_n 1, 1) := rfl
theorem dX12_codeFrom_9 : decode cX12_codeFrom 9 = .ok (.istore_n 3, 1) := rfl
theorem dX12_codeFrom_10 : decode cX12_codeFrom 10 = .ok (.iload_n 3, 1) := rfl
theorem dX12_codeFrom_11 : decode cX12_codeFrom 11 = .ok (.aload_n 0, 1) := rfl
theorem dX12_codeFrom_12 : decode cX12_codeFrom 12 = .ok (.invokevirtual 437, 3) := rfl
theorem dX12_codeFrom_15 : decode cX12_codeFrom 15 = .ok (.if_icmp .ge 15, 3) := by decide +kernel
theorem dX12_codeFrom_18 : decode cX12_codeFrom 18 = .ok (.iload_n 3, 1) := rfl
theorem dX12_codeFrom_19 : decode cX12_codeFrom 19 = .ok (.iload_n 2, 1) := rfl
theorem dX12_codeFrom_20 : decode cX12_codeFrom 20 = .ok (.iand, 1) := rfl
theorem dX12_codeFrom_21 : decode cX12_codeFrom 21 = .ok (.ifCond .eq 9, 3) := by decide +kernel
theorem dX12_codeFrom_24 : decode cX12_codeFrom 24 = .ok (.iinc 3 1, 3) := by decide +kernel
theorem dX12_codeFrom_27 : decode cX12_codeFrom 27 = .ok (.goto (-17), 3) := by decide +kernel
theorem dX12_codeFrom_30 : decode cX12_codeFrom 30 = .ok (.iload_n 3, 1) := rfl
theorem dX12_codeFrom_31 : decode cX12_codeFrom 31 = .ok (.aload_n 0, 1) := rfl
theorem dX12_codeFrom_32 : decode cX12_codeFrom 32 = .ok (.invokevirtual 437, 3) := rfl
theorem dX12_codeFrom_35 : decode cX12_codeFrom 35 = .ok (.if_icmp .ge 7, 3) := by decide +kernel
theorem dX12_codeFrom_38 : decode cX12_codeFrom 38 = .ok (.iload_n 3, 1) := rfl
theorem dX12_codeFrom_39 : decode cX12_codeFrom 39 = .ok (.goto 4, 3) := by decide +kernel
theorem dX12_codeFrom_42 : decode cX12_codeFrom 42 = .ok (.iconst (-1), 1) := rfl
theorem dX12_codeFrom_43 : decode cX12_codeFrom 43 = .ok (.ireturn, 1) := rfl
def m_X12_codeFrom_30  (Q : Int32 → Hp → Prop) (v3 : Int32) (h : Hp) : Prop := m_X12_codesAtHand h (fun (x1 : Int32) (h2 : Hp) => (x1 ≤ v3 → Q (-1) h2) ∧ (¬ x1 ≤ v3 → Q v3 h2))
set_option maxHeartbeats 4000000 in
set_option maxRecDepth 100000 in
theorem s_X12_codeFrom_30 {l : Launch} {G : Cx} {d : Nat} {h0 : Hp} (hd : 6 ≤ d) {Q : Int32 → Hp → Prop} {v3 : Int32} {h : Hp} (hm : m_X12_codeFrom_30 Q v3 h) : Rn l G d 0 0 MX12_codeFrom h0 (qI Q) 30 [some (tR 12 0 (some 51)), none, none, some (tI v3)] [] h 0 0 := by
  unfold m_X12_codeFrom_30 at hm
  refine r_iload_n dX12_codeFrom_30 rfl rfl ?_
  refine r_aload_n dX12_codeFrom_31 rfl rfl ?_
  refine r_callVI (d' := d - 1) (as := []) (st := [tI v3]) cl_12 dX12_codeFrom_32 mi_X12_codesAtHand t_1761 t_1763 ts_90 rfl rfl (Nat.le_of_ble_eq_true rfl) (by omega) ⟨by decide, by decide⟩ ⟨rfl, rfl⟩ (s_X12_codesAtHand (by omega) hm) (fun x1 h2 hm => ?_)
  refine r_icmp_ge (tgt := 42) dX12_codeFrom_35 rfl (fun hc => ?_) (fun hc => ?_)
  · replace hm := hm.1 hc
    refine r_iconst (v := (-1)) dX12_codeFrom_42 rfl ?_
    exact r_ireturn dX12_codeFrom_43 rfl ⟨by decide, by decide⟩ ⟨_, rfl, hm⟩
  · replace hm := hm.2 hc
    refine r_iload_n dX12_codeFrom_38 rfl rfl ?_
    refine r_goto (tgt := 43) dX12_codeFrom_39 rfl ?_
    exact r_ireturn dX12_codeFrom_43 rfl ⟨by decide, by decide⟩ ⟨_, rfl, hm⟩
def m_X12_codeFrom_10 : Nat → (Int32 → Hp → Prop) → (Int32 → Hp → Prop) → Int32 → Int32 → Hp → Prop
  | 0, _, _, _, _, _ => False
  | n + 1, k30, Q, v2, v3, h => m_X12_codesAtHand h (fun (x3 : Int32) (h4 : Hp) => (x3 ≤ v3 → k30 v3 h4) ∧ (¬ x3 ≤ v3 → ((v3 &&& v2) = 0 → k30 v3 h4) ∧ (¬ (v3 &&& v2) = 0 → ∀ x5 : Int32, x5 = v3 + 1 → m_X12_codeFrom_10 n k30 Q v2 x5 h4)))
set_option maxHeartbeats 4000000 in
set_option maxRecDepth 100000 in
theorem s_X12_codeFrom_10 {l : Launch} {G : Cx} {d : Nat} {h0 : Hp} (hd : 6 ≤ d) {k30 : Int32 → Hp → Prop} {Q : Int32 → Hp → Prop} (hk30 : ∀ (v3 : Int32) (hh : Hp), k30 v3 hh → Rn l G d 0 0 MX12_codeFrom h0 (qI Q) 30 [some (tR 12 0 (some 51)), none, none, some (tI v3)] [] hh 0 0) : ∀ {n : Nat} {v2 : Int32} {v3 : Int32} {h : Hp}, m_X12_codeFrom_10 n k30 Q v2 v3 h → Rn l G d 0 0 MX12_codeFrom h0 (qI Q) 10 [some (tR 12 0 (some 51)), none, some (tI v2), some (tI v3)] [] h 0 0 := by
  intro n
  induction n with
  | zero => intro v2 v3 h hm; exact hm.elim
  | succ n ih =>
    intro v2 v3 h hm
    have hk10 := fun (v2 : Int32) (v3 : Int32) (hh : Hp) (hm : m_X12_codeFrom_10 n k30 Q v2 v3 hh) => ih hm
    rw [m_X12_codeFrom_10] at hm
    refine r_iload_n dX12_codeFrom_10 rfl rfl ?_
    refine r_aload_n dX12_codeFrom_11 rfl rfl ?_
    refine r_callVI (d' := d - 1) (as := []) (st := [tI v3]) cl_12 dX12_codeFrom_12 mi_X12_codesAtHand t_1761 t_1763 ts_90 rfl rfl (Nat.le_of_ble_eq_true rfl) (by omega) ⟨by decide, by decide⟩ ⟨rfl, rfl⟩ (s_X12_codesAtHand (by omega) hm) (fun x3 h4 hm => ?_)
    refine r_icmp_ge (tgt := 30) dX12_codeFrom_15 rfl (fun hc => ?_) (fun hc => ?_)
    · replace hm := hm.1 hc
      refine r_keep (L' := [some (tR 12 0 (some 51)), none, none, some (tI v3)]) [true, false, false, true] rfl ?_
      exact hk30 _ _ hm
    · replace hm := hm.2 hc
      refine r_iload_n dX12_codeFrom_18 rfl rfl ?_
      refine r_iload_n dX12_codeFrom_19 rfl rfl ?_
      refine r_iand dX12_codeFrom_20 ?_
      refine r_if_eq (tgt := 30) dX12_codeFrom_21 rfl (fun hc => ?_) (fun hc => ?_)
      · replace hm := hm.1 hc
        refine r_keep (L' := [some (tR 12 0 (some 51)), none, none, some (tI v3)]) [true, false, false, true] rfl ?_
        exact hk30 _ _ hm
      · replace hm := hm.2 hc
        obtain ⟨x5, e_x5⟩ : ∃ y : Int32, y = v3 + 1 := ⟨_, rfl⟩
        replace hm := hm x5 e_x5
        refine r_iinc (L' := [some (tR 12 0 (some 51)), none, some (tI v2), some (tI x5)]) dX12_codeFrom_24 rfl (by rw [e_x5]; rfl) (by decide) rfl ?_
        refine r_goto (tgt := 10) dX12_codeFrom_27 rfl ?_
        refine r_keep (L' := [some (tR 12 0 (some 51)), none, some (tI v2), some (tI x5)]) [true, false, true, true] rfl ?_
        exact hk10 _ _ _ hm
def m_X12_codeFrom (v1 : Int32) (h : Hp) (Q : Int32 → Hp → Prop) : Prop := m_X12_eventsAtHand h (fun (x6 : Int32) (h7 : Hp) => ∀ x8 : Int32, x8 = (31 - x6) → ∃ n10, m_X12_codeFrom_10 n10 (m_X12_codeFrom_30 Q) Q x8 v1 h7)
set_option maxHeartbeats 4000000 in
set_option maxRecDepth 100000 in
theorem s_X12_codeFrom {l : Launch} {G : Cx} {d : Nat} (hd : 6 ≤ d) {v1 : Int32} {h : Hp} {Q : Int32 → Hp → Prop} (hm : m_X12_codeFrom v1 h Q) : Ct l G d 0 0 yX12_codeFrom MX12_codeFrom [tR 12 0 (some 51), tI v1] h (qI Q) := by
  unfold m_X12_codeFrom at hm
  refine Ct.of (L := [some (tR 12 0 (some 51)), some (tI v1)]) (by decide) rfl rfl (Nat.le_of_ble_eq_true rfl) rfl ?_
  refine r_bipush (v := 31) dX12_codeFrom_0 rfl ?_
  refine r_aload_n dX12_codeFrom_2 rfl rfl ?_
  refine r_callVI (d' := d - 1) (as := []) (st := [tI 31]) cl_12 dX12_codeFrom_3 mi_X12_eventsAtHand t_1806 t_1808 ts_99 rfl rfl (Nat.le_of_ble_eq_true rfl) (by omega) ⟨by decide, by decide⟩ ⟨rfl, rfl⟩ (s_X12_eventsAtHand (by omega) hm) (fun x6 h7 hm => ?_)
  refine r_isub dX12_codeFrom_6 ?_
  refine r_nmI (fun x8 e_x8 => ?_)
  replace hm := hm x8 e_x8
  refine r_istore_n (L' := [some (tR 12 0 (some 51)), some (tI v1), some (tI x8)]) dX12_codeFrom_7 rfl (by decide) rfl ?_
  refine r_iload_n dX12_codeFrom_8 rfl rfl ?_
  refine r_istore_n (L' := [some (tR 12 0 (some 51)), some (tI v1), some (tI x8), some (tI v1)]) dX12_codeFrom_9 rfl (by decide) rfl ?_
  refine r_keep (L' := [some (tR 12 0 (some 51)), none, some (tI x8), some (tI v1)]) [true, false, true, true] rfl ?_
  obtain ⟨n, hm⟩ := hm
  refine s_X12_codeFrom_10 hd ?_ hm
  · exact (fun _ _ hm => s_X12_codeFrom_30 hd hm)
theorem dX12_passesAll_0 : decode cX12_passesAll 0 = .ok (.aload_n 0, 1) := rfl
theorem dX12_passesAll_1 : decode cX12_passesAll 1 = .ok (.iconst 0, 1) := rfl
theorem dX12_passesAll_2 : decode cX12_passesAll 2 = .ok (.putfield 404, 3) := rfl
theorem dX12_passesAll_5 : decode cX12_passesAll 5 = .ok (.iconst 5, 1) := rfl
theorem dX12_passesAll_6 : decode cX12_passesAll 6 = .ok (.istore_n 2, 1) := rfl
theorem dX12_passesAll_7 : decode cX12_passesAll 7 = .ok (.iconst 0, 1) := rfl
theorem dX12_passesAll_8 : decode cX12_passesAll 8 = .ok (.istore_n 3, 1) := rfl
theorem dX12_passesAll_9 : decode cX12_passesAll 9 = .ok (.iload_n 3, 1) := rfl
theorem dX12_passesAll_10 : decode cX12_passesAll 10 = .ok (.aload_n 0, 1) := rfl
theorem dX12_passesAll_11 : decode cX12_passesAll 11 = .ok (.getfield 425, 3) := rfl
theorem dX12_passesAll_14 : decode cX12_passesAll 14 = .ok (.if_icmp .ge 35, 3) := by decide +kernel
theorem dX12_passesAll_17 : decode cX12_passesAll 17 = .ok (.aload_n 0, 1) := rfl
theorem dX12_passesAll_18 : decode cX12_passesAll 18 = .ok (.aload_n 0, 1) := rfl
theorem dX12_passesAll_19 : decode cX12_passesAll 19 = .ok (.getfield 116, 3) := rfl
theorem dX12_passesAll_22 : decode cX12_passesAll 22 = .ok (.iload_n 3, 1) := rfl
theorem dX12_passesAll_23 : decode cX12_passesAll 23 = .ok (.iaload, 1) := rfl
theorem dX12_passesAll_24 : decode cX12_passesAll 24 = .ok (.iload_n 1, 1) := rfl
theorem dX12_passesAll_25 : decode cX12_passesAll 25 = .ok (.iload_n 2, 1) := rfl
theorem dX12_passesAll_26 : decode cX12_passesAll 26 = .ok (.invokevirtual 415, 3) := rfl
theorem dX12_passesAll_29 : decode cX12_passesAll 29 = .ok (.iload_n 2, 1) := rfl
theorem dX12_passesAll_30 : decode cX12_passesAll 30 = .ok (.aload_n 0, 1) := rfl
theorem dX12_passesAll_31 : decode cX12_passesAll 31 = .ok (.getfield 22, 3) := rfl
theorem dX12_passesAll_34 : decode cX12_passesAll 34 = .ok (.aload_n 0, 1) := rfl
theorem dX12_passesAll_35 : decode cX12_passesAll 35 = .ok (.getfield 116, 3) := rfl
theorem dX12_passesAll_38 : decode cX12_passesAll 38 = .ok (.iload_n 3, 1) := rfl
theorem dX12_passesAll_39 : decode cX12_passesAll 39 = .ok (.iaload, 1) := rfl
theorem dX12_passesAll_40 : decode cX12_passesAll 40 = .ok (.iaload, 1) := rfl
theorem dX12_passesAll_41 : decode cX12_passesAll 41 = .ok (.iadd, 1) := rfl
theorem dX12_passesAll_42 : decode cX12_passesAll 42 = .ok (.istore_n 2, 1) := rfl
theorem dX12_passesAll_43 : decode cX12_passesAll 43 = .ok (.iinc 3 1, 3) := by decide +kernel
theorem dX12_passesAll_46 : decode cX12_passesAll 46 = .ok (.goto (-37), 3) := by decide +kernel
theorem dX12_passesAll_49 : decode cX12_passesAll 49 = .ok (.return_, 1) := rfl
def m_X12_passesAll_9 : Nat → (Hp → Prop) → Int32 → Int32 → Int32 → Hp → Prop
  | 0, _, _, _, _, _ => False
  | n + 1, Q, v1, v2, v3, h => ((hI h 51 55) ≤ v3 → Q h) ∧ (¬ (hI h 51 55) ≤ v3 → vp_in v3 6 ∧ (m_X12_passes (hI h 85 (ix v3)) v1 v2 h (fun (h2 : Hp) => vp_in v3 6 ∧ (vp_in (hI h2 85 (ix v3)) 24 ∧ (∀ x3 : Int32, x3 = (v2 + (hI h2 56 (ix (hI h2 85 (ix v3))))) → ∀ x4 : Int32, x4 = v3 + 1 → m_X12_passesAll_9 n Q v1 x3 x4 h2)))))
set_option maxHeartbeats 4000000 in
set_option maxRecDepth 100000 in
theorem s_X12_passesAll_9 {l : Launch} {G : Cx} {d : Nat} {h0 : Hp} (hd : 6 ≤ d) {Q : Hp → Prop} : ∀ {n : Nat} {v1 : Int32} {v2 : Int32} {v3 : Int32} {h : Hp}, m_X12_passesAll_9 n Q v1 v2 v3 h → Rn l G d 0 0 MX12_passesAll h0 (qV Q) 9 [some (tR 12 0 (some 51)), some (tI v1), some (tI v2), some (tI v3)] [] h 0 0 := by
  intro n
  induction n with
  | zero => intro v1 v2 v3 h hm; exact hm.elim
  | succ n ih =>
    intro v1 v2 v3 h hm
    have hk9 := fun (v1 : Int32) (v2 : Int32) (v3 : Int32) (hh : Hp) (hm : m_X12_passesAll_9 n Q v1 v2 v3 hh) => ih hm
    rw [m_X12_passesAll_9] at hm
    refine r_iload_n dX12_passesAll_9 rfl rfl ?_
    refine r_aload_n dX12_passesAll_10 rfl rfl ?_
    refine r_getI (k := 55) cl_12 dX12_passesAll_11 t_1327 (Or.inl rfl) gf_12_55 ?_
    refine r_icmp_ge (tgt := 49) dX12_passesAll_14 rfl (fun hc => ?_) (fun hc => ?_)
    · replace hm := hm.1 hc
      exact r_return dX12_passesAll_49 rfl ⟨by decide, by decide⟩ ⟨rfl, hm⟩
    · replace hm := hm.2 hc
      refine r_aload_n dX12_passesAll_17 rfl rfl ?_
      refine r_aload_n dX12_passesAll_18 rfl rfl ?_
      refine r_getC (k := 57) cl_12 dX12_passesAll_19 t_1329 gf_12_57.1 gf_12_57.2 (gc_12_57 _) ?_
      refine r_iload_n dX12_passesAll_22 rfl rfl ?_
      refine r_iald dX12_passesAll_23 hm.1 ?_
      replace hm := hm.2
      refine r_iload_n dX12_passesAll_24 rfl rfl ?_
      refine r_iload_n dX12_passesAll_25 rfl rfl ?_
      refine r_callVU (d' := d - 1) (as := [tI (hI h 85 (ix v3)), tI v1, tI v2]) (st := []) cl_12 dX12_passesAll_26 mi_X12_passes t_1729 t_1731 ts_85 rfl rfl (Nat.le_of_ble_eq_true rfl) (by omega) ⟨by decide, by decide⟩ ⟨rfl, rfl⟩ (s_X12_passes (by omega) hm) (fun h2 hm => ?_)
      refine r_iload_n dX12_passesAll_29 rfl rfl ?_
      refine r_aload_n dX12_passesAll_30 rfl rfl ?_
      refine r_getC (k := 5) cl_12 dX12_passesAll_31 t_1277 gf_12_5.1 gf_12_5.2 (gc_12_5 _) ?_
      refine r_aload_n dX12_passesAll_34 rfl rfl ?_
      refine r_getC (k := 57) cl_12 dX12_passesAll_35 t_1329 gf_12_57.1 gf_12_57.2 (gc_12_57 _) ?_
      refine r_iload_n dX12_passesAll_38 rfl rfl ?_
      refine r_iald dX12_passesAll_39 hm.1 ?_
      replace hm := hm.2
      refine r_iald dX12_passesAll_40 hm.1 ?_
      replace hm := hm.2
      refine r_iadd dX12_passesAll_41 ?_
      refine r_nmI (fun x3 e_x3 => ?_)
      replace hm := hm x3 e_x3
      refine r_istore_n (L' := [some (tR 12 0 (some 51)), some (tI v1), some (tI x3), some (tI v3)]) dX12_passesAll_42 rfl (by decide) rfl ?_
      obtain ⟨x4, e_x4⟩ : ∃ y : Int32, y = v3 + 1 := ⟨_, rfl⟩
      replace hm := hm x4 e_x4
      refine r_iinc (L' := [some (tR 12 0 (some 51)), some (tI v1), some (tI x3), some (tI x4)]) dX12_passesAll_43 rfl (by rw [e_x4]; rfl) (by decide) rfl ?_
      refine r_goto (tgt := 9) dX12_passesAll_46 rfl ?_
      refine r_keep (L' := [some (tR 12 0 (some 51)), some (tI v1), some (tI x3), some (tI x4)]) [true, true, true, true] rfl ?_
      exact hk9 _ _ _ _ hm
def m_X12_passesAll (v1 : Int32) (h : Hp) (Q : Hp → Prop) : Prop := ∃ n9, m_X12_passesAll_9 n9 Q v1 5 0 (wI h 51 48 0)
set_option maxHeartbeats 4000000 in
set_option maxRecDepth 100000 in
theorem s_X12_passesAll {l : Launch} {G : Cx} {d : Nat} (hd : 6 ≤ d) {v1 : Int32} {h : Hp} {Q : Hp → Prop} (hm : m_X12_passesAll v1 h Q) : Ct l G d 0 0 yX12_passesAll MX12_passesAll [tR 12 0 (some 51), tI v1] h (qV Q) := by
  unfold m_X12_passesAll at hm
  refine Ct.of (L := [some (tR 12 0 (some 51)), some (tI v1)]) (by decide) rfl rfl (Nat.le_of_ble_eq_true rfl) rfl ?_
  refine r_aload_n dX12_passesAll_0 rfl rfl ?_
  refine r_iconst (v := 0) dX12_passesAll_1 rfl ?_
  refine r_putI0 (k := 48) cl_12 dX12_passesAll_2 t_1320 (Or.inl rfl) gf_12_48 pf_12_48.1 (Or.inl pf_12_48.2) ?_
  refine r_iconst (v := 5) dX12_passesAll_5 rfl ?_
  refine r_istore_n (L' := [some (tR 12 0 (some 51)), some (tI v1), some (tI 5)]) dX12_passesAll_6 rfl (by decide) rfl ?_
  refine r_iconst (v := 0) dX12_passesAll_7 rfl ?_
  refine r_istore_n (L' := [some (tR 12 0 (some 51)), some (tI v1), some (tI 5), some (tI 0)]) dX12_passesAll_8 rfl (by decide) rfl ?_
  refine r_keep (L' := [some (tR 12 0 (some 51)), some (tI v1), some (tI 5), some (tI 0)]) [true, true, true, true] rfl ?_
  obtain ⟨n, hm⟩ := hm
  refine s_X12_passesAll_9 hd hm
