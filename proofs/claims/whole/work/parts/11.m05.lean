theorem dX9_learn_0 : decode cX9_learn 0 = .ok (.aload_n 0, 1) := by decide +kernel
theorem dX9_learn_1 : decode cX9_learn 1 = .ok (.getfield 26, 3) := by decide +kernel
theorem dX9_learn_4 : decode cX9_learn 4 = .ok (.ifCond .eq 4, 3) := by decide +kernel
theorem dX9_learn_7 : decode cX9_learn 7 = .ok (.return_, 1) := by decide +kernel
theorem dX9_learn_8 : decode cX9_learn 8 = .ok (.aload_n 0, 1) := by decide +kernel
theorem dX9_learn_9 : decode cX9_learn 9 = .ok (.iconst 1, 1) := by decide +kernel
theorem dX9_learn_10 : decode cX9_learn 10 = .ok (.putfield 26, 3) := by decide +kernel
theorem dX9_learn_13 : decode cX9_learn 13 = .ok (.aload_n 0, 1) := by decide +kernel
theorem dX9_learn_14 : decode cX9_learn 14 = .ok (.getfield 15, 3) := by decide +kernel
theorem dX9_learn_17 : decode cX9_learn 17 = .ok (.iconst 0, 1) := by decide +kernel
theorem dX9_learn_18 : decode cX9_learn 18 = .ok (.invokestatic 30, 3) := by decide +kernel
theorem dX9_learn_21 : decode cX9_learn 21 = .ok (.aload_n 1, 1) := by decide +kernel
theorem dX9_learn_22 : decode cX9_learn 22 = .ok (.invokevirtual 36, 3) := by decide +kernel
theorem dX9_learn_25 : decode cX9_learn 25 = .ok (.istore_n 3, 1) := by decide +kernel
theorem dX9_learn_26 : decode cX9_learn 26 = .ok (.aload_n 1, 1) := by decide +kernel
theorem dX9_learn_27 : decode cX9_learn 27 = .ok (.invokevirtual 42, 3) := by decide +kernel
theorem dX9_learn_30 : decode cX9_learn 30 = .ok (.istore 4, 2) := by decide +kernel
theorem dX9_learn_32 : decode cX9_learn 32 = .ok (.iconst 0, 1) := by decide +kernel
theorem dX9_learn_33 : decode cX9_learn 33 = .ok (.istore 5, 2) := by decide +kernel
theorem dX9_learn_35 : decode cX9_learn 35 = .ok (.aload_n 2, 1) := by decide +kernel
theorem dX9_learn_36 : decode cX9_learn 36 = .ok (.aload_n 1, 1) := by decide +kernel
theorem dX9_learn_37 : decode cX9_learn 37 = .ok (.invokevirtual 45, 3) := by decide +kernel
theorem dX9_learn_40 : decode cX9_learn 40 = .ok (.iconst 0, 1) := by decide +kernel
theorem dX9_learn_41 : decode cX9_learn 41 = .ok (.istore 6, 2) := by decide +kernel
theorem dX9_learn_43 : decode cX9_learn 43 = .ok (.iload 6, 2) := by decide +kernel
theorem dX9_learn_45 : decode cX9_learn 45 = .ok (.iload 4, 2) := by decide +kernel
theorem dX9_learn_47 : decode cX9_learn 47 = .ok (.if_icmp .ge 85, 3) := by decide +kernel
theorem dX9_learn_50 : decode cX9_learn 50 = .ok (.aload_n 2, 1) := by decide +kernel
theorem dX9_learn_51 : decode cX9_learn 51 = .ok (.iload 5, 2) := by decide +kernel
theorem dX9_learn_53 : decode cX9_learn 53 = .ok (.invokevirtual 51, 3) := by decide +kernel
theorem dX9_learn_56 : decode cX9_learn 56 = .ok (.iconst 0, 1) := by decide +kernel
theorem dX9_learn_57 : decode cX9_learn 57 = .ok (.istore 7, 2) := by decide +kernel
theorem dX9_learn_59 : decode cX9_learn 59 = .ok (.iload 7, 2) := by decide +kernel
theorem dX9_learn_61 : decode cX9_learn 61 = .ok (.bipush 8, 2) := by decide +kernel
theorem dX9_learn_63 : decode cX9_learn 63 = .ok (.if_icmp .ge 55, 3) := by decide +kernel
theorem dX9_learn_66 : decode cX9_learn 66 = .ok (.aload_n 0, 1) := by decide +kernel
theorem dX9_learn_67 : decode cX9_learn 67 = .ok (.getfield 23, 3) := by decide +kernel
theorem dX9_learn_70 : decode cX9_learn 70 = .ok (.iload 7, 2) := by decide +kernel
theorem dX9_learn_72 : decode cX9_learn 72 = .ok (.iload 6, 2) := by decide +kernel
theorem dX9_learn_74 : decode cX9_learn 74 = .ok (.ifCond .ne 13, 3) := by decide +kernel
theorem dX9_learn_77 : decode cX9_learn 77 = .ok (.aload_n 2, 1) := by decide +kernel
theorem dX9_learn_78 : decode cX9_learn 78 = .ok (.getfield 55, 3) := by decide +kernel
theorem dX9_learn_81 : decode cX9_learn 81 = .ok (.iload 7, 2) := by decide +kernel
theorem dX9_learn_83 : decode cX9_learn 83 = .ok (.laload, 1) := by decide +kernel
theorem dX9_learn_84 : decode cX9_learn 84 = .ok (.goto 20, 3) := by decide +kernel
theorem dX9_learn_87 : decode cX9_learn 87 = .ok (.aload_n 0, 1) := by decide +kernel
theorem dX9_learn_88 : decode cX9_learn 88 = .ok (.getfield 23, 3) := by decide +kernel
theorem dX9_learn_91 : decode cX9_learn 91 = .ok (.iload 7, 2) := by decide +kernel
theorem dX9_learn_93 : decode cX9_learn 93 = .ok (.laload, 1) := by decide +kernel
theorem dX9_learn_94 : decode cX9_learn 94 = .ok (.aload_n 2, 1) := by decide +kernel
theorem dX9_learn_95 : decode cX9_learn 95 = .ok (.getfield 55, 3) := by decide +kernel
theorem dX9_learn_98 : decode cX9_learn 98 = .ok (.iload 7, 2) := by decide +kernel
theorem dX9_learn_100 : decode cX9_learn 100 = .ok (.laload, 1) := by decide +kernel
theorem dX9_learn_101 : decode cX9_learn 101 = .ok (.invokestatic 58, 3) := by decide +kernel
theorem dX9_learn_104 : decode cX9_learn 104 = .ok (.lastore, 1) := by decide +kernel
theorem dX9_learn_105 : decode cX9_learn 105 = .ok (.aload_n 0, 1) := by decide +kernel
theorem dX9_learn_106 : decode cX9_learn 106 = .ok (.aload_n 2, 1) := by decide +kernel
theorem dX9_learn_107 : decode cX9_learn 107 = .ok (.iload 7, 2) := by decide +kernel
theorem dX9_learn_109 : decode cX9_learn 109 = .ok (.invokevirtual 64, 3) := by decide +kernel
theorem dX9_learn_112 : decode cX9_learn 112 = .ok (.iinc 7 1, 3) := by decide +kernel
theorem dX9_learn_115 : decode cX9_learn 115 = .ok (.goto (-56), 3) := by decide +kernel
theorem dX9_learn_118 : decode cX9_learn 118 = .ok (.iload 5, 2) := by decide +kernel
theorem dX9_learn_120 : decode cX9_learn 120 = .ok (.iload_n 3, 1) := by decide +kernel
theorem dX9_learn_121 : decode cX9_learn 121 = .ok (.isub, 1) := by decide +kernel
theorem dX9_learn_122 : decode cX9_learn 122 = .ok (.iload_n 3, 1) := by decide +kernel
theorem dX9_learn_123 : decode cX9_learn 123 = .ok (.iand, 1) := by decide +kernel
theorem dX9_learn_124 : decode cX9_learn 124 = .ok (.istore 5, 2) := by decide +kernel
theorem dX9_learn_126 : decode cX9_learn 126 = .ok (.iinc 6 1, 3) := by decide +kernel
theorem dX9_learn_129 : decode cX9_learn 129 = .ok (.goto (-86), 3) := by decide +kernel
theorem dX9_learn_132 : decode cX9_learn 132 = .ok (.aload_n 0, 1) := by decide +kernel
theorem dX9_learn_133 : decode cX9_learn 133 = .ok (.aload_n 0, 1) := by decide +kernel
theorem dX9_learn_134 : decode cX9_learn 134 = .ok (.iload 4, 2) := by decide +kernel
theorem dX9_learn_136 : decode cX9_learn 136 = .ok (.invokevirtual 68, 3) := by decide +kernel
theorem dX9_learn_139 : decode cX9_learn 139 = .ok (.putfield 9, 3) := by decide +kernel
theorem dX9_learn_142 : decode cX9_learn 142 = .ok (.return_, 1) := by decide +kernel
def m_X9_learn_132  (Q : Hp → Prop) (v4 : Int32) (h : Hp) : Prop := m_X9_leastPair v4 h (fun (x1 : Int32) (h2 : Hp) => Q (wI h2 26 1 x1))
set_option maxHeartbeats 4000000 in
set_option maxRecDepth 100000 in
theorem s_X9_learn_132 {l : Launch} {G : Cx} {d : Nat} {h0 : Hp} (hd : 10 ≤ d) {Q : Hp → Prop} {v4 : Int32} {h : Hp} (hm : m_X9_learn_132 Q v4 h) : Rn l G d 0 0 MX9_learn h0 (qV Q) 132 [some (tR 9 0 (some 26)), none, none, none, some (tI v4)] [] h 0 0 := by
  unfold m_X9_learn_132 at hm
  refine r_aload_n dX9_learn_132 rfl rfl ?_
  refine r_aload_n dX9_learn_133 rfl rfl ?_
  refine r_iload dX9_learn_134 rfl ?_
  refine r_callVI (d' := d - 1) (as := [tI v4]) (st := [tR 9 0 (some 26)]) cl_9 dX9_learn_136 mi_X9_leastPair t_1033 t_1035 ts_38 rfl rfl (Nat.le_of_ble_eq_true rfl) (by omega) ⟨by decide, by decide⟩ ⟨rfl, rfl⟩ (s_X9_leastPair (by omega) hm) (fun x1 h2 hm => ?_)
  refine r_putI0 (k := 1) cl_9 dX9_learn_139 t_215 (Or.inl rfl) gf_9_1 pf_9_1.1 (Or.inl pf_9_1.2) ?_
  exact r_return dX9_learn_142 rfl ⟨by decide, by decide⟩ ⟨rfl, hm⟩
def m_X9_learn_118 (k43 : Int32 → Int32 → Int32 → Int32 → Hp → Prop) (k132 : Int32 → Hp → Prop) (Q : Hp → Prop) (v3 : Int32) (v4 : Int32) (v5 : Int32) (v6 : Int32) (h : Hp) : Prop := ∀ x3 : Int32, x3 = ((v5 - v3) &&& v3) → ∀ x4 : Int32, x4 = v6 + 1 → k43 v3 v4 x3 x4 h
set_option maxHeartbeats 4000000 in
set_option maxRecDepth 100000 in
theorem s_X9_learn_118 {l : Launch} {G : Cx} {d : Nat} {h0 : Hp} (hd : 10 ≤ d) {k43 : Int32 → Int32 → Int32 → Int32 → Hp → Prop} {k132 : Int32 → Hp → Prop} {Q : Hp → Prop} (hk43 : ∀ (v3 : Int32) (v4 : Int32) (v5 : Int32) (v6 : Int32) (hh : Hp), k43 v3 v4 v5 v6 hh → Rn l G d 0 0 MX9_learn h0 (qV Q) 43 [some (tR 9 0 (some 26)), none, some (tR 5 0 (some 14)), some (tI v3), some (tI v4), some (tI v5), some (tI v6)] [] hh 0 0) (hk132 : ∀ (v4 : Int32) (hh : Hp), k132 v4 hh → Rn l G d 0 0 MX9_learn h0 (qV Q) 132 [some (tR 9 0 (some 26)), none, none, none, some (tI v4)] [] hh 0 0) {v3 : Int32} {v4 : Int32} {v5 : Int32} {v6 : Int32} {h : Hp} (hm : m_X9_learn_118 k43 k132 Q v3 v4 v5 v6 h) : Rn l G d 0 0 MX9_learn h0 (qV Q) 118 [some (tR 9 0 (some 26)), none, some (tR 5 0 (some 14)), some (tI v3), some (tI v4), some (tI v5), some (tI v6)] [] h 0 0 := by
  unfold m_X9_learn_118 at hm
  refine r_iload dX9_learn_118 rfl ?_
  refine r_iload_n dX9_learn_120 rfl rfl ?_
  refine r_isub dX9_learn_121 ?_
  refine r_iload_n dX9_learn_122 rfl rfl ?_
  refine r_iand dX9_learn_123 ?_
  refine r_nmI (fun x3 e_x3 => ?_)
  replace hm := hm x3 e_x3
  refine r_istore (L' := [some (tR 9 0 (some 26)), none, some (tR 5 0 (some 14)), some (tI v3), some (tI v4), some (tI x3), some (tI v6)]) dX9_learn_124 (by decide) rfl ?_
  obtain ⟨x4, e_x4⟩ : ∃ y : Int32, y = v6 + 1 := ⟨_, rfl⟩
  replace hm := hm x4 e_x4
  refine r_iinc (L' := [some (tR 9 0 (some 26)), none, some (tR 5 0 (some 14)), some (tI v3), some (tI v4), some (tI x3), some (tI x4)]) dX9_learn_126 rfl (by rw [e_x4]; rfl) (by decide) rfl ?_
  refine r_goto (tgt := 43) dX9_learn_129 rfl ?_
  refine r_keep (L' := [some (tR 9 0 (some 26)), none, some (tR 5 0 (some 14)), some (tI v3), some (tI v4), some (tI x3), some (tI x4)]) [true, false, true, true, true, true, true] rfl ?_
  exact hk43 _ _ _ _ _ hm
def m_X9_learn_104 (k59 : Int32 → Int32 → Int32 → Int32 → Int32 → Hp → Prop) (k118 : Int32 → Int32 → Int32 → Int32 → Hp → Prop) (Q : Hp → Prop) (v3 : Int32) (v4 : Int32) (v5 : Int32) (v6 : Int32) (v7 : Int32) (s1 : Int32) (s2 : Int64) (h : Hp) : Prop := vp_in s1 8 ∧ (m_X9_noteLender v7 (wJ h 29 (ix s1) s2) (fun (h6 : Hp) => ∀ x7 : Int32, x7 = v7 + 1 → k59 v3 v4 v5 v6 x7 h6))
set_option maxHeartbeats 4000000 in
set_option maxRecDepth 100000 in
theorem s_X9_learn_104 {l : Launch} {G : Cx} {d : Nat} {h0 : Hp} (hd : 10 ≤ d) {k59 : Int32 → Int32 → Int32 → Int32 → Int32 → Hp → Prop} {k118 : Int32 → Int32 → Int32 → Int32 → Hp → Prop} {Q : Hp → Prop} (hk59 : ∀ (v3 : Int32) (v4 : Int32) (v5 : Int32) (v6 : Int32) (v7 : Int32) (hh : Hp), k59 v3 v4 v5 v6 v7 hh → Rn l G d 0 0 MX9_learn h0 (qV Q) 59 [some (tR 9 0 (some 26)), none, some (tR 5 0 (some 14)), some (tI v3), some (tI v4), some (tI v5), some (tI v6), some (tI v7)] [] hh 0 0) (hk118 : ∀ (v3 : Int32) (v4 : Int32) (v5 : Int32) (v6 : Int32) (hh : Hp), k118 v3 v4 v5 v6 hh → Rn l G d 0 0 MX9_learn h0 (qV Q) 118 [some (tR 9 0 (some 26)), none, some (tR 5 0 (some 14)), some (tI v3), some (tI v4), some (tI v5), some (tI v6)] [] hh 0 0) {v3 : Int32} {v4 : Int32} {v5 : Int32} {v6 : Int32} {v7 : Int32} {s1 : Int32} {s2 : Int64} {h : Hp} (hm : m_X9_learn_104 k59 k118 Q v3 v4 v5 v6 v7 s1 s2 h) : Rn l G d 0 0 MX9_learn h0 (qV Q) 104 [some (tR 9 0 (some 26)), none, some (tR 5 0 (some 14)), some (tI v3), some (tI v4), some (tI v5), some (tI v6), some (tI v7)] [tJ s2, tI s1, tR 43 8 (some 29)] h 0 0 := by
  unfold m_X9_learn_104 at hm
  refine r_last dX9_learn_104 hm.1 ?_
  replace hm := hm.2
  refine r_aload_n dX9_learn_105 rfl rfl ?_
  refine r_aload_n dX9_learn_106 rfl rfl ?_
  refine r_iload dX9_learn_107 rfl ?_
  refine r_callVU (d' := d - 1) (as := [tR 5 0 (some 14), tI v7]) (st := []) cl_9 dX9_learn_109 mi_X9_noteLender t_1012 t_1014 ts_36 rfl rfl (Nat.le_of_ble_eq_true rfl) (by omega) ⟨by decide, by decide⟩ ⟨rfl, rfl⟩ (s_X9_noteLender (by omega) hm) (fun h6 hm => ?_)
  obtain ⟨x7, e_x7⟩ : ∃ y : Int32, y = v7 + 1 := ⟨_, rfl⟩
  replace hm := hm x7 e_x7
  refine r_iinc (L' := [some (tR 9 0 (some 26)), none, some (tR 5 0 (some 14)), some (tI v3), some (tI v4), some (tI v5), some (tI v6), some (tI x7)]) dX9_learn_112 rfl (by rw [e_x7]; rfl) (by decide) rfl ?_
  refine r_goto (tgt := 59) dX9_learn_115 rfl ?_
  refine r_keep (L' := [some (tR 9 0 (some 26)), none, some (tR 5 0 (some 14)), some (tI v3), some (tI v4), some (tI v5), some (tI v6), some (tI x7)]) [true, false, true, true, true, true, true, true] rfl ?_
  exact hk59 _ _ _ _ _ _ hm
def m_X9_learn_59 : Nat → (Int32 → Int32 → Int32 → Int32 → Hp → Prop) → (Hp → Prop) → Int32 → Int32 → Int32 → Int32 → Int32 → Hp → Prop
  | 0, _, _, _, _, _, _, _, _ => False
  | n + 1, k118, Q, v3, v4, v5, v6, v7, h => (8 ≤ v7 → k118 v3 v4 v5 v6 h) ∧ (¬ 8 ≤ v7 → (¬ v6 = 0 → vp_in v7 8 ∧ (vp_in v7 8 ∧ (m_X9_learn_104 (fun (v3 : Int32) (v4 : Int32) (v5 : Int32) (v6 : Int32) (v7 : Int32) (hh : Hp) => m_X9_learn_59 n k118 Q v3 v4 v5 v6 v7 hh) k118 Q v3 v4 v5 v6 v7 v7 (if (hJ h 21 (ix v7)) < (hJ h 29 (ix v7)) then (hJ h 21 (ix v7)) else (hJ h 29 (ix v7))) h))) ∧ (v6 = 0 → vp_in v7 8 ∧ (m_X9_learn_104 (fun (v3 : Int32) (v4 : Int32) (v5 : Int32) (v6 : Int32) (v7 : Int32) (hh : Hp) => m_X9_learn_59 n k118 Q v3 v4 v5 v6 v7 hh) k118 Q v3 v4 v5 v6 v7 v7 (hJ h 21 (ix v7)) h)))
set_option maxHeartbeats 4000000 in
set_option maxRecDepth 100000 in
theorem s_X9_learn_59 {l : Launch} {G : Cx} {d : Nat} {h0 : Hp} (hd : 10 ≤ d) {k118 : Int32 → Int32 → Int32 → Int32 → Hp → Prop} {Q : Hp → Prop} (hk118 : ∀ (v3 : Int32) (v4 : Int32) (v5 : Int32) (v6 : Int32) (hh : Hp), k118 v3 v4 v5 v6 hh → Rn l G d 0 0 MX9_learn h0 (qV Q) 118 [some (tR 9 0 (some 26)), none, some (tR 5 0 (some 14)), some (tI v3), some (tI v4), some (tI v5), some (tI v6)] [] hh 0 0) : ∀ {n : Nat} {v3 : Int32} {v4 : Int32} {v5 : Int32} {v6 : Int32} {v7 : Int32} {h : Hp}, m_X9_learn_59 n k118 Q v3 v4 v5 v6 v7 h → Rn l G d 0 0 MX9_learn h0 (qV Q) 59 [some (tR 9 0 (some 26)), none, some (tR 5 0 (some 14)), some (tI v3), some (tI v4), some (tI v5), some (tI v6), some (tI v7)] [] h 0 0 := by
  intro n
  induction n with
  | zero => intro v3 v4 v5 v6 v7 h hm; exact hm.elim
  | succ n ih =>
    intro v3 v4 v5 v6 v7 h hm
    have hk59 := fun (v3 : Int32) (v4 : Int32) (v5 : Int32) (v6 : Int32) (v7 : Int32) (hh : Hp) (hm : m_X9_learn_59 n k118 Q v3 v4 v5 v6 v7 hh) => ih hm
    rw [m_X9_learn_59] at hm
    refine r_iload dX9_learn_59 rfl ?_
    refine r_bipush (v := 8) dX9_learn_61 rfl ?_
    refine r_icmp_ge (tgt := 118) dX9_learn_63 rfl (fun hc => ?_) (fun hc => ?_)
    · replace hm := hm.1 hc
      refine r_keep (L' := [some (tR 9 0 (some 26)), none, some (tR 5 0 (some 14)), some (tI v3), some (tI v4), some (tI v5), some (tI v6)]) [true, false, true, true, true, true, true] rfl ?_
      exact hk118 _ _ _ _ _ hm
    · replace hm := hm.2 hc
      refine r_aload_n dX9_learn_66 rfl rfl ?_
      refine r_getC (k := 4) cl_9 dX9_learn_67 t_221 gf_9_4.1 gf_9_4.2 (gc_9_4 _) ?_
      refine r_iload dX9_learn_70 rfl ?_
      refine r_iload dX9_learn_72 rfl ?_
      refine r_if_ne (tgt := 87) dX9_learn_74 rfl (fun hc => ?_) (fun hc => ?_)
      · replace hm := hm.1 hc
        refine r_aload_n dX9_learn_87 rfl rfl ?_
        refine r_getC (k := 4) cl_9 dX9_learn_88 t_221 gf_9_4.1 gf_9_4.2 (gc_9_4 _) ?_
        refine r_iload dX9_learn_91 rfl ?_
        refine r_lald dX9_learn_93 hm.1 ?_
        replace hm := hm.2
        refine r_aload_n dX9_learn_94 rfl rfl ?_
        refine r_getC (k := 10) cl_5 dX9_learn_95 t_154 gf_5_10.1 gf_5_10.2 (gc_5_10 _) ?_
        refine r_iload dX9_learn_98 rfl ?_
        refine r_lald dX9_learn_100 hm.1 ?_
        replace hm := hm.2
        refine r_mminL dX9_learn_101 t_1009 t_1010 t_14 t_1011 (by omega) ⟨by decide, by decide⟩ (Nat.le_of_ble_eq_true rfl) ?_
        refine r_keep (L' := [some (tR 9 0 (some 26)), none, some (tR 5 0 (some 14)), some (tI v3), some (tI v4), some (tI v5), some (tI v6), some (tI v7)]) [true, false, true, true, true, true, true, true] rfl ?_
        exact s_X9_learn_104 hd hk59 hk118 hm
      · replace hm := hm.2 hc
        refine r_aload_n dX9_learn_77 rfl rfl ?_
        refine r_getC (k := 10) cl_5 dX9_learn_78 t_154 gf_5_10.1 gf_5_10.2 (gc_5_10 _) ?_
        refine r_iload dX9_learn_81 rfl ?_
        refine r_lald dX9_learn_83 hm.1 ?_
        replace hm := hm.2
        refine r_goto (tgt := 104) dX9_learn_84 rfl ?_
        refine r_keep (L' := [some (tR 9 0 (some 26)), none, some (tR 5 0 (some 14)), some (tI v3), some (tI v4), some (tI v5), some (tI v6), some (tI v7)]) [true, false, true, true, true, true, true, true] rfl ?_
        exact s_X9_learn_104 hd hk59 hk118 hm
def m_X9_learn_43 : Nat → (Int32 → Hp → Prop) → (Hp → Prop) → Int32 → Int32 → Int32 → Int32 → Hp → Prop
  | 0, _, _, _, _, _, _, _ => False
  | n + 1, k132, Q, v3, v4, v5, v6, h => (v4 ≤ v6 → k132 v4 h) ∧ (¬ v4 ≤ v6 → m_X5_weigh v5 h (fun (h9 : Hp) => ∃ n59, m_X9_learn_59 n59 (m_X9_learn_118 (fun (v3 : Int32) (v4 : Int32) (v5 : Int32) (v6 : Int32) (hh : Hp) => m_X9_learn_43 n k132 Q v3 v4 v5 v6 hh) k132 Q) Q v3 v4 v5 v6 0 h9))
set_option maxHeartbeats 4000000 in
set_option maxRecDepth 100000 in
theorem s_X9_learn_43 {l : Launch} {G : Cx} {d : Nat} {h0 : Hp} (hd : 10 ≤ d) {k132 : Int32 → Hp → Prop} {Q : Hp → Prop} (hk132 : ∀ (v4 : Int32) (hh : Hp), k132 v4 hh → Rn l G d 0 0 MX9_learn h0 (qV Q) 132 [some (tR 9 0 (some 26)), none, none, none, some (tI v4)] [] hh 0 0) : ∀ {n : Nat} {v3 : Int32} {v4 : Int32} {v5 : Int32} {v6 : Int32} {h : Hp}, m_X9_learn_43 n k132 Q v3 v4 v5 v6 h → Rn l G d 0 0 MX9_learn h0 (qV Q) 43 [some (tR 9 0 (some 26)), none, some (tR 5 0 (some 14)), some (tI v3), some (tI v4), some (tI v5), some (tI v6)] [] h 0 0 := by
  intro n
  induction n with
  | zero => intro v3 v4 v5 v6 h hm; exact hm.elim
  | succ n ih =>
    intro v3 v4 v5 v6 h hm
    have hk43 := fun (v3 : Int32) (v4 : Int32) (v5 : Int32) (v6 : Int32) (hh : Hp) (hm : m_X9_learn_43 n k132 Q v3 v4 v5 v6 hh) => ih hm
    rw [m_X9_learn_43] at hm
    refine r_iload dX9_learn_43 rfl ?_
    refine r_iload dX9_learn_45 rfl ?_
    refine r_icmp_ge (tgt := 132) dX9_learn_47 rfl (fun hc => ?_) (fun hc => ?_)
    · replace hm := hm.1 hc
      refine r_keep (L' := [some (tR 9 0 (some 26)), none, none, none, some (tI v4)]) [true, false, false, false, true] rfl ?_
      exact hk132 _ _ hm
    · replace hm := hm.2 hc
      refine r_aload_n dX9_learn_50 rfl rfl ?_
      refine r_iload dX9_learn_51 rfl ?_
      refine r_callVU (d' := d - 1) (as := [tI v5]) (st := []) cl_5 dX9_learn_53 mi_X5_weigh t_992 t_993 t_994 rfl rfl (Nat.le_of_ble_eq_true rfl) (by omega) ⟨by decide, by decide⟩ ⟨rfl, rfl⟩ (s_X5_weigh (by omega) hm) (fun h9 hm => ?_)
      refine r_iconst (v := 0) dX9_learn_56 rfl ?_
      refine r_istore (L' := [some (tR 9 0 (some 26)), none, some (tR 5 0 (some 14)), some (tI v3), some (tI v4), some (tI v5), some (tI v6), some (tI 0)]) dX9_learn_57 (by decide) rfl ?_
      refine r_keep (L' := [some (tR 9 0 (some 26)), none, some (tR 5 0 (some 14)), some (tI v3), some (tI v4), some (tI v5), some (tI v6), some (tI 0)]) [true, false, true, true, true, true, true, true] rfl ?_
      obtain ⟨n, hm⟩ := hm
      refine s_X9_learn_59 hd ?_ hm
      · exact (fun _ _ _ _ _ hm => s_X9_learn_118 hd hk43 hk132 hm)
def m_X9_learn (v1 : Nat) (h : Hp) (Q : Hp → Prop) : Prop := ((hI h 26 0) = 0 → m_J7_fill_53178 27 64 0 (wI h 26 0 1) (fun (h11 : Hp) => m_X0_namedBits v1 h11 (fun (x12 : Int32) (h13 : Hp) => m_X0_codesLooked v1 h13 (fun (x14 : Int32) (h15 : Hp) => m_X5_take v1 h15 (fun (h17 : Hp) => ∃ n43, m_X9_learn_43 n43 (m_X9_learn_132 Q) Q x12 x14 0 0 h17))))) ∧ (¬ (hI h 26 0) = 0 → Q h)
set_option maxHeartbeats 4000000 in
set_option maxRecDepth 100000 in
theorem s_X9_learn {l : Launch} {G : Cx} {d : Nat} (hd : 10 ≤ d) {v1 : Nat} {h : Hp} {Q : Hp → Prop} (hm : m_X9_learn v1 h Q) : Ct l G d 0 0 yX9_learn MX9_learn [tR 9 0 (some 26), tR 0 0 (some v1), tR 5 0 (some 14)] h (qV Q) := by
  unfold m_X9_learn at hm
  refine Ct.of (L := [some (tR 9 0 (some 26)), some (tR 0 0 (some v1)), some (tR 5 0 (some 14))]) (by decide) rfl rfl (Nat.le_of_ble_eq_true rfl) rfl ?_
  refine r_aload_n dX9_learn_0 rfl rfl ?_
  refine r_getI (k := 0) cl_9 dX9_learn_1 t_213 (Or.inl rfl) gf_9_0 ?_
  refine r_if_eq (tgt := 8) dX9_learn_4 rfl (fun hc => ?_) (fun hc => ?_)
  · replace hm := hm.1 hc
    refine r_aload_n dX9_learn_8 rfl rfl ?_
    refine r_iconst (v := 1) dX9_learn_9 rfl ?_
    refine r_putZ0 (k := 0) cl_9 dX9_learn_10 t_213 (Or.inl rfl) gf_9_0 pf_9_0.1 (Or.inl pf_9_0.2) (by unfold bz; decide) ?_
    refine r_aload_n dX9_learn_13 rfl rfl ?_
    refine r_getC (k := 2) cl_9 dX9_learn_14 t_217 gf_9_2.1 gf_9_2.2 (gc_9_2 _) ?_
    refine r_iconst (v := 0) dX9_learn_17 rfl ?_
    refine r_callSU (d' := d - 1) (as := [tR 40 64 (some 27), tI 0]) (st := []) dX9_learn_18 mi_J7_fill_53178 t_972 t_413 rfl rfl (Nat.le_of_ble_eq_true rfl) (by omega) ⟨by decide, by decide⟩ ⟨rfl, rfl⟩ (s_J7_fill_53178 (by omega) hm) (fun h11 hm => ?_)
    refine r_aload_n dX9_learn_21 rfl rfl ?_
    refine r_callVI (d' := d - 1) (as := []) (st := []) cl_0 dX9_learn_22 mi_X0_namedBits t_973 t_953 t_954 rfl rfl (Nat.le_of_ble_eq_true rfl) (by omega) ⟨by decide, by decide⟩ ⟨rfl, rfl⟩ (s_X0_namedBits (by omega) hm) (fun x12 h13 hm => ?_)
    refine r_istore_n (L' := [some (tR 9 0 (some 26)), some (tR 0 0 (some v1)), some (tR 5 0 (some 14)), some (tI x12)]) dX9_learn_25 rfl (by decide) rfl ?_
    refine r_aload_n dX9_learn_26 rfl rfl ?_
    refine r_callVI (d' := d - 1) (as := []) (st := []) cl_0 dX9_learn_27 mi_X0_codesLooked t_974 t_958 t_959 rfl rfl (Nat.le_of_ble_eq_true rfl) (by omega) ⟨by decide, by decide⟩ ⟨rfl, rfl⟩ (s_X0_codesLooked (by omega) hm) (fun x14 h15 hm => ?_)
    refine r_istore (L' := [some (tR 9 0 (some 26)), some (tR 0 0 (some v1)), some (tR 5 0 (some 14)), some (tI x12), some (tI x14)]) dX9_learn_30 (by decide) rfl ?_
    refine r_iconst (v := 0) dX9_learn_32 rfl ?_
    refine r_istore (L' := [some (tR 9 0 (some 26)), some (tR 0 0 (some v1)), some (tR 5 0 (some 14)), some (tI x12), some (tI x14), some (tI 0)]) dX9_learn_33 (by decide) rfl ?_
    refine r_aload_n dX9_learn_35 rfl rfl ?_
    refine r_aload_n dX9_learn_36 rfl rfl ?_
    refine r_callVU (d' := d - 1) (as := [tR 0 0 (some v1)]) (st := []) cl_5 dX9_learn_37 mi_X5_take t_975 t_976 t_977 rfl rfl (Nat.le_of_ble_eq_true rfl) (by omega) ⟨by decide, by decide⟩ ⟨rfl, rfl⟩ (s_X5_take (by omega) hm) (fun h17 hm => ?_)
    refine r_iconst (v := 0) dX9_learn_40 rfl ?_
    refine r_istore (L' := [some (tR 9 0 (some 26)), some (tR 0 0 (some v1)), some (tR 5 0 (some 14)), some (tI x12), some (tI x14), some (tI 0), some (tI 0)]) dX9_learn_41 (by decide) rfl ?_
    refine r_keep (L' := [some (tR 9 0 (some 26)), none, some (tR 5 0 (some 14)), some (tI x12), some (tI x14), some (tI 0), some (tI 0)]) [true, false, true, true, true, true, true] rfl ?_
    obtain ⟨n, hm⟩ := hm
    refine s_X9_learn_43 hd ?_ hm
    · exact (fun _ _ hm => s_X9_learn_132 hd hm)
  · replace hm := hm.2 hc
    exact r_return dX9_learn_7 rfl ⟨by decide, by decide⟩ ⟨rfl, hm⟩
theorem dX10_init_0 : decode cX10_init 0 = .ok (.aload_n 0, 1) := rfl
theorem dX10_init_1 : decode cX10_init 1 = .ok (.invokespecial 3, 3) := rfl
theorem dX10_init_4 : decode cX10_init 4 = .ok (.aload_n 0, 1) := rfl
theorem dX10_init_5 : decode cX10_init 5 = .ok (.sipush 600, 3) := by decide +kernel
theorem dX10_init_8 : decode cX10_init 8 = .ok (.newarray .int, 2) := rfl
theorem dX10_init_10 : decode cX10_init 10 = .ok (.putfield 9, 3) := rfl
theorem dX10_init_13 : decode cX10_init 13 = .ok (.aload_n 0, 1) := rfl
theorem dX10_init_14 : decode cX10_init 14 = .ok (.iconst (-1), 1) := rfl
theorem dX10_init_15 : decode cX10_init 15 = .ok (.putfield 15, 3) := rfl
theorem dX10_init_18 : decode cX10_init 18 = .ok (.return_, 1) := rfl
def m_X10_init (v0 : Nat) (h : Hp) (Q : Hp → Prop) : Prop := ∀ a1 : Nat, a1 = hN h → ∀ h2 : Hp, h2 = nw h (40, 600) → Q (wI (wR h2 v0 0 (some a1)) v0 2 (-1))
set_option maxHeartbeats 4000000 in
set_option maxRecDepth 100000 in
theorem s_X10_init {l : Launch} {G : Cx} {d : Nat} (hd : 2 ≤ d) {v0 : Nat} {h : Hp} {Q : Hp → Prop} (hm : m_X10_init v0 h Q) : Ct l G d 1 600 yX10_init MX10_init [tR 30 0 (some v0)] h (qV Q) := by
  unfold m_X10_init at hm
  refine Ct.of (L := [some (tR 30 0 (some v0))]) (by decide) rfl rfl (Nat.le_of_ble_eq_true rfl) rfl ?_
  refine r_aload_n dX10_init_0 rfl rfl ?_
  refine r_objInit dX10_init_1 t_36 t_29 t_30 (by omega) (Nat.le_of_ble_eq_true rfl) ?_
  refine r_aload_n dX10_init_4 rfl rfl ?_
  refine r_sipush (v := 600) dX10_init_5 rfl ?_
  refine r_newI (N := 600) dX10_init_8 t_61 (by decide) rfl (by decide) ⟨by decide, by decide⟩ ?_
  refine r_nmA (fun a1 e_a1 h2 e_h2 => ?_)
  replace hm := hm a1 e_a1 h2 e_h2
  refine r_putR0 (k := 0) cl_10 dX10_init_10 t_37 (Or.inr rfl) gf_10_0.1 gf_10_0.2 (fun z => absurd z (by decide)) pf_10_0.1 (Or.inr ⟨pf_10_0.2, rfl, rfl⟩) ?_
  refine r_aload_n dX10_init_13 rfl rfl ?_
  refine r_iconst (v := (-1)) dX10_init_14 rfl ?_
  refine r_putI0 (k := 2) cl_10 dX10_init_15 t_40 (Or.inr rfl) gf_10_2 pf_10_2.1 (Or.inl pf_10_2.2) ?_
  exact r_return dX10_init_18 rfl ⟨by decide, by decide⟩ ⟨rfl, hm⟩
theorem dX10_putFour_0 : decode cX10_putFour 0 = .ok (.bipush 24, 2) := by decide +kernel
theorem dX10_putFour_2 : decode cX10_putFour 2 = .ok (.istore_n 2, 1) := rfl
theorem dX10_putFour_3 : decode cX10_putFour 3 = .ok (.iload_n 2, 1) := rfl
theorem dX10_putFour_4 : decode cX10_putFour 4 = .ok (.ifCond .lt 45, 3) := by decide +kernel
theorem dX10_putFour_7 : decode cX10_putFour 7 = .ok (.aload_n 0, 1) := rfl
theorem dX10_putFour_8 : decode cX10_putFour 8 = .ok (.getfield 19, 3) := rfl
theorem dX10_putFour_11 : decode cX10_putFour 11 = .ok (.sipush 600, 3) := by decide +kernel
theorem dX10_putFour_14 : decode cX10_putFour 14 = .ok (.if_icmp .ge 29, 3) := by decide +kernel
theorem dX10_putFour_17 : decode cX10_putFour 17 = .ok (.aload_n 0, 1) := rfl
theorem dX10_putFour_18 : decode cX10_putFour 18 = .ok (.getfield 9, 3) := rfl
theorem dX10_putFour_21 : decode cX10_putFour 21 = .ok (.aload_n 0, 1) := rfl
theorem dX10_putFour_22 : decode cX10_putFour 22 = .ok (.getfield 19, 3) := rfl
theorem dX10_putFour_25 : decode cX10_putFour 25 = .ok (.iload_n 1, 1) := rfl
theorem dX10_putFour_26 : decode cX10_putFour 26 = .ok (.iload_n 2, 1) := rfl
theorem dX10_putFour_27 : decode cX10_putFour 27 = .ok (.iushr, 1) := rfl
theorem dX10_putFour_28 : decode cX10_putFour 28 = .ok (.sipush 255, 3) := by decide +kernel
theorem dX10_putFour_31 : decode cX10_putFour 31 = .ok (.iand, 1) := rfl
theorem dX10_putFour_32 : decode cX10_putFour 32 = .ok (.iastore, 1) := rfl
theorem dX10_putFour_33 : decode cX10_putFour 33 = .ok (.aload_n 0, 1) := rfl
theorem dX10_putFour_34 : decode cX10_putFour 34 = .ok (.dup, 1) := rfl
theorem dX10_putFour_35 : decode cX10_putFour 35 = .ok (.getfield 19, 3) := rfl
theorem dX10_putFour_38 : decode cX10_putFour 38 = .ok (.iconst 1, 1) := rfl
theorem dX10_putFour_39 : decode cX10_putFour 39 = .ok (.iadd, 1) := rfl
theorem dX10_putFour_40 : decode cX10_putFour 40 = .ok (.putfield 19, 3) := rfl
theorem dX10_putFour_43 : decode cX10_putFour 43 = .ok (.iinc 2 (-8), 3) := by decide +kernel
theorem dX10_putFour_46 : decode cX10_putFour 46 = .ok (.goto (-43), 3) := by decide +kernel
theorem dX10_putFour_49 : decode cX10_putFour 49 = .ok (.return_, 1) := rfl
def m_X10_putFour_43 (k3 : Int32 → Int32 → Hp → Prop) (Q : Hp → Prop) (v1 : Int32) (v2 : Int32) (h : Hp) : Prop := ∀ x1 : Int32, x1 = v2 + (-8) → k3 v1 x1 h
set_option maxHeartbeats 4000000 in
set_option maxRecDepth 100000 in
theorem s_X10_putFour_43 {l : Launch} {G : Cx} {d : Nat} {h0 : Hp} (hd : 2 ≤ d) {k3 : Int32 → Int32 → Hp → Prop} {Q : Hp → Prop} (hk3 : ∀ (v1 : Int32) (v2 : Int32) (hh : Hp), k3 v1 v2 hh → Rn l G d 0 0 MX10_putFour h0 (qV Q) 3 [some (tR 10 0 (some 2)), some (tI v1), some (tI v2)] [] hh 0 0) {v1 : Int32} {v2 : Int32} {h : Hp} (hm : m_X10_putFour_43 k3 Q v1 v2 h) : Rn l G d 0 0 MX10_putFour h0 (qV Q) 43 [some (tR 10 0 (some 2)), some (tI v1), some (tI v2)] [] h 0 0 := by
  unfold m_X10_putFour_43 at hm
  obtain ⟨x1, e_x1⟩ : ∃ y : Int32, y = v2 + (-8) := ⟨_, rfl⟩
  replace hm := hm x1 e_x1
  refine r_iinc (L' := [some (tR 10 0 (some 2)), some (tI v1), some (tI x1)]) dX10_putFour_43 rfl (by rw [e_x1]; rfl) (by decide) rfl ?_
  refine r_goto (tgt := 3) dX10_putFour_46 rfl ?_
  refine r_keep (L' := [some (tR 10 0 (some 2)), some (tI v1), some (tI x1)]) [true, true, true] rfl ?_
  exact hk3 _ _ _ hm
def m_X10_putFour_3 : Nat → (Hp → Prop) → Int32 → Int32 → Hp → Prop
  | 0, _, _, _, _ => False
  | n + 1, Q, v1, v2, h => (v2 < 0 → Q h) ∧ (¬ v2 < 0 → (600 ≤ (hI h 2 1) → m_X10_putFour_43 (fun (v1 : Int32) (v2 : Int32) (hh : Hp) => m_X10_putFour_3 n Q v1 v2 hh) Q v1 v2 h) ∧ (¬ 600 ≤ (hI h 2 1) → vp_in (hI h 2 1) 600 ∧ (m_X10_putFour_43 (fun (v1 : Int32) (v2 : Int32) (hh : Hp) => m_X10_putFour_3 n Q v1 v2 hh) Q v1 v2 (wI (wI h 3 (ix (hI h 2 1)) (((v1.toUInt32 >>> (v2.toUInt32 &&& Int32.toUInt32 31)).toInt32) &&& 255)) 2 1 ((hI (wI h 3 (ix (hI h 2 1)) (((v1.toUInt32 >>> (v2.toUInt32 &&& Int32.toUInt32 31)).toInt32) &&& 255)) 2 1) + 1)))))
set_option maxHeartbeats 4000000 in
set_option maxRecDepth 100000 in
theorem s_X10_putFour_3 {l : Launch} {G : Cx} {d : Nat} {h0 : Hp} (hd : 2 ≤ d) {Q : Hp → Prop} : ∀ {n : Nat} {v1 : Int32} {v2 : Int32} {h : Hp}, m_X10_putFour_3 n Q v1 v2 h → Rn l G d 0 0 MX10_putFour h0 (qV Q) 3 [some (tR 10 0 (some 2)), some (tI v1), some (tI v2)] [] h 0 0 := by
  intro n
  induction n with
  | zero => intro v1 v2 h hm; exact hm.elim
  | succ n ih =>
    intro v1 v2 h hm
    have hk3 := fun (v1 : Int32) (v2 : Int32) (hh : Hp) (hm : m_X10_putFour_3 n Q v1 v2 hh) => ih hm
    rw [m_X10_putFour_3] at hm
    refine r_iload_n dX10_putFour_3 rfl rfl ?_
    refine r_if_lt (tgt := 49) dX10_putFour_4 rfl (fun hc => ?_) (fun hc => ?_)
    · replace hm := hm.1 hc
      exact r_return dX10_putFour_49 rfl ⟨by decide, by decide⟩ ⟨rfl, hm⟩
    · replace hm := hm.2 hc
      refine r_aload_n dX10_putFour_7 rfl rfl ?_
      refine r_getI (k := 1) cl_10 dX10_putFour_8 t_38 (Or.inl rfl) gf_10_1 ?_
      refine r_sipush (v := 600) dX10_putFour_11 rfl ?_
      refine r_icmp_ge (tgt := 43) dX10_putFour_14 rfl (fun hc => ?_) (fun hc => ?_)
      · replace hm := hm.1 hc
        refine r_keep (L' := [some (tR 10 0 (some 2)), some (tI v1), some (tI v2)]) [true, true, true] rfl ?_
        exact s_X10_putFour_43 hd hk3 hm
      · replace hm := hm.2 hc
        refine r_aload_n dX10_putFour_17 rfl rfl ?_
        refine r_getC (k := 0) cl_10 dX10_putFour_18 t_37 gf_10_0.1 gf_10_0.2 (gc_10_0 _) ?_
        refine r_aload_n dX10_putFour_21 rfl rfl ?_
        refine r_getI (k := 1) cl_10 dX10_putFour_22 t_38 (Or.inl rfl) gf_10_1 ?_
        refine r_iload_n dX10_putFour_25 rfl rfl ?_
        refine r_iload_n dX10_putFour_26 rfl rfl ?_
        refine r_iushr dX10_putFour_27 ?_
        refine r_sipush (v := 255) dX10_putFour_28 rfl ?_
        refine r_iand dX10_putFour_31 ?_
        refine r_iast dX10_putFour_32 hm.1 ?_
        replace hm := hm.2
        refine r_aload_n dX10_putFour_33 rfl rfl ?_
        refine r_dup dX10_putFour_34 cv_cat1R ?_
        refine r_getI (k := 1) cl_10 dX10_putFour_35 t_38 (Or.inl rfl) gf_10_1 ?_
        refine r_iconst (v := 1) dX10_putFour_38 rfl ?_
        refine r_iadd dX10_putFour_39 ?_
        refine r_putI0 (k := 1) cl_10 dX10_putFour_40 t_38 (Or.inl rfl) gf_10_1 pf_10_1.1 (Or.inl pf_10_1.2) ?_
        refine r_keep (L' := [some (tR 10 0 (some 2)), some (tI v1), some (tI v2)]) [true, true, true] rfl ?_
        exact s_X10_putFour_43 hd hk3 hm
def m_X10_putFour (v1 : Int32) (h : Hp) (Q : Hp → Prop) : Prop := ∃ n3, m_X10_putFour_3 n3 Q v1 24 h
set_option maxHeartbeats 4000000 in
set_option maxRecDepth 100000 in
theorem s_X10_putFour {l : Launch} {G : Cx} {d : Nat} (hd : 2 ≤ d) {v1 : Int32} {h : Hp} {Q : Hp → Prop} (hm : m_X10_putFour v1 h Q) : Ct l G d 0 0 yX10_putFour MX10_putFour [tR 10 0 (some 2), tI v1] h (qV Q) := by
  unfold m_X10_putFour at hm
  refine Ct.of (L := [some (tR 10 0 (some 2)), some (tI v1)]) (by decide) rfl rfl (Nat.le_of_ble_eq_true rfl) rfl ?_
  refine r_bipush (v := 24) dX10_putFour_0 rfl ?_
  refine r_istore_n (L' := [some (tR 10 0 (some 2)), some (tI v1), some (tI 24)]) dX10_putFour_2 rfl (by decide) rfl ?_
  refine r_keep (L' := [some (tR 10 0 (some 2)), some (tI v1), some (tI 24)]) [true, true, true] rfl ?_
  obtain ⟨n, hm⟩ := hm
  refine s_X10_putFour_3 hd hm
theorem dX10_open_0 : decode cX10_open 0 = .ok (.aload_n 0, 1) := rfl
theorem dX10_open_1 : decode cX10_open 1 = .ok (.iload_n 1, 1) := rfl
theorem dX10_open_2 : decode cX10_open 2 = .ok (.aload_n 0, 1) := rfl
theorem dX10_open_3 : decode cX10_open 3 = .ok (.getfield 19, 3) := rfl
theorem dX10_open_6 : decode cX10_open 6 = .ok (.invokestatic 22, 3) := rfl
theorem dX10_open_9 : decode cX10_open 9 = .ok (.putfield 28, 3) := rfl
theorem dX10_open_12 : decode cX10_open 12 = .ok (.aload_n 0, 1) := rfl
theorem dX10_open_13 : decode cX10_open 13 = .ok (.iconst 0, 1) := rfl
theorem dX10_open_14 : decode cX10_open 14 = .ok (.putfield 31, 3) := rfl
theorem dX10_open_17 : decode cX10_open 17 = .ok (.aload_n 0, 1) := rfl
theorem dX10_open_18 : decode cX10_open 18 = .ok (.iconst (-1), 1) := rfl
theorem dX10_open_19 : decode cX10_open 19 = .ok (.putfield 15, 3) := rfl
theorem dX10_open_22 : decode cX10_open 22 = .ok (.aload_n 0, 1) := rfl
theorem dX10_open_23 : decode cX10_open 23 = .ok (.invokevirtual 34, 3) := rfl
theorem dX10_open_26 : decode cX10_open 26 = .ok (.return_, 1) := rfl
def m_X10_open (v1 : Int32) (h : Hp) (Q : Hp → Prop) : Prop := m_X10_advance (wI (wI (wI h 2 3 (if (hI h 2 1) < v1 then (hI h 2 1) else v1)) 2 6 0) 2 2 (-1)) (fun (h2 : Hp) => Q h2)
set_option maxHeartbeats 4000000 in
set_option maxRecDepth 100000 in
theorem s_X10_open {l : Launch} {G : Cx} {d : Nat} (hd : 4 ≤ d) {v1 : Int32} {h : Hp} {Q : Hp → Prop} (hm : m_X10_open v1 h Q) : Ct l G d 0 0 yX10_open MX10_open [tR 10 0 (some 2), tI v1] h (qV Q) := by
  unfold m_X10_open at hm
  refine Ct.of (L := [some (tR 10 0 (some 2)), some (tI v1)]) (by decide) rfl rfl (Nat.le_of_ble_eq_true rfl) rfl ?_
  refine r_aload_n dX10_open_0 rfl rfl ?_
  refine r_iload_n dX10_open_1 rfl rfl ?_
  refine r_aload_n dX10_open_2 rfl rfl ?_
  refine r_getI (k := 1) cl_10 dX10_open_3 t_38 (Or.inl rfl) gf_10_1 ?_
  refine r_mmin dX10_open_6 t_512 t_513 t_14 t_514 (by omega) ⟨by decide, by decide⟩ (Nat.le_of_ble_eq_true rfl) ?_
  refine r_putI0 (k := 3) cl_10 dX10_open_9 t_42 (Or.inl rfl) gf_10_3 pf_10_3.1 (Or.inl pf_10_3.2) ?_
  refine r_aload_n dX10_open_12 rfl rfl ?_
  refine r_iconst (v := 0) dX10_open_13 rfl ?_
  refine r_putI0 (k := 6) cl_10 dX10_open_14 t_45 (Or.inl rfl) gf_10_6 pf_10_6.1 (Or.inl pf_10_6.2) ?_
  refine r_aload_n dX10_open_17 rfl rfl ?_
  refine r_iconst (v := (-1)) dX10_open_18 rfl ?_
  refine r_putI0 (k := 2) cl_10 dX10_open_19 t_40 (Or.inl rfl) gf_10_2 pf_10_2.1 (Or.inl pf_10_2.2) ?_
  refine r_aload_n dX10_open_22 rfl rfl ?_
  refine r_callVU (d' := d - 1) (as := []) (st := []) cl_10 dX10_open_23 mi_X10_advance t_515 t_516 t_517 rfl rfl (Nat.le_of_ble_eq_true rfl) (by omega) ⟨by decide, by decide⟩ ⟨rfl, rfl⟩ (s_X10_advance (by omega) hm) (fun h2 hm => ?_)
  exact r_return dX10_open_26 rfl ⟨by decide, by decide⟩ ⟨rfl, hm⟩
theorem dX11_init_0 : decode cX11_init 0 = .ok (.aload_n 0, 1) := by decide +kernel
theorem dX11_init_1 : decode cX11_init 1 = .ok (.invokespecial 1, 3) := by decide +kernel
theorem dX11_init_4 : decode cX11_init 4 = .ok (.aload_n 0, 1) := by decide +kernel
theorem dX11_init_5 : decode cX11_init 5 = .ok (.bipush 8, 2) := by decide +kernel
theorem dX11_init_7 : decode cX11_init 7 = .ok (.newarray .int, 2) := by decide +kernel
theorem dX11_init_9 : decode cX11_init 9 = .ok (.putfield 9, 3) := by decide +kernel
theorem dX11_init_12 : decode cX11_init 12 = .ok (.aload_n 0, 1) := by decide +kernel
theorem dX11_init_13 : decode cX11_init 13 = .ok (.new 13, 3) := by decide +kernel
theorem dX11_init_16 : decode cX11_init 16 = .ok (.dup, 1) := by decide +kernel
theorem dX11_init_17 : decode cX11_init 17 = .ok (.invokespecial 15, 3) := by decide +kernel
theorem dX11_init_20 : decode cX11_init 20 = .ok (.putfield 16, 3) := by decide +kernel
theorem dX11_init_23 : decode cX11_init 23 = .ok (.aload_n 0, 1) := by decide +kernel
theorem dX11_init_24 : decode cX11_init 24 = .ok (.new 20, 3) := by decide +kernel
theorem dX11_init_27 : decode cX11_init 27 = .ok (.dup, 1) := by decide +kernel
theorem dX11_init_28 : decode cX11_init 28 = .ok (.aload_n 0, 1) := by decide +kernel
theorem dX11_init_29 : decode cX11_init 29 = .ok (.getfield 16, 3) := by decide +kernel
theorem dX11_init_32 : decode cX11_init 32 = .ok (.invokespecial 22, 3) := by decide +kernel
theorem dX11_init_35 : decode cX11_init 35 = .ok (.putfield 25, 3) := by decide +kernel
theorem dX11_init_38 : decode cX11_init 38 = .ok (.aload_n 0, 1) := by decide +kernel
theorem dX11_init_39 : decode cX11_init 39 = .ok (.bipush 24, 2) := by decide +kernel
theorem dX11_init_41 : decode cX11_init 41 = .ok (.anewarray 29, 3) := by decide +kernel
theorem dX11_init_44 : decode cX11_init 44 = .ok (.putfield 31, 3) := by decide +kernel
theorem dX11_init_47 : decode cX11_init 47 = .ok (.aload_n 0, 1) := by decide +kernel
theorem dX11_init_48 : decode cX11_init 48 = .ok (.bipush 6, 2) := by decide +kernel
theorem dX11_init_50 : decode cX11_init 50 = .ok (.anewarray 35, 3) := by decide +kernel
theorem dX11_init_53 : decode cX11_init 53 = .ok (.putfield 37, 3) := by decide +kernel
theorem dX11_init_56 : decode cX11_init 56 = .ok (.aload_n 0, 1) := by decide +kernel
theorem dX11_init_57 : decode cX11_init 57 = .ok (.bipush 12, 2) := by decide +kernel
theorem dX11_init_59 : decode cX11_init 59 = .ok (.anewarray 35, 3) := by decide +kernel
theorem dX11_init_62 : decode cX11_init 62 = .ok (.putfield 41, 3) := by decide +kernel
theorem dX11_init_65 : decode cX11_init 65 = .ok (.aload_n 0, 1) := by decide +kernel
theorem dX11_init_66 : decode cX11_init 66 = .ok (.iconst (-1), 1) := by decide +kernel
theorem dX11_init_67 : decode cX11_init 67 = .ok (.putfield 44, 3) := by decide +kernel
theorem dX11_init_70 : decode cX11_init 70 = .ok (.aload_n 0, 1) := by decide +kernel
theorem dX11_init_71 : decode cX11_init 71 = .ok (.new 48, 3) := by decide +kernel
theorem dX11_init_74 : decode cX11_init 74 = .ok (.dup, 1) := by decide +kernel
theorem dX11_init_75 : decode cX11_init 75 = .ok (.invokespecial 50, 3) := by decide +kernel
theorem dX11_init_78 : decode cX11_init 78 = .ok (.putfield 51, 3) := by decide +kernel
theorem dX11_init_81 : decode cX11_init 81 = .ok (.aload_n 0, 1) := by decide +kernel
theorem dX11_init_82 : decode cX11_init 82 = .ok (.bipush 6, 2) := by decide +kernel
theorem dX11_init_84 : decode cX11_init 84 = .ok (.anewarray 48, 3) := by decide +kernel
theorem dX11_init_87 : decode cX11_init 87 = .ok (.putfield 55, 3) := by decide +kernel
theorem dX11_init_90 : decode cX11_init 90 = .ok (.aload_n 0, 1) := by decide +kernel
theorem dX11_init_91 : decode cX11_init 91 = .ok (.new 59, 3) := by decide +kernel
theorem dX11_init_94 : decode cX11_init 94 = .ok (.dup, 1) := by decide +kernel
theorem dX11_init_95 : decode cX11_init 95 = .ok (.aload_n 0, 1) := by decide +kernel
theorem dX11_init_96 : decode cX11_init 96 = .ok (.getfield 9, 3) := by decide +kernel
theorem dX11_init_99 : decode cX11_init 99 = .ok (.invokespecial 61, 3) := by decide +kernel
theorem dX11_init_102 : decode cX11_init 102 = .ok (.putfield 64, 3) := by decide +kernel
theorem dX11_init_105 : decode cX11_init 105 = .ok (.aload_n 0, 1) := by decide +kernel
theorem dX11_init_106 : decode cX11_init 106 = .ok (.new 68, 3) := by decide +kernel
theorem dX11_init_109 : decode cX11_init 109 = .ok (.dup, 1) := by decide +kernel
theorem dX11_init_110 : decode cX11_init 110 = .ok (.invokespecial 70, 3) := by decide +kernel
theorem dX11_init_113 : decode cX11_init 113 = .ok (.putfield 71, 3) := by decide +kernel
theorem dX11_init_116 : decode cX11_init 116 = .ok (.aload_n 0, 1) := by decide +kernel
theorem dX11_init_117 : decode cX11_init 117 = .ok (.new 75, 3) := by decide +kernel
theorem dX11_init_120 : decode cX11_init 120 = .ok (.dup, 1) := by decide +kernel
theorem dX11_init_121 : decode cX11_init 121 = .ok (.aload_n 0, 1) := by decide +kernel
theorem dX11_init_122 : decode cX11_init 122 = .ok (.getfield 9, 3) := by decide +kernel
theorem dX11_init_125 : decode cX11_init 125 = .ok (.invokespecial 77, 3) := by decide +kernel
theorem dX11_init_128 : decode cX11_init 128 = .ok (.putfield 78, 3) := by decide +kernel
theorem dX11_init_131 : decode cX11_init 131 = .ok (.aload_n 0, 1) := by decide +kernel
theorem dX11_init_132 : decode cX11_init 132 = .ok (.new 82, 3) := by decide +kernel
theorem dX11_init_135 : decode cX11_init 135 = .ok (.dup, 1) := by decide +kernel
theorem dX11_init_136 : decode cX11_init 136 = .ok (.aload_n 0, 1) := by decide +kernel
theorem dX11_init_137 : decode cX11_init 137 = .ok (.getfield 64, 3) := by decide +kernel
theorem dX11_init_140 : decode cX11_init 140 = .ok (.aload_n 0, 1) := by decide +kernel
theorem dX11_init_141 : decode cX11_init 141 = .ok (.getfield 78, 3) := by decide +kernel
theorem dX11_init_144 : decode cX11_init 144 = .ok (.invokespecial 84, 3) := by decide +kernel
theorem dX11_init_147 : decode cX11_init 147 = .ok (.putfield 87, 3) := by decide +kernel
theorem dX11_init_150 : decode cX11_init 150 = .ok (.aload_n 0, 1) := by decide +kernel
theorem dX11_init_151 : decode cX11_init 151 = .ok (.new 91, 3) := by decide +kernel
theorem dX11_init_154 : decode cX11_init 154 = .ok (.dup, 1) := by decide +kernel
theorem dX11_init_155 : decode cX11_init 155 = .ok (.invokespecial 93, 3) := by decide +kernel
theorem dX11_init_158 : decode cX11_init 158 = .ok (.putfield 94, 3) := by decide +kernel
theorem dX11_init_161 : decode cX11_init 161 = .ok (.iconst 0, 1) := by decide +kernel
theorem dX11_init_162 : decode cX11_init 162 = .ok (.istore_n 1, 1) := by decide +kernel
theorem dX11_init_163 : decode cX11_init 163 = .ok (.iload_n 1, 1) := by decide +kernel
theorem dX11_init_164 : decode cX11_init 164 = .ok (.bipush 8, 2) := by decide +kernel
theorem dX11_init_166 : decode cX11_init 166 = .ok (.if_icmp .ge 16, 3) := by decide +kernel
theorem dX11_init_169 : decode cX11_init 169 = .ok (.aload_n 0, 1) := by decide +kernel
theorem dX11_init_170 : decode cX11_init 170 = .ok (.getfield 9, 3) := by decide +kernel
theorem dX11_init_173 : decode cX11_init 173 = .ok (.iload_n 1, 1) := by decide +kernel
theorem dX11_init_174 : decode cX11_init 174 = .ok (.iload_n 1, 1) := by decide +kernel
theorem dX11_init_175 : decode cX11_init 175 = .ok (.iastore, 1) := by decide +kernel
theorem dX11_init_176 : decode cX11_init 176 = .ok (.iinc 1 1, 3) := by decide +kernel
theorem dX11_init_179 : decode cX11_init 179 = .ok (.goto (-16), 3) := by decide +kernel
theorem dX11_init_182 : decode cX11_init 182 = .ok (.return_, 1) := by decide +kernel
def m_X11_init_163 : Nat → (Hp → Prop) → Nat → Int32 → Hp → Prop
  | 0, _, _, _, _ => False
  | n + 1, Q, v0, v1, h => (8 ≤ v1 → Q h) ∧ (¬ 8 ≤ v1 → hR h v0 0 = some 1 ∧ hT h 1 = (40, 8) ∧ (vp_in v1 8 ∧ (∀ x1 : Int32, x1 = v1 + 1 → m_X11_init_163 n Q v0 x1 (wI h 1 (ix v1) v1))))
set_option maxHeartbeats 4000000 in
set_option maxRecDepth 100000 in
theorem s_X11_init_163 {l : Launch} {G : Cx} {d : Nat} {h0 : Hp} (hd : 6 ≤ d) {Q : Hp → Prop} : ∀ {n : Nat} {v0 : Nat} {v1 : Int32} {h : Hp}, m_X11_init_163 n Q v0 v1 h → Rn l G d 50 8088 MX11_init h0 (qV Q) 163 [some (tR 31 0 (some v0)), some (tI v1)] [] h 50 8088 := by
  intro n
  induction n with
  | zero => intro v0 v1 h hm; exact hm.elim
  | succ n ih =>
    intro v0 v1 h hm
    have hk163 := fun (v0 : Nat) (v1 : Int32) (hh : Hp) (hm : m_X11_init_163 n Q v0 v1 hh) => ih hm
    rw [m_X11_init_163] at hm
    refine r_iload_n dX11_init_163 rfl rfl ?_
    refine r_bipush (v := 8) dX11_init_164 rfl ?_
    refine r_icmp_ge (tgt := 182) dX11_init_166 rfl (fun hc => ?_) (fun hc => ?_)
    · replace hm := hm.1 hc
      exact r_return dX11_init_182 rfl ⟨by decide, by decide⟩ ⟨rfl, hm⟩
    · replace hm := hm.2 hc
      refine r_aload_n dX11_init_169 rfl rfl ?_
      obtain ⟨hb_, ht_, hm⟩ := hm
      refine r_getW (k := 0) cl_11 dX11_init_170 t_346 (Or.inr rfl) gf_11_0.1 hb_ ht_ ?_
      refine r_iload_n dX11_init_173 rfl rfl ?_
      refine r_iload_n dX11_init_174 rfl rfl ?_
      refine r_iast dX11_init_175 hm.1 ?_
      replace hm := hm.2
      obtain ⟨x1, e_x1⟩ : ∃ y : Int32, y = v1 + 1 := ⟨_, rfl⟩
      replace hm := hm x1 e_x1
      refine r_iinc (L' := [some (tR 31 0 (some v0)), some (tI x1)]) dX11_init_176 rfl (by rw [e_x1]; rfl) (by decide) rfl ?_
      refine r_goto (tgt := 163) dX11_init_179 rfl ?_
      refine r_keep (L' := [some (tR 31 0 (some v0)), some (tI x1)]) [true, true] rfl ?_
      exact hk163 _ _ _ hm
def m_X11_init (v0 : Nat) (h : Hp) (Q : Hp → Prop) : Prop := ∀ a2 : Nat, a2 = hN h → ∀ h3 : Hp, h3 = nw h (40, 8) → ∀ a4 : Nat, a4 = hN (wR h3 v0 0 (some a2)) → ∀ h5 : Hp, h5 = nw (wR h3 v0 0 (some a2)) (30, 0) → m_X10_init a4 h5 (fun h7 => hN h ≤ a4 ∧ sealOK h7 a4 10 ∧ ∀ h8 : Hp, h8 = wT h7 a4 (10, 0) → ∀ a9 : Nat, a9 = hN (wR h8 v0 1 (some a4)) → ∀ h10 : Hp, h10 = nw (wR h8 v0 1 (some a4)) (22, 0) → hR h10 v0 1 = some 2 ∧ hT h10 2 = (10, 0) ∧ (m_X2_init a9 h10 (fun h12 => hN h ≤ a9 ∧ sealOK h12 a9 2 ∧ ∀ h13 : Hp, h13 = wT h12 a9 (2, 0) → ∀ a14 : Nat, a14 = hN (wR h13 v0 2 (some a9)) → ∀ h15 : Hp, h15 = nw (wR h13 v0 2 (some a9)) (51, 24) → ∀ a16 : Nat, a16 = hN (wR h15 v0 3 (some a14)) → ∀ h17 : Hp, h17 = nw (wR h15 v0 3 (some a14)) (56, 6) → ∀ a18 : Nat, a18 = hN (wR h17 v0 5 (some a16)) → ∀ h19 : Hp, h19 = nw (wR h17 v0 5 (some a16)) (56, 12) → ∀ a20 : Nat, a20 = hN (wI (wR h19 v0 7 (some a18)) v0 9 (-1)) → ∀ h21 : Hp, h21 = nw (wI (wR h19 v0 7 (some a18)) v0 9 (-1)) (20, 0) → m_X0_init a20 h21 (fun h23 => hN h ≤ a20 ∧ sealOK h23 a20 0 ∧ ∀ h24 : Hp, h24 = wT h23 a20 (0, 0) → ∀ a25 : Nat, a25 = hN (wR h24 v0 10 (some a20)) → ∀ h26 : Hp, h26 = nw (wR h24 v0 10 (some a20)) (50, 6) → ∀ a27 : Nat, a27 = hN (wR h26 v0 11 (some a25)) → ∀ h28 : Hp, h28 = nw (wR h26 v0 11 (some a25)) (25, 0) → hR h28 v0 0 = some 1 ∧ hT h28 1 = (40, 8) ∧ (m_X5_init a27 1 8 h28 (fun h30 => hN h ≤ a27 ∧ sealOK h30 a27 5 ∧ ∀ h31 : Hp, h31 = wT h30 a27 (5, 0) → ∀ a32 : Nat, a32 = hN (wR h31 v0 13 (some a27)) → ∀ h33 : Hp, h33 = nw (wR h31 v0 13 (some a27)) (29, 0) → m_X9_init a32 h33 (fun h35 => hN h ≤ a32 ∧ sealOK h35 a32 9 ∧ ∀ h36 : Hp, h36 = wT h35 a32 (9, 0) → ∀ a37 : Nat, a37 = hN (wR h36 v0 14 (some a32)) → ∀ h38 : Hp, h38 = nw (wR h36 v0 14 (some a32)) (23, 0) → hR h38 v0 0 = some 1 ∧ hT h38 1 = (40, 8) ∧ (m_X3_init a37 1 8 h38 (fun h40 => hN h ≤ a37 ∧ sealOK h40 a37 3 ∧ ∀ h41 : Hp, h41 = wT h40 a37 (3, 0) → ∀ a42 : Nat, a42 = hN (wR h41 v0 15 (some a37)) → ∀ h43 : Hp, h43 = nw (wR h41 v0 15 (some a37)) (27, 0) → hR h43 v0 13 = some 14 ∧ hT h43 14 = (5, 0) ∧ (hR h43 v0 15 = some 30 ∧ hT h43 30 = (3, 0) ∧ (m_X7_init a42 h43 (fun h45 => hN h ≤ a42 ∧ sealOK h45 a42 7 ∧ ∀ h46 : Hp, h46 = wT h45 a42 (7, 0) → ∀ a47 : Nat, a47 = hN (wR h46 v0 16 (some a42)) → ∀ h48 : Hp, h48 = nw (wR h46 v0 16 (some a42)) (24, 0) → m_X4_init a47 h48 (fun h50 => hN h ≤ a47 ∧ sealOK h50 a47 4 ∧ ∀ h51 : Hp, h51 = wT h50 a47 (4, 0) → ∃ n163, m_X11_init_163 n163 Q v0 0 (wR h51 v0 17 (some a47)))))))))))))))
set_option maxHeartbeats 4000000 in
set_option maxRecDepth 100000 in
theorem s_X11_init {l : Launch} {G : Cx} {d : Nat} (hd : 6 ≤ d) {v0 : Nat} {h : Hp} {Q : Hp → Prop} (hm : m_X11_init v0 h Q) : Ct l G d 50 8088 yX11_init MX11_init [tR 31 0 (some v0)] h (qV Q) := by
  unfold m_X11_init at hm
  refine Ct.of (L := [some (tR 31 0 (some v0))]) (by decide) rfl rfl (Nat.le_of_ble_eq_true rfl) rfl ?_
  refine r_aload_n dX11_init_0 rfl rfl ?_
  refine r_objInit dX11_init_1 t_28 t_29 t_30 (by omega) (Nat.le_of_ble_eq_true rfl) ?_
  refine r_aload_n dX11_init_4 rfl rfl ?_
  refine r_bipush (v := 8) dX11_init_5 rfl ?_
  refine r_newI (N := 8) dX11_init_7 t_61 (by decide) rfl (by decide) ⟨by decide, by decide⟩ ?_
  refine r_nmA (fun a2 e_a2 h3 e_h3 => ?_)
  replace hm := hm a2 e_a2 h3 e_h3
  refine r_putR0 (k := 0) cl_11 dX11_init_9 t_346 (Or.inr rfl) gf_11_0.1 gf_11_0.2 (fun z => absurd z (by decide)) pf_11_0.1 (Or.inr ⟨pf_11_0.2, rfl, rfl⟩) ?_
  refine r_aload_n dX11_init_12 rfl rfl ?_
  refine r_new cl_10 dX11_init_13 t_31 (N := 7) rfl t_32 t_2 ⟨by decide, by decide⟩ ?_
  refine r_nmA (fun a4 e_a4 h5 e_h5 => ?_)
  replace hm := hm a4 e_a4 h5 e_h5
  refine r_dup dX11_init_16 cv_cat1R ?_
  refine r_callINU (d' := d - 1) (ci := 10) (host := RX11) (as := []) (st := [tR 30 0 (some a4), tR 31 0 (some v0)]) (mc' := 1) (ms' := 600) dX11_init_17 mi_X10_init rfl (by decide) t_34 rfl rfl rfl (Nat.le_of_ble_eq_true rfl) (by omega) ⟨by decide, by decide⟩ ⟨rfl, rfl⟩ (s_X10_init (by omega) hm) (fun h7 hm => ?_)
  obtain ⟨hz, hs, hm⟩ := hm
  refine r_seal (by decide) hz hs (by simp [noK]) (by simp [noK]) ?_
  refine r_nmH (fun h8 e_h8 => ?_)
  replace hm := hm h8 e_h8
  refine r_putR0 (k := 1) cl_11 dX11_init_20 t_347 (Or.inr rfl) gf_11_1.1 gf_11_1.2 (fun z => absurd z (by decide)) pf_11_1.1 (Or.inr ⟨pf_11_1.2, rfl, rfl⟩) ?_
  refine r_aload_n dX11_init_23 rfl rfl ?_
  refine r_new cl_2 dX11_init_24 t_62 (N := 8) rfl t_63 t_3 ⟨by decide, by decide⟩ ?_
  refine r_nmA (fun a9 e_a9 h10 e_h10 => ?_)
  replace hm := hm a9 e_a9 h10 e_h10
  refine r_dup dX11_init_27 cv_cat1R ?_
  refine r_aload_n dX11_init_28 rfl rfl ?_
  obtain ⟨hb_, ht_, hm⟩ := hm
  refine r_getW (k := 1) cl_11 dX11_init_29 t_347 (Or.inr rfl) gf_11_1.1 hb_ ht_ ?_
  refine r_callIU (d' := d - 1) (ci := 2) (as := [tR 10 0 (some 2)]) (st := [tR 22 0 (some a9), tR 31 0 (some v0)]) (mc' := 3) (ms' := 523) dX11_init_32 mi_X2_init rfl t_64 t_65 rfl rfl rfl (Nat.le_of_ble_eq_true rfl) (by omega) ⟨by decide, by decide⟩ ⟨rfl, rfl⟩ (s_X2_init (by omega) hm) (fun h12 hm => ?_)
  obtain ⟨hz, hs, hm⟩ := hm
  refine r_seal (by decide) hz hs (by simp [noK]) (by simp [noK]) ?_
  refine r_nmH (fun h13 e_h13 => ?_)
  replace hm := hm h13 e_h13
  refine r_putR0 (k := 2) cl_11 dX11_init_35 t_348 (Or.inr rfl) gf_11_2.1 gf_11_2.2 (fun z => absurd z (by decide)) pf_11_2.1 (Or.inr ⟨pf_11_2.2, rfl, rfl⟩) ?_
  refine r_aload_n dX11_init_38 rfl rfl ?_
  refine r_bipush (v := 24) dX11_init_39 rfl ?_
  refine r_newA (kd := 1) (ti := 5) (N := 24) dX11_init_41 rfl t_110 (by decide) (by decide) rfl (by decide) ⟨by decide, by decide⟩ ?_
  refine r_nmA (fun a14 e_a14 h15 e_h15 => ?_)
  replace hm := hm a14 e_a14 h15 e_h15
  refine r_putR0 (k := 3) cl_11 dX11_init_44 t_349 (Or.inr rfl) gf_11_3.1 gf_11_3.2 (fun z => absurd z (by decide)) pf_11_3.1 (Or.inr ⟨pf_11_3.2, rfl, rfl⟩) ?_
  refine r_aload_n dX11_init_47 rfl rfl ?_
  refine r_bipush (v := 6) dX11_init_48 rfl ?_
  refine r_newA (kd := 6) (ti := 6) (N := 6) dX11_init_50 rfl t_112 (by decide) (by decide) rfl (by decide) ⟨by decide, by decide⟩ ?_
  refine r_nmA (fun a16 e_a16 h17 e_h17 => ?_)
  replace hm := hm a16 e_a16 h17 e_h17
  refine r_putR0 (k := 5) cl_11 dX11_init_53 t_351 (Or.inr rfl) gf_11_5.1 gf_11_5.2 (fun z => absurd z (by decide)) pf_11_5.1 (Or.inr ⟨pf_11_5.2, rfl, rfl⟩) ?_
  refine r_aload_n dX11_init_56 rfl rfl ?_
  refine r_bipush (v := 12) dX11_init_57 rfl ?_
  refine r_newA (kd := 6) (ti := 6) (N := 12) dX11_init_59 rfl t_112 (by decide) (by decide) rfl (by decide) ⟨by decide, by decide⟩ ?_
  refine r_nmA (fun a18 e_a18 h19 e_h19 => ?_)
  replace hm := hm a18 e_a18 h19 e_h19
  refine r_putR0 (k := 7) cl_11 dX11_init_62 t_353 (Or.inr rfl) gf_11_7.1 gf_11_7.2 (fun z => absurd z (by decide)) pf_11_7.1 (Or.inr ⟨pf_11_7.2, rfl, rfl⟩) ?_
  refine r_aload_n dX11_init_65 rfl rfl ?_
  refine r_iconst (v := (-1)) dX11_init_66 rfl ?_
  refine r_putI0 (k := 9) cl_11 dX11_init_67 t_355 (Or.inr rfl) gf_11_9 pf_11_9.1 (Or.inl pf_11_9.2) ?_
  refine r_aload_n dX11_init_70 rfl rfl ?_
  refine r_new cl_0 dX11_init_71 t_114 (N := 2) rfl t_115 t_5 ⟨by decide, by decide⟩ ?_
  refine r_nmA (fun a20 e_a20 h21 e_h21 => ?_)
  replace hm := hm a20 e_a20 h21 e_h21
  refine r_dup dX11_init_74 cv_cat1R ?_
  refine r_callINU (d' := d - 1) (ci := 0) (host := RX11) (as := []) (st := [tR 20 0 (some a20), tR 31 0 (some v0)]) (mc' := 1) (ms' := 6) dX11_init_75 mi_X0_init rfl (by decide) t_117 rfl rfl rfl (Nat.le_of_ble_eq_true rfl) (by omega) ⟨by decide, by decide⟩ ⟨rfl, rfl⟩ (s_X0_init (by omega) hm) (fun h23 hm => ?_)
  obtain ⟨hz, hs, hm⟩ := hm
  refine r_seal (by decide) hz hs (by simp [noK]) (by simp [noK]) ?_
  refine r_nmH (fun h24 e_h24 => ?_)
  replace hm := hm h24 e_h24
  refine r_putR0 (k := 10) cl_11 dX11_init_78 t_356 (Or.inr rfl) gf_11_10.1 gf_11_10.2 (fun z => absurd z (by decide)) pf_11_10.1 (Or.inr ⟨pf_11_10.2, rfl, rfl⟩) ?_
  refine r_aload_n dX11_init_81 rfl rfl ?_
  refine r_bipush (v := 6) dX11_init_82 rfl ?_
  refine r_newA (kd := 0) (ti := 4) (N := 6) dX11_init_84 rfl t_114 (by decide) (by decide) rfl (by decide) ⟨by decide, by decide⟩ ?_
  refine r_nmA (fun a25 e_a25 h26 e_h26 => ?_)
  replace hm := hm a25 e_a25 h26 e_h26
  refine r_putR0 (k := 11) cl_11 dX11_init_87 t_357 (Or.inr rfl) gf_11_11.1 gf_11_11.2 (fun z => absurd z (by decide)) pf_11_11.1 (Or.inr ⟨pf_11_11.2, rfl, rfl⟩) ?_
  refine r_aload_n dX11_init_90 rfl rfl ?_
  refine r_new cl_5 dX11_init_91 t_137 (N := 20) rfl t_138 t_6 ⟨by decide, by decide⟩ ?_
  refine r_nmA (fun a27 e_a27 h28 e_h28 => ?_)
  replace hm := hm a27 e_a27 h28 e_h28
  refine r_dup dX11_init_94 cv_cat1R ?_
  refine r_aload_n dX11_init_95 rfl rfl ?_
  obtain ⟨hb_, ht_, hm⟩ := hm
  refine r_getW (k := 0) cl_11 dX11_init_96 t_346 (Or.inr rfl) gf_11_0.1 hb_ ht_ ?_
  refine r_callIU (d' := d - 1) (ci := 5) (as := [tR 40 8 (some 1)]) (st := [tR 25 0 (some a27), tR 31 0 (some v0)]) (mc' := 11) (ms' := 1622) dX11_init_99 mi_X5_init rfl t_139 t_140 rfl rfl rfl (Nat.le_of_ble_eq_true rfl) (by omega) ⟨by decide, by decide⟩ ⟨rfl, rfl⟩ (s_X5_init (by omega) hm) (fun h30 hm => ?_)
  obtain ⟨hz, hs, hm⟩ := hm
  refine r_seal (by decide) hz hs (by simp [noK]) (by simp [noK]) ?_
  refine r_nmH (fun h31 e_h31 => ?_)
  replace hm := hm h31 e_h31
  refine r_putR0 (k := 13) cl_11 dX11_init_102 t_359 (Or.inr rfl) gf_11_13.1 gf_11_13.2 (fun z => absurd z (by decide)) pf_11_13.1 (Or.inr ⟨pf_11_13.2, rfl, rfl⟩) ?_
  refine r_aload_n dX11_init_105 rfl rfl ?_
  refine r_new cl_9 dX11_init_106 t_207 (N := 5) rfl t_208 t_7 ⟨by decide, by decide⟩ ?_
  refine r_nmA (fun a32 e_a32 h33 e_h33 => ?_)
  replace hm := hm a32 e_a32 h33 e_h33
  refine r_dup dX11_init_109 cv_cat1R ?_
  refine r_callINU (d' := d - 1) (ci := 9) (host := RX11) (as := []) (st := [tR 29 0 (some a32), tR 31 0 (some v0)]) (mc' := 3) (ms' := 328) dX11_init_110 mi_X9_init rfl (by decide) t_210 rfl rfl rfl (Nat.le_of_ble_eq_true rfl) (by omega) ⟨by decide, by decide⟩ ⟨rfl, rfl⟩ (s_X9_init (by omega) hm) (fun h35 hm => ?_)
  obtain ⟨hz, hs, hm⟩ := hm
  refine r_seal (by decide) hz hs (by simp [noK]) (by simp [noK]) ?_
  refine r_nmH (fun h36 e_h36 => ?_)
  replace hm := hm h36 e_h36
  refine r_putR0 (k := 14) cl_11 dX11_init_113 t_360 (Or.inr rfl) gf_11_14.1 gf_11_14.2 (fun z => absurd z (by decide)) pf_11_14.1 (Or.inr ⟨pf_11_14.2, rfl, rfl⟩) ?_
  refine r_aload_n dX11_init_116 rfl rfl ?_
  refine r_new cl_3 dX11_init_117 t_234 (N := 5) rfl t_235 t_8 ⟨by decide, by decide⟩ ?_
  refine r_nmA (fun a37 e_a37 h38 e_h38 => ?_)
  replace hm := hm a37 e_a37 h38 e_h38
  refine r_dup dX11_init_120 cv_cat1R ?_
  refine r_aload_n dX11_init_121 rfl rfl ?_
  obtain ⟨hb_, ht_, hm⟩ := hm
  refine r_getW (k := 0) cl_11 dX11_init_122 t_346 (Or.inr rfl) gf_11_0.1 hb_ ht_ ?_
  refine r_callIU (d' := d - 1) (ci := 3) (as := [tR 40 8 (some 1)]) (st := [tR 23 0 (some a37), tR 31 0 (some v0)]) (mc' := 1) (ms' := 576) dX11_init_125 mi_X3_init rfl t_236 t_237 rfl rfl rfl (Nat.le_of_ble_eq_true rfl) (by omega) ⟨by decide, by decide⟩ ⟨rfl, rfl⟩ (s_X3_init (by omega) hm) (fun h40 hm => ?_)
  obtain ⟨hz, hs, hm⟩ := hm
  refine r_seal (by decide) hz hs (by simp [noK]) (by simp [noK]) ?_
  refine r_nmH (fun h41 e_h41 => ?_)
  replace hm := hm h41 e_h41
  refine r_putR0 (k := 15) cl_11 dX11_init_128 t_361 (Or.inr rfl) gf_11_15.1 gf_11_15.2 (fun z => absurd z (by decide)) pf_11_15.1 (Or.inr ⟨pf_11_15.2, rfl, rfl⟩) ?_
  refine r_aload_n dX11_init_131 rfl rfl ?_
  refine r_new cl_7 dX11_init_132 t_258 (N := 15) rfl t_259 t_9 ⟨by decide, by decide⟩ ?_
  refine r_nmA (fun a42 e_a42 h43 e_h43 => ?_)
  replace hm := hm a42 e_a42 h43 e_h43
  refine r_dup dX11_init_135 cv_cat1R ?_
  refine r_aload_n dX11_init_136 rfl rfl ?_
  obtain ⟨hb_, ht_, hm⟩ := hm
  refine r_getW (k := 13) cl_11 dX11_init_137 t_359 (Or.inr rfl) gf_11_13.1 hb_ ht_ ?_
  refine r_aload_n dX11_init_140 rfl rfl ?_
  obtain ⟨hb_, ht_, hm⟩ := hm
  refine r_getW (k := 15) cl_11 dX11_init_141 t_361 (Or.inr rfl) gf_11_15.1 hb_ ht_ ?_
  refine r_callIU (d' := d - 1) (ci := 7) (as := [tR 5 0 (some 14), tR 3 0 (some 30)]) (st := [tR 27 0 (some a42), tR 31 0 (some v0)]) (mc' := 10) (ms' := 4036) dX11_init_144 mi_X7_init rfl t_260 t_261 rfl rfl rfl (Nat.le_of_ble_eq_true rfl) (by omega) ⟨by decide, by decide⟩ ⟨rfl, rfl⟩ (s_X7_init (by omega) hm) (fun h45 hm => ?_)
  obtain ⟨hz, hs, hm⟩ := hm
  refine r_seal (by decide) hz hs (by simp [noK]) (by simp [noK]) ?_
  refine r_nmH (fun h46 e_h46 => ?_)
  replace hm := hm h46 e_h46
  refine r_putR0 (k := 16) cl_11 dX11_init_147 t_362 (Or.inr rfl) gf_11_16.1 gf_11_16.2 (fun z => absurd z (by decide)) pf_11_16.1 (Or.inr ⟨pf_11_16.2, rfl, rfl⟩) ?_
  refine r_aload_n dX11_init_150 rfl rfl ?_
  refine r_new cl_4 dX11_init_151 t_314 (N := 7) rfl t_315 t_10 ⟨by decide, by decide⟩ ?_
  refine r_nmA (fun a47 e_a47 h48 e_h48 => ?_)
  replace hm := hm a47 e_a47 h48 e_h48
  refine r_dup dX11_init_154 cv_cat1R ?_
  refine r_callINU (d' := d - 1) (ci := 4) (host := RX11) (as := []) (st := [tR 24 0 (some a47), tR 31 0 (some v0)]) (mc' := 7) (ms' := 272) dX11_init_155 mi_X4_init rfl (by decide) t_317 rfl rfl rfl (Nat.le_of_ble_eq_true rfl) (by omega) ⟨by decide, by decide⟩ ⟨rfl, rfl⟩ (s_X4_init (by omega) hm) (fun h50 hm => ?_)
  obtain ⟨hz, hs, hm⟩ := hm
  refine r_seal (by decide) hz hs (by simp [noK]) (by simp [noK]) ?_
  refine r_nmH (fun h51 e_h51 => ?_)
  replace hm := hm h51 e_h51
  refine r_putR0 (k := 17) cl_11 dX11_init_158 t_363 (Or.inr rfl) gf_11_17.1 gf_11_17.2 (fun z => absurd z (by decide)) pf_11_17.1 (Or.inr ⟨pf_11_17.2, rfl, rfl⟩) ?_
  refine r_iconst (v := 0) dX11_init_161 rfl ?_
  refine r_istore_n (L' := [some (tR 31 0 (some v0)), some (tI 0)]) dX11_init_162 rfl (by decide) rfl ?_
  refine r_keep (L' := [some (tR 31 0 (some v0)), some (tI 0)]) [true, true] rfl ?_
  obtain ⟨n, hm⟩ := hm
  refine s_X11_init_163 hd hm
theorem dX11_isWithin_0 : decode cX11_isWithin 0 = .ok (.iload_n 0, 1) := rfl
theorem dX11_isWithin_1 : decode cX11_isWithin 1 = .ok (.ifCond .lt 12, 3) := by decide +kernel
theorem dX11_isWithin_4 : decode cX11_isWithin 4 = .ok (.iload_n 0, 1) := rfl
theorem dX11_isWithin_5 : decode cX11_isWithin 5 = .ok (.iload_n 1, 1) := rfl
theorem dX11_isWithin_6 : decode cX11_isWithin 6 = .ok (.if_icmp .ge 7, 3) := by decide +kernel
theorem dX11_isWithin_9 : decode cX11_isWithin 9 = .ok (.iconst 1, 1) := rfl
theorem dX11_isWithin_10 : decode cX11_isWithin 10 = .ok (.goto 4, 3) := by decide +kernel
theorem dX11_isWithin_13 : decode cX11_isWithin 13 = .ok (.iconst 0, 1) := rfl
theorem dX11_isWithin_14 : decode cX11_isWithin 14 = .ok (.ireturn, 1) := rfl
def m_X11_isWithin (v0 : Int32) (v1 : Int32) (h : Hp) (Q : Int32 → Hp → Prop) : Prop := (v0 < 0 → Q 0 h) ∧ (¬ v0 < 0 → (v1 ≤ v0 → Q 0 h) ∧ (¬ v1 ≤ v0 → Q 1 h))
set_option maxHeartbeats 4000000 in
set_option maxRecDepth 100000 in
theorem s_X11_isWithin {l : Launch} {G : Cx} {d : Nat} (hd : 2 ≤ d) {v0 : Int32} {v1 : Int32} {h : Hp} {Q : Int32 → Hp → Prop} (hm : m_X11_isWithin v0 v1 h Q) : Ct l G d 0 0 yX11_isWithin MX11_isWithin [tI v0, tI v1] h (qI Q) := by
  unfold m_X11_isWithin at hm
  refine Ct.of (L := [some (tI v0), some (tI v1)]) (by decide) rfl rfl (Nat.le_of_ble_eq_true rfl) rfl ?_
  refine r_iload_n dX11_isWithin_0 rfl rfl ?_
  refine r_if_lt (tgt := 13) dX11_isWithin_1 rfl (fun hc => ?_) (fun hc => ?_)
  · replace hm := hm.1 hc
    refine r_iconst (v := 0) dX11_isWithin_13 rfl ?_
    exact r_bret dX11_isWithin_14 rfl ⟨by decide, by decide⟩ (by unfold bz; decide) ⟨_, rfl, hm⟩
  · replace hm := hm.2 hc
    refine r_iload_n dX11_isWithin_4 rfl rfl ?_
    refine r_iload_n dX11_isWithin_5 rfl rfl ?_
    refine r_icmp_ge (tgt := 13) dX11_isWithin_6 rfl (fun hc => ?_) (fun hc => ?_)
    · replace hm := hm.1 hc
      refine r_iconst (v := 0) dX11_isWithin_13 rfl ?_
      exact r_bret dX11_isWithin_14 rfl ⟨by decide, by decide⟩ (by unfold bz; decide) ⟨_, rfl, hm⟩
    · replace hm := hm.2 hc
      refine r_iconst (v := 1) dX11_isWithin_9 rfl ?_
      refine r_goto (tgt := 14) dX11_isWithin_10 rfl ?_
      exact r_bret dX11_isWithin_14 rfl ⟨by decide, by decide⟩ (by unfold bz; decide) ⟨_, rfl, hm⟩
theorem dX11_family_0 : decode cX11_family 0 = .ok (.iload_n 1, 1) := rfl
theorem dX11_family_1 : decode cX11_family 1 = .ok (.bipush 8, 2) := by decide +kernel
theorem dX11_family_3 : decode cX11_family 3 = .ok (.invokestatic 98, 3) := rfl
theorem dX11_family_6 : decode cX11_family 6 = .ok (.ifCond .eq 12, 3) := by decide +kernel
theorem dX11_family_9 : decode cX11_family 9 = .ok (.iload_n 2, 1) := rfl
theorem dX11_family_10 : decode cX11_family 10 = .ok (.bipush 8, 2) := by decide +kernel
theorem dX11_family_12 : decode cX11_family 12 = .ok (.invokestatic 98, 3) := rfl
theorem dX11_family_15 : decode cX11_family 15 = .ok (.ifCond .ne 5, 3) := by decide +kernel
theorem dX11_family_18 : decode cX11_family 18 = .ok (.iconst 0, 1) := rfl
theorem dX11_family_19 : decode cX11_family 19 = .ok (.ireturn, 1) := rfl
theorem dX11_family_20 : decode cX11_family 20 = .ok (.aload_n 0, 1) := rfl
theorem dX11_family_21 : decode cX11_family 21 = .ok (.getfield 9, 3) := rfl
theorem dX11_family_24 : decode cX11_family 24 = .ok (.iload_n 1, 1) := rfl
theorem dX11_family_25 : decode cX11_family 25 = .ok (.iload_n 2, 1) := rfl
theorem dX11_family_26 : decode cX11_family 26 = .ok (.iastore, 1) := rfl
theorem dX11_family_27 : decode cX11_family 27 = .ok (.aload_n 0, 1) := rfl
theorem dX11_family_28 : decode cX11_family 28 = .ok (.getfield 71, 3) := rfl
theorem dX11_family_31 : decode cX11_family 31 = .ok (.iconst 0, 1) := rfl
theorem dX11_family_32 : decode cX11_family 32 = .ok (.putfield 102, 3) := rfl
theorem dX11_family_35 : decode cX11_family 35 = .ok (.aload_n 0, 1) := rfl
theorem dX11_family_36 : decode cX11_family 36 = .ok (.getfield 87, 3) := rfl
theorem dX11_family_39 : decode cX11_family 39 = .ok (.invokevirtual 106, 3) := rfl
theorem dX11_family_42 : decode cX11_family 42 = .ok (.iconst 1, 1) := rfl
theorem dX11_family_43 : decode cX11_family 43 = .ok (.ireturn, 1) := rfl
def m_X11_family (v1 : Int32) (v2 : Int32) (h : Hp) (Q : Int32 → Hp → Prop) : Prop := m_X11_isWithin v1 8 h (fun (x1 : Int32) (h2 : Hp) => (x1 = 0 → Q 0 h2) ∧ (¬ x1 = 0 → m_X11_isWithin v2 8 h2 (fun (x3 : Int32) (h4 : Hp) => (¬ x3 = 0 → vp_in v1 8 ∧ (m_X7_forgetAll (wI (wI h4 1 (ix v1) v2) 26 0 0) (fun (h6 : Hp) => Q 1 h6))) ∧ (x3 = 0 → Q 0 h4))))
set_option maxHeartbeats 4000000 in
set_option maxRecDepth 100000 in
theorem s_X11_family {l : Launch} {G : Cx} {d : Nat} (hd : 6 ≤ d) {v1 : Int32} {v2 : Int32} {h : Hp} {Q : Int32 → Hp → Prop} (hm : m_X11_family v1 v2 h Q) : Ct l G d 0 0 yX11_family MX11_family [tR 11 0 (some 0), tI v1, tI v2] h (qI Q) := by
  unfold m_X11_family at hm
  refine Ct.of (L := [some (tR 11 0 (some 0)), some (tI v1), some (tI v2)]) (by decide) rfl rfl (Nat.le_of_ble_eq_true rfl) rfl ?_
  refine r_iload_n dX11_family_0 rfl rfl ?_
  refine r_bipush (v := 8) dX11_family_1 rfl ?_
  refine r_callSI (d' := d - 1) (as := [tI v1, tI 8]) (st := []) dX11_family_3 mi_X11_isWithin t_405 t_406 rfl rfl (Nat.le_of_ble_eq_true rfl) (by omega) ⟨by decide, by decide⟩ ⟨rfl, rfl⟩ (s_X11_isWithin (by omega) hm) (fun x1 h2 hm => ?_)
  refine r_if_eq (tgt := 18) dX11_family_6 rfl (fun hc => ?_) (fun hc => ?_)
  · replace hm := hm.1 hc
    refine r_iconst (v := 0) dX11_family_18 rfl ?_
    exact r_bret dX11_family_19 rfl ⟨by decide, by decide⟩ (by unfold bz; decide) ⟨_, rfl, hm⟩
  · replace hm := hm.2 hc
    refine r_iload_n dX11_family_9 rfl rfl ?_
    refine r_bipush (v := 8) dX11_family_10 rfl ?_
    refine r_callSI (d' := d - 1) (as := [tI v2, tI 8]) (st := []) dX11_family_12 mi_X11_isWithin t_405 t_406 rfl rfl (Nat.le_of_ble_eq_true rfl) (by omega) ⟨by decide, by decide⟩ ⟨rfl, rfl⟩ (s_X11_isWithin (by omega) hm) (fun x3 h4 hm => ?_)
    refine r_if_ne (tgt := 20) dX11_family_15 rfl (fun hc => ?_) (fun hc => ?_)
    · replace hm := hm.1 hc
      refine r_aload_n dX11_family_20 rfl rfl ?_
      refine r_getC (k := 0) cl_11 dX11_family_21 t_346 gf_11_0.1 gf_11_0.2 (gc_11_0 _) ?_
      refine r_iload_n dX11_family_24 rfl rfl ?_
      refine r_iload_n dX11_family_25 rfl rfl ?_
      refine r_iast dX11_family_26 hm.1 ?_
      replace hm := hm.2
      refine r_aload_n dX11_family_27 rfl rfl ?_
      refine r_getC (k := 14) cl_11 dX11_family_28 t_360 gf_11_14.1 gf_11_14.2 (gc_11_14 _) ?_
      refine r_iconst (v := 0) dX11_family_31 rfl ?_
      refine r_putZ0 (k := 0) cl_9 dX11_family_32 t_214 (Or.inl rfl) gf_9_0 pf_9_0.1 (Or.inl pf_9_0.2) (by unfold bz; decide) ?_
      refine r_aload_n dX11_family_35 rfl rfl ?_
      refine r_getC (k := 16) cl_11 dX11_family_36 t_362 gf_11_16.1 gf_11_16.2 (gc_11_16 _) ?_
      refine r_callVU (d' := d - 1) (as := []) (st := []) cl_7 dX11_family_39 mi_X7_forgetAll t_408 t_409 t_410 rfl rfl (Nat.le_of_ble_eq_true rfl) (by omega) ⟨by decide, by decide⟩ ⟨rfl, rfl⟩ (s_X7_forgetAll (by omega) hm) (fun h6 hm => ?_)
      refine r_iconst (v := 1) dX11_family_42 rfl ?_
      exact r_bret dX11_family_43 rfl ⟨by decide, by decide⟩ (by unfold bz; decide) ⟨_, rfl, hm⟩
    · replace hm := hm.2 hc
      refine r_iconst (v := 0) dX11_family_18 rfl ?_
      exact r_bret dX11_family_19 rfl ⟨by decide, by decide⟩ (by unfold bz; decide) ⟨_, rfl, hm⟩
theorem dX11_feed_0 : decode cX11_feed 0 = .ok (.aload_n 0, 1) := rfl
theorem dX11_feed_1 : decode cX11_feed 1 = .ok (.getfield 16, 3) := rfl
theorem dX11_feed_4 : decode cX11_feed 4 = .ok (.getfield 109, 3) := rfl
theorem dX11_feed_7 : decode cX11_feed 7 = .ok (.bipush 20, 2) := by decide +kernel
theorem dX11_feed_9 : decode cX11_feed 9 = .ok (.iadd, 1) := rfl
theorem dX11_feed_10 : decode cX11_feed 10 = .ok (.sipush 600, 3) := by decide +kernel
theorem dX11_feed_13 : decode cX11_feed 13 = .ok (.if_icmp .le 5, 3) := by decide +kernel
theorem dX11_feed_16 : decode cX11_feed 16 = .ok (.iconst (-1), 1) := rfl
theorem dX11_feed_17 : decode cX11_feed 17 = .ok (.ireturn, 1) := rfl
theorem dX11_feed_18 : decode cX11_feed 18 = .ok (.aload_n 0, 1) := rfl
theorem dX11_feed_19 : decode cX11_feed 19 = .ok (.getfield 16, 3) := rfl
theorem dX11_feed_22 : decode cX11_feed 22 = .ok (.iload_n 1, 1) := rfl
theorem dX11_feed_23 : decode cX11_feed 23 = .ok (.invokevirtual 112, 3) := rfl
theorem dX11_feed_26 : decode cX11_feed 26 = .ok (.aload_n 0, 1) := rfl
theorem dX11_feed_27 : decode cX11_feed 27 = .ok (.getfield 16, 3) := rfl
theorem dX11_feed_30 : decode cX11_feed 30 = .ok (.iload_n 2, 1) := rfl
theorem dX11_feed_31 : decode cX11_feed 31 = .ok (.invokevirtual 112, 3) := rfl
theorem dX11_feed_34 : decode cX11_feed 34 = .ok (.aload_n 0, 1) := rfl
theorem dX11_feed_35 : decode cX11_feed 35 = .ok (.getfield 16, 3) := rfl
theorem dX11_feed_38 : decode cX11_feed 38 = .ok (.iload_n 3, 1) := rfl
theorem dX11_feed_39 : decode cX11_feed 39 = .ok (.invokevirtual 112, 3) := rfl
theorem dX11_feed_42 : decode cX11_feed 42 = .ok (.aload_n 0, 1) := rfl
theorem dX11_feed_43 : decode cX11_feed 43 = .ok (.getfield 16, 3) := rfl
theorem dX11_feed_46 : decode cX11_feed 46 = .ok (.iload 4, 2) := rfl
theorem dX11_feed_48 : decode cX11_feed 48 = .ok (.invokevirtual 112, 3) := rfl
theorem dX11_feed_51 : decode cX11_feed 51 = .ok (.aload_n 0, 1) := rfl
theorem dX11_feed_52 : decode cX11_feed 52 = .ok (.getfield 16, 3) := rfl
theorem dX11_feed_55 : decode cX11_feed 55 = .ok (.iload 5, 2) := rfl
theorem dX11_feed_57 : decode cX11_feed 57 = .ok (.invokevirtual 112, 3) := rfl
theorem dX11_feed_60 : decode cX11_feed 60 = .ok (.aload_n 0, 1) := rfl
theorem dX11_feed_61 : decode cX11_feed 61 = .ok (.getfield 16, 3) := rfl
theorem dX11_feed_64 : decode cX11_feed 64 = .ok (.getfield 109, 3) := rfl
theorem dX11_feed_67 : decode cX11_feed 67 = .ok (.ireturn, 1) := rfl
def m_X11_feed (v1 : Int32) (v2 : Int32) (v3 : Int32) (v4 : Int32) (v5 : Int32) (h : Hp) (Q : Int32 → Hp → Prop) : Prop := (((hI h 2 1) + 20) ≤ 600 → m_X10_putFour v1 h (fun (h2 : Hp) => m_X10_putFour v2 h2 (fun (h4 : Hp) => m_X10_putFour v3 h4 (fun (h6 : Hp) => m_X10_putFour v4 h6 (fun (h8 : Hp) => m_X10_putFour v5 h8 (fun (h10 : Hp) => Q (hI h10 2 1) h10)))))) ∧ (¬ ((hI h 2 1) + 20) ≤ 600 → Q (-1) h)
set_option maxHeartbeats 4000000 in
set_option maxRecDepth 100000 in
theorem s_X11_feed {l : Launch} {G : Cx} {d : Nat} (hd : 4 ≤ d) {v1 : Int32} {v2 : Int32} {v3 : Int32} {v4 : Int32} {v5 : Int32} {h : Hp} {Q : Int32 → Hp → Prop} (hm : m_X11_feed v1 v2 v3 v4 v5 h Q) : Ct l G d 0 0 yX11_feed MX11_feed [tR 11 0 (some 0), tI v1, tI v2, tI v3, tI v4, tI v5] h (qI Q) := by
  unfold m_X11_feed at hm
  refine Ct.of (L := [some (tR 11 0 (some 0)), some (tI v1), some (tI v2), some (tI v3), some (tI v4), some (tI v5)]) (by decide) rfl rfl (Nat.le_of_ble_eq_true rfl) rfl ?_
  refine r_aload_n dX11_feed_0 rfl rfl ?_
  refine r_getC (k := 1) cl_11 dX11_feed_1 t_347 gf_11_1.1 gf_11_1.2 (gc_11_1 _) ?_
  refine r_getI (k := 1) cl_10 dX11_feed_4 t_39 (Or.inl rfl) gf_10_1 ?_
  refine r_bipush (v := 20) dX11_feed_7 rfl ?_
  refine r_iadd dX11_feed_9 ?_
  refine r_sipush (v := 600) dX11_feed_10 rfl ?_
  refine r_icmp_le (tgt := 18) dX11_feed_13 rfl (fun hc => ?_) (fun hc => ?_)
  · replace hm := hm.1 hc
    refine r_aload_n dX11_feed_18 rfl rfl ?_
    refine r_getC (k := 1) cl_11 dX11_feed_19 t_347 gf_11_1.1 gf_11_1.2 (gc_11_1 _) ?_
    refine r_iload_n dX11_feed_22 rfl rfl ?_
    refine r_callVU (d' := d - 1) (as := [tI v1]) (st := []) cl_10 dX11_feed_23 mi_X10_putFour t_419 t_420 t_421 rfl rfl (Nat.le_of_ble_eq_true rfl) (by omega) ⟨by decide, by decide⟩ ⟨rfl, rfl⟩ (s_X10_putFour (by omega) hm) (fun h2 hm => ?_)
    refine r_aload_n dX11_feed_26 rfl rfl ?_
    refine r_getC (k := 1) cl_11 dX11_feed_27 t_347 gf_11_1.1 gf_11_1.2 (gc_11_1 _) ?_
    refine r_iload_n dX11_feed_30 rfl rfl ?_
    refine r_callVU (d' := d - 1) (as := [tI v2]) (st := []) cl_10 dX11_feed_31 mi_X10_putFour t_419 t_420 t_421 rfl rfl (Nat.le_of_ble_eq_true rfl) (by omega) ⟨by decide, by decide⟩ ⟨rfl, rfl⟩ (s_X10_putFour (by omega) hm) (fun h4 hm => ?_)
    refine r_aload_n dX11_feed_34 rfl rfl ?_
    refine r_getC (k := 1) cl_11 dX11_feed_35 t_347 gf_11_1.1 gf_11_1.2 (gc_11_1 _) ?_
    refine r_iload_n dX11_feed_38 rfl rfl ?_
    refine r_callVU (d' := d - 1) (as := [tI v3]) (st := []) cl_10 dX11_feed_39 mi_X10_putFour t_419 t_420 t_421 rfl rfl (Nat.le_of_ble_eq_true rfl) (by omega) ⟨by decide, by decide⟩ ⟨rfl, rfl⟩ (s_X10_putFour (by omega) hm) (fun h6 hm => ?_)
    refine r_aload_n dX11_feed_42 rfl rfl ?_
    refine r_getC (k := 1) cl_11 dX11_feed_43 t_347 gf_11_1.1 gf_11_1.2 (gc_11_1 _) ?_
    refine r_iload dX11_feed_46 rfl ?_
    refine r_callVU (d' := d - 1) (as := [tI v4]) (st := []) cl_10 dX11_feed_48 mi_X10_putFour t_419 t_420 t_421 rfl rfl (Nat.le_of_ble_eq_true rfl) (by omega) ⟨by decide, by decide⟩ ⟨rfl, rfl⟩ (s_X10_putFour (by omega) hm) (fun h8 hm => ?_)
    refine r_aload_n dX11_feed_51 rfl rfl ?_
    refine r_getC (k := 1) cl_11 dX11_feed_52 t_347 gf_11_1.1 gf_11_1.2 (gc_11_1 _) ?_
    refine r_iload dX11_feed_55 rfl ?_
    refine r_callVU (d' := d - 1) (as := [tI v5]) (st := []) cl_10 dX11_feed_57 mi_X10_putFour t_419 t_420 t_421 rfl rfl (Nat.le_of_ble_eq_true rfl) (by omega) ⟨by decide, by decide⟩ ⟨rfl, rfl⟩ (s_X10_putFour (by omega) hm) (fun h10 hm => ?_)
    refine r_aload_n dX11_feed_60 rfl rfl ?_
    refine r_getC (k := 1) cl_11 dX11_feed_61 t_347 gf_11_1.1 gf_11_1.2 (gc_11_1 _) ?_
    refine r_getI (k := 1) cl_10 dX11_feed_64 t_39 (Or.inl rfl) gf_10_1 ?_
    exact r_ireturn dX11_feed_67 rfl ⟨by decide, by decide⟩ ⟨_, rfl, hm⟩
  · replace hm := hm.2 hc
    refine r_iconst (v := (-1)) dX11_feed_16 rfl ?_
    exact r_ireturn dX11_feed_17 rfl ⟨by decide, by decide⟩ ⟨_, rfl, hm⟩
theorem dX11_refusalOf_0 : decode cX11_refusalOf 0 = .ok (.iload_n 1, 1) := rfl
theorem dX11_refusalOf_1 : decode cX11_refusalOf 1 = .ok (.ifCond .lt 14, 3) := by decide +kernel
theorem dX11_refusalOf_4 : decode cX11_refusalOf 4 = .ok (.iload_n 1, 1) := rfl
theorem dX11_refusalOf_5 : decode cX11_refusalOf 5 = .ok (.aload_n 0, 1) := rfl
theorem dX11_refusalOf_6 : decode cX11_refusalOf 6 = .ok (.getfield 16, 3) := rfl
theorem dX11_refusalOf_9 : decode cX11_refusalOf 9 = .ok (.getfield 109, 3) := rfl
theorem dX11_refusalOf_12 : decode cX11_refusalOf 12 = .ok (.if_icmp .le 6, 3) := by decide +kernel
theorem dX11_refusalOf_15 : decode cX11_refusalOf 15 = .ok (.bipush (-2), 2) := by decide +kernel
theorem dX11_refusalOf_17 : decode cX11_refusalOf 17 = .ok (.ireturn, 1) := rfl
theorem dX11_refusalOf_18 : decode cX11_refusalOf 18 = .ok (.iload_n 2, 1) := rfl
theorem dX11_refusalOf_19 : decode cX11_refusalOf 19 = .ok (.iload_n 3, 1) := rfl
theorem dX11_refusalOf_20 : decode cX11_refusalOf 20 = .ok (.if_icmp .lt 8, 3) := by decide +kernel
theorem dX11_refusalOf_23 : decode cX11_refusalOf 23 = .ok (.bipush (-3), 2) := by decide +kernel
theorem dX11_refusalOf_25 : decode cX11_refusalOf 25 = .ok (.goto 4, 3) := by decide +kernel
theorem dX11_refusalOf_28 : decode cX11_refusalOf 28 = .ok (.iconst 0, 1) := rfl
theorem dX11_refusalOf_29 : decode cX11_refusalOf 29 = .ok (.ireturn, 1) := rfl
def m_X11_refusalOf (v1 : Int32) (v2 : Int32) (v3 : Int32) (h : Hp) (Q : Int32 → Hp → Prop) : Prop := (v1 < 0 → Q (-2) h) ∧ (¬ v1 < 0 → (v1 ≤ (hI h 2 1) → (v2 < v3 → Q 0 h) ∧ (¬ v2 < v3 → Q (-3) h)) ∧ (¬ v1 ≤ (hI h 2 1) → Q (-2) h))
set_option maxHeartbeats 4000000 in
set_option maxRecDepth 100000 in
theorem s_X11_refusalOf {l : Launch} {G : Cx} {d : Nat} (hd : 2 ≤ d) {v1 : Int32} {v2 : Int32} {v3 : Int32} {h : Hp} {Q : Int32 → Hp → Prop} (hm : m_X11_refusalOf v1 v2 v3 h Q) : Ct l G d 0 0 yX11_refusalOf MX11_refusalOf [tR 11 0 (some 0), tI v1, tI v2, tI v3] h (qI Q) := by
  unfold m_X11_refusalOf at hm
  refine Ct.of (L := [some (tR 11 0 (some 0)), some (tI v1), some (tI v2), some (tI v3)]) (by decide) rfl rfl (Nat.le_of_ble_eq_true rfl) rfl ?_
  refine r_iload_n dX11_refusalOf_0 rfl rfl ?_
  refine r_if_lt (tgt := 15) dX11_refusalOf_1 rfl (fun hc => ?_) (fun hc => ?_)
  · replace hm := hm.1 hc
    refine r_bipush (v := (-2)) dX11_refusalOf_15 rfl ?_
    exact r_ireturn dX11_refusalOf_17 rfl ⟨by decide, by decide⟩ ⟨_, rfl, hm⟩
  · replace hm := hm.2 hc
    refine r_iload_n dX11_refusalOf_4 rfl rfl ?_
    refine r_aload_n dX11_refusalOf_5 rfl rfl ?_
    refine r_getC (k := 1) cl_11 dX11_refusalOf_6 t_347 gf_11_1.1 gf_11_1.2 (gc_11_1 _) ?_
    refine r_getI (k := 1) cl_10 dX11_refusalOf_9 t_39 (Or.inl rfl) gf_10_1 ?_
    refine r_icmp_le (tgt := 18) dX11_refusalOf_12 rfl (fun hc => ?_) (fun hc => ?_)
    · replace hm := hm.1 hc
      refine r_iload_n dX11_refusalOf_18 rfl rfl ?_
      refine r_iload_n dX11_refusalOf_19 rfl rfl ?_
      refine r_icmp_lt (tgt := 28) dX11_refusalOf_20 rfl (fun hc => ?_) (fun hc => ?_)
      · replace hm := hm.1 hc
        refine r_iconst (v := 0) dX11_refusalOf_28 rfl ?_
        exact r_ireturn dX11_refusalOf_29 rfl ⟨by decide, by decide⟩ ⟨_, rfl, hm⟩
      · replace hm := hm.2 hc
        refine r_bipush (v := (-3)) dX11_refusalOf_23 rfl ?_
        refine r_goto (tgt := 29) dX11_refusalOf_25 rfl ?_
        exact r_ireturn dX11_refusalOf_29 rfl ⟨by decide, by decide⟩ ⟨_, rfl, hm⟩
    · replace hm := hm.2 hc
      refine r_bipush (v := (-2)) dX11_refusalOf_15 rfl ?_
      exact r_ireturn dX11_refusalOf_17 rfl ⟨by decide, by decide⟩ ⟨_, rfl, hm⟩
theorem dX11_closeText_0 : decode cX11_closeText 0 = .ok (.aload_n 0, 1) := rfl
theorem dX11_closeText_1 : decode cX11_closeText 1 = .ok (.getfield 16, 3) := rfl
theorem dX11_closeText_4 : decode cX11_closeText 4 = .ok (.iconst 0, 1) := rfl
theorem dX11_closeText_5 : decode cX11_closeText 5 = .ok (.putfield 109, 3) := rfl
theorem dX11_closeText_8 : decode cX11_closeText 8 = .ok (.aload_n 0, 1) := rfl
theorem dX11_closeText_9 : decode cX11_closeText 9 = .ok (.iload_n 1, 1) := rfl
theorem dX11_closeText_10 : decode cX11_closeText 10 = .ok (.ifCond .eq 7, 3) := by decide +kernel
theorem dX11_closeText_13 : decode cX11_closeText 13 = .ok (.iconst (-1), 1) := rfl
theorem dX11_closeText_14 : decode cX11_closeText 14 = .ok (.goto 10, 3) := by decide +kernel
theorem dX11_closeText_17 : decode cX11_closeText 17 = .ok (.aload_n 0, 1) := rfl
theorem dX11_closeText_18 : decode cX11_closeText 18 = .ok (.getfield 16, 3) := rfl
theorem dX11_closeText_21 : decode cX11_closeText 21 = .ok (.getfield 332, 3) := rfl
theorem dX11_closeText_24 : decode cX11_closeText 24 = .ok (.putfield 44, 3) := rfl
theorem dX11_closeText_27 : decode cX11_closeText 27 = .ok (.iload_n 1, 1) := rfl
theorem dX11_closeText_28 : decode cX11_closeText 28 = .ok (.ifCond .eq 7, 3) := by decide +kernel
theorem dX11_closeText_31 : decode cX11_closeText 31 = .ok (.iload_n 2, 1) := rfl
theorem dX11_closeText_32 : decode cX11_closeText 32 = .ok (.goto 4, 3) := by decide +kernel
theorem dX11_closeText_35 : decode cX11_closeText 35 = .ok (.iconst (-1), 1) := rfl
theorem dX11_closeText_36 : decode cX11_closeText 36 = .ok (.ireturn, 1) := rfl
def m_X11_closeText_24  (Q : Int32 → Hp → Prop) (v1 : Int32) (v2 : Int32) (s1 : Int32) (h : Hp) : Prop := (v1 = 0 → Q (-1) (wI h 0 9 s1)) ∧ (¬ v1 = 0 → Q v2 (wI h 0 9 s1))
set_option maxHeartbeats 4000000 in
set_option maxRecDepth 100000 in
theorem s_X11_closeText_24 {l : Launch} {G : Cx} {d : Nat} {h0 : Hp} (hd : 2 ≤ d) {Q : Int32 → Hp → Prop} {v1 : Int32} {v2 : Int32} {s1 : Int32} {h : Hp} (hm : m_X11_closeText_24 Q v1 v2 s1 h) : Rn l G d 0 0 MX11_closeText h0 (qI Q) 24 [none, some (tI v1), some (tI v2)] [tI s1, tR 11 0 (some 0)] h 0 0 := by
  unfold m_X11_closeText_24 at hm
  refine r_putI0 (k := 9) cl_11 dX11_closeText_24 t_355 (Or.inl rfl) gf_11_9 pf_11_9.1 (Or.inl pf_11_9.2) ?_
  refine r_iload_n dX11_closeText_27 rfl rfl ?_
  refine r_if_eq (tgt := 35) dX11_closeText_28 rfl (fun hc => ?_) (fun hc => ?_)
  · replace hm := hm.1 hc
    refine r_iconst (v := (-1)) dX11_closeText_35 rfl ?_
    exact r_ireturn dX11_closeText_36 rfl ⟨by decide, by decide⟩ ⟨_, rfl, hm⟩
  · replace hm := hm.2 hc
    refine r_iload_n dX11_closeText_31 rfl rfl ?_
    refine r_goto (tgt := 36) dX11_closeText_32 rfl ?_
    exact r_ireturn dX11_closeText_36 rfl ⟨by decide, by decide⟩ ⟨_, rfl, hm⟩
def m_X11_closeText (v1 : Int32) (v2 : Int32) (h : Hp) (Q : Int32 → Hp → Prop) : Prop := (v1 = 0 → m_X11_closeText_24 Q v1 v2 (hI (wI h 2 1 0) 2 2) (wI h 2 1 0)) ∧ (¬ v1 = 0 → m_X11_closeText_24 Q v1 v2 (-1) (wI h 2 1 0))
set_option maxHeartbeats 4000000 in
set_option maxRecDepth 100000 in
theorem s_X11_closeText {l : Launch} {G : Cx} {d : Nat} (hd : 2 ≤ d) {v1 : Int32} {v2 : Int32} {h : Hp} {Q : Int32 → Hp → Prop} (hm : m_X11_closeText v1 v2 h Q) : Ct l G d 0 0 yX11_closeText MX11_closeText [tR 11 0 (some 0), tI v1, tI v2] h (qI Q) := by
  unfold m_X11_closeText at hm
  refine Ct.of (L := [some (tR 11 0 (some 0)), some (tI v1), some (tI v2)]) (by decide) rfl rfl (Nat.le_of_ble_eq_true rfl) rfl ?_
  refine r_aload_n dX11_closeText_0 rfl rfl ?_
  refine r_getC (k := 1) cl_11 dX11_closeText_1 t_347 gf_11_1.1 gf_11_1.2 (gc_11_1 _) ?_
  refine r_iconst (v := 0) dX11_closeText_4 rfl ?_
  refine r_putI0 (k := 1) cl_10 dX11_closeText_5 t_39 (Or.inl rfl) gf_10_1 pf_10_1.1 (Or.inl pf_10_1.2) ?_
  refine r_aload_n dX11_closeText_8 rfl rfl ?_
  refine r_iload_n dX11_closeText_9 rfl rfl ?_
  refine r_if_eq (tgt := 17) dX11_closeText_10 rfl (fun hc => ?_) (fun hc => ?_)
  · replace hm := hm.1 hc
    refine r_aload_n dX11_closeText_17 rfl rfl ?_
    refine r_getC (k := 1) cl_11 dX11_closeText_18 t_347 gf_11_1.1 gf_11_1.2 (gc_11_1 _) ?_
    refine r_getI (k := 2) cl_10 dX11_closeText_21 t_41 (Or.inl rfl) gf_10_2 ?_
    refine r_keep (L' := [none, some (tI v1), some (tI v2)]) [false, true, true] rfl ?_
    exact s_X11_closeText_24 hd hm
  · replace hm := hm.2 hc
    refine r_iconst (v := (-1)) dX11_closeText_13 rfl ?_
    refine r_goto (tgt := 24) dX11_closeText_14 rfl ?_
    refine r_keep (L' := [none, some (tI v1), some (tI v2)]) [false, true, true] rfl ?_
    exact s_X11_closeText_24 hd hm
theorem dX11_deal_0 : decode cX11_deal 0 = .ok (.iload_n 2, 1) := by decide +kernel
theorem dX11_deal_1 : decode cX11_deal 1 = .ok (.ifCond .lt 10, 3) := by decide +kernel
theorem dX11_deal_4 : decode cX11_deal 4 = .ok (.iload_n 2, 1) := by decide +kernel
theorem dX11_deal_5 : decode cX11_deal 5 = .ok (.sipush 399, 3) := by decide +kernel
theorem dX11_deal_8 : decode cX11_deal 8 = .ok (.if_icmp .le 6, 3) := by decide +kernel
theorem dX11_deal_11 : decode cX11_deal 11 = .ok (.bipush (-2), 2) := by decide +kernel
theorem dX11_deal_13 : decode cX11_deal 13 = .ok (.ireturn, 1) := by decide +kernel
theorem dX11_deal_14 : decode cX11_deal 14 = .ok (.aload_n 0, 1) := by decide +kernel
theorem dX11_deal_15 : decode cX11_deal 15 = .ok (.iload_n 1, 1) := by decide +kernel
theorem dX11_deal_16 : decode cX11_deal 16 = .ok (.aload_n 0, 1) := by decide +kernel
theorem dX11_deal_17 : decode cX11_deal 17 = .ok (.getfield 116, 3) := by decide +kernel
theorem dX11_deal_20 : decode cX11_deal 20 = .ok (.bipush 24, 2) := by decide +kernel
theorem dX11_deal_22 : decode cX11_deal 22 = .ok (.invokevirtual 119, 3) := by decide +kernel
theorem dX11_deal_25 : decode cX11_deal 25 = .ok (.istore_n 3, 1) := by decide +kernel
theorem dX11_deal_26 : decode cX11_deal 26 = .ok (.iload_n 3, 1) := by decide +kernel
theorem dX11_deal_27 : decode cX11_deal 27 = .ok (.ifCond .eq 5, 3) := by decide +kernel
theorem dX11_deal_30 : decode cX11_deal 30 = .ok (.iload_n 3, 1) := by decide +kernel
theorem dX11_deal_31 : decode cX11_deal 31 = .ok (.ireturn, 1) := by decide +kernel
theorem dX11_deal_32 : decode cX11_deal 32 = .ok (.aload_n 0, 1) := by decide +kernel
theorem dX11_deal_33 : decode cX11_deal 33 = .ok (.getfield 31, 3) := by decide +kernel
theorem dX11_deal_36 : decode cX11_deal 36 = .ok (.aload_n 0, 1) := by decide +kernel
theorem dX11_deal_37 : decode cX11_deal 37 = .ok (.getfield 116, 3) := by decide +kernel
theorem dX11_deal_40 : decode cX11_deal 40 = .ok (.aaload, 1) := by decide +kernel
theorem dX11_deal_41 : decode cX11_deal 41 = .ok (.ifnonnull 23, 3) := by decide +kernel
theorem dX11_deal_44 : decode cX11_deal 44 = .ok (.aload_n 0, 1) := by decide +kernel
theorem dX11_deal_45 : decode cX11_deal 45 = .ok (.getfield 31, 3) := by decide +kernel
theorem dX11_deal_48 : decode cX11_deal 48 = .ok (.aload_n 0, 1) := by decide +kernel
theorem dX11_deal_49 : decode cX11_deal 49 = .ok (.getfield 116, 3) := by decide +kernel
theorem dX11_deal_52 : decode cX11_deal 52 = .ok (.new 29, 3) := by decide +kernel
theorem dX11_deal_55 : decode cX11_deal 55 = .ok (.dup, 1) := by decide +kernel
theorem dX11_deal_56 : decode cX11_deal 56 = .ok (.aload_n 0, 1) := by decide +kernel
theorem dX11_deal_57 : decode cX11_deal 57 = .ok (.getfield 116, 3) := by decide +kernel
theorem dX11_deal_60 : decode cX11_deal 60 = .ok (.invokespecial 123, 3) := by decide +kernel
theorem dX11_deal_63 : decode cX11_deal 63 = .ok (.aastore, 1) := by decide +kernel
theorem dX11_deal_64 : decode cX11_deal 64 = .ok (.aload_n 0, 1) := by decide +kernel
theorem dX11_deal_65 : decode cX11_deal 65 = .ok (.getfield 16, 3) := by decide +kernel
theorem dX11_deal_68 : decode cX11_deal 68 = .ok (.iload_n 1, 1) := by decide +kernel
theorem dX11_deal_69 : decode cX11_deal 69 = .ok (.invokevirtual 125, 3) := by decide +kernel
theorem dX11_deal_72 : decode cX11_deal 72 = .ok (.aload_n 0, 1) := by decide +kernel
theorem dX11_deal_73 : decode cX11_deal 73 = .ok (.getfield 25, 3) := by decide +kernel
theorem dX11_deal_76 : decode cX11_deal 76 = .ok (.aload_n 0, 1) := by decide +kernel
theorem dX11_deal_77 : decode cX11_deal 77 = .ok (.getfield 31, 3) := by decide +kernel
theorem dX11_deal_80 : decode cX11_deal 80 = .ok (.aload_n 0, 1) := by decide +kernel
theorem dX11_deal_81 : decode cX11_deal 81 = .ok (.getfield 116, 3) := by decide +kernel
theorem dX11_deal_84 : decode cX11_deal 84 = .ok (.aaload, 1) := by decide +kernel
theorem dX11_deal_85 : decode cX11_deal 85 = .ok (.invokevirtual 128, 3) := by decide +kernel
theorem dX11_deal_88 : decode cX11_deal 88 = .ok (.istore 4, 2) := by decide +kernel
theorem dX11_deal_90 : decode cX11_deal 90 = .ok (.iload 4, 2) := by decide +kernel
theorem dX11_deal_92 : decode cX11_deal 92 = .ok (.ifCond .eq 26, 3) := by decide +kernel
theorem dX11_deal_95 : decode cX11_deal 95 = .ok (.aload_n 0, 1) := by decide +kernel
theorem dX11_deal_96 : decode cX11_deal 96 = .ok (.getfield 31, 3) := by decide +kernel
theorem dX11_deal_99 : decode cX11_deal 99 = .ok (.aload_n 0, 1) := by decide +kernel
theorem dX11_deal_100 : decode cX11_deal 100 = .ok (.getfield 116, 3) := by decide +kernel
theorem dX11_deal_103 : decode cX11_deal 103 = .ok (.aaload, 1) := by decide +kernel
theorem dX11_deal_104 : decode cX11_deal 104 = .ok (.iload_n 2, 1) := by decide +kernel
theorem dX11_deal_105 : decode cX11_deal 105 = .ok (.putfield 132, 3) := by decide +kernel
theorem dX11_deal_108 : decode cX11_deal 108 = .ok (.aload_n 0, 1) := by decide +kernel
theorem dX11_deal_109 : decode cX11_deal 109 = .ok (.dup, 1) := by decide +kernel
theorem dX11_deal_110 : decode cX11_deal 110 = .ok (.getfield 116, 3) := by decide +kernel
theorem dX11_deal_113 : decode cX11_deal 113 = .ok (.iconst 1, 1) := by decide +kernel
theorem dX11_deal_114 : decode cX11_deal 114 = .ok (.iadd, 1) := by decide +kernel
theorem dX11_deal_115 : decode cX11_deal 115 = .ok (.putfield 116, 3) := by decide +kernel
theorem dX11_deal_118 : decode cX11_deal 118 = .ok (.aload_n 0, 1) := by decide +kernel
theorem dX11_deal_119 : decode cX11_deal 119 = .ok (.iload 4, 2) := by decide +kernel
theorem dX11_deal_121 : decode cX11_deal 121 = .ok (.aload_n 0, 1) := by decide +kernel
theorem dX11_deal_122 : decode cX11_deal 122 = .ok (.getfield 116, 3) := by decide +kernel
theorem dX11_deal_125 : decode cX11_deal 125 = .ok (.iconst 1, 1) := by decide +kernel
theorem dX11_deal_126 : decode cX11_deal 126 = .ok (.isub, 1) := by decide +kernel
theorem dX11_deal_127 : decode cX11_deal 127 = .ok (.invokevirtual 135, 3) := by decide +kernel
theorem dX11_deal_130 : decode cX11_deal 130 = .ok (.ireturn, 1) := by decide +kernel
def m_X11_deal_118  (Q : Int32 → Hp → Prop) (v4 : Int32) (h : Hp) : Prop := m_X11_closeText v4 ((hI h 0 4) - 1) h (fun (x1 : Int32) (h2 : Hp) => Q x1 h2)
set_option maxHeartbeats 4000000 in
set_option maxRecDepth 100000 in
theorem s_X11_deal_118 {l : Launch} {G : Cx} {d : Nat} {h0 : Hp} (hd : 180 ≤ d) {Q : Int32 → Hp → Prop} {v4 : Int32} {h : Hp} (hm : m_X11_deal_118 Q v4 h) : Rn l G d 5 397 MX11_deal h0 (qI Q) 118 [some (tR 11 0 (some 0)), none, none, none, some (tI v4)] [] h 5 397 := by
  unfold m_X11_deal_118 at hm
  refine r_aload_n dX11_deal_118 rfl rfl ?_
  refine r_iload dX11_deal_119 rfl ?_
  refine r_aload_n dX11_deal_121 rfl rfl ?_
  refine r_getI (k := 4) cl_11 dX11_deal_122 t_350 (Or.inl rfl) gf_11_4 ?_
  refine r_iconst (v := 1) dX11_deal_125 rfl ?_
  refine r_isub dX11_deal_126 ?_
  refine r_callVI (d' := d - 1) (as := [tI v4, tI ((hI h 0 4) - 1)]) (st := []) cl_11 dX11_deal_127 mi_X11_closeText t_754 t_756 ts_21 rfl rfl (Nat.le_of_ble_eq_true rfl) (by omega) ⟨by decide, by decide⟩ ⟨rfl, rfl⟩ (s_X11_closeText (by omega) hm) (fun x1 h2 hm => ?_)
  exact r_ireturn dX11_deal_130 rfl ⟨by decide, by decide⟩ ⟨_, rfl, hm⟩
def m_X11_deal_64  (Q : Int32 → Hp → Prop) (v1 : Int32) (v2 : Int32) (h : Hp) : Prop := m_X10_open v1 h (fun (h4 : Hp) => vp_in (hI h4 0 4) 24 ∧ ∃ b5 : Nat, hR h4 8 (ix (hI h4 0 4)) = some b5 ∧ (m_X2_readDeal b5 h4 (fun (x6 : Int32) (h7 : Hp) => (x6 = 0 → m_X11_deal_118 Q x6 h7) ∧ (¬ x6 = 0 → vp_in (hI h7 0 4) 24 ∧ ∃ b8 : Nat, hR h7 8 (ix (hI h7 0 4)) = some b8 ∧ (m_X11_deal_118 Q x6 (wI (wI h7 b8 1 v2) 0 4 ((hI (wI h7 b8 1 v2) 0 4) + 1)))))))
set_option maxHeartbeats 4000000 in
set_option maxRecDepth 100000 in
theorem s_X11_deal_64 {l : Launch} {G : Cx} {d : Nat} {h0 : Hp} (hd : 180 ≤ d) {Q : Int32 → Hp → Prop} {v1 : Int32} {v2 : Int32} {h : Hp} (hm : m_X11_deal_64 Q v1 v2 h) : Rn l G d 5 397 MX11_deal h0 (qI Q) 64 [some (tR 11 0 (some 0)), some (tI v1), some (tI v2)] [] h 5 397 := by
  unfold m_X11_deal_64 at hm
  refine r_aload_n dX11_deal_64 rfl rfl ?_
  refine r_getC (k := 1) cl_11 dX11_deal_65 t_347 gf_11_1.1 gf_11_1.2 (gc_11_1 _) ?_
  refine r_iload_n dX11_deal_68 rfl rfl ?_
  refine r_callVU (d' := d - 1) (as := [tI v1]) (st := []) cl_10 dX11_deal_69 mi_X10_open t_508 t_509 t_510 rfl rfl (Nat.le_of_ble_eq_true rfl) (by omega) ⟨by decide, by decide⟩ ⟨rfl, rfl⟩ (s_X10_open (by omega) hm) (fun h4 hm => ?_)
  refine r_aload_n dX11_deal_72 rfl rfl ?_
  refine r_getC (k := 2) cl_11 dX11_deal_73 t_348 gf_11_2.1 gf_11_2.2 (gc_11_2 _) ?_
  refine r_aload_n dX11_deal_76 rfl rfl ?_
  refine r_getC (k := 3) cl_11 dX11_deal_77 t_349 gf_11_3.1 gf_11_3.2 (gc_11_3 _) ?_
  refine r_aload_n dX11_deal_80 rfl rfl ?_
  refine r_getI (k := 4) cl_11 dX11_deal_81 t_350 (Or.inl rfl) gf_11_4 ?_
  obtain ⟨hi_b5, b5, hb_b5, hm⟩ := hm
  refine r_aaldS (kd := 1) (ti := 5) (cn := RX1) dX11_deal_84 rfl hi_b5 hb_b5 ?_
  refine r_callVI (d' := d - 1) (as := [tR 1 0 (some b5)]) (st := []) cl_2 dX11_deal_85 mi_X2_readDeal t_519 t_520 t_521 rfl rfl (Nat.le_of_ble_eq_true rfl) (by omega) ⟨by decide, by decide⟩ ⟨rfl, rfl⟩ (s_X2_readDeal (by omega) hm) (fun x6 h7 hm => ?_)
  refine r_istore (L' := [some (tR 11 0 (some 0)), some (tI v1), some (tI v2), none, some (tI x6)]) dX11_deal_88 (by decide) rfl ?_
  refine r_iload dX11_deal_90 rfl ?_
  refine r_if_eq (tgt := 118) dX11_deal_92 rfl (fun hc => ?_) (fun hc => ?_)
  · replace hm := hm.1 hc
    refine r_keep (L' := [some (tR 11 0 (some 0)), none, none, none, some (tI x6)]) [true, false, false, false, true] rfl ?_
    exact s_X11_deal_118 hd hm
  · replace hm := hm.2 hc
    refine r_aload_n dX11_deal_95 rfl rfl ?_
    refine r_getC (k := 3) cl_11 dX11_deal_96 t_349 gf_11_3.1 gf_11_3.2 (gc_11_3 _) ?_
    refine r_aload_n dX11_deal_99 rfl rfl ?_
    refine r_getI (k := 4) cl_11 dX11_deal_100 t_350 (Or.inl rfl) gf_11_4 ?_
    obtain ⟨hi_b8, b8, hb_b8, hm⟩ := hm
    refine r_aaldS (kd := 1) (ti := 5) (cn := RX1) dX11_deal_103 rfl hi_b8 hb_b8 ?_
    refine r_iload_n dX11_deal_104 rfl rfl ?_
    refine r_putI0 (k := 1) cl_1 dX11_deal_105 t_439 (Or.inl rfl) gf_1_1 pf_1_1.1 (Or.inl pf_1_1.2) ?_
    refine r_aload_n dX11_deal_108 rfl rfl ?_
    refine r_dup dX11_deal_109 cv_cat1R ?_
    refine r_getI (k := 4) cl_11 dX11_deal_110 t_350 (Or.inl rfl) gf_11_4 ?_
    refine r_iconst (v := 1) dX11_deal_113 rfl ?_
    refine r_iadd dX11_deal_114 ?_
    refine r_putI0 (k := 4) cl_11 dX11_deal_115 t_350 (Or.inl rfl) gf_11_4 pf_11_4.1 (Or.inl pf_11_4.2) ?_
    refine r_keep (L' := [some (tR 11 0 (some 0)), none, none, none, some (tI x6)]) [true, false, false, false, true] rfl ?_
    exact s_X11_deal_118 hd hm
def m_X11_deal (v1 : Int32) (v2 : Int32) (h : Hp) (Q : Int32 → Hp → Prop) : Prop := (v2 < 0 → Q (-2) h) ∧ (¬ v2 < 0 → (v2 ≤ 399 → m_X11_refusalOf v1 (hI h 0 4) 24 h (fun (x9 : Int32) (h10 : Hp) => (x9 = 0 → vp_in (hI h10 0 4) 24 ∧ ((∀ b11 : Nat, (hR h10 8 (ix (hI h10 0 4))) = some b11 → m_X11_deal_64 Q v1 v2 h10) ∧ ((hR h10 8 (ix (hI h10 0 4))) = none → ∀ a12 : Nat, a12 = hN h10 → ∀ h13 : Hp, h13 = nw h10 (21, 0) → m_X1_init a12 (hI h13 0 4) h13 (fun h15 => hN h ≤ a12 ∧ sealOK h15 a12 1 ∧ ∀ h16 : Hp, h16 = wT h15 a12 (1, 0) → vp_in (hI h10 0 4) 24 ∧ (m_X11_deal_64 Q v1 v2 (wR h16 8 (ix (hI h10 0 4)) (some a12))))))) ∧ (¬ x9 = 0 → Q x9 h10))) ∧ (¬ v2 ≤ 399 → Q (-2) h))
set_option maxHeartbeats 4000000 in
set_option maxRecDepth 100000 in
theorem s_X11_deal {l : Launch} {G : Cx} {d : Nat} (hd : 180 ≤ d) {v1 : Int32} {v2 : Int32} {h : Hp} {Q : Int32 → Hp → Prop} (hm : m_X11_deal v1 v2 h Q) : Ct l G d 5 397 yX11_deal MX11_deal [tR 11 0 (some 0), tI v1, tI v2] h (qI Q) := by
  unfold m_X11_deal at hm
  refine Ct.of (L := [some (tR 11 0 (some 0)), some (tI v1), some (tI v2)]) (by decide) rfl rfl (Nat.le_of_ble_eq_true rfl) rfl ?_
  refine r_iload_n dX11_deal_0 rfl rfl ?_
  refine r_if_lt (tgt := 11) dX11_deal_1 rfl (fun hc => ?_) (fun hc => ?_)
  · replace hm := hm.1 hc
    refine r_bipush (v := (-2)) dX11_deal_11 rfl ?_
    exact r_ireturn dX11_deal_13 rfl ⟨by decide, by decide⟩ ⟨_, rfl, hm⟩
  · replace hm := hm.2 hc
    refine r_iload_n dX11_deal_4 rfl rfl ?_
    refine r_sipush (v := 399) dX11_deal_5 rfl ?_
    refine r_icmp_le (tgt := 14) dX11_deal_8 rfl (fun hc => ?_) (fun hc => ?_)
    · replace hm := hm.1 hc
      refine r_aload_n dX11_deal_14 rfl rfl ?_
      refine r_iload_n dX11_deal_15 rfl rfl ?_
      refine r_aload_n dX11_deal_16 rfl rfl ?_
      refine r_getI (k := 4) cl_11 dX11_deal_17 t_350 (Or.inl rfl) gf_11_4 ?_
      refine r_bipush (v := 24) dX11_deal_20 rfl ?_
      refine r_callVI (d' := d - 1) (as := [tI v1, tI (hI h 0 4), tI 24]) (st := []) cl_11 dX11_deal_22 mi_X11_refusalOf t_427 t_429 ts_0 rfl rfl (Nat.le_of_ble_eq_true rfl) (by omega) ⟨by decide, by decide⟩ ⟨rfl, rfl⟩ (s_X11_refusalOf (by omega) hm) (fun x9 h10 hm => ?_)
      refine r_istore_n (L' := [some (tR 11 0 (some 0)), some (tI v1), some (tI v2), some (tI x9)]) dX11_deal_25 rfl (by decide) rfl ?_
      refine r_iload_n dX11_deal_26 rfl rfl ?_
      refine r_if_eq (tgt := 32) dX11_deal_27 rfl (fun hc => ?_) (fun hc => ?_)
      · replace hm := hm.1 hc
        refine r_aload_n dX11_deal_32 rfl rfl ?_
        refine r_getC (k := 3) cl_11 dX11_deal_33 t_349 gf_11_3.1 gf_11_3.2 (gc_11_3 _) ?_
        refine r_aload_n dX11_deal_36 rfl rfl ?_
        refine r_getI (k := 4) cl_11 dX11_deal_37 t_350 (Or.inl rfl) gf_11_4 ?_
        refine r_aald (kd := 1) (ti := 5) (cn := RX1) dX11_deal_40 rfl hm.1 ?_
        replace hm := hm.2
        refine r_ifnonnull (tgt := 64) dX11_deal_41 rfl (fun hc => ?_) (fun hc => ?_)
        · obtain ⟨b11, hc⟩ := Option.ne_none_iff_exists'.mp hc
          replace hm := hm.1 b11 hc
          refine r_keep (L' := [some (tR 11 0 (some 0)), some (tI v1), some (tI v2)]) [true, true, true] rfl ?_
          refine r_wide (by decide : 0 ≤ 5) (by decide : 0 ≤ 397) ?_
          exact s_X11_deal_64 hd hm
        · replace hm := hm.2 hc
          refine r_aload_n dX11_deal_44 rfl rfl ?_
          refine r_getC (k := 3) cl_11 dX11_deal_45 t_349 gf_11_3.1 gf_11_3.2 (gc_11_3 _) ?_
          refine r_aload_n dX11_deal_48 rfl rfl ?_
          refine r_getI (k := 4) cl_11 dX11_deal_49 t_350 (Or.inl rfl) gf_11_4 ?_
          refine r_new cl_1 dX11_deal_52 t_110 (N := 13) rfl t_431 t_13 ⟨by decide, by decide⟩ ?_
          refine r_nmA (fun a12 e_a12 h13 e_h13 => ?_)
          replace hm := hm a12 e_a12 h13 e_h13
          refine r_dup dX11_deal_55 cv_cat1R ?_
          refine r_aload_n dX11_deal_56 rfl rfl ?_
          refine r_getI (k := 4) cl_11 dX11_deal_57 t_350 (Or.inl rfl) gf_11_4 ?_
          refine r_callIU (d' := d - 1) (ci := 1) (as := [tI (hI h13 0 4)]) (st := [tR 21 0 (some a12), tI (hI h10 0 4), tR 51 24 (some 8)]) (mc' := 4) (ms' := 384) dX11_deal_60 mi_X1_init rfl t_432 t_433 rfl rfl rfl (Nat.le_of_ble_eq_true rfl) (by omega) ⟨by decide, by decide⟩ ⟨rfl, rfl⟩ (s_X1_init (by omega) hm) (fun h15 hm => ?_)
          obtain ⟨hz, hs, hm⟩ := hm
          refine r_seal (by decide) hz hs (by simp [noK]) (by simp [noK]) ?_
          refine r_nmH (fun h16 e_h16 => ?_)
          replace hm := hm h16 e_h16
          refine r_aast (kd := 1) (ti := 5) cl_1 dX11_deal_63 rfl hm.1 ?_
          replace hm := hm.2
          refine r_keep (L' := [some (tR 11 0 (some 0)), some (tI v1), some (tI v2)]) [true, true, true] rfl ?_
          exact s_X11_deal_64 hd hm
      · replace hm := hm.2 hc
        refine r_iload_n dX11_deal_30 rfl rfl ?_
        exact r_ireturn dX11_deal_31 rfl ⟨by decide, by decide⟩ ⟨_, rfl, hm⟩
    · replace hm := hm.2 hc
      refine r_bipush (v := (-2)) dX11_deal_11 rfl ?_
      exact r_ireturn dX11_deal_13 rfl ⟨by decide, by decide⟩ ⟨_, rfl, hm⟩
theorem dX11_tellRules_0 : decode cX11_tellRules 0 = .ok (.aload_n 0, 1) := rfl
theorem dX11_tellRules_1 : decode cX11_tellRules 1 = .ok (.iload_n 1, 1) := rfl
theorem dX11_tellRules_2 : decode cX11_tellRules 2 = .ok (.iload_n 3, 1) := rfl
theorem dX11_tellRules_3 : decode cX11_tellRules 3 = .ok (.aload_n 2, 1) := rfl
theorem dX11_tellRules_4 : decode cX11_tellRules 4 = .ok (.arraylength, 1) := rfl
theorem dX11_tellRules_5 : decode cX11_tellRules 5 = .ok (.invokevirtual 119, 3) := rfl
theorem dX11_tellRules_8 : decode cX11_tellRules 8 = .ok (.istore 6, 2) := rfl
theorem dX11_tellRules_10 : decode cX11_tellRules 10 = .ok (.iload 6, 2) := rfl
theorem dX11_tellRules_12 : decode cX11_tellRules 12 = .ok (.ifCond .eq 6, 3) := by decide +kernel
theorem dX11_tellRules_15 : decode cX11_tellRules 15 = .ok (.iload 6, 2) := rfl
theorem dX11_tellRules_17 : decode cX11_tellRules 17 = .ok (.ireturn, 1) := rfl
theorem dX11_tellRules_18 : decode cX11_tellRules 18 = .ok (.aload_n 2, 1) := rfl
theorem dX11_tellRules_19 : decode cX11_tellRules 19 = .ok (.iload_n 3, 1) := rfl
theorem dX11_tellRules_20 : decode cX11_tellRules 20 = .ok (.aaload, 1) := rfl
theorem dX11_tellRules_21 : decode cX11_tellRules 21 = .ok (.ifnonnull 13, 3) := by decide +kernel
theorem dX11_tellRules_24 : decode cX11_tellRules 24 = .ok (.aload_n 2, 1) := rfl
theorem dX11_tellRules_25 : decode cX11_tellRules 25 = .ok (.iload_n 3, 1) := rfl
theorem dX11_tellRules_26 : decode cX11_tellRules 26 = .ok (.new 35, 3) := rfl
theorem dX11_tellRules_29 : decode cX11_tellRules 29 = .ok (.dup, 1) := rfl
theorem dX11_tellRules_30 : decode cX11_tellRules 30 = .ok (.invokespecial 327, 3) := rfl
theorem dX11_tellRules_33 : decode cX11_tellRules 33 = .ok (.aastore, 1) := rfl
theorem dX11_tellRules_34 : decode cX11_tellRules 34 = .ok (.aload_n 0, 1) := rfl
theorem dX11_tellRules_35 : decode cX11_tellRules 35 = .ok (.getfield 16, 3) := rfl
theorem dX11_tellRules_38 : decode cX11_tellRules 38 = .ok (.iload_n 1, 1) := rfl
theorem dX11_tellRules_39 : decode cX11_tellRules 39 = .ok (.invokevirtual 125, 3) := rfl
theorem dX11_tellRules_42 : decode cX11_tellRules 42 = .ok (.aload_n 0, 1) := rfl
theorem dX11_tellRules_43 : decode cX11_tellRules 43 = .ok (.aload_n 2, 1) := rfl
theorem dX11_tellRules_44 : decode cX11_tellRules 44 = .ok (.iload_n 3, 1) := rfl
theorem dX11_tellRules_45 : decode cX11_tellRules 45 = .ok (.aaload, 1) := rfl
theorem dX11_tellRules_46 : decode cX11_tellRules 46 = .ok (.aload_n 0, 1) := rfl
theorem dX11_tellRules_47 : decode cX11_tellRules 47 = .ok (.getfield 16, 3) := rfl
theorem dX11_tellRules_50 : decode cX11_tellRules 50 = .ok (.iload 4, 2) := rfl
theorem dX11_tellRules_52 : decode cX11_tellRules 52 = .ok (.iload 5, 2) := rfl
theorem dX11_tellRules_54 : decode cX11_tellRules 54 = .ok (.invokevirtual 328, 3) := rfl
theorem dX11_tellRules_57 : decode cX11_tellRules 57 = .ok (.iload_n 3, 1) := rfl
theorem dX11_tellRules_58 : decode cX11_tellRules 58 = .ok (.invokevirtual 135, 3) := rfl
theorem dX11_tellRules_61 : decode cX11_tellRules 61 = .ok (.ireturn, 1) := rfl
def m_X11_tellRules_34  (Q : Int32 → Hp → Prop) (v1 : Int32) (v2n : Nat) (v2 : Nat) (v3 : Int32) (v4 : Int32) (v5 : Int32) (h : Hp) : Prop := m_X10_open v1 h (fun (h2 : Hp) => vp_in v3 v2n ∧ ∃ b3 : Nat, hR h2 v2 (ix v3) = some b3 ∧ (m_X6_readRules b3 v4 v5 h2 (fun (x4 : Int32) (h5 : Hp) => m_X11_closeText x4 v3 h5 (fun (x6 : Int32) (h7 : Hp) => Q x6 h7))))
set_option maxHeartbeats 4000000 in
set_option maxRecDepth 100000 in
theorem s_X11_tellRules_34 {l : Launch} {G : Cx} {d : Nat} {h0 : Hp} (hd : 20 ≤ d) {Q : Int32 → Hp → Prop} {v1 : Int32} {v2n : Nat} {v2 : Nat} {v3 : Int32} {v4 : Int32} {v5 : Int32} {h : Hp} (hm : m_X11_tellRules_34 Q v1 v2n v2 v3 v4 v5 h) : Rn l G d 2 98 MX11_tellRules h0 (qI Q) 34 [some (tR 11 0 (some 0)), some (tI v1), some (tR 56 v2n (some v2)), some (tI v3), some (tI v4), some (tI v5)] [] h 2 98 := by
  unfold m_X11_tellRules_34 at hm
  refine r_aload_n dX11_tellRules_34 rfl rfl ?_
  refine r_getC (k := 1) cl_11 dX11_tellRules_35 t_347 gf_11_1.1 gf_11_1.2 (gc_11_1 _) ?_
  refine r_iload_n dX11_tellRules_38 rfl rfl ?_
  refine r_callVU (d' := d - 1) (as := [tI v1]) (st := []) cl_10 dX11_tellRules_39 mi_X10_open t_508 t_509 t_510 rfl rfl (Nat.le_of_ble_eq_true rfl) (by omega) ⟨by decide, by decide⟩ ⟨rfl, rfl⟩ (s_X10_open (by omega) hm) (fun h2 hm => ?_)
  refine r_aload_n dX11_tellRules_42 rfl rfl ?_
  refine r_aload_n dX11_tellRules_43 rfl rfl ?_
  refine r_iload_n dX11_tellRules_44 rfl rfl ?_
  obtain ⟨hi_b3, b3, hb_b3, hm⟩ := hm
  refine r_aaldS (kd := 6) (ti := 6) (cn := RX6) dX11_tellRules_45 rfl hi_b3 hb_b3 ?_
  refine r_aload_n dX11_tellRules_46 rfl rfl ?_
  refine r_getC (k := 1) cl_11 dX11_tellRules_47 t_347 gf_11_1.1 gf_11_1.2 (gc_11_1 _) ?_
  refine r_iload dX11_tellRules_50 rfl ?_
  refine r_iload dX11_tellRules_52 rfl ?_
  refine r_callVI (d' := d - 1) (as := [tR 10 0 (some 2), tI v4, tI v5]) (st := [tR 11 0 (some 0)]) cl_6 dX11_tellRules_54 mi_X6_readRules t_782 t_783 t_784 rfl rfl (Nat.le_of_ble_eq_true rfl) (by omega) ⟨by decide, by decide⟩ ⟨rfl, rfl⟩ (s_X6_readRules (by omega) hm) (fun x4 h5 hm => ?_)
  refine r_iload_n dX11_tellRules_57 rfl rfl ?_
  refine r_callVI (d' := d - 1) (as := [tI x4, tI v3]) (st := []) cl_11 dX11_tellRules_58 mi_X11_closeText t_754 t_756 ts_21 rfl rfl (Nat.le_of_ble_eq_true rfl) (by omega) ⟨by decide, by decide⟩ ⟨rfl, rfl⟩ (s_X11_closeText (by omega) hm) (fun x6 h7 hm => ?_)
  exact r_ireturn dX11_tellRules_61 rfl ⟨by decide, by decide⟩ ⟨_, rfl, hm⟩
def m_X11_tellRules (v1 : Int32) (v2 : Nat) (v2n : Nat) (v3 : Int32) (v4 : Int32) (v5 : Int32) (h : Hp) (Q : Int32 → Hp → Prop) : Prop := m_X11_refusalOf v1 v3 (Int32.ofNat v2n) h (fun (x8 : Int32) (h9 : Hp) => (x8 = 0 → vp_in v3 v2n ∧ ((∀ b10 : Nat, (hR h9 v2 (ix v3)) = some b10 → m_X11_tellRules_34 Q v1 v2n v2 v3 v4 v5 h9) ∧ ((hR h9 v2 (ix v3)) = none → ∀ a11 : Nat, a11 = hN h9 → ∀ h12 : Hp, h12 = nw h9 (26, 0) → m_X6_init a11 h12 (fun h14 => hN h ≤ a11 ∧ sealOK h14 a11 6 ∧ ∀ h15 : Hp, h15 = wT h14 a11 (6, 0) → vp_in v3 v2n ∧ (m_X11_tellRules_34 Q v1 v2n v2 v3 v4 v5 (wR h15 v2 (ix v3) (some a11))))))) ∧ (¬ x8 = 0 → Q x8 h9))
set_option maxHeartbeats 4000000 in
set_option maxRecDepth 100000 in
theorem s_X11_tellRules {l : Launch} {G : Cx} {d : Nat} (hd : 20 ≤ d) {v1 : Int32} {v2 : Nat} {v2n : Nat} {v3 : Int32} {v4 : Int32} {v5 : Int32} {h : Hp} {Q : Int32 → Hp → Prop} (hm : m_X11_tellRules v1 v2 v2n v3 v4 v5 h Q) : Ct l G d 2 98 yX11_tellRules MX11_tellRules [tR 11 0 (some 0), tI v1, tR 56 v2n (some v2), tI v3, tI v4, tI v5] h (qI Q) := by
  unfold m_X11_tellRules at hm
  refine Ct.of (L := [some (tR 11 0 (some 0)), some (tI v1), some (tR 56 v2n (some v2)), some (tI v3), some (tI v4), some (tI v5)]) (by decide) rfl rfl (Nat.le_of_ble_eq_true rfl) rfl ?_
  refine r_aload_n dX11_tellRules_0 rfl rfl ?_
  refine r_iload_n dX11_tellRules_1 rfl rfl ?_
  refine r_iload_n dX11_tellRules_2 rfl rfl ?_
  refine r_aload_n dX11_tellRules_3 rfl rfl ?_
  refine r_alen (ti := 6) (ty := .object RX6) dX11_tellRules_4 rfl (by decide) rfl ?_
  refine r_callVI (d' := d - 1) (as := [tI v1, tI v3, tI (Int32.ofNat v2n)]) (st := []) cl_11 dX11_tellRules_5 mi_X11_refusalOf t_427 t_429 ts_0 rfl rfl (Nat.le_of_ble_eq_true rfl) (by omega) ⟨by decide, by decide⟩ ⟨rfl, rfl⟩ (s_X11_refusalOf (by omega) hm) (fun x8 h9 hm => ?_)
  refine r_istore (L' := [some (tR 11 0 (some 0)), some (tI v1), some (tR 56 v2n (some v2)), some (tI v3), some (tI v4), some (tI v5), some (tI x8)]) dX11_tellRules_8 (by decide) rfl ?_
  refine r_iload dX11_tellRules_10 rfl ?_
  refine r_if_eq (tgt := 18) dX11_tellRules_12 rfl (fun hc => ?_) (fun hc => ?_)
  · replace hm := hm.1 hc
    refine r_aload_n dX11_tellRules_18 rfl rfl ?_
    refine r_iload_n dX11_tellRules_19 rfl rfl ?_
    refine r_aald (kd := 6) (ti := 6) (cn := RX6) dX11_tellRules_20 rfl hm.1 ?_
    replace hm := hm.2
    refine r_ifnonnull (tgt := 34) dX11_tellRules_21 rfl (fun hc => ?_) (fun hc => ?_)
    · obtain ⟨b10, hc⟩ := Option.ne_none_iff_exists'.mp hc
      replace hm := hm.1 b10 hc
      refine r_keep (L' := [some (tR 11 0 (some 0)), some (tI v1), some (tR 56 v2n (some v2)), some (tI v3), some (tI v4), some (tI v5)]) [true, true, true, true, true, true] rfl ?_
      refine r_wide (by decide : 0 ≤ 2) (by decide : 0 ≤ 98) ?_
      exact s_X11_tellRules_34 hd hm
    · replace hm := hm.2 hc
      refine r_aload_n dX11_tellRules_24 rfl rfl ?_
      refine r_iload_n dX11_tellRules_25 rfl rfl ?_
      refine r_new cl_6 dX11_tellRules_26 t_112 (N := 2) rfl t_767 t_20 ⟨by decide, by decide⟩ ?_
      refine r_nmA (fun a11 e_a11 h12 e_h12 => ?_)
      replace hm := hm a11 e_a11 h12 e_h12
      refine r_dup dX11_tellRules_29 cv_cat1R ?_
      refine r_callINU (d' := d - 1) (ci := 6) (host := RX11) (as := []) (st := [tR 26 0 (some a11), tI v3, tR 56 v2n (some v2)]) (mc' := 1) (ms' := 96) dX11_tellRules_30 mi_X6_init rfl (by decide) t_769 rfl rfl rfl (Nat.le_of_ble_eq_true rfl) (by omega) ⟨by decide, by decide⟩ ⟨rfl, rfl⟩ (s_X6_init (by omega) hm) (fun h14 hm => ?_)
      obtain ⟨hz, hs, hm⟩ := hm
      refine r_seal (by decide) hz hs (by simp [noK]) (by simp [noK]) ?_
      refine r_nmH (fun h15 e_h15 => ?_)
      replace hm := hm h15 e_h15
      refine r_aast (kd := 6) (ti := 6) cl_6 dX11_tellRules_33 rfl hm.1 ?_
      replace hm := hm.2
      refine r_keep (L' := [some (tR 11 0 (some 0)), some (tI v1), some (tR 56 v2n (some v2)), some (tI v3), some (tI v4), some (tI v5)]) [true, true, true, true, true, true] rfl ?_
      exact s_X11_tellRules_34 hd hm
  · replace hm := hm.2 hc
    refine r_iload dX11_tellRules_15 rfl ?_
    exact r_ireturn dX11_tellRules_17 rfl ⟨by decide, by decide⟩ ⟨_, rfl, hm⟩
theorem dX11_law_0 : decode cX11_law 0 = .ok (.aload_n 0, 1) := rfl
theorem dX11_law_1 : decode cX11_law 1 = .ok (.iload_n 1, 1) := rfl
theorem dX11_law_2 : decode cX11_law 2 = .ok (.aload_n 0, 1) := rfl
theorem dX11_law_3 : decode cX11_law 3 = .ok (.getfield 37, 3) := rfl
theorem dX11_law_6 : decode cX11_law 6 = .ok (.aload_n 0, 1) := rfl
theorem dX11_law_7 : decode cX11_law 7 = .ok (.getfield 139, 3) := rfl
theorem dX11_law_10 : decode cX11_law 10 = .ok (.iconst 0, 1) := rfl
theorem dX11_law_11 : decode cX11_law 11 = .ok (.bipush 16, 2) := by decide +kernel
theorem dX11_law_13 : decode cX11_law 13 = .ok (.invokevirtual 142, 3) := rfl
theorem dX11_law_16 : decode cX11_law 16 = .ok (.istore_n 2, 1) := rfl
theorem dX11_law_17 : decode cX11_law 17 = .ok (.iload_n 2, 1) := rfl
theorem dX11_law_18 : decode cX11_law 18 = .ok (.ifCond .lt 20, 3) := by decide +kernel
theorem dX11_law_21 : decode cX11_law 21 = .ok (.aload_n 0, 1) := rfl
theorem dX11_law_22 : decode cX11_law 22 = .ok (.dup, 1) := rfl
theorem dX11_law_23 : decode cX11_law 23 = .ok (.getfield 139, 3) := rfl
theorem dX11_law_26 : decode cX11_law 26 = .ok (.iconst 1, 1) := rfl
theorem dX11_law_27 : decode cX11_law 27 = .ok (.iadd, 1) := rfl
theorem dX11_law_28 : decode cX11_law 28 = .ok (.putfield 139, 3) := rfl
theorem dX11_law_31 : decode cX11_law 31 = .ok (.aload_n 0, 1) := rfl
theorem dX11_law_32 : decode cX11_law 32 = .ok (.getfield 87, 3) := rfl
theorem dX11_law_35 : decode cX11_law 35 = .ok (.invokevirtual 146, 3) := rfl
theorem dX11_law_38 : decode cX11_law 38 = .ok (.iload_n 2, 1) := rfl
theorem dX11_law_39 : decode cX11_law 39 = .ok (.ireturn, 1) := rfl
def m_X11_law (v1 : Int32) (h : Hp) (Q : Int32 → Hp → Prop) : Prop := m_X11_tellRules v1 9 6 (hI h 0 6) 0 16 h (fun (x1 : Int32) (h2 : Hp) => (x1 < 0 → Q x1 h2) ∧ (¬ x1 < 0 → m_X7_forget (wI h2 0 6 ((hI h2 0 6) + 1)) (fun (h4 : Hp) => Q x1 h4)))
set_option maxHeartbeats 4000000 in
set_option maxRecDepth 100000 in
theorem s_X11_law {l : Launch} {G : Cx} {d : Nat} (hd : 22 ≤ d) {v1 : Int32} {h : Hp} {Q : Int32 → Hp → Prop} (hm : m_X11_law v1 h Q) : Ct l G d 2 98 yX11_law MX11_law [tR 11 0 (some 0), tI v1] h (qI Q) := by
  unfold m_X11_law at hm
  refine Ct.of (L := [some (tR 11 0 (some 0)), some (tI v1)]) (by decide) rfl rfl (Nat.le_of_ble_eq_true rfl) rfl ?_
  refine r_aload_n dX11_law_0 rfl rfl ?_
  refine r_iload_n dX11_law_1 rfl rfl ?_
  refine r_aload_n dX11_law_2 rfl rfl ?_
  refine r_getC (k := 5) cl_11 dX11_law_3 t_351 gf_11_5.1 gf_11_5.2 (gc_11_5 _) ?_
  refine r_aload_n dX11_law_6 rfl rfl ?_
  refine r_getI (k := 6) cl_11 dX11_law_7 t_352 (Or.inl rfl) gf_11_6 ?_
  refine r_iconst (v := 0) dX11_law_10 rfl ?_
  refine r_bipush (v := 16) dX11_law_11 rfl ?_
  refine r_callVI (d' := d - 1) (as := [tI v1, tR 56 6 (some 9), tI (hI h 0 6), tI 0, tI 16]) (st := []) cl_11 dX11_law_13 mi_X11_tellRules t_763 t_765 ts_22 rfl rfl (Nat.le_of_ble_eq_true rfl) (by omega) ⟨by decide, by decide⟩ ⟨rfl, rfl⟩ (s_X11_tellRules (by omega) hm) (fun x1 h2 hm => ?_)
  refine r_istore_n (L' := [some (tR 11 0 (some 0)), some (tI v1), some (tI x1)]) dX11_law_16 rfl (by decide) rfl ?_
  refine r_iload_n dX11_law_17 rfl rfl ?_
  refine r_if_lt (tgt := 38) dX11_law_18 rfl (fun hc => ?_) (fun hc => ?_)
  · replace hm := hm.1 hc
    refine r_iload_n dX11_law_38 rfl rfl ?_
    exact r_ireturn dX11_law_39 rfl ⟨by decide, by decide⟩ ⟨_, rfl, hm⟩
  · replace hm := hm.2 hc
    refine r_aload_n dX11_law_21 rfl rfl ?_
    refine r_dup dX11_law_22 cv_cat1R ?_
    refine r_getI (k := 6) cl_11 dX11_law_23 t_352 (Or.inl rfl) gf_11_6 ?_
    refine r_iconst (v := 1) dX11_law_26 rfl ?_
    refine r_iadd dX11_law_27 ?_
    refine r_putI0 (k := 6) cl_11 dX11_law_28 t_352 (Or.inl rfl) gf_11_6 pf_11_6.1 (Or.inl pf_11_6.2) ?_
    refine r_aload_n dX11_law_31 rfl rfl ?_
    refine r_getC (k := 16) cl_11 dX11_law_32 t_362 gf_11_16.1 gf_11_16.2 (gc_11_16 _) ?_
    refine r_callVU (d' := d - 1) (as := []) (st := []) cl_7 dX11_law_35 mi_X7_forget t_818 t_819 t_820 rfl rfl (Nat.le_of_ble_eq_true rfl) (by omega) ⟨by decide, by decide⟩ ⟨rfl, rfl⟩ (s_X7_forget (by omega) hm) (fun h4 hm => ?_)
    refine r_iload_n dX11_law_38 rfl rfl ?_
    exact r_ireturn dX11_law_39 rfl ⟨by decide, by decide⟩ ⟨_, rfl, hm⟩
theorem dX11_word_0 : decode cX11_word 0 = .ok (.aload_n 0, 1) := rfl
theorem dX11_word_1 : decode cX11_word 1 = .ok (.iload_n 1, 1) := rfl
theorem dX11_word_2 : decode cX11_word 2 = .ok (.aload_n 0, 1) := rfl
theorem dX11_word_3 : decode cX11_word 3 = .ok (.getfield 41, 3) := rfl
theorem dX11_word_6 : decode cX11_word 6 = .ok (.aload_n 0, 1) := rfl
theorem dX11_word_7 : decode cX11_word 7 = .ok (.getfield 149, 3) := rfl
theorem dX11_word_10 : decode cX11_word 10 = .ok (.iconst 1, 1) := rfl
theorem dX11_word_11 : decode cX11_word 11 = .ok (.bipush 12, 2) := by decide +kernel
theorem dX11_word_13 : decode cX11_word 13 = .ok (.invokevirtual 142, 3) := rfl
theorem dX11_word_16 : decode cX11_word 16 = .ok (.istore_n 2, 1) := rfl
theorem dX11_word_17 : decode cX11_word 17 = .ok (.iload_n 2, 1) := rfl
theorem dX11_word_18 : decode cX11_word 18 = .ok (.ifCond .lt 13, 3) := by decide +kernel
theorem dX11_word_21 : decode cX11_word 21 = .ok (.aload_n 0, 1) := rfl
theorem dX11_word_22 : decode cX11_word 22 = .ok (.dup, 1) := rfl
theorem dX11_word_23 : decode cX11_word 23 = .ok (.getfield 149, 3) := rfl
theorem dX11_word_26 : decode cX11_word 26 = .ok (.iconst 1, 1) := rfl
theorem dX11_word_27 : decode cX11_word 27 = .ok (.iadd, 1) := rfl
theorem dX11_word_28 : decode cX11_word 28 = .ok (.putfield 149, 3) := rfl
theorem dX11_word_31 : decode cX11_word 31 = .ok (.iload_n 2, 1) := rfl
theorem dX11_word_32 : decode cX11_word 32 = .ok (.ireturn, 1) := rfl
def m_X11_word (v1 : Int32) (h : Hp) (Q : Int32 → Hp → Prop) : Prop := m_X11_tellRules v1 10 12 (hI h 0 8) 1 12 h (fun (x1 : Int32) (h2 : Hp) => (x1 < 0 → Q x1 h2) ∧ (¬ x1 < 0 → Q x1 (wI h2 0 8 ((hI h2 0 8) + 1))))
set_option maxHeartbeats 4000000 in
set_option maxRecDepth 100000 in
theorem s_X11_word {l : Launch} {G : Cx} {d : Nat} (hd : 22 ≤ d) {v1 : Int32} {h : Hp} {Q : Int32 → Hp → Prop} (hm : m_X11_word v1 h Q) : Ct l G d 2 98 yX11_word MX11_word [tR 11 0 (some 0), tI v1] h (qI Q) := by
  unfold m_X11_word at hm
  refine Ct.of (L := [some (tR 11 0 (some 0)), some (tI v1)]) (by decide) rfl rfl (Nat.le_of_ble_eq_true rfl) rfl ?_
  refine r_aload_n dX11_word_0 rfl rfl ?_
  refine r_iload_n dX11_word_1 rfl rfl ?_
  refine r_aload_n dX11_word_2 rfl rfl ?_
  refine r_getC (k := 7) cl_11 dX11_word_3 t_353 gf_11_7.1 gf_11_7.2 (gc_11_7 _) ?_
  refine r_aload_n dX11_word_6 rfl rfl ?_
  refine r_getI (k := 8) cl_11 dX11_word_7 t_354 (Or.inl rfl) gf_11_8 ?_
  refine r_iconst (v := 1) dX11_word_10 rfl ?_
  refine r_bipush (v := 12) dX11_word_11 rfl ?_
  refine r_callVI (d' := d - 1) (as := [tI v1, tR 56 12 (some 10), tI (hI h 0 8), tI 1, tI 12]) (st := []) cl_11 dX11_word_13 mi_X11_tellRules t_763 t_765 ts_22 rfl rfl (Nat.le_of_ble_eq_true rfl) (by omega) ⟨by decide, by decide⟩ ⟨rfl, rfl⟩ (s_X11_tellRules (by omega) hm) (fun x1 h2 hm => ?_)
  refine r_istore_n (L' := [some (tR 11 0 (some 0)), some (tI v1), some (tI x1)]) dX11_word_16 rfl (by decide) rfl ?_
  refine r_iload_n dX11_word_17 rfl rfl ?_
  refine r_if_lt (tgt := 31) dX11_word_18 rfl (fun hc => ?_) (fun hc => ?_)
  · replace hm := hm.1 hc
    refine r_iload_n dX11_word_31 rfl rfl ?_
    exact r_ireturn dX11_word_32 rfl ⟨by decide, by decide⟩ ⟨_, rfl, hm⟩
  · replace hm := hm.2 hc
    refine r_aload_n dX11_word_21 rfl rfl ?_
    refine r_dup dX11_word_22 cv_cat1R ?_
    refine r_getI (k := 8) cl_11 dX11_word_23 t_354 (Or.inl rfl) gf_11_8 ?_
    refine r_iconst (v := 1) dX11_word_26 rfl ?_
    refine r_iadd dX11_word_27 ?_
    refine r_putI0 (k := 8) cl_11 dX11_word_28 t_354 (Or.inl rfl) gf_11_8 pf_11_8.1 (Or.inl pf_11_8.2) ?_
    refine r_iload_n dX11_word_31 rfl rfl ?_
    exact r_ireturn dX11_word_32 rfl ⟨by decide, by decide⟩ ⟨_, rfl, hm⟩
theorem dX11_fault_0 : decode cX11_fault 0 = .ok (.aload_n 0, 1) := rfl
theorem dX11_fault_1 : decode cX11_fault 1 = .ok (.getfield 44, 3) := rfl
theorem dX11_fault_4 : decode cX11_fault 4 = .ok (.ireturn, 1) := rfl
def m_X11_fault  (h : Hp) (Q : Int32 → Hp → Prop) : Prop := Q (hI h 0 9) h
set_option maxHeartbeats 4000000 in
set_option maxRecDepth 100000 in
theorem s_X11_fault {l : Launch} {G : Cx} {d : Nat} (hd : 2 ≤ d) {h : Hp} {Q : Int32 → Hp → Prop} (hm : m_X11_fault h Q) : Ct l G d 0 0 yX11_fault MX11_fault [tR 11 0 (some 0)] h (qI Q) := by
  unfold m_X11_fault at hm
  refine Ct.of (L := [some (tR 11 0 (some 0))]) (by decide) rfl rfl (Nat.le_of_ble_eq_true rfl) rfl ?_
  refine r_aload_n dX11_fault_0 rfl rfl ?_
  refine r_getI (k := 9) cl_11 dX11_fault_1 t_355 (Or.inl rfl) gf_11_9 ?_
  exact r_ireturn dX11_fault_4 rfl ⟨by decide, by decide⟩ ⟨_, rfl, hm⟩
theorem dX11_size_0 : decode cX11_size 0 = .ok (.iload_n 1, 1) := by decide +kernel
theorem dX11_size_1 : decode cX11_size 1 = .ok (.aload_n 0, 1) := by decide +kernel
theorem dX11_size_2 : decode cX11_size 2 = .ok (.getfield 116, 3) := by decide +kernel
theorem dX11_size_5 : decode cX11_size 5 = .ok (.invokestatic 98, 3) := by decide +kernel
theorem dX11_size_8 : decode cX11_size 8 = .ok (.ifCond .ne 5, 3) := by decide +kernel
theorem dX11_size_11 : decode cX11_size 11 = .ok (.iconst (-1), 1) := by decide +kernel
theorem dX11_size_12 : decode cX11_size 12 = .ok (.ireturn, 1) := by decide +kernel
theorem dX11_size_13 : decode cX11_size 13 = .ok (.aload_n 0, 1) := by decide +kernel
theorem dX11_size_14 : decode cX11_size 14 = .ok (.getfield 31, 3) := by decide +kernel
theorem dX11_size_17 : decode cX11_size 17 = .ok (.iload_n 1, 1) := by decide +kernel
theorem dX11_size_18 : decode cX11_size 18 = .ok (.aaload, 1) := by decide +kernel
theorem dX11_size_19 : decode cX11_size 19 = .ok (.astore_n 3, 1) := by decide +kernel
theorem dX11_size_20 : decode cX11_size 20 = .ok (.iload_n 2, 1) := by decide +kernel
theorem dX11_size_21 : decode cX11_size 21 = .ok (.tableswitch 73 0 5 #[39, 44, 49, 54, 59, 68], 39) := by decide +kernel
theorem dX11_size_60 : decode cX11_size 60 = .ok (.aload_n 3, 1) := by decide +kernel
theorem dX11_size_61 : decode cX11_size 61 = .ok (.getfield 152, 3) := by decide +kernel
theorem dX11_size_64 : decode cX11_size 64 = .ok (.ireturn, 1) := by decide +kernel
theorem dX11_size_65 : decode cX11_size 65 = .ok (.aload_n 3, 1) := by decide +kernel
theorem dX11_size_66 : decode cX11_size 66 = .ok (.getfield 155, 3) := by decide +kernel
theorem dX11_size_69 : decode cX11_size 69 = .ok (.ireturn, 1) := by decide +kernel
theorem dX11_size_70 : decode cX11_size 70 = .ok (.aload_n 3, 1) := by decide +kernel
theorem dX11_size_71 : decode cX11_size 71 = .ok (.getfield 158, 3) := by decide +kernel
theorem dX11_size_74 : decode cX11_size 74 = .ok (.ireturn, 1) := by decide +kernel
theorem dX11_size_75 : decode cX11_size 75 = .ok (.aload_n 3, 1) := by decide +kernel
theorem dX11_size_76 : decode cX11_size 76 = .ok (.getfield 132, 3) := by decide +kernel
theorem dX11_size_79 : decode cX11_size 79 = .ok (.ireturn, 1) := by decide +kernel
theorem dX11_size_80 : decode cX11_size 80 = .ok (.aload_n 3, 1) := by decide +kernel
theorem dX11_size_81 : decode cX11_size 81 = .ok (.aload_n 0, 1) := by decide +kernel
theorem dX11_size_82 : decode cX11_size 82 = .ok (.getfield 9, 3) := by decide +kernel
theorem dX11_size_85 : decode cX11_size 85 = .ok (.invokevirtual 161, 3) := by decide +kernel
theorem dX11_size_88 : decode cX11_size 88 = .ok (.ireturn, 1) := by decide +kernel
theorem dX11_size_89 : decode cX11_size 89 = .ok (.aload_n 3, 1) := by decide +kernel
theorem dX11_size_90 : decode cX11_size 90 = .ok (.getfield 165, 3) := by decide +kernel
theorem dX11_size_93 : decode cX11_size 93 = .ok (.ireturn, 1) := by decide +kernel
theorem dX11_size_94 : decode cX11_size 94 = .ok (.iconst (-1), 1) := by decide +kernel
theorem dX11_size_95 : decode cX11_size 95 = .ok (.ireturn, 1) := by decide +kernel
def m_X11_size (v1 : Int32) (v2 : Int32) (h : Hp) (Q : Int32 → Hp → Prop) : Prop := m_X11_isWithin v1 (hI h 0 4) h (fun (x1 : Int32) (h2 : Hp) => (¬ x1 = 0 → vp_in v1 24 ∧ ∃ b3 : Nat, hR h2 8 (ix v1) = some b3 ∧ ((v2 = 0 → Q (hI h2 b3 2) h2) ∧ (¬ v2 = 0 → (v2 = 1 → Q (hI h2 b3 3) h2) ∧ (¬ v2 = 1 → (v2 = 2 → Q (hI h2 b3 4) h2) ∧ (¬ v2 = 2 → (v2 = 3 → Q (hI h2 b3 1) h2) ∧ (¬ v2 = 3 → (v2 = 4 → m_X1_familiesIn b3 1 8 h2 (fun (x4 : Int32) (h5 : Hp) => Q x4 h5)) ∧ (¬ v2 = 4 → (v2 = 5 → Q (hI h2 b3 5) h2) ∧ (¬ v2 = 5 → Q (-1) h2)))))))) ∧ (x1 = 0 → Q (-1) h2))
set_option maxHeartbeats 4000000 in
set_option maxRecDepth 100000 in
theorem s_X11_size {l : Launch} {G : Cx} {d : Nat} (hd : 4 ≤ d) {v1 : Int32} {v2 : Int32} {h : Hp} {Q : Int32 → Hp → Prop} (hm : m_X11_size v1 v2 h Q) : Ct l G d 0 0 yX11_size MX11_size [tR 11 0 (some 0), tI v1, tI v2] h (qI Q) := by
  unfold m_X11_size at hm
  refine Ct.of (L := [some (tR 11 0 (some 0)), some (tI v1), some (tI v2)]) (by decide) rfl rfl (Nat.le_of_ble_eq_true rfl) rfl ?_
  refine r_iload_n dX11_size_0 rfl rfl ?_
  refine r_aload_n dX11_size_1 rfl rfl ?_
  refine r_getI (k := 4) cl_11 dX11_size_2 t_350 (Or.inl rfl) gf_11_4 ?_
  refine r_callSI (d' := d - 1) (as := [tI v1, tI (hI h 0 4)]) (st := []) dX11_size_5 mi_X11_isWithin t_405 t_406 rfl rfl (Nat.le_of_ble_eq_true rfl) (by omega) ⟨by decide, by decide⟩ ⟨rfl, rfl⟩ (s_X11_isWithin (by omega) hm) (fun x1 h2 hm => ?_)
  refine r_if_ne (tgt := 13) dX11_size_8 rfl (fun hc => ?_) (fun hc => ?_)
  · replace hm := hm.1 hc
    refine r_aload_n dX11_size_13 rfl rfl ?_
    refine r_getC (k := 3) cl_11 dX11_size_14 t_349 gf_11_3.1 gf_11_3.2 (gc_11_3 _) ?_
    refine r_iload_n dX11_size_17 rfl rfl ?_
    obtain ⟨hi_b3, b3, hb_b3, hm⟩ := hm
    refine r_aaldS (kd := 1) (ti := 5) (cn := RX1) dX11_size_18 rfl hi_b3 hb_b3 ?_
    refine r_astore_n (L' := [some (tR 11 0 (some 0)), some (tI v1), some (tI v2), some (tR 1 0 (some b3))]) dX11_size_19 rfl (by decide) rfl ?_
    refine r_iload_n dX11_size_20 rfl rfl ?_
    by_cases hc0 : v2 = 0
    · refine r_tableIn (tgt := 60) (off := 39) dX11_size_21 (by rw [hc0]; decide) (by rw [hc0]; decide) (by rw [hc0]; rfl) rfl ?_
      replace hm := hm.1 hc0
      refine r_aload_n dX11_size_60 rfl rfl ?_
      refine r_getI (k := 2) cl_1 dX11_size_61 t_445 (Or.inl rfl) gf_1_2 ?_
      exact r_ireturn dX11_size_64 rfl ⟨by decide, by decide⟩ ⟨_, rfl, hm⟩
    replace hm := hm.2 hc0
    by_cases hc1 : v2 = 1
    · refine r_tableIn (tgt := 65) (off := 44) dX11_size_21 (by rw [hc1]; decide) (by rw [hc1]; decide) (by rw [hc1]; rfl) rfl ?_
      replace hm := hm.1 hc1
      refine r_aload_n dX11_size_65 rfl rfl ?_
      refine r_getI (k := 3) cl_1 dX11_size_66 t_450 (Or.inl rfl) gf_1_3 ?_
      exact r_ireturn dX11_size_69 rfl ⟨by decide, by decide⟩ ⟨_, rfl, hm⟩
    replace hm := hm.2 hc1
    by_cases hc2 : v2 = 2
    · refine r_tableIn (tgt := 70) (off := 49) dX11_size_21 (by rw [hc2]; decide) (by rw [hc2]; decide) (by rw [hc2]; rfl) rfl ?_
      replace hm := hm.1 hc2
      refine r_aload_n dX11_size_70 rfl rfl ?_
      refine r_getI (k := 4) cl_1 dX11_size_71 t_455 (Or.inl rfl) gf_1_4 ?_
      exact r_ireturn dX11_size_74 rfl ⟨by decide, by decide⟩ ⟨_, rfl, hm⟩
    replace hm := hm.2 hc2
    by_cases hc3 : v2 = 3
    · refine r_tableIn (tgt := 75) (off := 54) dX11_size_21 (by rw [hc3]; decide) (by rw [hc3]; decide) (by rw [hc3]; rfl) rfl ?_
      replace hm := hm.1 hc3
      refine r_aload_n dX11_size_75 rfl rfl ?_
      refine r_getI (k := 1) cl_1 dX11_size_76 t_439 (Or.inl rfl) gf_1_1 ?_
      exact r_ireturn dX11_size_79 rfl ⟨by decide, by decide⟩ ⟨_, rfl, hm⟩
    replace hm := hm.2 hc3
    by_cases hc4 : v2 = 4
    · refine r_tableIn (tgt := 80) (off := 59) dX11_size_21 (by rw [hc4]; decide) (by rw [hc4]; decide) (by rw [hc4]; rfl) rfl ?_
      replace hm := hm.1 hc4
      refine r_aload_n dX11_size_80 rfl rfl ?_
      refine r_aload_n dX11_size_81 rfl rfl ?_
      refine r_getC (k := 0) cl_11 dX11_size_82 t_346 gf_11_0.1 gf_11_0.2 (gc_11_0 _) ?_
      refine r_callVI (d' := d - 1) (as := [tR 40 8 (some 1)]) (st := []) cl_1 dX11_size_85 mi_X1_familiesIn t_834 t_835 t_836 rfl rfl (Nat.le_of_ble_eq_true rfl) (by omega) ⟨by decide, by decide⟩ ⟨rfl, rfl⟩ (s_X1_familiesIn (by omega) hm) (fun x4 h5 hm => ?_)
      exact r_ireturn dX11_size_88 rfl ⟨by decide, by decide⟩ ⟨_, rfl, hm⟩
    replace hm := hm.2 hc4
    by_cases hc5 : v2 = 5
    · refine r_tableIn (tgt := 89) (off := 68) dX11_size_21 (by rw [hc5]; decide) (by rw [hc5]; decide) (by rw [hc5]; rfl) rfl ?_
      replace hm := hm.1 hc5
      refine r_aload_n dX11_size_89 rfl rfl ?_
      refine r_getI (k := 5) cl_1 dX11_size_90 t_459 (Or.inl rfl) gf_1_5 ?_
      exact r_ireturn dX11_size_93 rfl ⟨by decide, by decide⟩ ⟨_, rfl, hm⟩
    replace hm := hm.2 hc5
    refine r_tableOut (tgt := 94) dX11_size_21 (sw_out (n := 6) (fun k hk => by rcases (show k = 0 ∨ k = 1 ∨ k = 2 ∨ k = 3 ∨ k = 4 ∨ k = 5 by omega) with rfl | rfl | rfl | rfl | rfl | rfl <;> first | exact hc0 | exact hc1 | exact hc2 | exact hc3 | exact hc4 | exact hc5)) rfl ?_
    refine r_iconst (v := (-1)) dX11_size_94 rfl ?_
    exact r_ireturn dX11_size_95 rfl ⟨by decide, by decide⟩ ⟨_, rfl, hm⟩
  · replace hm := hm.2 hc
    refine r_iconst (v := (-1)) dX11_size_11 rfl ?_
    exact r_ireturn dX11_size_12 rfl ⟨by decide, by decide⟩ ⟨_, rfl, hm⟩
theorem dX11_leaf_0 : decode cX11_leaf 0 = .ok (.iload_n 1, 1) := rfl
theorem dX11_leaf_1 : decode cX11_leaf 1 = .ok (.aload_n 0, 1) := rfl
theorem dX11_leaf_2 : decode cX11_leaf 2 = .ok (.getfield 116, 3) := rfl
theorem dX11_leaf_5 : decode cX11_leaf 5 = .ok (.invokestatic 98, 3) := rfl
theorem dX11_leaf_8 : decode cX11_leaf 8 = .ok (.ifCond .eq 12, 3) := by decide +kernel
theorem dX11_leaf_11 : decode cX11_leaf 11 = .ok (.iload_n 3, 1) := rfl
theorem dX11_leaf_12 : decode cX11_leaf 12 = .ok (.bipush 8, 2) := by decide +kernel
theorem dX11_leaf_14 : decode cX11_leaf 14 = .ok (.invokestatic 98, 3) := rfl
theorem dX11_leaf_17 : decode cX11_leaf 17 = .ok (.ifCond .ne 5, 3) := by decide +kernel
theorem dX11_leaf_20 : decode cX11_leaf 20 = .ok (.iconst (-1), 1) := rfl
theorem dX11_leaf_21 : decode cX11_leaf 21 = .ok (.ireturn, 1) := rfl
theorem dX11_leaf_22 : decode cX11_leaf 22 = .ok (.aload_n 0, 1) := rfl
theorem dX11_leaf_23 : decode cX11_leaf 23 = .ok (.getfield 31, 3) := rfl
theorem dX11_leaf_26 : decode cX11_leaf 26 = .ok (.iload_n 1, 1) := rfl
theorem dX11_leaf_27 : decode cX11_leaf 27 = .ok (.aaload, 1) := rfl
theorem dX11_leaf_28 : decode cX11_leaf 28 = .ok (.astore 4, 2) := rfl
theorem dX11_leaf_30 : decode cX11_leaf 30 = .ok (.iload_n 2, 1) := rfl
theorem dX11_leaf_31 : decode cX11_leaf 31 = .ok (.aload 4, 2) := rfl
theorem dX11_leaf_33 : decode cX11_leaf 33 = .ok (.getfield 152, 3) := rfl
theorem dX11_leaf_36 : decode cX11_leaf 36 = .ok (.invokestatic 98, 3) := rfl
theorem dX11_leaf_39 : decode cX11_leaf 39 = .ok (.ifCond .eq 18, 3) := by decide +kernel
theorem dX11_leaf_42 : decode cX11_leaf 42 = .ok (.aload 4, 2) := rfl
theorem dX11_leaf_44 : decode cX11_leaf 44 = .ok (.getfield 168, 3) := rfl
theorem dX11_leaf_47 : decode cX11_leaf 47 = .ok (.iload_n 2, 1) := rfl
theorem dX11_leaf_48 : decode cX11_leaf 48 = .ok (.bipush 8, 2) := by decide +kernel
theorem dX11_leaf_50 : decode cX11_leaf 50 = .ok (.imul, 1) := rfl
theorem dX11_leaf_51 : decode cX11_leaf 51 = .ok (.iload_n 3, 1) := rfl
theorem dX11_leaf_52 : decode cX11_leaf 52 = .ok (.iadd, 1) := rfl
theorem dX11_leaf_53 : decode cX11_leaf 53 = .ok (.iaload, 1) := rfl
theorem dX11_leaf_54 : decode cX11_leaf 54 = .ok (.goto 4, 3) := by decide +kernel
theorem dX11_leaf_57 : decode cX11_leaf 57 = .ok (.iconst (-1), 1) := rfl
theorem dX11_leaf_58 : decode cX11_leaf 58 = .ok (.ireturn, 1) := rfl
def m_X11_leaf (v1 : Int32) (v2 : Int32) (v3 : Int32) (h : Hp) (Q : Int32 → Hp → Prop) : Prop := m_X11_isWithin v1 (hI h 0 4) h (fun (x1 : Int32) (h2 : Hp) => (x1 = 0 → Q (-1) h2) ∧ (¬ x1 = 0 → m_X11_isWithin v3 8 h2 (fun (x3 : Int32) (h4 : Hp) => (¬ x3 = 0 → vp_in v1 24 ∧ ∃ b5 : Nat, hR h4 8 (ix v1) = some b5 ∧ (m_X11_isWithin v2 (hI h4 b5 2) h4 (fun (x6 : Int32) (h7 : Hp) => (x6 = 0 → Q (-1) h7) ∧ (¬ x6 = 0 → vp_in ((v2 * 8) + v3) 96 ∧ (Q (hI h7 (b5 + 1) (ix ((v2 * 8) + v3))) h7))))) ∧ (x3 = 0 → Q (-1) h4))))
set_option maxHeartbeats 4000000 in
set_option maxRecDepth 100000 in
theorem s_X11_leaf {l : Launch} {G : Cx} {d : Nat} (hd : 4 ≤ d) {v1 : Int32} {v2 : Int32} {v3 : Int32} {h : Hp} {Q : Int32 → Hp → Prop} (hm : m_X11_leaf v1 v2 v3 h Q) : Ct l G d 0 0 yX11_leaf MX11_leaf [tR 11 0 (some 0), tI v1, tI v2, tI v3] h (qI Q) := by
  unfold m_X11_leaf at hm
  refine Ct.of (L := [some (tR 11 0 (some 0)), some (tI v1), some (tI v2), some (tI v3)]) (by decide) rfl rfl (Nat.le_of_ble_eq_true rfl) rfl ?_
  refine r_iload_n dX11_leaf_0 rfl rfl ?_
  refine r_aload_n dX11_leaf_1 rfl rfl ?_
  refine r_getI (k := 4) cl_11 dX11_leaf_2 t_350 (Or.inl rfl) gf_11_4 ?_
  refine r_callSI (d' := d - 1) (as := [tI v1, tI (hI h 0 4)]) (st := []) dX11_leaf_5 mi_X11_isWithin t_405 t_406 rfl rfl (Nat.le_of_ble_eq_true rfl) (by omega) ⟨by decide, by decide⟩ ⟨rfl, rfl⟩ (s_X11_isWithin (by omega) hm) (fun x1 h2 hm => ?_)
  refine r_if_eq (tgt := 20) dX11_leaf_8 rfl (fun hc => ?_) (fun hc => ?_)
  · replace hm := hm.1 hc
    refine r_iconst (v := (-1)) dX11_leaf_20 rfl ?_
    exact r_ireturn dX11_leaf_21 rfl ⟨by decide, by decide⟩ ⟨_, rfl, hm⟩
  · replace hm := hm.2 hc
    refine r_iload_n dX11_leaf_11 rfl rfl ?_
    refine r_bipush (v := 8) dX11_leaf_12 rfl ?_
    refine r_callSI (d' := d - 1) (as := [tI v3, tI 8]) (st := []) dX11_leaf_14 mi_X11_isWithin t_405 t_406 rfl rfl (Nat.le_of_ble_eq_true rfl) (by omega) ⟨by decide, by decide⟩ ⟨rfl, rfl⟩ (s_X11_isWithin (by omega) hm) (fun x3 h4 hm => ?_)
    refine r_if_ne (tgt := 22) dX11_leaf_17 rfl (fun hc => ?_) (fun hc => ?_)
    · replace hm := hm.1 hc
      refine r_aload_n dX11_leaf_22 rfl rfl ?_
      refine r_getC (k := 3) cl_11 dX11_leaf_23 t_349 gf_11_3.1 gf_11_3.2 (gc_11_3 _) ?_
      refine r_iload_n dX11_leaf_26 rfl rfl ?_
      obtain ⟨hi_b5, b5, hb_b5, hm⟩ := hm
      refine r_aaldS (kd := 1) (ti := 5) (cn := RX1) dX11_leaf_27 rfl hi_b5 hb_b5 ?_
      refine r_astore (L' := [some (tR 11 0 (some 0)), some (tI v1), some (tI v2), some (tI v3), some (tR 1 0 (some b5))]) dX11_leaf_28 (by decide) rfl ?_
      refine r_iload_n dX11_leaf_30 rfl rfl ?_
      refine r_aload dX11_leaf_31 rfl ?_
      refine r_getI (k := 2) cl_1 dX11_leaf_33 t_445 (Or.inl rfl) gf_1_2 ?_
      refine r_callSI (d' := d - 1) (as := [tI v2, tI (hI h4 b5 2)]) (st := []) dX11_leaf_36 mi_X11_isWithin t_405 t_406 rfl rfl (Nat.le_of_ble_eq_true rfl) (by omega) ⟨by decide, by decide⟩ ⟨rfl, rfl⟩ (s_X11_isWithin (by omega) hm) (fun x6 h7 hm => ?_)
      refine r_if_eq (tgt := 57) dX11_leaf_39 rfl (fun hc => ?_) (fun hc => ?_)
      · replace hm := hm.1 hc
        refine r_iconst (v := (-1)) dX11_leaf_57 rfl ?_
        exact r_ireturn dX11_leaf_58 rfl ⟨by decide, by decide⟩ ⟨_, rfl, hm⟩
      · replace hm := hm.2 hc
        refine r_aload dX11_leaf_42 rfl ?_
        refine r_getC (k := 9) cl_1 dX11_leaf_44 t_470 gf_1_9.1 gf_1_9.2 (gc_1_9 _) ?_
        refine r_iload_n dX11_leaf_47 rfl rfl ?_
        refine r_bipush (v := 8) dX11_leaf_48 rfl ?_
        refine r_imul dX11_leaf_50 ?_
        refine r_iload_n dX11_leaf_51 rfl rfl ?_
        refine r_iadd dX11_leaf_52 ?_
        refine r_iald dX11_leaf_53 hm.1 ?_
        replace hm := hm.2
        refine r_goto (tgt := 58) dX11_leaf_54 rfl ?_
        exact r_ireturn dX11_leaf_58 rfl ⟨by decide, by decide⟩ ⟨_, rfl, hm⟩
    · replace hm := hm.2 hc
      refine r_iconst (v := (-1)) dX11_leaf_20 rfl ?_
      exact r_ireturn dX11_leaf_21 rfl ⟨by decide, by decide⟩ ⟨_, rfl, hm⟩
theorem dX11_plain_0 : decode cX11_plain 0 = .ok (.iload_n 1, 1) := rfl
theorem dX11_plain_1 : decode cX11_plain 1 = .ok (.aload_n 0, 1) := rfl
theorem dX11_plain_2 : decode cX11_plain 2 = .ok (.getfield 116, 3) := rfl
theorem dX11_plain_5 : decode cX11_plain 5 = .ok (.invokestatic 98, 3) := rfl
theorem dX11_plain_8 : decode cX11_plain 8 = .ok (.ifCond .eq 11, 3) := by decide +kernel
theorem dX11_plain_11 : decode cX11_plain 11 = .ok (.iload_n 2, 1) := rfl
theorem dX11_plain_12 : decode cX11_plain 12 = .ok (.iconst 2, 1) := rfl
theorem dX11_plain_13 : decode cX11_plain 13 = .ok (.invokestatic 98, 3) := rfl
theorem dX11_plain_16 : decode cX11_plain 16 = .ok (.ifCond .ne 5, 3) := by decide +kernel
theorem dX11_plain_19 : decode cX11_plain 19 = .ok (.iconst (-1), 1) := rfl
theorem dX11_plain_20 : decode cX11_plain 20 = .ok (.ireturn, 1) := rfl
theorem dX11_plain_21 : decode cX11_plain 21 = .ok (.iload_n 2, 1) := rfl
theorem dX11_plain_22 : decode cX11_plain 22 = .ok (.ifCond .ne 15, 3) := by decide +kernel
theorem dX11_plain_25 : decode cX11_plain 25 = .ok (.aload_n 0, 1) := rfl
theorem dX11_plain_26 : decode cX11_plain 26 = .ok (.getfield 31, 3) := rfl
theorem dX11_plain_29 : decode cX11_plain 29 = .ok (.iload_n 1, 1) := rfl
theorem dX11_plain_30 : decode cX11_plain 30 = .ok (.aaload, 1) := rfl
theorem dX11_plain_31 : decode cX11_plain 31 = .ok (.getfield 171, 3) := rfl
theorem dX11_plain_34 : decode cX11_plain 34 = .ok (.goto 12, 3) := by decide +kernel
theorem dX11_plain_37 : decode cX11_plain 37 = .ok (.aload_n 0, 1) := rfl
theorem dX11_plain_38 : decode cX11_plain 38 = .ok (.getfield 31, 3) := rfl
theorem dX11_plain_41 : decode cX11_plain 41 = .ok (.iload_n 1, 1) := rfl
theorem dX11_plain_42 : decode cX11_plain 42 = .ok (.aaload, 1) := rfl
theorem dX11_plain_43 : decode cX11_plain 43 = .ok (.getfield 174, 3) := rfl
theorem dX11_plain_46 : decode cX11_plain 46 = .ok (.ireturn, 1) := rfl
def m_X11_plain (v1 : Int32) (v2 : Int32) (h : Hp) (Q : Int32 → Hp → Prop) : Prop := m_X11_isWithin v1 (hI h 0 4) h (fun (x1 : Int32) (h2 : Hp) => (x1 = 0 → Q (-1) h2) ∧ (¬ x1 = 0 → m_X11_isWithin v2 2 h2 (fun (x3 : Int32) (h4 : Hp) => (¬ x3 = 0 → (¬ v2 = 0 → vp_in v1 24 ∧ ∃ b5 : Nat, hR h4 8 (ix v1) = some b5 ∧ (Q (hI h4 b5 8) h4)) ∧ (v2 = 0 → vp_in v1 24 ∧ ∃ b6 : Nat, hR h4 8 (ix v1) = some b6 ∧ (Q (hI h4 b6 7) h4))) ∧ (x3 = 0 → Q (-1) h4))))
set_option maxHeartbeats 4000000 in
set_option maxRecDepth 100000 in
theorem s_X11_plain {l : Launch} {G : Cx} {d : Nat} (hd : 4 ≤ d) {v1 : Int32} {v2 : Int32} {h : Hp} {Q : Int32 → Hp → Prop} (hm : m_X11_plain v1 v2 h Q) : Ct l G d 0 0 yX11_plain MX11_plain [tR 11 0 (some 0), tI v1, tI v2] h (qI Q) := by
  unfold m_X11_plain at hm
  refine Ct.of (L := [some (tR 11 0 (some 0)), some (tI v1), some (tI v2)]) (by decide) rfl rfl (Nat.le_of_ble_eq_true rfl) rfl ?_
  refine r_iload_n dX11_plain_0 rfl rfl ?_
  refine r_aload_n dX11_plain_1 rfl rfl ?_
  refine r_getI (k := 4) cl_11 dX11_plain_2 t_350 (Or.inl rfl) gf_11_4 ?_
  refine r_callSI (d' := d - 1) (as := [tI v1, tI (hI h 0 4)]) (st := []) dX11_plain_5 mi_X11_isWithin t_405 t_406 rfl rfl (Nat.le_of_ble_eq_true rfl) (by omega) ⟨by decide, by decide⟩ ⟨rfl, rfl⟩ (s_X11_isWithin (by omega) hm) (fun x1 h2 hm => ?_)
  refine r_if_eq (tgt := 19) dX11_plain_8 rfl (fun hc => ?_) (fun hc => ?_)
  · replace hm := hm.1 hc
    refine r_iconst (v := (-1)) dX11_plain_19 rfl ?_
    exact r_ireturn dX11_plain_20 rfl ⟨by decide, by decide⟩ ⟨_, rfl, hm⟩
  · replace hm := hm.2 hc
    refine r_iload_n dX11_plain_11 rfl rfl ?_
    refine r_iconst (v := 2) dX11_plain_12 rfl ?_
    refine r_callSI (d' := d - 1) (as := [tI v2, tI 2]) (st := []) dX11_plain_13 mi_X11_isWithin t_405 t_406 rfl rfl (Nat.le_of_ble_eq_true rfl) (by omega) ⟨by decide, by decide⟩ ⟨rfl, rfl⟩ (s_X11_isWithin (by omega) hm) (fun x3 h4 hm => ?_)
    refine r_if_ne (tgt := 21) dX11_plain_16 rfl (fun hc => ?_) (fun hc => ?_)
    · replace hm := hm.1 hc
      refine r_iload_n dX11_plain_21 rfl rfl ?_
      refine r_if_ne (tgt := 37) dX11_plain_22 rfl (fun hc => ?_) (fun hc => ?_)
      · replace hm := hm.1 hc
        refine r_aload_n dX11_plain_37 rfl rfl ?_
        refine r_getC (k := 3) cl_11 dX11_plain_38 t_349 gf_11_3.1 gf_11_3.2 (gc_11_3 _) ?_
        refine r_iload_n dX11_plain_41 rfl rfl ?_
        obtain ⟨hi_b5, b5, hb_b5, hm⟩ := hm
        refine r_aaldS (kd := 1) (ti := 5) (cn := RX1) dX11_plain_42 rfl hi_b5 hb_b5 ?_
        refine r_getI (k := 8) cl_1 dX11_plain_43 t_467 (Or.inl rfl) gf_1_8 ?_
        exact r_ireturn dX11_plain_46 rfl ⟨by decide, by decide⟩ ⟨_, rfl, hm⟩
      · replace hm := hm.2 hc
        refine r_aload_n dX11_plain_25 rfl rfl ?_
        refine r_getC (k := 3) cl_11 dX11_plain_26 t_349 gf_11_3.1 gf_11_3.2 (gc_11_3 _) ?_
        refine r_iload_n dX11_plain_29 rfl rfl ?_
        obtain ⟨hi_b6, b6, hb_b6, hm⟩ := hm
        refine r_aaldS (kd := 1) (ti := 5) (cn := RX1) dX11_plain_30 rfl hi_b6 hb_b6 ?_
        refine r_getI (k := 7) cl_1 dX11_plain_31 t_465 (Or.inl rfl) gf_1_7 ?_
        refine r_goto (tgt := 46) dX11_plain_34 rfl ?_
        exact r_ireturn dX11_plain_46 rfl ⟨by decide, by decide⟩ ⟨_, rfl, hm⟩
    · replace hm := hm.2 hc
      refine r_iconst (v := (-1)) dX11_plain_19 rfl ?_
      exact r_ireturn dX11_plain_20 rfl ⟨by decide, by decide⟩ ⟨_, rfl, hm⟩
theorem dX11_same_0 : decode cX11_same 0 = .ok (.iload_n 1, 1) := rfl
theorem dX11_same_1 : decode cX11_same 1 = .ok (.aload_n 0, 1) := rfl
theorem dX11_same_2 : decode cX11_same 2 = .ok (.getfield 116, 3) := rfl
theorem dX11_same_5 : decode cX11_same 5 = .ok (.invokestatic 98, 3) := rfl
theorem dX11_same_8 : decode cX11_same 8 = .ok (.ifCond .eq 14, 3) := by decide +kernel
theorem dX11_same_11 : decode cX11_same 11 = .ok (.iload_n 2, 1) := rfl
theorem dX11_same_12 : decode cX11_same 12 = .ok (.aload_n 0, 1) := rfl
theorem dX11_same_13 : decode cX11_same 13 = .ok (.getfield 116, 3) := rfl
theorem dX11_same_16 : decode cX11_same 16 = .ok (.invokestatic 98, 3) := rfl
theorem dX11_same_19 : decode cX11_same 19 = .ok (.ifCond .ne 6, 3) := by decide +kernel
theorem dX11_same_22 : decode cX11_same 22 = .ok (.bipush (-2), 2) := by decide +kernel
theorem dX11_same_24 : decode cX11_same 24 = .ok (.ireturn, 1) := rfl
theorem dX11_same_25 : decode cX11_same 25 = .ok (.aload_n 0, 1) := rfl
theorem dX11_same_26 : decode cX11_same 26 = .ok (.getfield 94, 3) := rfl
theorem dX11_same_29 : decode cX11_same 29 = .ok (.aload_n 0, 1) := rfl
theorem dX11_same_30 : decode cX11_same 30 = .ok (.getfield 31, 3) := rfl
theorem dX11_same_33 : decode cX11_same 33 = .ok (.iload_n 1, 1) := rfl
theorem dX11_same_34 : decode cX11_same 34 = .ok (.aaload, 1) := rfl
theorem dX11_same_35 : decode cX11_same 35 = .ok (.aload_n 0, 1) := rfl
theorem dX11_same_36 : decode cX11_same 36 = .ok (.getfield 31, 3) := rfl
theorem dX11_same_39 : decode cX11_same 39 = .ok (.iload_n 2, 1) := rfl
theorem dX11_same_40 : decode cX11_same 40 = .ok (.aaload, 1) := rfl
theorem dX11_same_41 : decode cX11_same 41 = .ok (.invokevirtual 177, 3) := rfl
theorem dX11_same_44 : decode cX11_same 44 = .ok (.ireturn, 1) := rfl
def m_X11_same (v1 : Int32) (v2 : Int32) (h : Hp) (Q : Int32 → Hp → Prop) : Prop := m_X11_isWithin v1 (hI h 0 4) h (fun (x1 : Int32) (h2 : Hp) => (x1 = 0 → Q (-2) h2) ∧ (¬ x1 = 0 → m_X11_isWithin v2 (hI h2 0 4) h2 (fun (x3 : Int32) (h4 : Hp) => (¬ x3 = 0 → vp_in v1 24 ∧ ∃ b5 : Nat, hR h4 8 (ix v1) = some b5 ∧ (vp_in v2 24 ∧ ∃ b6 : Nat, hR h4 8 (ix v2) = some b6 ∧ (m_X4_firstApart b5 b6 h4 (fun (x7 : Int32) (h8 : Hp) => Q x7 h8)))) ∧ (x3 = 0 → Q (-2) h4))))
set_option maxHeartbeats 4000000 in
set_option maxRecDepth 100000 in
theorem s_X11_same {l : Launch} {G : Cx} {d : Nat} (hd : 8 ≤ d) {v1 : Int32} {v2 : Int32} {h : Hp} {Q : Int32 → Hp → Prop} (hm : m_X11_same v1 v2 h Q) : Ct l G d 0 0 yX11_same MX11_same [tR 11 0 (some 0), tI v1, tI v2] h (qI Q) := by
  unfold m_X11_same at hm
  refine Ct.of (L := [some (tR 11 0 (some 0)), some (tI v1), some (tI v2)]) (by decide) rfl rfl (Nat.le_of_ble_eq_true rfl) rfl ?_
  refine r_iload_n dX11_same_0 rfl rfl ?_
  refine r_aload_n dX11_same_1 rfl rfl ?_
  refine r_getI (k := 4) cl_11 dX11_same_2 t_350 (Or.inl rfl) gf_11_4 ?_
  refine r_callSI (d' := d - 1) (as := [tI v1, tI (hI h 0 4)]) (st := []) dX11_same_5 mi_X11_isWithin t_405 t_406 rfl rfl (Nat.le_of_ble_eq_true rfl) (by omega) ⟨by decide, by decide⟩ ⟨rfl, rfl⟩ (s_X11_isWithin (by omega) hm) (fun x1 h2 hm => ?_)
  refine r_if_eq (tgt := 22) dX11_same_8 rfl (fun hc => ?_) (fun hc => ?_)
  · replace hm := hm.1 hc
    refine r_bipush (v := (-2)) dX11_same_22 rfl ?_
    exact r_ireturn dX11_same_24 rfl ⟨by decide, by decide⟩ ⟨_, rfl, hm⟩
  · replace hm := hm.2 hc
    refine r_iload_n dX11_same_11 rfl rfl ?_
    refine r_aload_n dX11_same_12 rfl rfl ?_
    refine r_getI (k := 4) cl_11 dX11_same_13 t_350 (Or.inl rfl) gf_11_4 ?_
    refine r_callSI (d' := d - 1) (as := [tI v2, tI (hI h2 0 4)]) (st := []) dX11_same_16 mi_X11_isWithin t_405 t_406 rfl rfl (Nat.le_of_ble_eq_true rfl) (by omega) ⟨by decide, by decide⟩ ⟨rfl, rfl⟩ (s_X11_isWithin (by omega) hm) (fun x3 h4 hm => ?_)
    refine r_if_ne (tgt := 25) dX11_same_19 rfl (fun hc => ?_) (fun hc => ?_)
    · replace hm := hm.1 hc
      refine r_aload_n dX11_same_25 rfl rfl ?_
      refine r_getC (k := 17) cl_11 dX11_same_26 t_363 gf_11_17.1 gf_11_17.2 (gc_11_17 _) ?_
      refine r_aload_n dX11_same_29 rfl rfl ?_
      refine r_getC (k := 3) cl_11 dX11_same_30 t_349 gf_11_3.1 gf_11_3.2 (gc_11_3 _) ?_
      refine r_iload_n dX11_same_33 rfl rfl ?_
      obtain ⟨hi_b5, b5, hb_b5, hm⟩ := hm
      refine r_aaldS (kd := 1) (ti := 5) (cn := RX1) dX11_same_34 rfl hi_b5 hb_b5 ?_
      refine r_aload_n dX11_same_35 rfl rfl ?_
      refine r_getC (k := 3) cl_11 dX11_same_36 t_349 gf_11_3.1 gf_11_3.2 (gc_11_3 _) ?_
      refine r_iload_n dX11_same_39 rfl rfl ?_
      obtain ⟨hi_b6, b6, hb_b6, hm⟩ := hm
      refine r_aaldS (kd := 1) (ti := 5) (cn := RX1) dX11_same_40 rfl hi_b6 hb_b6 ?_
      refine r_callVI (d' := d - 1) (as := [tR 1 0 (some b5), tR 1 0 (some b6)]) (st := []) cl_4 dX11_same_41 mi_X4_firstApart t_850 t_851 t_852 rfl rfl (Nat.le_of_ble_eq_true rfl) (by omega) ⟨by decide, by decide⟩ ⟨rfl, rfl⟩ (s_X4_firstApart (by omega) hm) (fun x7 h8 hm => ?_)
      exact r_ireturn dX11_same_44 rfl ⟨by decide, by decide⟩ ⟨_, rfl, hm⟩
    · replace hm := hm.2 hc
      refine r_bipush (v := (-2)) dX11_same_22 rfl ?_
      exact r_ireturn dX11_same_24 rfl ⟨by decide, by decide⟩ ⟨_, rfl, hm⟩
theorem dX11_add_0 : decode cX11_add 0 = .ok (.iload_n 1, 1) := rfl
theorem dX11_add_1 : decode cX11_add 1 = .ok (.aload_n 0, 1) := rfl
theorem dX11_add_2 : decode cX11_add 2 = .ok (.getfield 116, 3) := rfl
theorem dX11_add_5 : decode cX11_add 5 = .ok (.invokestatic 98, 3) := rfl
theorem dX11_add_8 : decode cX11_add 8 = .ok (.ifCond .eq 31, 3) := by decide +kernel
theorem dX11_add_11 : decode cX11_add 11 = .ok (.aload_n 0, 1) := rfl
theorem dX11_add_12 : decode cX11_add 12 = .ok (.getfield 51, 3) := rfl
theorem dX11_add_15 : decode cX11_add 15 = .ok (.getfield 181, 3) := rfl
theorem dX11_add_18 : decode cX11_add 18 = .ok (.bipush 6, 2) := by decide +kernel
theorem dX11_add_20 : decode cX11_add 20 = .ok (.if_icmp .ge 19, 3) := by decide +kernel
theorem dX11_add_23 : decode cX11_add 23 = .ok (.aload_n 0, 1) := rfl
theorem dX11_add_24 : decode cX11_add 24 = .ok (.getfield 51, 3) := rfl
theorem dX11_add_27 : decode cX11_add 27 = .ok (.aload_n 0, 1) := rfl
theorem dX11_add_28 : decode cX11_add 28 = .ok (.getfield 31, 3) := rfl
theorem dX11_add_31 : decode cX11_add 31 = .ok (.iload_n 1, 1) := rfl
theorem dX11_add_32 : decode cX11_add 32 = .ok (.aaload, 1) := rfl
theorem dX11_add_33 : decode cX11_add 33 = .ok (.invokevirtual 184, 3) := rfl
theorem dX11_add_36 : decode cX11_add 36 = .ok (.ifCond .eq 5, 3) := by decide +kernel
theorem dX11_add_39 : decode cX11_add 39 = .ok (.iconst (-1), 1) := rfl
theorem dX11_add_40 : decode cX11_add 40 = .ok (.ireturn, 1) := rfl
theorem dX11_add_41 : decode cX11_add 41 = .ok (.aload_n 0, 1) := rfl
theorem dX11_add_42 : decode cX11_add 42 = .ok (.getfield 51, 3) := rfl
theorem dX11_add_45 : decode cX11_add 45 = .ok (.aload_n 0, 1) := rfl
theorem dX11_add_46 : decode cX11_add 46 = .ok (.getfield 31, 3) := rfl
theorem dX11_add_49 : decode cX11_add 49 = .ok (.iload_n 1, 1) := rfl
theorem dX11_add_50 : decode cX11_add 50 = .ok (.aaload, 1) := rfl
theorem dX11_add_51 : decode cX11_add 51 = .ok (.invokevirtual 187, 3) := rfl
theorem dX11_add_54 : decode cX11_add 54 = .ok (.aload_n 0, 1) := rfl
theorem dX11_add_55 : decode cX11_add 55 = .ok (.getfield 71, 3) := rfl
theorem dX11_add_58 : decode cX11_add 58 = .ok (.iconst 0, 1) := rfl
theorem dX11_add_59 : decode cX11_add 59 = .ok (.putfield 102, 3) := rfl
theorem dX11_add_62 : decode cX11_add 62 = .ok (.aload_n 0, 1) := rfl
theorem dX11_add_63 : decode cX11_add 63 = .ok (.getfield 51, 3) := rfl
theorem dX11_add_66 : decode cX11_add 66 = .ok (.getfield 181, 3) := rfl
theorem dX11_add_69 : decode cX11_add 69 = .ok (.ireturn, 1) := rfl
def m_X11_add (v1 : Int32) (h : Hp) (Q : Int32 → Hp → Prop) : Prop := m_X11_isWithin v1 (hI h 0 4) h (fun (x1 : Int32) (h2 : Hp) => (x1 = 0 → Q (-1) h2) ∧ (¬ x1 = 0 → (6 ≤ (hI h2 11 1) → Q (-1) h2) ∧ (¬ 6 ≤ (hI h2 11 1) → vp_in v1 24 ∧ ∃ b3 : Nat, hR h2 8 (ix v1) = some b3 ∧ (m_X0_holds 11 b3 h2 (fun (x4 : Int32) (h5 : Hp) => (x4 = 0 → vp_in v1 24 ∧ ∃ b6 : Nat, hR h5 8 (ix v1) = some b6 ∧ (m_X0_push 11 b6 h5 (fun (h8 : Hp) => Q (hI (wI h8 26 0 0) 11 1) (wI h8 26 0 0)))) ∧ (¬ x4 = 0 → Q (-1) h5))))))
set_option maxHeartbeats 4000000 in
set_option maxRecDepth 100000 in
theorem s_X11_add {l : Launch} {G : Cx} {d : Nat} (hd : 4 ≤ d) {v1 : Int32} {h : Hp} {Q : Int32 → Hp → Prop} (hm : m_X11_add v1 h Q) : Ct l G d 0 0 yX11_add MX11_add [tR 11 0 (some 0), tI v1] h (qI Q) := by
  unfold m_X11_add at hm
  refine Ct.of (L := [some (tR 11 0 (some 0)), some (tI v1)]) (by decide) rfl rfl (Nat.le_of_ble_eq_true rfl) rfl ?_
  refine r_iload_n dX11_add_0 rfl rfl ?_
  refine r_aload_n dX11_add_1 rfl rfl ?_
  refine r_getI (k := 4) cl_11 dX11_add_2 t_350 (Or.inl rfl) gf_11_4 ?_
  refine r_callSI (d' := d - 1) (as := [tI v1, tI (hI h 0 4)]) (st := []) dX11_add_5 mi_X11_isWithin t_405 t_406 rfl rfl (Nat.le_of_ble_eq_true rfl) (by omega) ⟨by decide, by decide⟩ ⟨rfl, rfl⟩ (s_X11_isWithin (by omega) hm) (fun x1 h2 hm => ?_)
  refine r_if_eq (tgt := 39) dX11_add_8 rfl (fun hc => ?_) (fun hc => ?_)
  · replace hm := hm.1 hc
    refine r_iconst (v := (-1)) dX11_add_39 rfl ?_
    exact r_ireturn dX11_add_40 rfl ⟨by decide, by decide⟩ ⟨_, rfl, hm⟩
  · replace hm := hm.2 hc
    refine r_aload_n dX11_add_11 rfl rfl ?_
    refine r_getC (k := 10) cl_11 dX11_add_12 t_356 gf_11_10.1 gf_11_10.2 (gc_11_10 _) ?_
    refine r_getI (k := 1) cl_0 dX11_add_15 t_130 (Or.inl rfl) gf_0_1 ?_
    refine r_bipush (v := 6) dX11_add_18 rfl ?_
    refine r_icmp_ge (tgt := 39) dX11_add_20 rfl (fun hc => ?_) (fun hc => ?_)
    · replace hm := hm.1 hc
      refine r_iconst (v := (-1)) dX11_add_39 rfl ?_
      exact r_ireturn dX11_add_40 rfl ⟨by decide, by decide⟩ ⟨_, rfl, hm⟩
    · replace hm := hm.2 hc
      refine r_aload_n dX11_add_23 rfl rfl ?_
      refine r_getC (k := 10) cl_11 dX11_add_24 t_356 gf_11_10.1 gf_11_10.2 (gc_11_10 _) ?_
      refine r_aload_n dX11_add_27 rfl rfl ?_
      refine r_getC (k := 3) cl_11 dX11_add_28 t_349 gf_11_3.1 gf_11_3.2 (gc_11_3 _) ?_
      refine r_iload_n dX11_add_31 rfl rfl ?_
      obtain ⟨hi_b3, b3, hb_b3, hm⟩ := hm
      refine r_aaldS (kd := 1) (ti := 5) (cn := RX1) dX11_add_32 rfl hi_b3 hb_b3 ?_
      refine r_callVI (d' := d - 1) (as := [tR 1 0 (some b3)]) (st := []) cl_0 dX11_add_33 mi_X0_holds t_886 t_887 t_888 rfl rfl (Nat.le_of_ble_eq_true rfl) (by omega) ⟨by decide, by decide⟩ ⟨rfl, rfl⟩ (s_X0_holds (by omega) hm) (fun x4 h5 hm => ?_)
      refine r_if_eq (tgt := 41) dX11_add_36 rfl (fun hc => ?_) (fun hc => ?_)
      · replace hm := hm.1 hc
        refine r_aload_n dX11_add_41 rfl rfl ?_
        refine r_getC (k := 10) cl_11 dX11_add_42 t_356 gf_11_10.1 gf_11_10.2 (gc_11_10 _) ?_
        refine r_aload_n dX11_add_45 rfl rfl ?_
        refine r_getC (k := 3) cl_11 dX11_add_46 t_349 gf_11_3.1 gf_11_3.2 (gc_11_3 _) ?_
        refine r_iload_n dX11_add_49 rfl rfl ?_
        obtain ⟨hi_b6, b6, hb_b6, hm⟩ := hm
        refine r_aaldS (kd := 1) (ti := 5) (cn := RX1) dX11_add_50 rfl hi_b6 hb_b6 ?_
        refine r_callVU (d' := d - 1) (as := [tR 1 0 (some b6)]) (st := []) cl_0 dX11_add_51 mi_X0_push t_890 t_891 t_892 rfl rfl (Nat.le_of_ble_eq_true rfl) (by omega) ⟨by decide, by decide⟩ ⟨rfl, rfl⟩ (s_X0_push (by omega) hm) (fun h8 hm => ?_)
        refine r_aload_n dX11_add_54 rfl rfl ?_
        refine r_getC (k := 14) cl_11 dX11_add_55 t_360 gf_11_14.1 gf_11_14.2 (gc_11_14 _) ?_
        refine r_iconst (v := 0) dX11_add_58 rfl ?_
        refine r_putZ0 (k := 0) cl_9 dX11_add_59 t_214 (Or.inl rfl) gf_9_0 pf_9_0.1 (Or.inl pf_9_0.2) (by unfold bz; decide) ?_
        refine r_aload_n dX11_add_62 rfl rfl ?_
        refine r_getC (k := 10) cl_11 dX11_add_63 t_356 gf_11_10.1 gf_11_10.2 (gc_11_10 _) ?_
        refine r_getI (k := 1) cl_0 dX11_add_66 t_130 (Or.inl rfl) gf_0_1 ?_
        exact r_ireturn dX11_add_69 rfl ⟨by decide, by decide⟩ ⟨_, rfl, hm⟩
      · replace hm := hm.2 hc
        refine r_iconst (v := (-1)) dX11_add_39 rfl ?_
        exact r_ireturn dX11_add_40 rfl ⟨by decide, by decide⟩ ⟨_, rfl, hm⟩
theorem dX11_clear_0 : decode cX11_clear 0 = .ok (.aload_n 0, 1) := rfl
theorem dX11_clear_1 : decode cX11_clear 1 = .ok (.getfield 51, 3) := rfl
theorem dX11_clear_4 : decode cX11_clear 4 = .ok (.getfield 181, 3) := rfl
theorem dX11_clear_7 : decode cX11_clear 7 = .ok (.istore_n 1, 1) := rfl
theorem dX11_clear_8 : decode cX11_clear 8 = .ok (.aload_n 0, 1) := rfl
theorem dX11_clear_9 : decode cX11_clear 9 = .ok (.getfield 51, 3) := rfl
theorem dX11_clear_12 : decode cX11_clear 12 = .ok (.iconst 0, 1) := rfl
theorem dX11_clear_13 : decode cX11_clear 13 = .ok (.putfield 181, 3) := rfl
theorem dX11_clear_16 : decode cX11_clear 16 = .ok (.aload_n 0, 1) := rfl
theorem dX11_clear_17 : decode cX11_clear 17 = .ok (.getfield 71, 3) := rfl
theorem dX11_clear_20 : decode cX11_clear 20 = .ok (.iconst 0, 1) := rfl
theorem dX11_clear_21 : decode cX11_clear 21 = .ok (.putfield 102, 3) := rfl
theorem dX11_clear_24 : decode cX11_clear 24 = .ok (.iload_n 1, 1) := rfl
theorem dX11_clear_25 : decode cX11_clear 25 = .ok (.ireturn, 1) := rfl
def m_X11_clear  (h : Hp) (Q : Int32 → Hp → Prop) : Prop := ∀ x1 : Int32, x1 = (hI h 11 1) → Q x1 (wI (wI h 11 1 0) 26 0 0)
set_option maxHeartbeats 4000000 in
set_option maxRecDepth 100000 in
theorem s_X11_clear {l : Launch} {G : Cx} {d : Nat} (hd : 2 ≤ d) {h : Hp} {Q : Int32 → Hp → Prop} (hm : m_X11_clear h Q) : Ct l G d 0 0 yX11_clear MX11_clear [tR 11 0 (some 0)] h (qI Q) := by
  unfold m_X11_clear at hm
  refine Ct.of (L := [some (tR 11 0 (some 0))]) (by decide) rfl rfl (Nat.le_of_ble_eq_true rfl) rfl ?_
  refine r_aload_n dX11_clear_0 rfl rfl ?_
  refine r_getC (k := 10) cl_11 dX11_clear_1 t_356 gf_11_10.1 gf_11_10.2 (gc_11_10 _) ?_
  refine r_getI (k := 1) cl_0 dX11_clear_4 t_130 (Or.inl rfl) gf_0_1 ?_
  refine r_nmI (fun x1 e_x1 => ?_)
  replace hm := hm x1 e_x1
  refine r_istore_n (L' := [some (tR 11 0 (some 0)), some (tI x1)]) dX11_clear_7 rfl (by decide) rfl ?_
  refine r_aload_n dX11_clear_8 rfl rfl ?_
  refine r_getC (k := 10) cl_11 dX11_clear_9 t_356 gf_11_10.1 gf_11_10.2 (gc_11_10 _) ?_
  refine r_iconst (v := 0) dX11_clear_12 rfl ?_
  refine r_putI0 (k := 1) cl_0 dX11_clear_13 t_130 (Or.inl rfl) gf_0_1 pf_0_1.1 (Or.inl pf_0_1.2) ?_
  refine r_aload_n dX11_clear_16 rfl rfl ?_
  refine r_getC (k := 14) cl_11 dX11_clear_17 t_360 gf_11_14.1 gf_11_14.2 (gc_11_14 _) ?_
  refine r_iconst (v := 0) dX11_clear_20 rfl ?_
  refine r_putZ0 (k := 0) cl_9 dX11_clear_21 t_214 (Or.inl rfl) gf_9_0 pf_9_0.1 (Or.inl pf_9_0.2) (by unfold bz; decide) ?_
  refine r_iload_n dX11_clear_24 rfl rfl ?_
  exact r_ireturn dX11_clear_25 rfl ⟨by decide, by decide⟩ ⟨_, rfl, hm⟩
theorem dX11_passed_0 : decode cX11_passed 0 = .ok (.aload_n 0, 1) := rfl
theorem dX11_passed_1 : decode cX11_passed 1 = .ok (.getfield 51, 3) := rfl
theorem dX11_passed_4 : decode cX11_passed 4 = .ok (.iload_n 1, 1) := rfl
theorem dX11_passed_5 : decode cX11_passed 5 = .ok (.invokevirtual 191, 3) := rfl
theorem dX11_passed_8 : decode cX11_passed 8 = .ok (.ifCond .ne 7, 3) := by decide +kernel
theorem dX11_passed_11 : decode cX11_passed 11 = .ok (.ldc2_w 195, 3) := rfl
theorem dX11_passed_14 : decode cX11_passed 14 = .ok (.lreturn, 1) := rfl
theorem dX11_passed_15 : decode cX11_passed 15 = .ok (.iload_n 2, 1) := rfl
theorem dX11_passed_16 : decode cX11_passed 16 = .ok (.iconst (-1), 1) := rfl
theorem dX11_passed_17 : decode cX11_passed 17 = .ok (.if_icmp .ne 23, 3) := by decide +kernel
theorem dX11_passed_20 : decode cX11_passed 20 = .ok (.iload_n 3, 1) := rfl
theorem dX11_passed_21 : decode cX11_passed 21 = .ok (.ifCond .ne 15, 3) := by decide +kernel
theorem dX11_passed_24 : decode cX11_passed 24 = .ok (.aload_n 0, 1) := rfl
theorem dX11_passed_25 : decode cX11_passed 25 = .ok (.getfield 51, 3) := rfl
theorem dX11_passed_28 : decode cX11_passed 28 = .ok (.iload_n 1, 1) := rfl
theorem dX11_passed_29 : decode cX11_passed 29 = .ok (.invokevirtual 197, 3) := rfl
theorem dX11_passed_32 : decode cX11_passed 32 = .ok (.i2l, 1) := rfl
theorem dX11_passed_33 : decode cX11_passed 33 = .ok (.goto 6, 3) := by decide +kernel
theorem dX11_passed_36 : decode cX11_passed 36 = .ok (.ldc2_w 195, 3) := rfl
theorem dX11_passed_39 : decode cX11_passed 39 = .ok (.lreturn, 1) := rfl
theorem dX11_passed_40 : decode cX11_passed 40 = .ok (.iload_n 2, 1) := rfl
theorem dX11_passed_41 : decode cX11_passed 41 = .ok (.ifCond .lt 11, 3) := by decide +kernel
theorem dX11_passed_44 : decode cX11_passed 44 = .ok (.iload_n 3, 1) := rfl
theorem dX11_passed_45 : decode cX11_passed 45 = .ok (.iconst 5, 1) := rfl
theorem dX11_passed_46 : decode cX11_passed 46 = .ok (.invokestatic 98, 3) := rfl
theorem dX11_passed_49 : decode cX11_passed 49 = .ok (.ifCond .ne 7, 3) := by decide +kernel
theorem dX11_passed_52 : decode cX11_passed 52 = .ok (.ldc2_w 195, 3) := rfl
theorem dX11_passed_55 : decode cX11_passed 55 = .ok (.lreturn, 1) := rfl
theorem dX11_passed_56 : decode cX11_passed 56 = .ok (.aload_n 0, 1) := rfl
theorem dX11_passed_57 : decode cX11_passed 57 = .ok (.getfield 51, 3) := rfl
theorem dX11_passed_60 : decode cX11_passed 60 = .ok (.iload_n 1, 1) := rfl
theorem dX11_passed_61 : decode cX11_passed 61 = .ok (.iload_n 2, 1) := rfl
theorem dX11_passed_62 : decode cX11_passed 62 = .ok (.iload_n 3, 1) := rfl
theorem dX11_passed_63 : decode cX11_passed 63 = .ok (.invokevirtual 201, 3) := rfl
theorem dX11_passed_66 : decode cX11_passed 66 = .ok (.lreturn, 1) := rfl
def m_X11_passed (v1 : Int32) (v2 : Int32) (v3 : Int32) (h : Hp) (Q : Int64 → Hp → Prop) : Prop := m_X0_hasCode 11 v1 h (fun (x1 : Int32) (h2 : Hp) => (¬ x1 = 0 → (¬ v2 = (-1) → (v2 < 0 → Q (-1) h2) ∧ (¬ v2 < 0 → m_X11_isWithin v3 5 h2 (fun (x3 : Int32) (h4 : Hp) => (¬ x3 = 0 → m_X0_toldOfRow 11 v1 v2 v3 h4 (fun (x5 : Int64) (h6 : Hp) => Q x5 h6)) ∧ (x3 = 0 → Q (-1) h4)))) ∧ (v2 = (-1) → (¬ v3 = 0 → Q (-1) h2) ∧ (v3 = 0 → m_X0_rowsBy 11 v1 h2 (fun (x7 : Int32) (h8 : Hp) => Q x7.toInt64 h8)))) ∧ (x1 = 0 → Q (-1) h2))
set_option maxHeartbeats 4000000 in
set_option maxRecDepth 100000 in
theorem s_X11_passed {l : Launch} {G : Cx} {d : Nat} (hd : 8 ≤ d) {v1 : Int32} {v2 : Int32} {v3 : Int32} {h : Hp} {Q : Int64 → Hp → Prop} (hm : m_X11_passed v1 v2 v3 h Q) : Ct l G d 0 0 yX11_passed MX11_passed [tR 11 0 (some 0), tI v1, tI v2, tI v3] h (qJ Q) := by
  unfold m_X11_passed at hm
  refine Ct.of (L := [some (tR 11 0 (some 0)), some (tI v1), some (tI v2), some (tI v3)]) (by decide) rfl rfl (Nat.le_of_ble_eq_true rfl) rfl ?_
  refine r_aload_n dX11_passed_0 rfl rfl ?_
  refine r_getC (k := 10) cl_11 dX11_passed_1 t_356 gf_11_10.1 gf_11_10.2 (gc_11_10 _) ?_
  refine r_iload_n dX11_passed_4 rfl rfl ?_
  refine r_callVI (d' := d - 1) (as := [tI v1]) (st := []) cl_0 dX11_passed_5 mi_X0_hasCode t_902 t_903 t_904 rfl rfl (Nat.le_of_ble_eq_true rfl) (by omega) ⟨by decide, by decide⟩ ⟨rfl, rfl⟩ (s_X0_hasCode (by omega) hm) (fun x1 h2 hm => ?_)
  refine r_if_ne (tgt := 15) dX11_passed_8 rfl (fun hc => ?_) (fun hc => ?_)
  · replace hm := hm.1 hc
    refine r_iload_n dX11_passed_15 rfl rfl ?_
    refine r_iconst (v := (-1)) dX11_passed_16 rfl ?_
    refine r_icmp_ne (tgt := 40) dX11_passed_17 rfl (fun hc => ?_) (fun hc => ?_)
    · replace hm := hm.1 hc
      refine r_iload_n dX11_passed_40 rfl rfl ?_
      refine r_if_lt (tgt := 52) dX11_passed_41 rfl (fun hc => ?_) (fun hc => ?_)
      · replace hm := hm.1 hc
        refine r_ldc2_w dX11_passed_52 t_914 ?_
        exact r_lreturn dX11_passed_55 rfl ⟨by decide, by decide⟩ ⟨_, rfl, hm⟩
      · replace hm := hm.2 hc
        refine r_iload_n dX11_passed_44 rfl rfl ?_
        refine r_iconst (v := 5) dX11_passed_45 rfl ?_
        refine r_callSI (d' := d - 1) (as := [tI v3, tI 5]) (st := []) dX11_passed_46 mi_X11_isWithin t_405 t_406 rfl rfl (Nat.le_of_ble_eq_true rfl) (by omega) ⟨by decide, by decide⟩ ⟨rfl, rfl⟩ (s_X11_isWithin (by omega) hm) (fun x3 h4 hm => ?_)
        refine r_if_ne (tgt := 56) dX11_passed_49 rfl (fun hc => ?_) (fun hc => ?_)
        · replace hm := hm.1 hc
          refine r_aload_n dX11_passed_56 rfl rfl ?_
          refine r_getC (k := 10) cl_11 dX11_passed_57 t_356 gf_11_10.1 gf_11_10.2 (gc_11_10 _) ?_
          refine r_iload_n dX11_passed_60 rfl rfl ?_
          refine r_iload_n dX11_passed_61 rfl rfl ?_
          refine r_iload_n dX11_passed_62 rfl rfl ?_
          refine r_callVJ (d' := d - 1) (as := [tI v1, tI v2, tI v3]) (st := []) cl_0 dX11_passed_63 mi_X0_toldOfRow t_923 t_924 t_925 rfl rfl (Nat.le_of_ble_eq_true rfl) (by omega) ⟨by decide, by decide⟩ ⟨rfl, rfl⟩ (s_X0_toldOfRow (by omega) hm) (fun x5 h6 hm => ?_)
          exact r_lreturn dX11_passed_66 rfl ⟨by decide, by decide⟩ ⟨_, rfl, hm⟩
        · replace hm := hm.2 hc
          refine r_ldc2_w dX11_passed_52 t_914 ?_
          exact r_lreturn dX11_passed_55 rfl ⟨by decide, by decide⟩ ⟨_, rfl, hm⟩
    · replace hm := hm.2 hc
      refine r_iload_n dX11_passed_20 rfl rfl ?_
      refine r_if_ne (tgt := 36) dX11_passed_21 rfl (fun hc => ?_) (fun hc => ?_)
      · replace hm := hm.1 hc
        refine r_ldc2_w dX11_passed_36 t_914 ?_
        exact r_lreturn dX11_passed_39 rfl ⟨by decide, by decide⟩ ⟨_, rfl, hm⟩
      · replace hm := hm.2 hc
        refine r_aload_n dX11_passed_24 rfl rfl ?_
        refine r_getC (k := 10) cl_11 dX11_passed_25 t_356 gf_11_10.1 gf_11_10.2 (gc_11_10 _) ?_
        refine r_iload_n dX11_passed_28 rfl rfl ?_
        refine r_callVI (d' := d - 1) (as := [tI v1]) (st := []) cl_0 dX11_passed_29 mi_X0_rowsBy t_915 t_916 t_917 rfl rfl (Nat.le_of_ble_eq_true rfl) (by omega) ⟨by decide, by decide⟩ ⟨rfl, rfl⟩ (s_X0_rowsBy (by omega) hm) (fun x7 h8 hm => ?_)
        refine r_i2l dX11_passed_32 ?_
        refine r_goto (tgt := 39) dX11_passed_33 rfl ?_
        exact r_lreturn dX11_passed_39 rfl ⟨by decide, by decide⟩ ⟨_, rfl, hm⟩
  · replace hm := hm.2 hc
    refine r_ldc2_w dX11_passed_11 t_914 ?_
    exact r_lreturn dX11_passed_14 rfl ⟨by decide, by decide⟩ ⟨_, rfl, hm⟩
theorem dX11_net_0 : decode cX11_net 0 = .ok (.aload_n 0, 1) := rfl
theorem dX11_net_1 : decode cX11_net 1 = .ok (.getfield 51, 3) := rfl
theorem dX11_net_4 : decode cX11_net 4 = .ok (.iload_n 1, 1) := rfl
theorem dX11_net_5 : decode cX11_net 5 = .ok (.invokevirtual 191, 3) := rfl
theorem dX11_net_8 : decode cX11_net 8 = .ok (.ifCond .eq 21, 3) := by decide +kernel
theorem dX11_net_11 : decode cX11_net 11 = .ok (.iload_n 2, 1) := rfl
theorem dX11_net_12 : decode cX11_net 12 = .ok (.bipush 8, 2) := by decide +kernel
theorem dX11_net_14 : decode cX11_net 14 = .ok (.invokestatic 98, 3) := rfl
theorem dX11_net_17 : decode cX11_net 17 = .ok (.ifCond .eq 12, 3) := by decide +kernel
theorem dX11_net_20 : decode cX11_net 20 = .ok (.iload_n 3, 1) := rfl
theorem dX11_net_21 : decode cX11_net 21 = .ok (.bipush 6, 2) := by decide +kernel
theorem dX11_net_23 : decode cX11_net 23 = .ok (.invokestatic 98, 3) := rfl
theorem dX11_net_26 : decode cX11_net 26 = .ok (.ifCond .ne 7, 3) := by decide +kernel
theorem dX11_net_29 : decode cX11_net 29 = .ok (.ldc2_w 205, 3) := rfl
theorem dX11_net_32 : decode cX11_net 32 = .ok (.lreturn, 1) := rfl
theorem dX11_net_33 : decode cX11_net 33 = .ok (.iload 4, 2) := rfl
theorem dX11_net_35 : decode cX11_net 35 = .ok (.iconst (-1), 1) := rfl
theorem dX11_net_36 : decode cX11_net 36 = .ok (.if_icmp .eq 20, 3) := by decide +kernel
theorem dX11_net_39 : decode cX11_net 39 = .ok (.iload 4, 2) := rfl
theorem dX11_net_41 : decode cX11_net 41 = .ok (.ifCond .lt 11, 3) := by decide +kernel
theorem dX11_net_44 : decode cX11_net 44 = .ok (.iload 4, 2) := rfl
theorem dX11_net_46 : decode cX11_net 46 = .ok (.sipush 9999, 3) := by decide +kernel
theorem dX11_net_49 : decode cX11_net 49 = .ok (.if_icmp .le 7, 3) := by decide +kernel
theorem dX11_net_52 : decode cX11_net 52 = .ok (.ldc2_w 205, 3) := rfl
theorem dX11_net_55 : decode cX11_net 55 = .ok (.lreturn, 1) := rfl
theorem dX11_net_56 : decode cX11_net 56 = .ok (.aload_n 0, 1) := rfl
theorem dX11_net_57 : decode cX11_net 57 = .ok (.getfield 64, 3) := rfl
theorem dX11_net_60 : decode cX11_net 60 = .ok (.aload_n 0, 1) := rfl
theorem dX11_net_61 : decode cX11_net 61 = .ok (.getfield 51, 3) := rfl
theorem dX11_net_64 : decode cX11_net 64 = .ok (.iload_n 1, 1) := rfl
theorem dX11_net_65 : decode cX11_net 65 = .ok (.iload_n 2, 1) := rfl
theorem dX11_net_66 : decode cX11_net 66 = .ok (.iload_n 3, 1) := rfl
theorem dX11_net_67 : decode cX11_net 67 = .ok (.iload 4, 2) := rfl
theorem dX11_net_69 : decode cX11_net 69 = .ok (.invokevirtual 207, 3) := rfl
theorem dX11_net_72 : decode cX11_net 72 = .ok (.lreturn, 1) := rfl
def m_X11_net_56  (Q : Int64 → Hp → Prop) (v1 : Int32) (v2 : Int32) (v3 : Int32) (v4 : Int32) (h : Hp) : Prop := m_X5_sumOf 11 v1 v2 v3 v4 h (fun (x1 : Int64) (h2 : Hp) => Q x1 h2)
set_option maxHeartbeats 4000000 in
set_option maxRecDepth 100000 in
theorem s_X11_net_56 {l : Launch} {G : Cx} {d : Nat} {h0 : Hp} (hd : 8 ≤ d) {Q : Int64 → Hp → Prop} {v1 : Int32} {v2 : Int32} {v3 : Int32} {v4 : Int32} {h : Hp} (hm : m_X11_net_56 Q v1 v2 v3 v4 h) : Rn l G d 0 0 MX11_net h0 (qJ Q) 56 [some (tR 11 0 (some 0)), some (tI v1), some (tI v2), some (tI v3), some (tI v4)] [] h 0 0 := by
  unfold m_X11_net_56 at hm
  refine r_aload_n dX11_net_56 rfl rfl ?_
  refine r_getC (k := 13) cl_11 dX11_net_57 t_359 gf_11_13.1 gf_11_13.2 (gc_11_13 _) ?_
  refine r_aload_n dX11_net_60 rfl rfl ?_
  refine r_getC (k := 10) cl_11 dX11_net_61 t_356 gf_11_10.1 gf_11_10.2 (gc_11_10 _) ?_
  refine r_iload_n dX11_net_64 rfl rfl ?_
  refine r_iload_n dX11_net_65 rfl rfl ?_
  refine r_iload_n dX11_net_66 rfl rfl ?_
  refine r_iload dX11_net_67 rfl ?_
  refine r_callVJ (d' := d - 1) (as := [tR 0 0 (some 11), tI v1, tI v2, tI v3, tI v4]) (st := []) cl_5 dX11_net_69 mi_X5_sumOf t_933 t_934 t_935 rfl rfl (Nat.le_of_ble_eq_true rfl) (by omega) ⟨by decide, by decide⟩ ⟨rfl, rfl⟩ (s_X5_sumOf (by omega) hm) (fun x1 h2 hm => ?_)
  exact r_lreturn dX11_net_72 rfl ⟨by decide, by decide⟩ ⟨_, rfl, hm⟩
def m_X11_net (v1 : Int32) (v2 : Int32) (v3 : Int32) (v4 : Int32) (h : Hp) (Q : Int64 → Hp → Prop) : Prop := m_X0_hasCode 11 v1 h (fun (x3 : Int32) (h4 : Hp) => (x3 = 0 → Q (-1000000000000) h4) ∧ (¬ x3 = 0 → m_X11_isWithin v2 8 h4 (fun (x5 : Int32) (h6 : Hp) => (x5 = 0 → Q (-1000000000000) h6) ∧ (¬ x5 = 0 → m_X11_isWithin v3 6 h6 (fun (x7 : Int32) (h8 : Hp) => (¬ x7 = 0 → (v4 = (-1) → m_X11_net_56 Q v1 v2 v3 v4 h8) ∧ (¬ v4 = (-1) → (v4 < 0 → Q (-1000000000000) h8) ∧ (¬ v4 < 0 → (v4 ≤ 9999 → m_X11_net_56 Q v1 v2 v3 v4 h8) ∧ (¬ v4 ≤ 9999 → Q (-1000000000000) h8)))) ∧ (x7 = 0 → Q (-1000000000000) h8))))))
set_option maxHeartbeats 4000000 in
set_option maxRecDepth 100000 in
theorem s_X11_net {l : Launch} {G : Cx} {d : Nat} (hd : 8 ≤ d) {v1 : Int32} {v2 : Int32} {v3 : Int32} {v4 : Int32} {h : Hp} {Q : Int64 → Hp → Prop} (hm : m_X11_net v1 v2 v3 v4 h Q) : Ct l G d 0 0 yX11_net MX11_net [tR 11 0 (some 0), tI v1, tI v2, tI v3, tI v4] h (qJ Q) := by
  unfold m_X11_net at hm
  refine Ct.of (L := [some (tR 11 0 (some 0)), some (tI v1), some (tI v2), some (tI v3), some (tI v4)]) (by decide) rfl rfl (Nat.le_of_ble_eq_true rfl) rfl ?_
  refine r_aload_n dX11_net_0 rfl rfl ?_
  refine r_getC (k := 10) cl_11 dX11_net_1 t_356 gf_11_10.1 gf_11_10.2 (gc_11_10 _) ?_
  refine r_iload_n dX11_net_4 rfl rfl ?_
  refine r_callVI (d' := d - 1) (as := [tI v1]) (st := []) cl_0 dX11_net_5 mi_X0_hasCode t_902 t_903 t_904 rfl rfl (Nat.le_of_ble_eq_true rfl) (by omega) ⟨by decide, by decide⟩ ⟨rfl, rfl⟩ (s_X0_hasCode (by omega) hm) (fun x3 h4 hm => ?_)
  refine r_if_eq (tgt := 29) dX11_net_8 rfl (fun hc => ?_) (fun hc => ?_)
  · replace hm := hm.1 hc
    refine r_ldc2_w dX11_net_29 t_932 ?_
    exact r_lreturn dX11_net_32 rfl ⟨by decide, by decide⟩ ⟨_, rfl, hm⟩
  · replace hm := hm.2 hc
    refine r_iload_n dX11_net_11 rfl rfl ?_
    refine r_bipush (v := 8) dX11_net_12 rfl ?_
    refine r_callSI (d' := d - 1) (as := [tI v2, tI 8]) (st := []) dX11_net_14 mi_X11_isWithin t_405 t_406 rfl rfl (Nat.le_of_ble_eq_true rfl) (by omega) ⟨by decide, by decide⟩ ⟨rfl, rfl⟩ (s_X11_isWithin (by omega) hm) (fun x5 h6 hm => ?_)
    refine r_if_eq (tgt := 29) dX11_net_17 rfl (fun hc => ?_) (fun hc => ?_)
    · replace hm := hm.1 hc
      refine r_ldc2_w dX11_net_29 t_932 ?_
      exact r_lreturn dX11_net_32 rfl ⟨by decide, by decide⟩ ⟨_, rfl, hm⟩
    · replace hm := hm.2 hc
      refine r_iload_n dX11_net_20 rfl rfl ?_
      refine r_bipush (v := 6) dX11_net_21 rfl ?_
      refine r_callSI (d' := d - 1) (as := [tI v3, tI 6]) (st := []) dX11_net_23 mi_X11_isWithin t_405 t_406 rfl rfl (Nat.le_of_ble_eq_true rfl) (by omega) ⟨by decide, by decide⟩ ⟨rfl, rfl⟩ (s_X11_isWithin (by omega) hm) (fun x7 h8 hm => ?_)
      refine r_if_ne (tgt := 33) dX11_net_26 rfl (fun hc => ?_) (fun hc => ?_)
      · replace hm := hm.1 hc
        refine r_iload dX11_net_33 rfl ?_
        refine r_iconst (v := (-1)) dX11_net_35 rfl ?_
        refine r_icmp_eq (tgt := 56) dX11_net_36 rfl (fun hc => ?_) (fun hc => ?_)
        · replace hm := hm.1 hc
          refine r_keep (L' := [some (tR 11 0 (some 0)), some (tI v1), some (tI v2), some (tI v3), some (tI v4)]) [true, true, true, true, true] rfl ?_
          exact s_X11_net_56 hd hm
        · replace hm := hm.2 hc
          refine r_iload dX11_net_39 rfl ?_
          refine r_if_lt (tgt := 52) dX11_net_41 rfl (fun hc => ?_) (fun hc => ?_)
          · replace hm := hm.1 hc
            refine r_ldc2_w dX11_net_52 t_932 ?_
            exact r_lreturn dX11_net_55 rfl ⟨by decide, by decide⟩ ⟨_, rfl, hm⟩
          · replace hm := hm.2 hc
            refine r_iload dX11_net_44 rfl ?_
            refine r_sipush (v := 9999) dX11_net_46 rfl ?_
            refine r_icmp_le (tgt := 56) dX11_net_49 rfl (fun hc => ?_) (fun hc => ?_)
            · replace hm := hm.1 hc
              refine r_keep (L' := [some (tR 11 0 (some 0)), some (tI v1), some (tI v2), some (tI v3), some (tI v4)]) [true, true, true, true, true] rfl ?_
              exact s_X11_net_56 hd hm
            · replace hm := hm.2 hc
              refine r_ldc2_w dX11_net_52 t_932 ?_
              exact r_lreturn dX11_net_55 rfl ⟨by decide, by decide⟩ ⟨_, rfl, hm⟩
      · replace hm := hm.2 hc
        refine r_ldc2_w dX11_net_29 t_932 ?_
        exact r_lreturn dX11_net_32 rfl ⟨by decide, by decide⟩ ⟨_, rfl, hm⟩
theorem dX11_codes_0 : decode cX11_codes 0 = .ok (.aload_n 0, 1) := rfl
theorem dX11_codes_1 : decode cX11_codes 1 = .ok (.getfield 51, 3) := rfl
theorem dX11_codes_4 : decode cX11_codes 4 = .ok (.invokevirtual 211, 3) := rfl
theorem dX11_codes_7 : decode cX11_codes 7 = .ok (.ifCond .eq 13, 3) := by decide +kernel
theorem dX11_codes_10 : decode cX11_codes 10 = .ok (.aload_n 0, 1) := rfl
theorem dX11_codes_11 : decode cX11_codes 11 = .ok (.getfield 51, 3) := rfl
theorem dX11_codes_14 : decode cX11_codes 14 = .ok (.invokevirtual 215, 3) := rfl
theorem dX11_codes_17 : decode cX11_codes 17 = .ok (.goto 4, 3) := by decide +kernel
theorem dX11_codes_20 : decode cX11_codes 20 = .ok (.iconst (-1), 1) := rfl
theorem dX11_codes_21 : decode cX11_codes 21 = .ok (.ireturn, 1) := rfl
def m_X11_codes  (h : Hp) (Q : Int32 → Hp → Prop) : Prop := m_X0_isLooked 11 h (fun (x1 : Int32) (h2 : Hp) => (x1 = 0 → Q (-1) h2) ∧ (¬ x1 = 0 → m_X0_codesLooked 11 h2 (fun (x3 : Int32) (h4 : Hp) => Q x3 h4)))
set_option maxHeartbeats 4000000 in
set_option maxRecDepth 100000 in
theorem s_X11_codes {l : Launch} {G : Cx} {d : Nat} (hd : 10 ≤ d) {h : Hp} {Q : Int32 → Hp → Prop} (hm : m_X11_codes h Q) : Ct l G d 0 0 yX11_codes MX11_codes [tR 11 0 (some 0)] h (qI Q) := by
  unfold m_X11_codes at hm
  refine Ct.of (L := [some (tR 11 0 (some 0))]) (by decide) rfl rfl (Nat.le_of_ble_eq_true rfl) rfl ?_
  refine r_aload_n dX11_codes_0 rfl rfl ?_
  refine r_getC (k := 10) cl_11 dX11_codes_1 t_356 gf_11_10.1 gf_11_10.2 (gc_11_10 _) ?_
  refine r_callVI (d' := d - 1) (as := []) (st := []) cl_0 dX11_codes_4 mi_X0_isLooked t_948 t_949 t_950 rfl rfl (Nat.le_of_ble_eq_true rfl) (by omega) ⟨by decide, by decide⟩ ⟨rfl, rfl⟩ (s_X0_isLooked (by omega) hm) (fun x1 h2 hm => ?_)
  refine r_if_eq (tgt := 20) dX11_codes_7 rfl (fun hc => ?_) (fun hc => ?_)
  · replace hm := hm.1 hc
    refine r_iconst (v := (-1)) dX11_codes_20 rfl ?_
    exact r_ireturn dX11_codes_21 rfl ⟨by decide, by decide⟩ ⟨_, rfl, hm⟩
  · replace hm := hm.2 hc
    refine r_aload_n dX11_codes_10 rfl rfl ?_
    refine r_getC (k := 10) cl_11 dX11_codes_11 t_356 gf_11_10.1 gf_11_10.2 (gc_11_10 _) ?_
    refine r_callVI (d' := d - 1) (as := []) (st := []) cl_0 dX11_codes_14 mi_X0_codesLooked t_957 t_958 t_959 rfl rfl (Nat.le_of_ble_eq_true rfl) (by omega) ⟨by decide, by decide⟩ ⟨rfl, rfl⟩ (s_X0_codesLooked (by omega) hm) (fun x3 h4 hm => ?_)
    refine r_goto (tgt := 21) dX11_codes_17 rfl ?_
    exact r_ireturn dX11_codes_21 rfl ⟨by decide, by decide⟩ ⟨_, rfl, hm⟩
theorem dX11_isPair_0 : decode cX11_isPair 0 = .ok (.iload_n 0, 1) := rfl
theorem dX11_isPair_1 : decode cX11_isPair 1 = .ok (.bipush 8, 2) := by decide +kernel
theorem dX11_isPair_3 : decode cX11_isPair 3 = .ok (.invokestatic 98, 3) := rfl
theorem dX11_isPair_6 : decode cX11_isPair 6 = .ok (.ifCond .eq 21, 3) := by decide +kernel
theorem dX11_isPair_9 : decode cX11_isPair 9 = .ok (.iload_n 1, 1) := rfl
theorem dX11_isPair_10 : decode cX11_isPair 10 = .ok (.bipush 8, 2) := by decide +kernel
theorem dX11_isPair_12 : decode cX11_isPair 12 = .ok (.invokestatic 98, 3) := rfl
theorem dX11_isPair_15 : decode cX11_isPair 15 = .ok (.ifCond .eq 12, 3) := by decide +kernel
theorem dX11_isPair_18 : decode cX11_isPair 18 = .ok (.iload_n 0, 1) := rfl
theorem dX11_isPair_19 : decode cX11_isPair 19 = .ok (.iload_n 1, 1) := rfl
theorem dX11_isPair_20 : decode cX11_isPair 20 = .ok (.if_icmp .eq 7, 3) := by decide +kernel
theorem dX11_isPair_23 : decode cX11_isPair 23 = .ok (.iconst 1, 1) := rfl
theorem dX11_isPair_24 : decode cX11_isPair 24 = .ok (.goto 4, 3) := by decide +kernel
theorem dX11_isPair_27 : decode cX11_isPair 27 = .ok (.iconst 0, 1) := rfl
theorem dX11_isPair_28 : decode cX11_isPair 28 = .ok (.ireturn, 1) := rfl
def m_X11_isPair (v0 : Int32) (v1 : Int32) (h : Hp) (Q : Int32 → Hp → Prop) : Prop := m_X11_isWithin v0 8 h (fun (x1 : Int32) (h2 : Hp) => (x1 = 0 → Q 0 h2) ∧ (¬ x1 = 0 → m_X11_isWithin v1 8 h2 (fun (x3 : Int32) (h4 : Hp) => (x3 = 0 → Q 0 h4) ∧ (¬ x3 = 0 → (v0 = v1 → Q 0 h4) ∧ (¬ v0 = v1 → Q 1 h4)))))
set_option maxHeartbeats 4000000 in
set_option maxRecDepth 100000 in
theorem s_X11_isPair {l : Launch} {G : Cx} {d : Nat} (hd : 4 ≤ d) {v0 : Int32} {v1 : Int32} {h : Hp} {Q : Int32 → Hp → Prop} (hm : m_X11_isPair v0 v1 h Q) : Ct l G d 0 0 yX11_isPair MX11_isPair [tI v0, tI v1] h (qI Q) := by
  unfold m_X11_isPair at hm
  refine Ct.of (L := [some (tI v0), some (tI v1)]) (by decide) rfl rfl (Nat.le_of_ble_eq_true rfl) rfl ?_
  refine r_iload_n dX11_isPair_0 rfl rfl ?_
  refine r_bipush (v := 8) dX11_isPair_1 rfl ?_
  refine r_callSI (d' := d - 1) (as := [tI v0, tI 8]) (st := []) dX11_isPair_3 mi_X11_isWithin t_405 t_406 rfl rfl (Nat.le_of_ble_eq_true rfl) (by omega) ⟨by decide, by decide⟩ ⟨rfl, rfl⟩ (s_X11_isWithin (by omega) hm) (fun x1 h2 hm => ?_)
  refine r_if_eq (tgt := 27) dX11_isPair_6 rfl (fun hc => ?_) (fun hc => ?_)
  · replace hm := hm.1 hc
    refine r_iconst (v := 0) dX11_isPair_27 rfl ?_
    exact r_bret dX11_isPair_28 rfl ⟨by decide, by decide⟩ (by unfold bz; decide) ⟨_, rfl, hm⟩
  · replace hm := hm.2 hc
    refine r_iload_n dX11_isPair_9 rfl rfl ?_
    refine r_bipush (v := 8) dX11_isPair_10 rfl ?_
    refine r_callSI (d' := d - 1) (as := [tI v1, tI 8]) (st := []) dX11_isPair_12 mi_X11_isWithin t_405 t_406 rfl rfl (Nat.le_of_ble_eq_true rfl) (by omega) ⟨by decide, by decide⟩ ⟨rfl, rfl⟩ (s_X11_isWithin (by omega) hm) (fun x3 h4 hm => ?_)
    refine r_if_eq (tgt := 27) dX11_isPair_15 rfl (fun hc => ?_) (fun hc => ?_)
    · replace hm := hm.1 hc
      refine r_iconst (v := 0) dX11_isPair_27 rfl ?_
      exact r_bret dX11_isPair_28 rfl ⟨by decide, by decide⟩ (by unfold bz; decide) ⟨_, rfl, hm⟩
    · replace hm := hm.2 hc
      refine r_iload_n dX11_isPair_18 rfl rfl ?_
      refine r_iload_n dX11_isPair_19 rfl rfl ?_
      refine r_icmp_eq (tgt := 27) dX11_isPair_20 rfl (fun hc => ?_) (fun hc => ?_)
      · replace hm := hm.1 hc
        refine r_iconst (v := 0) dX11_isPair_27 rfl ?_
        exact r_bret dX11_isPair_28 rfl ⟨by decide, by decide⟩ (by unfold bz; decide) ⟨_, rfl, hm⟩
      · replace hm := hm.2 hc
        refine r_iconst (v := 1) dX11_isPair_23 rfl ?_
        refine r_goto (tgt := 28) dX11_isPair_24 rfl ?_
        exact r_bret dX11_isPair_28 rfl ⟨by decide, by decide⟩ (by unfold bz; decide) ⟨_, rfl, hm⟩
theorem dX11_lends_0 : decode cX11_lends 0 = .ok (.iload_n 1, 1) := rfl
theorem dX11_lends_1 : decode cX11_lends 1 = .ok (.iload_n 2, 1) := rfl
theorem dX11_lends_2 : decode cX11_lends 2 = .ok (.invokestatic 219, 3) := rfl
theorem dX11_lends_5 : decode cX11_lends 5 = .ok (.ifCond .eq 13, 3) := by decide +kernel
theorem dX11_lends_8 : decode cX11_lends 8 = .ok (.aload_n 0, 1) := rfl
theorem dX11_lends_9 : decode cX11_lends 9 = .ok (.getfield 51, 3) := rfl
theorem dX11_lends_12 : decode cX11_lends 12 = .ok (.invokevirtual 211, 3) := rfl
theorem dX11_lends_15 : decode cX11_lends 15 = .ok (.ifCond .ne 5, 3) := by decide +kernel
theorem dX11_lends_18 : decode cX11_lends 18 = .ok (.iconst (-1), 1) := rfl
theorem dX11_lends_19 : decode cX11_lends 19 = .ok (.ireturn, 1) := rfl
theorem dX11_lends_20 : decode cX11_lends 20 = .ok (.aload_n 0, 1) := rfl
theorem dX11_lends_21 : decode cX11_lends 21 = .ok (.getfield 71, 3) := rfl
theorem dX11_lends_24 : decode cX11_lends 24 = .ok (.aload_n 0, 1) := rfl
theorem dX11_lends_25 : decode cX11_lends 25 = .ok (.getfield 51, 3) := rfl
theorem dX11_lends_28 : decode cX11_lends 28 = .ok (.aload_n 0, 1) := rfl
theorem dX11_lends_29 : decode cX11_lends 29 = .ok (.getfield 64, 3) := rfl
theorem dX11_lends_32 : decode cX11_lends 32 = .ok (.invokevirtual 222, 3) := rfl
theorem dX11_lends_35 : decode cX11_lends 35 = .ok (.aload_n 0, 1) := rfl
theorem dX11_lends_36 : decode cX11_lends 36 = .ok (.getfield 71, 3) := rfl
theorem dX11_lends_39 : decode cX11_lends 39 = .ok (.getfield 226, 3) := rfl
theorem dX11_lends_42 : decode cX11_lends 42 = .ok (.iload_n 1, 1) := rfl
theorem dX11_lends_43 : decode cX11_lends 43 = .ok (.bipush 8, 2) := by decide +kernel
theorem dX11_lends_45 : decode cX11_lends 45 = .ok (.imul, 1) := rfl
theorem dX11_lends_46 : decode cX11_lends 46 = .ok (.iload_n 2, 1) := rfl
theorem dX11_lends_47 : decode cX11_lends 47 = .ok (.iadd, 1) := rfl
theorem dX11_lends_48 : decode cX11_lends 48 = .ok (.iaload, 1) := rfl
theorem dX11_lends_49 : decode cX11_lends 49 = .ok (.ireturn, 1) := rfl
def m_X11_lends (v1 : Int32) (v2 : Int32) (h : Hp) (Q : Int32 → Hp → Prop) : Prop := m_X11_isPair v1 v2 h (fun (x1 : Int32) (h2 : Hp) => (x1 = 0 → Q (-1) h2) ∧ (¬ x1 = 0 → m_X0_isLooked 11 h2 (fun (x3 : Int32) (h4 : Hp) => (¬ x3 = 0 → m_X9_learn 11 h4 (fun (h6 : Hp) => vp_in ((v1 * 8) + v2) 64 ∧ (Q (hI h6 27 (ix ((v1 * 8) + v2))) h6))) ∧ (x3 = 0 → Q (-1) h4))))
set_option maxHeartbeats 4000000 in
set_option maxRecDepth 100000 in
theorem s_X11_lends {l : Launch} {G : Cx} {d : Nat} (hd : 12 ≤ d) {v1 : Int32} {v2 : Int32} {h : Hp} {Q : Int32 → Hp → Prop} (hm : m_X11_lends v1 v2 h Q) : Ct l G d 0 0 yX11_lends MX11_lends [tR 11 0 (some 0), tI v1, tI v2] h (qI Q) := by
  unfold m_X11_lends at hm
  refine Ct.of (L := [some (tR 11 0 (some 0)), some (tI v1), some (tI v2)]) (by decide) rfl rfl (Nat.le_of_ble_eq_true rfl) rfl ?_
  refine r_iload_n dX11_lends_0 rfl rfl ?_
  refine r_iload_n dX11_lends_1 rfl rfl ?_
  refine r_callSI (d' := d - 1) (as := [tI v1, tI v2]) (st := []) dX11_lends_2 mi_X11_isPair t_965 t_966 rfl rfl (Nat.le_of_ble_eq_true rfl) (by omega) ⟨by decide, by decide⟩ ⟨rfl, rfl⟩ (s_X11_isPair (by omega) hm) (fun x1 h2 hm => ?_)
  refine r_if_eq (tgt := 18) dX11_lends_5 rfl (fun hc => ?_) (fun hc => ?_)
  · replace hm := hm.1 hc
    refine r_iconst (v := (-1)) dX11_lends_18 rfl ?_
    exact r_ireturn dX11_lends_19 rfl ⟨by decide, by decide⟩ ⟨_, rfl, hm⟩
  · replace hm := hm.2 hc
    refine r_aload_n dX11_lends_8 rfl rfl ?_
    refine r_getC (k := 10) cl_11 dX11_lends_9 t_356 gf_11_10.1 gf_11_10.2 (gc_11_10 _) ?_
    refine r_callVI (d' := d - 1) (as := []) (st := []) cl_0 dX11_lends_12 mi_X0_isLooked t_948 t_949 t_950 rfl rfl (Nat.le_of_ble_eq_true rfl) (by omega) ⟨by decide, by decide⟩ ⟨rfl, rfl⟩ (s_X0_isLooked (by omega) hm) (fun x3 h4 hm => ?_)
    refine r_if_ne (tgt := 20) dX11_lends_15 rfl (fun hc => ?_) (fun hc => ?_)
    · replace hm := hm.1 hc
      refine r_aload_n dX11_lends_20 rfl rfl ?_
      refine r_getC (k := 14) cl_11 dX11_lends_21 t_360 gf_11_14.1 gf_11_14.2 (gc_11_14 _) ?_
      refine r_aload_n dX11_lends_24 rfl rfl ?_
      refine r_getC (k := 10) cl_11 dX11_lends_25 t_356 gf_11_10.1 gf_11_10.2 (gc_11_10 _) ?_
      refine r_aload_n dX11_lends_28 rfl rfl ?_
      refine r_getC (k := 13) cl_11 dX11_lends_29 t_359 gf_11_13.1 gf_11_13.2 (gc_11_13 _) ?_
      refine r_callVU (d' := d - 1) (as := [tR 0 0 (some 11), tR 5 0 (some 14)]) (st := []) cl_9 dX11_lends_32 mi_X9_learn t_968 t_969 t_970 rfl rfl (Nat.le_of_ble_eq_true rfl) (by omega) ⟨by decide, by decide⟩ ⟨rfl, rfl⟩ (s_X9_learn (by omega) hm) (fun h6 hm => ?_)
      refine r_aload_n dX11_lends_35 rfl rfl ?_
      refine r_getC (k := 14) cl_11 dX11_lends_36 t_360 gf_11_14.1 gf_11_14.2 (gc_11_14 _) ?_
      refine r_getC (k := 2) cl_9 dX11_lends_39 t_218 gf_9_2.1 gf_9_2.2 (gc_9_2 _) ?_
      refine r_iload_n dX11_lends_42 rfl rfl ?_
      refine r_bipush (v := 8) dX11_lends_43 rfl ?_
      refine r_imul dX11_lends_45 ?_
      refine r_iload_n dX11_lends_46 rfl rfl ?_
      refine r_iadd dX11_lends_47 ?_
      refine r_iald dX11_lends_48 hm.1 ?_
      replace hm := hm.2
      exact r_ireturn dX11_lends_49 rfl ⟨by decide, by decide⟩ ⟨_, rfl, hm⟩
    · replace hm := hm.2 hc
      refine r_iconst (v := (-1)) dX11_lends_18 rfl ?_
      exact r_ireturn dX11_lends_19 rfl ⟨by decide, by decide⟩ ⟨_, rfl, hm⟩
theorem dX11_price_0 : decode cX11_price 0 = .ok (.iload_n 1, 1) := by decide +kernel
theorem dX11_price_1 : decode cX11_price 1 = .ok (.iload_n 2, 1) := by decide +kernel
theorem dX11_price_2 : decode cX11_price 2 = .ok (.invokestatic 219, 3) := by decide +kernel
theorem dX11_price_5 : decode cX11_price 5 = .ok (.ifCond .eq 21, 3) := by decide +kernel
theorem dX11_price_8 : decode cX11_price 8 = .ok (.iload_n 3, 1) := by decide +kernel
theorem dX11_price_9 : decode cX11_price 9 = .ok (.iconst 4, 1) := by decide +kernel
theorem dX11_price_10 : decode cX11_price 10 = .ok (.invokestatic 98, 3) := by decide +kernel
theorem dX11_price_13 : decode cX11_price 13 = .ok (.ifCond .eq 13, 3) := by decide +kernel
theorem dX11_price_16 : decode cX11_price 16 = .ok (.aload_n 0, 1) := by decide +kernel
theorem dX11_price_17 : decode cX11_price 17 = .ok (.getfield 51, 3) := by decide +kernel
theorem dX11_price_20 : decode cX11_price 20 = .ok (.invokevirtual 211, 3) := by decide +kernel
theorem dX11_price_23 : decode cX11_price 23 = .ok (.ifCond .ne 7, 3) := by decide +kernel
theorem dX11_price_26 : decode cX11_price 26 = .ok (.ldc2_w 195, 3) := by decide +kernel
theorem dX11_price_29 : decode cX11_price 29 = .ok (.lreturn, 1) := by decide +kernel
theorem dX11_price_30 : decode cX11_price 30 = .ok (.aload_n 0, 1) := by decide +kernel
theorem dX11_price_31 : decode cX11_price 31 = .ok (.getfield 71, 3) := by decide +kernel
theorem dX11_price_34 : decode cX11_price 34 = .ok (.aload_n 0, 1) := by decide +kernel
theorem dX11_price_35 : decode cX11_price 35 = .ok (.getfield 51, 3) := by decide +kernel
theorem dX11_price_38 : decode cX11_price 38 = .ok (.aload_n 0, 1) := by decide +kernel
theorem dX11_price_39 : decode cX11_price 39 = .ok (.getfield 64, 3) := by decide +kernel
theorem dX11_price_42 : decode cX11_price 42 = .ok (.invokevirtual 222, 3) := by decide +kernel
theorem dX11_price_45 : decode cX11_price 45 = .ok (.iload_n 1, 1) := by decide +kernel
theorem dX11_price_46 : decode cX11_price 46 = .ok (.bipush 8, 2) := by decide +kernel
theorem dX11_price_48 : decode cX11_price 48 = .ok (.imul, 1) := by decide +kernel
theorem dX11_price_49 : decode cX11_price 49 = .ok (.iload_n 2, 1) := by decide +kernel
theorem dX11_price_50 : decode cX11_price 50 = .ok (.iadd, 1) := by decide +kernel
theorem dX11_price_51 : decode cX11_price 51 = .ok (.istore 4, 2) := by decide +kernel
theorem dX11_price_53 : decode cX11_price 53 = .ok (.aload_n 0, 1) := by decide +kernel
theorem dX11_price_54 : decode cX11_price 54 = .ok (.getfield 71, 3) := by decide +kernel
theorem dX11_price_57 : decode cX11_price 57 = .ok (.getfield 226, 3) := by decide +kernel
theorem dX11_price_60 : decode cX11_price 60 = .ok (.iload 4, 2) := by decide +kernel
theorem dX11_price_62 : decode cX11_price 62 = .ok (.iaload, 1) := by decide +kernel
theorem dX11_price_63 : decode cX11_price 63 = .ok (.ifCond .ne 9, 3) := by decide +kernel
theorem dX11_price_66 : decode cX11_price 66 = .ok (.ldc2_w 195, 3) := by decide +kernel
theorem dX11_price_69 : decode cX11_price 69 = .ok (.goto 17, 3) := by decide +kernel
theorem dX11_price_72 : decode cX11_price 72 = .ok (.aload_n 0, 1) := by decide +kernel
theorem dX11_price_73 : decode cX11_price 73 = .ok (.getfield 71, 3) := by decide +kernel
theorem dX11_price_76 : decode cX11_price 76 = .ok (.getfield 229, 3) := by decide +kernel
theorem dX11_price_79 : decode cX11_price 79 = .ok (.iload 4, 2) := by decide +kernel
theorem dX11_price_81 : decode cX11_price 81 = .ok (.iconst 4, 1) := by decide +kernel
theorem dX11_price_82 : decode cX11_price 82 = .ok (.imul, 1) := by decide +kernel
theorem dX11_price_83 : decode cX11_price 83 = .ok (.iload_n 3, 1) := by decide +kernel
theorem dX11_price_84 : decode cX11_price 84 = .ok (.iadd, 1) := by decide +kernel
theorem dX11_price_85 : decode cX11_price 85 = .ok (.laload, 1) := by decide +kernel
theorem dX11_price_86 : decode cX11_price 86 = .ok (.lreturn, 1) := by decide +kernel
def m_X11_price (v1 : Int32) (v2 : Int32) (v3 : Int32) (h : Hp) (Q : Int64 → Hp → Prop) : Prop := m_X11_isPair v1 v2 h (fun (x1 : Int32) (h2 : Hp) => (x1 = 0 → Q (-1) h2) ∧ (¬ x1 = 0 → m_X11_isWithin v3 4 h2 (fun (x3 : Int32) (h4 : Hp) => (x3 = 0 → Q (-1) h4) ∧ (¬ x3 = 0 → m_X0_isLooked 11 h4 (fun (x5 : Int32) (h6 : Hp) => (¬ x5 = 0 → m_X9_learn 11 h6 (fun (h8 : Hp) => ∀ x9 : Int32, x9 = ((v1 * 8) + v2) → vp_in x9 64 ∧ ((¬ (hI h8 27 (ix x9)) = 0 → vp_in ((x9 * 4) + v3) 256 ∧ (Q (hJ h8 28 (ix ((x9 * 4) + v3))) h8)) ∧ ((hI h8 27 (ix x9)) = 0 → Q (-1) h8)))) ∧ (x5 = 0 → Q (-1) h6))))))
set_option maxHeartbeats 4000000 in
set_option maxRecDepth 100000 in
theorem s_X11_price {l : Launch} {G : Cx} {d : Nat} (hd : 12 ≤ d) {v1 : Int32} {v2 : Int32} {v3 : Int32} {h : Hp} {Q : Int64 → Hp → Prop} (hm : m_X11_price v1 v2 v3 h Q) : Ct l G d 0 0 yX11_price MX11_price [tR 11 0 (some 0), tI v1, tI v2, tI v3] h (qJ Q) := by
  unfold m_X11_price at hm
  refine Ct.of (L := [some (tR 11 0 (some 0)), some (tI v1), some (tI v2), some (tI v3)]) (by decide) rfl rfl (Nat.le_of_ble_eq_true rfl) rfl ?_
  refine r_iload_n dX11_price_0 rfl rfl ?_
  refine r_iload_n dX11_price_1 rfl rfl ?_
  refine r_callSI (d' := d - 1) (as := [tI v1, tI v2]) (st := []) dX11_price_2 mi_X11_isPair t_965 t_966 rfl rfl (Nat.le_of_ble_eq_true rfl) (by omega) ⟨by decide, by decide⟩ ⟨rfl, rfl⟩ (s_X11_isPair (by omega) hm) (fun x1 h2 hm => ?_)
  refine r_if_eq (tgt := 26) dX11_price_5 rfl (fun hc => ?_) (fun hc => ?_)
  · replace hm := hm.1 hc
    refine r_ldc2_w dX11_price_26 t_914 ?_
    exact r_lreturn dX11_price_29 rfl ⟨by decide, by decide⟩ ⟨_, rfl, hm⟩
  · replace hm := hm.2 hc
    refine r_iload_n dX11_price_8 rfl rfl ?_
    refine r_iconst (v := 4) dX11_price_9 rfl ?_
    refine r_callSI (d' := d - 1) (as := [tI v3, tI 4]) (st := []) dX11_price_10 mi_X11_isWithin t_405 t_406 rfl rfl (Nat.le_of_ble_eq_true rfl) (by omega) ⟨by decide, by decide⟩ ⟨rfl, rfl⟩ (s_X11_isWithin (by omega) hm) (fun x3 h4 hm => ?_)
    refine r_if_eq (tgt := 26) dX11_price_13 rfl (fun hc => ?_) (fun hc => ?_)
    · replace hm := hm.1 hc
      refine r_ldc2_w dX11_price_26 t_914 ?_
      exact r_lreturn dX11_price_29 rfl ⟨by decide, by decide⟩ ⟨_, rfl, hm⟩
    · replace hm := hm.2 hc
      refine r_aload_n dX11_price_16 rfl rfl ?_
      refine r_getC (k := 10) cl_11 dX11_price_17 t_356 gf_11_10.1 gf_11_10.2 (gc_11_10 _) ?_
      refine r_callVI (d' := d - 1) (as := []) (st := []) cl_0 dX11_price_20 mi_X0_isLooked t_948 t_949 t_950 rfl rfl (Nat.le_of_ble_eq_true rfl) (by omega) ⟨by decide, by decide⟩ ⟨rfl, rfl⟩ (s_X0_isLooked (by omega) hm) (fun x5 h6 hm => ?_)
      refine r_if_ne (tgt := 30) dX11_price_23 rfl (fun hc => ?_) (fun hc => ?_)
      · replace hm := hm.1 hc
        refine r_aload_n dX11_price_30 rfl rfl ?_
        refine r_getC (k := 14) cl_11 dX11_price_31 t_360 gf_11_14.1 gf_11_14.2 (gc_11_14 _) ?_
        refine r_aload_n dX11_price_34 rfl rfl ?_
        refine r_getC (k := 10) cl_11 dX11_price_35 t_356 gf_11_10.1 gf_11_10.2 (gc_11_10 _) ?_
        refine r_aload_n dX11_price_38 rfl rfl ?_
        refine r_getC (k := 13) cl_11 dX11_price_39 t_359 gf_11_13.1 gf_11_13.2 (gc_11_13 _) ?_
        refine r_callVU (d' := d - 1) (as := [tR 0 0 (some 11), tR 5 0 (some 14)]) (st := []) cl_9 dX11_price_42 mi_X9_learn t_968 t_969 t_970 rfl rfl (Nat.le_of_ble_eq_true rfl) (by omega) ⟨by decide, by decide⟩ ⟨rfl, rfl⟩ (s_X9_learn (by omega) hm) (fun h8 hm => ?_)
        refine r_iload_n dX11_price_45 rfl rfl ?_
        refine r_bipush (v := 8) dX11_price_46 rfl ?_
        refine r_imul dX11_price_48 ?_
        refine r_iload_n dX11_price_49 rfl rfl ?_
        refine r_iadd dX11_price_50 ?_
        refine r_nmI (fun x9 e_x9 => ?_)
        replace hm := hm x9 e_x9
        refine r_istore (L' := [some (tR 11 0 (some 0)), some (tI v1), some (tI v2), some (tI v3), some (tI x9)]) dX11_price_51 (by decide) rfl ?_
        refine r_aload_n dX11_price_53 rfl rfl ?_
        refine r_getC (k := 14) cl_11 dX11_price_54 t_360 gf_11_14.1 gf_11_14.2 (gc_11_14 _) ?_
        refine r_getC (k := 2) cl_9 dX11_price_57 t_218 gf_9_2.1 gf_9_2.2 (gc_9_2 _) ?_
        refine r_iload dX11_price_60 rfl ?_
        refine r_iald dX11_price_62 hm.1 ?_
        replace hm := hm.2
        refine r_if_ne (tgt := 72) dX11_price_63 rfl (fun hc => ?_) (fun hc => ?_)
        · replace hm := hm.1 hc
          refine r_aload_n dX11_price_72 rfl rfl ?_
          refine r_getC (k := 14) cl_11 dX11_price_73 t_360 gf_11_14.1 gf_11_14.2 (gc_11_14 _) ?_
          refine r_getC (k := 3) cl_9 dX11_price_76 t_220 gf_9_3.1 gf_9_3.2 (gc_9_3 _) ?_
          refine r_iload dX11_price_79 rfl ?_
          refine r_iconst (v := 4) dX11_price_81 rfl ?_
          refine r_imul dX11_price_82 ?_
          refine r_iload_n dX11_price_83 rfl rfl ?_
          refine r_iadd dX11_price_84 ?_
          refine r_lald dX11_price_85 hm.1 ?_
          replace hm := hm.2
          exact r_lreturn dX11_price_86 rfl ⟨by decide, by decide⟩ ⟨_, rfl, hm⟩
        · replace hm := hm.2 hc
          refine r_ldc2_w dX11_price_66 t_914 ?_
          refine r_goto (tgt := 86) dX11_price_69 rfl ?_
          exact r_lreturn dX11_price_86 rfl ⟨by decide, by decide⟩ ⟨_, rfl, hm⟩
      · replace hm := hm.2 hc
        refine r_ldc2_w dX11_price_26 t_914 ?_
        exact r_lreturn dX11_price_29 rfl ⟨by decide, by decide⟩ ⟨_, rfl, hm⟩
theorem dX11_loan_0 : decode cX11_loan 0 = .ok (.aload_n 0, 1) := rfl
theorem dX11_loan_1 : decode cX11_loan 1 = .ok (.getfield 51, 3) := rfl
theorem dX11_loan_4 : decode cX11_loan 4 = .ok (.invokevirtual 211, 3) := rfl
theorem dX11_loan_7 : decode cX11_loan 7 = .ok (.ifCond .ne 5, 3) := by decide +kernel
theorem dX11_loan_10 : decode cX11_loan 10 = .ok (.iconst (-1), 1) := rfl
theorem dX11_loan_11 : decode cX11_loan 11 = .ok (.ireturn, 1) := rfl
theorem dX11_loan_12 : decode cX11_loan 12 = .ok (.aload_n 0, 1) := rfl
theorem dX11_loan_13 : decode cX11_loan 13 = .ok (.getfield 71, 3) := rfl
theorem dX11_loan_16 : decode cX11_loan 16 = .ok (.aload_n 0, 1) := rfl
theorem dX11_loan_17 : decode cX11_loan 17 = .ok (.getfield 51, 3) := rfl
theorem dX11_loan_20 : decode cX11_loan 20 = .ok (.aload_n 0, 1) := rfl
theorem dX11_loan_21 : decode cX11_loan 21 = .ok (.getfield 64, 3) := rfl
theorem dX11_loan_24 : decode cX11_loan 24 = .ok (.invokevirtual 222, 3) := rfl
theorem dX11_loan_27 : decode cX11_loan 27 = .ok (.aload_n 0, 1) := rfl
theorem dX11_loan_28 : decode cX11_loan 28 = .ok (.getfield 71, 3) := rfl
theorem dX11_loan_31 : decode cX11_loan 31 = .ok (.getfield 233, 3) := rfl
theorem dX11_loan_34 : decode cX11_loan 34 = .ok (.ireturn, 1) := rfl
def m_X11_loan  (h : Hp) (Q : Int32 → Hp → Prop) : Prop := m_X0_isLooked 11 h (fun (x1 : Int32) (h2 : Hp) => (¬ x1 = 0 → m_X9_learn 11 h2 (fun (h4 : Hp) => Q (hI h4 26 1) h4)) ∧ (x1 = 0 → Q (-1) h2))
set_option maxHeartbeats 4000000 in
set_option maxRecDepth 100000 in
theorem s_X11_loan {l : Launch} {G : Cx} {d : Nat} (hd : 12 ≤ d) {h : Hp} {Q : Int32 → Hp → Prop} (hm : m_X11_loan h Q) : Ct l G d 0 0 yX11_loan MX11_loan [tR 11 0 (some 0)] h (qI Q) := by
  unfold m_X11_loan at hm
  refine Ct.of (L := [some (tR 11 0 (some 0))]) (by decide) rfl rfl (Nat.le_of_ble_eq_true rfl) rfl ?_
  refine r_aload_n dX11_loan_0 rfl rfl ?_
  refine r_getC (k := 10) cl_11 dX11_loan_1 t_356 gf_11_10.1 gf_11_10.2 (gc_11_10 _) ?_
  refine r_callVI (d' := d - 1) (as := []) (st := []) cl_0 dX11_loan_4 mi_X0_isLooked t_948 t_949 t_950 rfl rfl (Nat.le_of_ble_eq_true rfl) (by omega) ⟨by decide, by decide⟩ ⟨rfl, rfl⟩ (s_X0_isLooked (by omega) hm) (fun x1 h2 hm => ?_)
  refine r_if_ne (tgt := 12) dX11_loan_7 rfl (fun hc => ?_) (fun hc => ?_)
  · replace hm := hm.1 hc
    refine r_aload_n dX11_loan_12 rfl rfl ?_
    refine r_getC (k := 14) cl_11 dX11_loan_13 t_360 gf_11_14.1 gf_11_14.2 (gc_11_14 _) ?_
    refine r_aload_n dX11_loan_16 rfl rfl ?_
    refine r_getC (k := 10) cl_11 dX11_loan_17 t_356 gf_11_10.1 gf_11_10.2 (gc_11_10 _) ?_
    refine r_aload_n dX11_loan_20 rfl rfl ?_
    refine r_getC (k := 13) cl_11 dX11_loan_21 t_359 gf_11_13.1 gf_11_13.2 (gc_11_13 _) ?_
    refine r_callVU (d' := d - 1) (as := [tR 0 0 (some 11), tR 5 0 (some 14)]) (st := []) cl_9 dX11_loan_24 mi_X9_learn t_968 t_969 t_970 rfl rfl (Nat.le_of_ble_eq_true rfl) (by omega) ⟨by decide, by decide⟩ ⟨rfl, rfl⟩ (s_X9_learn (by omega) hm) (fun h4 hm => ?_)
    refine r_aload_n dX11_loan_27 rfl rfl ?_
    refine r_getC (k := 14) cl_11 dX11_loan_28 t_360 gf_11_14.1 gf_11_14.2 (gc_11_14 _) ?_
    refine r_getI (k := 1) cl_9 dX11_loan_31 t_216 (Or.inl rfl) gf_9_1 ?_
    exact r_ireturn dX11_loan_34 rfl ⟨by decide, by decide⟩ ⟨_, rfl, hm⟩
  · replace hm := hm.2 hc
    refine r_iconst (v := (-1)) dX11_loan_10 rfl ?_
    exact r_ireturn dX11_loan_11 rfl ⟨by decide, by decide⟩ ⟨_, rfl, hm⟩
theorem dX11_step_0 : decode cX11_step 0 = .ok (.aload_n 0, 1) := rfl
theorem dX11_step_1 : decode cX11_step 1 = .ok (.getfield 51, 3) := rfl
theorem dX11_step_4 : decode cX11_step 4 = .ok (.invokevirtual 211, 3) := rfl
theorem dX11_step_7 : decode cX11_step 7 = .ok (.ifCond .ne 7, 3) := by decide +kernel
theorem dX11_step_10 : decode cX11_step 10 = .ok (.ldc2_w 195, 3) := rfl
theorem dX11_step_13 : decode cX11_step 13 = .ok (.lreturn, 1) := rfl
theorem dX11_step_14 : decode cX11_step 14 = .ok (.aload_n 0, 1) := rfl
theorem dX11_step_15 : decode cX11_step 15 = .ok (.getfield 71, 3) := rfl
theorem dX11_step_18 : decode cX11_step 18 = .ok (.aload_n 0, 1) := rfl
theorem dX11_step_19 : decode cX11_step 19 = .ok (.getfield 51, 3) := rfl
theorem dX11_step_22 : decode cX11_step 22 = .ok (.aload_n 0, 1) := rfl
theorem dX11_step_23 : decode cX11_step 23 = .ok (.getfield 64, 3) := rfl
theorem dX11_step_26 : decode cX11_step 26 = .ok (.invokevirtual 222, 3) := rfl
theorem dX11_step_29 : decode cX11_step 29 = .ok (.aload_n 0, 1) := rfl
theorem dX11_step_30 : decode cX11_step 30 = .ok (.getfield 71, 3) := rfl
theorem dX11_step_33 : decode cX11_step 33 = .ok (.getfield 233, 3) := rfl
theorem dX11_step_36 : decode cX11_step 36 = .ok (.iconst (-1), 1) := rfl
theorem dX11_step_37 : decode cX11_step 37 = .ok (.if_icmp .ne 9, 3) := by decide +kernel
theorem dX11_step_40 : decode cX11_step 40 = .ok (.ldc2_w 195, 3) := rfl
theorem dX11_step_43 : decode cX11_step 43 = .ok (.goto 21, 3) := by decide +kernel
theorem dX11_step_46 : decode cX11_step 46 = .ok (.aload_n 0, 1) := rfl
theorem dX11_step_47 : decode cX11_step 47 = .ok (.getfield 71, 3) := rfl
theorem dX11_step_50 : decode cX11_step 50 = .ok (.getfield 236, 3) := rfl
theorem dX11_step_53 : decode cX11_step 53 = .ok (.aload_n 0, 1) := rfl
theorem dX11_step_54 : decode cX11_step 54 = .ok (.getfield 71, 3) := rfl
theorem dX11_step_57 : decode cX11_step 57 = .ok (.getfield 233, 3) := rfl
theorem dX11_step_60 : decode cX11_step 60 = .ok (.bipush 10, 2) := by decide +kernel
theorem dX11_step_62 : decode cX11_step 62 = .ok (.idiv, 1) := rfl
theorem dX11_step_63 : decode cX11_step 63 = .ok (.laload, 1) := rfl
theorem dX11_step_64 : decode cX11_step 64 = .ok (.lreturn, 1) := rfl
def m_X11_step  (h : Hp) (Q : Int64 → Hp → Prop) : Prop := m_X0_isLooked 11 h (fun (x1 : Int32) (h2 : Hp) => (¬ x1 = 0 → m_X9_learn 11 h2 (fun (h4 : Hp) => (¬ (hI h4 26 1) = (-1) → vp_in ((hI h4 26 1) / 10) 8 ∧ (Q (hJ h4 29 (ix ((hI h4 26 1) / 10))) h4)) ∧ ((hI h4 26 1) = (-1) → Q (-1) h4))) ∧ (x1 = 0 → Q (-1) h2))
set_option maxHeartbeats 4000000 in
set_option maxRecDepth 100000 in
theorem s_X11_step {l : Launch} {G : Cx} {d : Nat} (hd : 12 ≤ d) {h : Hp} {Q : Int64 → Hp → Prop} (hm : m_X11_step h Q) : Ct l G d 0 0 yX11_step MX11_step [tR 11 0 (some 0)] h (qJ Q) := by
  unfold m_X11_step at hm
  refine Ct.of (L := [some (tR 11 0 (some 0))]) (by decide) rfl rfl (Nat.le_of_ble_eq_true rfl) rfl ?_
  refine r_aload_n dX11_step_0 rfl rfl ?_
  refine r_getC (k := 10) cl_11 dX11_step_1 t_356 gf_11_10.1 gf_11_10.2 (gc_11_10 _) ?_
  refine r_callVI (d' := d - 1) (as := []) (st := []) cl_0 dX11_step_4 mi_X0_isLooked t_948 t_949 t_950 rfl rfl (Nat.le_of_ble_eq_true rfl) (by omega) ⟨by decide, by decide⟩ ⟨rfl, rfl⟩ (s_X0_isLooked (by omega) hm) (fun x1 h2 hm => ?_)
  refine r_if_ne (tgt := 14) dX11_step_7 rfl (fun hc => ?_) (fun hc => ?_)
  · replace hm := hm.1 hc
    refine r_aload_n dX11_step_14 rfl rfl ?_
    refine r_getC (k := 14) cl_11 dX11_step_15 t_360 gf_11_14.1 gf_11_14.2 (gc_11_14 _) ?_
    refine r_aload_n dX11_step_18 rfl rfl ?_
    refine r_getC (k := 10) cl_11 dX11_step_19 t_356 gf_11_10.1 gf_11_10.2 (gc_11_10 _) ?_
    refine r_aload_n dX11_step_22 rfl rfl ?_
    refine r_getC (k := 13) cl_11 dX11_step_23 t_359 gf_11_13.1 gf_11_13.2 (gc_11_13 _) ?_
    refine r_callVU (d' := d - 1) (as := [tR 0 0 (some 11), tR 5 0 (some 14)]) (st := []) cl_9 dX11_step_26 mi_X9_learn t_968 t_969 t_970 rfl rfl (Nat.le_of_ble_eq_true rfl) (by omega) ⟨by decide, by decide⟩ ⟨rfl, rfl⟩ (s_X9_learn (by omega) hm) (fun h4 hm => ?_)
    refine r_aload_n dX11_step_29 rfl rfl ?_
    refine r_getC (k := 14) cl_11 dX11_step_30 t_360 gf_11_14.1 gf_11_14.2 (gc_11_14 _) ?_
    refine r_getI (k := 1) cl_9 dX11_step_33 t_216 (Or.inl rfl) gf_9_1 ?_
    refine r_iconst (v := (-1)) dX11_step_36 rfl ?_
    refine r_icmp_ne (tgt := 46) dX11_step_37 rfl (fun hc => ?_) (fun hc => ?_)
    · replace hm := hm.1 hc
      refine r_aload_n dX11_step_46 rfl rfl ?_
      refine r_getC (k := 14) cl_11 dX11_step_47 t_360 gf_11_14.1 gf_11_14.2 (gc_11_14 _) ?_
      refine r_getC (k := 4) cl_9 dX11_step_50 t_222 gf_9_4.1 gf_9_4.2 (gc_9_4 _) ?_
      refine r_aload_n dX11_step_53 rfl rfl ?_
      refine r_getC (k := 14) cl_11 dX11_step_54 t_360 gf_11_14.1 gf_11_14.2 (gc_11_14 _) ?_
      refine r_getI (k := 1) cl_9 dX11_step_57 t_216 (Or.inl rfl) gf_9_1 ?_
      refine r_bipush (v := 10) dX11_step_60 rfl ?_
      refine r_idiv dX11_step_62 (by decide) ?_
      refine r_lald dX11_step_63 hm.1 ?_
      replace hm := hm.2
      exact r_lreturn dX11_step_64 rfl ⟨by decide, by decide⟩ ⟨_, rfl, hm⟩
    · replace hm := hm.2 hc
      refine r_ldc2_w dX11_step_40 t_914 ?_
      refine r_goto (tgt := 64) dX11_step_43 rfl ?_
      exact r_lreturn dX11_step_64 rfl ⟨by decide, by decide⟩ ⟨_, rfl, hm⟩
  · replace hm := hm.2 hc
    refine r_ldc2_w dX11_step_10 t_914 ?_
    exact r_lreturn dX11_step_13 rfl ⟨by decide, by decide⟩ ⟨_, rfl, hm⟩
theorem dX11_bears_0 : decode cX11_bears 0 = .ok (.iload_n 1, 1) := rfl
theorem dX11_bears_1 : decode cX11_bears 1 = .ok (.bipush 8, 2) := by decide +kernel
theorem dX11_bears_3 : decode cX11_bears 3 = .ok (.invokestatic 98, 3) := rfl
theorem dX11_bears_6 : decode cX11_bears 6 = .ok (.ifCond .eq 11, 3) := by decide +kernel
theorem dX11_bears_9 : decode cX11_bears 9 = .ok (.iload_n 2, 1) := rfl
theorem dX11_bears_10 : decode cX11_bears 10 = .ok (.iconst 5, 1) := rfl
theorem dX11_bears_11 : decode cX11_bears 11 = .ok (.invokestatic 98, 3) := rfl
theorem dX11_bears_14 : decode cX11_bears 14 = .ok (.ifCond .ne 7, 3) := by decide +kernel
theorem dX11_bears_17 : decode cX11_bears 17 = .ok (.ldc2_w 205, 3) := rfl
theorem dX11_bears_20 : decode cX11_bears 20 = .ok (.lreturn, 1) := rfl
theorem dX11_bears_21 : decode cX11_bears 21 = .ok (.aload_n 0, 1) := rfl
theorem dX11_bears_22 : decode cX11_bears 22 = .ok (.getfield 64, 3) := rfl
theorem dX11_bears_25 : decode cX11_bears 25 = .ok (.aload_n 0, 1) := rfl
theorem dX11_bears_26 : decode cX11_bears 26 = .ok (.getfield 51, 3) := rfl
theorem dX11_bears_29 : decode cX11_bears 29 = .ok (.iconst 1, 1) := rfl
theorem dX11_bears_30 : decode cX11_bears 30 = .ok (.iload_n 2, 1) := rfl
theorem dX11_bears_31 : decode cX11_bears 31 = .ok (.ishl, 1) := rfl
theorem dX11_bears_32 : decode cX11_bears 32 = .ok (.iload_n 1, 1) := rfl
theorem dX11_bears_33 : decode cX11_bears 33 = .ok (.iconst 0, 1) := rfl
theorem dX11_bears_34 : decode cX11_bears 34 = .ok (.iconst (-1), 1) := rfl
theorem dX11_bears_35 : decode cX11_bears 35 = .ok (.invokevirtual 207, 3) := rfl
theorem dX11_bears_38 : decode cX11_bears 38 = .ok (.aload_n 0, 1) := rfl
theorem dX11_bears_39 : decode cX11_bears 39 = .ok (.getfield 64, 3) := rfl
theorem dX11_bears_42 : decode cX11_bears 42 = .ok (.aload_n 0, 1) := rfl
theorem dX11_bears_43 : decode cX11_bears 43 = .ok (.getfield 51, 3) := rfl
theorem dX11_bears_46 : decode cX11_bears 46 = .ok (.iconst 0, 1) := rfl
theorem dX11_bears_47 : decode cX11_bears 47 = .ok (.iload_n 1, 1) := rfl
theorem dX11_bears_48 : decode cX11_bears 48 = .ok (.iconst 0, 1) := rfl
theorem dX11_bears_49 : decode cX11_bears 49 = .ok (.iconst (-1), 1) := rfl
theorem dX11_bears_50 : decode cX11_bears 50 = .ok (.invokevirtual 207, 3) := rfl
theorem dX11_bears_53 : decode cX11_bears 53 = .ok (.lsub, 1) := rfl
theorem dX11_bears_54 : decode cX11_bears 54 = .ok (.lreturn, 1) := rfl
def m_X11_bears (v1 : Int32) (v2 : Int32) (h : Hp) (Q : Int64 → Hp → Prop) : Prop := m_X11_isWithin v1 8 h (fun (x1 : Int32) (h2 : Hp) => (x1 = 0 → Q (-1000000000000) h2) ∧ (¬ x1 = 0 → m_X11_isWithin v2 5 h2 (fun (x3 : Int32) (h4 : Hp) => (¬ x3 = 0 → m_X5_sumOf 11 (1 <<< (v2 &&& 31)) v1 0 (-1) h4 (fun (x5 : Int64) (h6 : Hp) => m_X5_sumOf 11 0 v1 0 (-1) h6 (fun (x7 : Int64) (h8 : Hp) => Q (x5 - x7) h8))) ∧ (x3 = 0 → Q (-1000000000000) h4))))
set_option maxHeartbeats 4000000 in
set_option maxRecDepth 100000 in
theorem s_X11_bears {l : Launch} {G : Cx} {d : Nat} (hd : 6 ≤ d) {v1 : Int32} {v2 : Int32} {h : Hp} {Q : Int64 → Hp → Prop} (hm : m_X11_bears v1 v2 h Q) : Ct l G d 0 0 yX11_bears MX11_bears [tR 11 0 (some 0), tI v1, tI v2] h (qJ Q) := by
  unfold m_X11_bears at hm
  refine Ct.of (L := [some (tR 11 0 (some 0)), some (tI v1), some (tI v2)]) (by decide) rfl rfl (Nat.le_of_ble_eq_true rfl) rfl ?_
  refine r_iload_n dX11_bears_0 rfl rfl ?_
  refine r_bipush (v := 8) dX11_bears_1 rfl ?_
  refine r_callSI (d' := d - 1) (as := [tI v1, tI 8]) (st := []) dX11_bears_3 mi_X11_isWithin t_405 t_406 rfl rfl (Nat.le_of_ble_eq_true rfl) (by omega) ⟨by decide, by decide⟩ ⟨rfl, rfl⟩ (s_X11_isWithin (by omega) hm) (fun x1 h2 hm => ?_)
  refine r_if_eq (tgt := 17) dX11_bears_6 rfl (fun hc => ?_) (fun hc => ?_)
  · replace hm := hm.1 hc
    refine r_ldc2_w dX11_bears_17 t_932 ?_
    exact r_lreturn dX11_bears_20 rfl ⟨by decide, by decide⟩ ⟨_, rfl, hm⟩
  · replace hm := hm.2 hc
    refine r_iload_n dX11_bears_9 rfl rfl ?_
    refine r_iconst (v := 5) dX11_bears_10 rfl ?_
    refine r_callSI (d' := d - 1) (as := [tI v2, tI 5]) (st := []) dX11_bears_11 mi_X11_isWithin t_405 t_406 rfl rfl (Nat.le_of_ble_eq_true rfl) (by omega) ⟨by decide, by decide⟩ ⟨rfl, rfl⟩ (s_X11_isWithin (by omega) hm) (fun x3 h4 hm => ?_)
    refine r_if_ne (tgt := 21) dX11_bears_14 rfl (fun hc => ?_) (fun hc => ?_)
    · replace hm := hm.1 hc
      refine r_aload_n dX11_bears_21 rfl rfl ?_
      refine r_getC (k := 13) cl_11 dX11_bears_22 t_359 gf_11_13.1 gf_11_13.2 (gc_11_13 _) ?_
      refine r_aload_n dX11_bears_25 rfl rfl ?_
      refine r_getC (k := 10) cl_11 dX11_bears_26 t_356 gf_11_10.1 gf_11_10.2 (gc_11_10 _) ?_
      refine r_iconst (v := 1) dX11_bears_29 rfl ?_
      refine r_iload_n dX11_bears_30 rfl rfl ?_
      refine r_ishl dX11_bears_31 ?_
      refine r_iload_n dX11_bears_32 rfl rfl ?_
      refine r_iconst (v := 0) dX11_bears_33 rfl ?_
      refine r_iconst (v := (-1)) dX11_bears_34 rfl ?_
      refine r_callVJ (d' := d - 1) (as := [tR 0 0 (some 11), tI (1 <<< (v2 &&& 31)), tI v1, tI 0, tI (-1)]) (st := []) cl_5 dX11_bears_35 mi_X5_sumOf t_933 t_934 t_935 rfl rfl (Nat.le_of_ble_eq_true rfl) (by omega) ⟨by decide, by decide⟩ ⟨rfl, rfl⟩ (s_X5_sumOf (by omega) hm) (fun x5 h6 hm => ?_)
      refine r_aload_n dX11_bears_38 rfl rfl ?_
      refine r_getC (k := 13) cl_11 dX11_bears_39 t_359 gf_11_13.1 gf_11_13.2 (gc_11_13 _) ?_
      refine r_aload_n dX11_bears_42 rfl rfl ?_
      refine r_getC (k := 10) cl_11 dX11_bears_43 t_356 gf_11_10.1 gf_11_10.2 (gc_11_10 _) ?_
      refine r_iconst (v := 0) dX11_bears_46 rfl ?_
      refine r_iload_n dX11_bears_47 rfl rfl ?_
      refine r_iconst (v := 0) dX11_bears_48 rfl ?_
      refine r_iconst (v := (-1)) dX11_bears_49 rfl ?_
      refine r_callVJ (d' := d - 1) (as := [tR 0 0 (some 11), tI 0, tI v1, tI 0, tI (-1)]) (st := [tJ x5]) cl_5 dX11_bears_50 mi_X5_sumOf t_933 t_934 t_935 rfl rfl (Nat.le_of_ble_eq_true rfl) (by omega) ⟨by decide, by decide⟩ ⟨rfl, rfl⟩ (s_X5_sumOf (by omega) hm) (fun x7 h8 hm => ?_)
      refine r_lsub dX11_bears_53 ?_
      exact r_lreturn dX11_bears_54 rfl ⟨by decide, by decide⟩ ⟨_, rfl, hm⟩
    · replace hm := hm.2 hc
      refine r_ldc2_w dX11_bears_17 t_932 ?_
      exact r_lreturn dX11_bears_20 rfl ⟨by decide, by decide⟩ ⟨_, rfl, hm⟩
theorem dX11_cost_0 : decode cX11_cost 0 = .ok (.iload_n 1, 1) := by decide +kernel
theorem dX11_cost_1 : decode cX11_cost 1 = .ok (.iload_n 2, 1) := by decide +kernel
theorem dX11_cost_2 : decode cX11_cost 2 = .ok (.invokestatic 219, 3) := by decide +kernel
theorem dX11_cost_5 : decode cX11_cost 5 = .ok (.ifCond .eq 11, 3) := by decide +kernel
theorem dX11_cost_8 : decode cX11_cost 8 = .ok (.iload_n 3, 1) := by decide +kernel
theorem dX11_cost_9 : decode cX11_cost 9 = .ok (.iconst 2, 1) := by decide +kernel
theorem dX11_cost_10 : decode cX11_cost 10 = .ok (.invokestatic 98, 3) := by decide +kernel
theorem dX11_cost_13 : decode cX11_cost 13 = .ok (.ifCond .ne 7, 3) := by decide +kernel
theorem dX11_cost_16 : decode cX11_cost 16 = .ok (.ldc2_w 195, 3) := by decide +kernel
theorem dX11_cost_19 : decode cX11_cost 19 = .ok (.lreturn, 1) := by decide +kernel
theorem dX11_cost_20 : decode cX11_cost 20 = .ok (.lconst 0, 1) := by decide +kernel
theorem dX11_cost_21 : decode cX11_cost 21 = .ok (.lstore 4, 2) := by decide +kernel
theorem dX11_cost_23 : decode cX11_cost 23 = .ok (.lconst 0, 1) := by decide +kernel
theorem dX11_cost_24 : decode cX11_cost 24 = .ok (.lstore 6, 2) := by decide +kernel
theorem dX11_cost_26 : decode cX11_cost 26 = .ok (.iconst (-1), 1) := by decide +kernel
theorem dX11_cost_27 : decode cX11_cost 27 = .ok (.istore 8, 2) := by decide +kernel
theorem dX11_cost_29 : decode cX11_cost 29 = .ok (.iconst 0, 1) := by decide +kernel
theorem dX11_cost_30 : decode cX11_cost 30 = .ok (.istore 9, 2) := by decide +kernel
theorem dX11_cost_32 : decode cX11_cost 32 = .ok (.iload 9, 2) := by decide +kernel
theorem dX11_cost_34 : decode cX11_cost 34 = .ok (.bipush 8, 2) := by decide +kernel
theorem dX11_cost_36 : decode cX11_cost 36 = .ok (.if_icmp .ge 73, 3) := by decide +kernel
theorem dX11_cost_39 : decode cX11_cost 39 = .ok (.iload 9, 2) := by decide +kernel
theorem dX11_cost_41 : decode cX11_cost 41 = .ok (.iload_n 1, 1) := by decide +kernel
theorem dX11_cost_42 : decode cX11_cost 42 = .ok (.if_icmp .eq 9, 3) := by decide +kernel
theorem dX11_cost_45 : decode cX11_cost 45 = .ok (.iload 9, 2) := by decide +kernel
theorem dX11_cost_47 : decode cX11_cost 47 = .ok (.iload_n 2, 1) := by decide +kernel
theorem dX11_cost_48 : decode cX11_cost 48 = .ok (.if_icmp .ne 7, 3) := by decide +kernel
theorem dX11_cost_51 : decode cX11_cost 51 = .ok (.lconst 0, 1) := by decide +kernel
theorem dX11_cost_52 : decode cX11_cost 52 = .ok (.goto 19, 3) := by decide +kernel
theorem dX11_cost_55 : decode cX11_cost 55 = .ok (.aload_n 0, 1) := by decide +kernel
theorem dX11_cost_56 : decode cX11_cost 56 = .ok (.getfield 64, 3) := by decide +kernel
theorem dX11_cost_59 : decode cX11_cost 59 = .ok (.aload_n 0, 1) := by decide +kernel
theorem dX11_cost_60 : decode cX11_cost 60 = .ok (.getfield 51, 3) := by decide +kernel
theorem dX11_cost_63 : decode cX11_cost 63 = .ok (.iconst 0, 1) := by decide +kernel
theorem dX11_cost_64 : decode cX11_cost 64 = .ok (.iload 9, 2) := by decide +kernel
theorem dX11_cost_66 : decode cX11_cost 66 = .ok (.iconst 0, 1) := by decide +kernel
theorem dX11_cost_67 : decode cX11_cost 67 = .ok (.iconst (-1), 1) := by decide +kernel
theorem dX11_cost_68 : decode cX11_cost 68 = .ok (.invokevirtual 207, 3) := by decide +kernel
theorem dX11_cost_71 : decode cX11_cost 71 = .ok (.lstore 10, 2) := by decide +kernel
theorem dX11_cost_73 : decode cX11_cost 73 = .ok (.lload 10, 2) := by decide +kernel
theorem dX11_cost_75 : decode cX11_cost 75 = .ok (.lconst 0, 1) := by decide +kernel
theorem dX11_cost_76 : decode cX11_cost 76 = .ok (.lcmp, 1) := by decide +kernel
theorem dX11_cost_77 : decode cX11_cost 77 = .ok (.ifCond .le 10, 3) := by decide +kernel
theorem dX11_cost_80 : decode cX11_cost 80 = .ok (.lload 4, 2) := by decide +kernel
theorem dX11_cost_82 : decode cX11_cost 82 = .ok (.lload 10, 2) := by decide +kernel
theorem dX11_cost_84 : decode cX11_cost 84 = .ok (.ladd, 1) := by decide +kernel
theorem dX11_cost_85 : decode cX11_cost 85 = .ok (.lstore 4, 2) := by decide +kernel
theorem dX11_cost_87 : decode cX11_cost 87 = .ok (.lload 10, 2) := by decide +kernel
theorem dX11_cost_89 : decode cX11_cost 89 = .ok (.lload 6, 2) := by decide +kernel
theorem dX11_cost_91 : decode cX11_cost 91 = .ok (.lcmp, 1) := by decide +kernel
theorem dX11_cost_92 : decode cX11_cost 92 = .ok (.ifCond .le 11, 3) := by decide +kernel
theorem dX11_cost_95 : decode cX11_cost 95 = .ok (.lload 10, 2) := by decide +kernel
theorem dX11_cost_97 : decode cX11_cost 97 = .ok (.lstore 6, 2) := by decide +kernel
theorem dX11_cost_99 : decode cX11_cost 99 = .ok (.iload 9, 2) := by decide +kernel
theorem dX11_cost_101 : decode cX11_cost 101 = .ok (.istore 8, 2) := by decide +kernel
theorem dX11_cost_103 : decode cX11_cost 103 = .ok (.iinc 9 1, 3) := by decide +kernel
theorem dX11_cost_106 : decode cX11_cost 106 = .ok (.goto (-74), 3) := by decide +kernel
theorem dX11_cost_109 : decode cX11_cost 109 = .ok (.iload_n 3, 1) := by decide +kernel
theorem dX11_cost_110 : decode cX11_cost 110 = .ok (.ifCond .ne 8, 3) := by decide +kernel
theorem dX11_cost_113 : decode cX11_cost 113 = .ok (.lload 4, 2) := by decide +kernel
theorem dX11_cost_115 : decode cX11_cost 115 = .ok (.goto 6, 3) := by decide +kernel
theorem dX11_cost_118 : decode cX11_cost 118 = .ok (.iload 8, 2) := by decide +kernel
theorem dX11_cost_120 : decode cX11_cost 120 = .ok (.i2l, 1) := by decide +kernel
theorem dX11_cost_121 : decode cX11_cost 121 = .ok (.lreturn, 1) := by decide +kernel
def m_X11_cost_109  (Q : Int64 → Hp → Prop) (v3 : Int32) (v4 : Int64) (v8 : Int32) (h : Hp) : Prop := (¬ v3 = 0 → Q v8.toInt64 h) ∧ (v3 = 0 → Q v4 h)
set_option maxHeartbeats 4000000 in
set_option maxRecDepth 100000 in
theorem s_X11_cost_109 {l : Launch} {G : Cx} {d : Nat} {h0 : Hp} (hd : 6 ≤ d) {Q : Int64 → Hp → Prop} {v3 : Int32} {v4 : Int64} {v8 : Int32} {h : Hp} (hm : m_X11_cost_109 Q v3 v4 v8 h) : Rn l G d 0 0 MX11_cost h0 (qJ Q) 109 [none, none, none, some (tI v3), some (tJ v4), none, none, none, some (tI v8)] [] h 0 0 := by
  unfold m_X11_cost_109 at hm
  refine r_iload_n dX11_cost_109 rfl rfl ?_
  refine r_if_ne (tgt := 118) dX11_cost_110 rfl (fun hc => ?_) (fun hc => ?_)
  · replace hm := hm.1 hc
    refine r_iload dX11_cost_118 rfl ?_
    refine r_i2l dX11_cost_120 ?_
    exact r_lreturn dX11_cost_121 rfl ⟨by decide, by decide⟩ ⟨_, rfl, hm⟩
  · replace hm := hm.2 hc
    refine r_lload dX11_cost_113 rfl ?_
    refine r_goto (tgt := 121) dX11_cost_115 rfl ?_
    exact r_lreturn dX11_cost_121 rfl ⟨by decide, by decide⟩ ⟨_, rfl, hm⟩
def m_X11_cost_103 (k32 : Int32 → Int32 → Int32 → Int64 → Int64 → Int32 → Int32 → Hp → Prop) (k109 : Int32 → Int64 → Int32 → Hp → Prop) (Q : Int64 → Hp → Prop) (v1 : Int32) (v2 : Int32) (v3 : Int32) (v4 : Int64) (v6 : Int64) (v8 : Int32) (v9 : Int32) (h : Hp) : Prop := ∀ x1 : Int32, x1 = v9 + 1 → k32 v1 v2 v3 v4 v6 v8 x1 h
set_option maxHeartbeats 4000000 in
set_option maxRecDepth 100000 in
theorem s_X11_cost_103 {l : Launch} {G : Cx} {d : Nat} {h0 : Hp} (hd : 6 ≤ d) {k32 : Int32 → Int32 → Int32 → Int64 → Int64 → Int32 → Int32 → Hp → Prop} {k109 : Int32 → Int64 → Int32 → Hp → Prop} {Q : Int64 → Hp → Prop} (hk32 : ∀ (v1 : Int32) (v2 : Int32) (v3 : Int32) (v4 : Int64) (v6 : Int64) (v8 : Int32) (v9 : Int32) (hh : Hp), k32 v1 v2 v3 v4 v6 v8 v9 hh → Rn l G d 0 0 MX11_cost h0 (qJ Q) 32 [some (tR 11 0 (some 0)), some (tI v1), some (tI v2), some (tI v3), some (tJ v4), none, some (tJ v6), none, some (tI v8), some (tI v9)] [] hh 0 0) (hk109 : ∀ (v3 : Int32) (v4 : Int64) (v8 : Int32) (hh : Hp), k109 v3 v4 v8 hh → Rn l G d 0 0 MX11_cost h0 (qJ Q) 109 [none, none, none, some (tI v3), some (tJ v4), none, none, none, some (tI v8)] [] hh 0 0) {v1 : Int32} {v2 : Int32} {v3 : Int32} {v4 : Int64} {v6 : Int64} {v8 : Int32} {v9 : Int32} {h : Hp} (hm : m_X11_cost_103 k32 k109 Q v1 v2 v3 v4 v6 v8 v9 h) : Rn l G d 0 0 MX11_cost h0 (qJ Q) 103 [some (tR 11 0 (some 0)), some (tI v1), some (tI v2), some (tI v3), some (tJ v4), none, some (tJ v6), none, some (tI v8), some (tI v9)] [] h 0 0 := by
  unfold m_X11_cost_103 at hm
  obtain ⟨x1, e_x1⟩ : ∃ y : Int32, y = v9 + 1 := ⟨_, rfl⟩
  replace hm := hm x1 e_x1
  refine r_iinc (L' := [some (tR 11 0 (some 0)), some (tI v1), some (tI v2), some (tI v3), some (tJ v4), none, some (tJ v6), none, some (tI v8), some (tI x1)]) dX11_cost_103 rfl (by rw [e_x1]; rfl) (by decide) rfl ?_
  refine r_goto (tgt := 32) dX11_cost_106 rfl ?_
  refine r_keep (L' := [some (tR 11 0 (some 0)), some (tI v1), some (tI v2), some (tI v3), some (tJ v4), none, some (tJ v6), none, some (tI v8), some (tI x1)]) [true, true, true, true, true, false, true, false, true, true] rfl ?_
  exact hk32 _ _ _ _ _ _ _ _ hm
def m_X11_cost_87 (k32 : Int32 → Int32 → Int32 → Int64 → Int64 → Int32 → Int32 → Hp → Prop) (k109 : Int32 → Int64 → Int32 → Hp → Prop) (Q : Int64 → Hp → Prop) (v1 : Int32) (v2 : Int32) (v3 : Int32) (v4 : Int64) (v6 : Int64) (v8 : Int32) (v9 : Int32) (v10 : Int64) (h : Hp) : Prop := ((lg_cmp v10 v6) ≤ 0 → m_X11_cost_103 k32 k109 Q v1 v2 v3 v4 v6 v8 v9 h) ∧ (¬ (lg_cmp v10 v6) ≤ 0 → m_X11_cost_103 k32 k109 Q v1 v2 v3 v4 v10 v9 v9 h)
set_option maxHeartbeats 4000000 in
set_option maxRecDepth 100000 in
theorem s_X11_cost_87 {l : Launch} {G : Cx} {d : Nat} {h0 : Hp} (hd : 6 ≤ d) {k32 : Int32 → Int32 → Int32 → Int64 → Int64 → Int32 → Int32 → Hp → Prop} {k109 : Int32 → Int64 → Int32 → Hp → Prop} {Q : Int64 → Hp → Prop} (hk32 : ∀ (v1 : Int32) (v2 : Int32) (v3 : Int32) (v4 : Int64) (v6 : Int64) (v8 : Int32) (v9 : Int32) (hh : Hp), k32 v1 v2 v3 v4 v6 v8 v9 hh → Rn l G d 0 0 MX11_cost h0 (qJ Q) 32 [some (tR 11 0 (some 0)), some (tI v1), some (tI v2), some (tI v3), some (tJ v4), none, some (tJ v6), none, some (tI v8), some (tI v9)] [] hh 0 0) (hk109 : ∀ (v3 : Int32) (v4 : Int64) (v8 : Int32) (hh : Hp), k109 v3 v4 v8 hh → Rn l G d 0 0 MX11_cost h0 (qJ Q) 109 [none, none, none, some (tI v3), some (tJ v4), none, none, none, some (tI v8)] [] hh 0 0) {v1 : Int32} {v2 : Int32} {v3 : Int32} {v4 : Int64} {v6 : Int64} {v8 : Int32} {v9 : Int32} {v10 : Int64} {h : Hp} (hm : m_X11_cost_87 k32 k109 Q v1 v2 v3 v4 v6 v8 v9 v10 h) : Rn l G d 0 0 MX11_cost h0 (qJ Q) 87 [some (tR 11 0 (some 0)), some (tI v1), some (tI v2), some (tI v3), some (tJ v4), none, some (tJ v6), none, some (tI v8), some (tI v9), some (tJ v10)] [] h 0 0 := by
  unfold m_X11_cost_87 at hm
  refine r_lload dX11_cost_87 rfl ?_
  refine r_lload dX11_cost_89 rfl ?_
  refine r_lcmp dX11_cost_91 ?_
  refine r_if_le (tgt := 103) dX11_cost_92 rfl (fun hc => ?_) (fun hc => ?_)
  · replace hm := hm.1 hc
    refine r_keep (L' := [some (tR 11 0 (some 0)), some (tI v1), some (tI v2), some (tI v3), some (tJ v4), none, some (tJ v6), none, some (tI v8), some (tI v9)]) [true, true, true, true, true, false, true, false, true, true] rfl ?_
    exact s_X11_cost_103 hd hk32 hk109 hm
  · replace hm := hm.2 hc
    refine r_lload dX11_cost_95 rfl ?_
    refine r_lstore (L' := [some (tR 11 0 (some 0)), some (tI v1), some (tI v2), some (tI v3), some (tJ v4), none, some (tJ v10), none, some (tI v8), some (tI v9), some (tJ v10)]) dX11_cost_97 (by decide) rfl ?_
    refine r_iload dX11_cost_99 rfl ?_
    refine r_istore (L' := [some (tR 11 0 (some 0)), some (tI v1), some (tI v2), some (tI v3), some (tJ v4), none, some (tJ v10), none, some (tI v9), some (tI v9), some (tJ v10)]) dX11_cost_101 (by decide) rfl ?_
    refine r_keep (L' := [some (tR 11 0 (some 0)), some (tI v1), some (tI v2), some (tI v3), some (tJ v4), none, some (tJ v10), none, some (tI v9), some (tI v9)]) [true, true, true, true, true, false, true, false, true, true] rfl ?_
    exact s_X11_cost_103 hd hk32 hk109 hm
def m_X11_cost_71 (k32 : Int32 → Int32 → Int32 → Int64 → Int64 → Int32 → Int32 → Hp → Prop) (k109 : Int32 → Int64 → Int32 → Hp → Prop) (Q : Int64 → Hp → Prop) (v1 : Int32) (v2 : Int32) (v3 : Int32) (v4 : Int64) (v6 : Int64) (v8 : Int32) (v9 : Int32) (s0 : Int64) (h : Hp) : Prop := ((lg_cmp s0 0) ≤ 0 → m_X11_cost_87 k32 k109 Q v1 v2 v3 v4 v6 v8 v9 s0 h) ∧ (¬ (lg_cmp s0 0) ≤ 0 → ∀ x2 : Int64, x2 = (v4 + s0) → m_X11_cost_87 k32 k109 Q v1 v2 v3 x2 v6 v8 v9 s0 h)
set_option maxHeartbeats 4000000 in
set_option maxRecDepth 100000 in
theorem s_X11_cost_71 {l : Launch} {G : Cx} {d : Nat} {h0 : Hp} (hd : 6 ≤ d) {k32 : Int32 → Int32 → Int32 → Int64 → Int64 → Int32 → Int32 → Hp → Prop} {k109 : Int32 → Int64 → Int32 → Hp → Prop} {Q : Int64 → Hp → Prop} (hk32 : ∀ (v1 : Int32) (v2 : Int32) (v3 : Int32) (v4 : Int64) (v6 : Int64) (v8 : Int32) (v9 : Int32) (hh : Hp), k32 v1 v2 v3 v4 v6 v8 v9 hh → Rn l G d 0 0 MX11_cost h0 (qJ Q) 32 [some (tR 11 0 (some 0)), some (tI v1), some (tI v2), some (tI v3), some (tJ v4), none, some (tJ v6), none, some (tI v8), some (tI v9)] [] hh 0 0) (hk109 : ∀ (v3 : Int32) (v4 : Int64) (v8 : Int32) (hh : Hp), k109 v3 v4 v8 hh → Rn l G d 0 0 MX11_cost h0 (qJ Q) 109 [none, none, none, some (tI v3), some (tJ v4), none, none, none, some (tI v8)] [] hh 0 0) {v1 : Int32} {v2 : Int32} {v3 : Int32} {v4 : Int64} {v6 : Int64} {v8 : Int32} {v9 : Int32} {s0 : Int64} {h : Hp} (hm : m_X11_cost_71 k32 k109 Q v1 v2 v3 v4 v6 v8 v9 s0 h) : Rn l G d 0 0 MX11_cost h0 (qJ Q) 71 [some (tR 11 0 (some 0)), some (tI v1), some (tI v2), some (tI v3), some (tJ v4), none, some (tJ v6), none, some (tI v8), some (tI v9)] [tJ s0] h 0 0 := by
  unfold m_X11_cost_71 at hm
  refine r_lstore (L' := [some (tR 11 0 (some 0)), some (tI v1), some (tI v2), some (tI v3), some (tJ v4), none, some (tJ v6), none, some (tI v8), some (tI v9), some (tJ s0), none]) dX11_cost_71 (by decide) rfl ?_
  refine r_lload dX11_cost_73 rfl ?_
  refine r_lconst (v := 0) dX11_cost_75 rfl ?_
  refine r_lcmp dX11_cost_76 ?_
  refine r_if_le (tgt := 87) dX11_cost_77 rfl (fun hc => ?_) (fun hc => ?_)
  · replace hm := hm.1 hc
    refine r_keep (L' := [some (tR 11 0 (some 0)), some (tI v1), some (tI v2), some (tI v3), some (tJ v4), none, some (tJ v6), none, some (tI v8), some (tI v9), some (tJ s0)]) [true, true, true, true, true, false, true, false, true, true, true] rfl ?_
    exact s_X11_cost_87 hd hk32 hk109 hm
  · replace hm := hm.2 hc
    refine r_lload dX11_cost_80 rfl ?_
    refine r_lload dX11_cost_82 rfl ?_
    refine r_ladd dX11_cost_84 ?_
    refine r_nmJ (fun x2 e_x2 => ?_)
    replace hm := hm x2 e_x2
    refine r_lstore (L' := [some (tR 11 0 (some 0)), some (tI v1), some (tI v2), some (tI v3), some (tJ x2), none, some (tJ v6), none, some (tI v8), some (tI v9), some (tJ s0), none]) dX11_cost_85 (by decide) rfl ?_
    refine r_keep (L' := [some (tR 11 0 (some 0)), some (tI v1), some (tI v2), some (tI v3), some (tJ x2), none, some (tJ v6), none, some (tI v8), some (tI v9), some (tJ s0)]) [true, true, true, true, true, false, true, false, true, true, true] rfl ?_
    exact s_X11_cost_87 hd hk32 hk109 hm
def m_X11_cost_51 (k32 : Int32 → Int32 → Int32 → Int64 → Int64 → Int32 → Int32 → Hp → Prop) (k109 : Int32 → Int64 → Int32 → Hp → Prop) (Q : Int64 → Hp → Prop) (v1 : Int32) (v2 : Int32) (v3 : Int32) (v4 : Int64) (v6 : Int64) (v8 : Int32) (v9 : Int32) (h : Hp) : Prop := m_X11_cost_71 k32 k109 Q v1 v2 v3 v4 v6 v8 v9 0 h
set_option maxHeartbeats 4000000 in
set_option maxRecDepth 100000 in
theorem s_X11_cost_51 {l : Launch} {G : Cx} {d : Nat} {h0 : Hp} (hd : 6 ≤ d) {k32 : Int32 → Int32 → Int32 → Int64 → Int64 → Int32 → Int32 → Hp → Prop} {k109 : Int32 → Int64 → Int32 → Hp → Prop} {Q : Int64 → Hp → Prop} (hk32 : ∀ (v1 : Int32) (v2 : Int32) (v3 : Int32) (v4 : Int64) (v6 : Int64) (v8 : Int32) (v9 : Int32) (hh : Hp), k32 v1 v2 v3 v4 v6 v8 v9 hh → Rn l G d 0 0 MX11_cost h0 (qJ Q) 32 [some (tR 11 0 (some 0)), some (tI v1), some (tI v2), some (tI v3), some (tJ v4), none, some (tJ v6), none, some (tI v8), some (tI v9)] [] hh 0 0) (hk109 : ∀ (v3 : Int32) (v4 : Int64) (v8 : Int32) (hh : Hp), k109 v3 v4 v8 hh → Rn l G d 0 0 MX11_cost h0 (qJ Q) 109 [none, none, none, some (tI v3), some (tJ v4), none, none, none, some (tI v8)] [] hh 0 0) {v1 : Int32} {v2 : Int32} {v3 : Int32} {v4 : Int64} {v6 : Int64} {v8 : Int32} {v9 : Int32} {h : Hp} (hm : m_X11_cost_51 k32 k109 Q v1 v2 v3 v4 v6 v8 v9 h) : Rn l G d 0 0 MX11_cost h0 (qJ Q) 51 [some (tR 11 0 (some 0)), some (tI v1), some (tI v2), some (tI v3), some (tJ v4), none, some (tJ v6), none, some (tI v8), some (tI v9)] [] h 0 0 := by
  unfold m_X11_cost_51 at hm
  refine r_lconst (v := 0) dX11_cost_51 rfl ?_
  refine r_goto (tgt := 71) dX11_cost_52 rfl ?_
  refine r_keep (L' := [some (tR 11 0 (some 0)), some (tI v1), some (tI v2), some (tI v3), some (tJ v4), none, some (tJ v6), none, some (tI v8), some (tI v9)]) [true, true, true, true, true, false, true, false, true, true] rfl ?_
  exact s_X11_cost_71 hd hk32 hk109 hm
def m_X11_cost_32 : Nat → (Int32 → Int64 → Int32 → Hp → Prop) → (Int64 → Hp → Prop) → Int32 → Int32 → Int32 → Int64 → Int64 → Int32 → Int32 → Hp → Prop
  | 0, _, _, _, _, _, _, _, _, _, _ => False
  | n + 1, k109, Q, v1, v2, v3, v4, v6, v8, v9, h => (8 ≤ v9 → k109 v3 v4 v8 h) ∧ (¬ 8 ≤ v9 → (v9 = v1 → m_X11_cost_51 (fun (v1 : Int32) (v2 : Int32) (v3 : Int32) (v4 : Int64) (v6 : Int64) (v8 : Int32) (v9 : Int32) (hh : Hp) => m_X11_cost_32 n k109 Q v1 v2 v3 v4 v6 v8 v9 hh) k109 Q v1 v2 v3 v4 v6 v8 v9 h) ∧ (¬ v9 = v1 → (¬ v9 = v2 → m_X5_sumOf 11 0 v9 0 (-1) h (fun (x3 : Int64) (h4 : Hp) => m_X11_cost_71 (fun (v1 : Int32) (v2 : Int32) (v3 : Int32) (v4 : Int64) (v6 : Int64) (v8 : Int32) (v9 : Int32) (hh : Hp) => m_X11_cost_32 n k109 Q v1 v2 v3 v4 v6 v8 v9 hh) k109 Q v1 v2 v3 v4 v6 v8 v9 x3 h4)) ∧ (v9 = v2 → m_X11_cost_51 (fun (v1 : Int32) (v2 : Int32) (v3 : Int32) (v4 : Int64) (v6 : Int64) (v8 : Int32) (v9 : Int32) (hh : Hp) => m_X11_cost_32 n k109 Q v1 v2 v3 v4 v6 v8 v9 hh) k109 Q v1 v2 v3 v4 v6 v8 v9 h)))
set_option maxHeartbeats 4000000 in
set_option maxRecDepth 100000 in
theorem s_X11_cost_32 {l : Launch} {G : Cx} {d : Nat} {h0 : Hp} (hd : 6 ≤ d) {k109 : Int32 → Int64 → Int32 → Hp → Prop} {Q : Int64 → Hp → Prop} (hk109 : ∀ (v3 : Int32) (v4 : Int64) (v8 : Int32) (hh : Hp), k109 v3 v4 v8 hh → Rn l G d 0 0 MX11_cost h0 (qJ Q) 109 [none, none, none, some (tI v3), some (tJ v4), none, none, none, some (tI v8)] [] hh 0 0) : ∀ {n : Nat} {v1 : Int32} {v2 : Int32} {v3 : Int32} {v4 : Int64} {v6 : Int64} {v8 : Int32} {v9 : Int32} {h : Hp}, m_X11_cost_32 n k109 Q v1 v2 v3 v4 v6 v8 v9 h → Rn l G d 0 0 MX11_cost h0 (qJ Q) 32 [some (tR 11 0 (some 0)), some (tI v1), some (tI v2), some (tI v3), some (tJ v4), none, some (tJ v6), none, some (tI v8), some (tI v9)] [] h 0 0 := by
  intro n
  induction n with
  | zero => intro v1 v2 v3 v4 v6 v8 v9 h hm; exact hm.elim
  | succ n ih =>
    intro v1 v2 v3 v4 v6 v8 v9 h hm
    have hk32 := fun (v1 : Int32) (v2 : Int32) (v3 : Int32) (v4 : Int64) (v6 : Int64) (v8 : Int32) (v9 : Int32) (hh : Hp) (hm : m_X11_cost_32 n k109 Q v1 v2 v3 v4 v6 v8 v9 hh) => ih hm
    rw [m_X11_cost_32] at hm
    refine r_iload dX11_cost_32 rfl ?_
    refine r_bipush (v := 8) dX11_cost_34 rfl ?_
    refine r_icmp_ge (tgt := 109) dX11_cost_36 rfl (fun hc => ?_) (fun hc => ?_)
    · replace hm := hm.1 hc
      refine r_keep (L' := [none, none, none, some (tI v3), some (tJ v4), none, none, none, some (tI v8)]) [false, false, false, true, true, false, false, false, true] rfl ?_
      exact hk109 _ _ _ _ hm
    · replace hm := hm.2 hc
      refine r_iload dX11_cost_39 rfl ?_
      refine r_iload_n dX11_cost_41 rfl rfl ?_
      refine r_icmp_eq (tgt := 51) dX11_cost_42 rfl (fun hc => ?_) (fun hc => ?_)
      · replace hm := hm.1 hc
        refine r_keep (L' := [some (tR 11 0 (some 0)), some (tI v1), some (tI v2), some (tI v3), some (tJ v4), none, some (tJ v6), none, some (tI v8), some (tI v9)]) [true, true, true, true, true, false, true, false, true, true] rfl ?_
        exact s_X11_cost_51 hd hk32 hk109 hm
      · replace hm := hm.2 hc
        refine r_iload dX11_cost_45 rfl ?_
        refine r_iload_n dX11_cost_47 rfl rfl ?_
        refine r_icmp_ne (tgt := 55) dX11_cost_48 rfl (fun hc => ?_) (fun hc => ?_)
        · replace hm := hm.1 hc
          refine r_aload_n dX11_cost_55 rfl rfl ?_
          refine r_getC (k := 13) cl_11 dX11_cost_56 t_359 gf_11_13.1 gf_11_13.2 (gc_11_13 _) ?_
          refine r_aload_n dX11_cost_59 rfl rfl ?_
          refine r_getC (k := 10) cl_11 dX11_cost_60 t_356 gf_11_10.1 gf_11_10.2 (gc_11_10 _) ?_
          refine r_iconst (v := 0) dX11_cost_63 rfl ?_
          refine r_iload dX11_cost_64 rfl ?_
          refine r_iconst (v := 0) dX11_cost_66 rfl ?_
          refine r_iconst (v := (-1)) dX11_cost_67 rfl ?_
          refine r_callVJ (d' := d - 1) (as := [tR 0 0 (some 11), tI 0, tI v9, tI 0, tI (-1)]) (st := []) cl_5 dX11_cost_68 mi_X5_sumOf t_933 t_934 t_935 rfl rfl (Nat.le_of_ble_eq_true rfl) (by omega) ⟨by decide, by decide⟩ ⟨rfl, rfl⟩ (s_X5_sumOf (by omega) hm) (fun x3 h4 hm => ?_)
          refine r_keep (L' := [some (tR 11 0 (some 0)), some (tI v1), some (tI v2), some (tI v3), some (tJ v4), none, some (tJ v6), none, some (tI v8), some (tI v9)]) [true, true, true, true, true, false, true, false, true, true] rfl ?_
          exact s_X11_cost_71 hd hk32 hk109 hm
        · replace hm := hm.2 hc
          refine r_keep (L' := [some (tR 11 0 (some 0)), some (tI v1), some (tI v2), some (tI v3), some (tJ v4), none, some (tJ v6), none, some (tI v8), some (tI v9)]) [true, true, true, true, true, false, true, false, true, true] rfl ?_
          exact s_X11_cost_51 hd hk32 hk109 hm
def m_X11_cost (v1 : Int32) (v2 : Int32) (v3 : Int32) (h : Hp) (Q : Int64 → Hp → Prop) : Prop := m_X11_isPair v1 v2 h (fun (x5 : Int32) (h6 : Hp) => (x5 = 0 → Q (-1) h6) ∧ (¬ x5 = 0 → m_X11_isWithin v3 2 h6 (fun (x7 : Int32) (h8 : Hp) => (¬ x7 = 0 → ∃ n32, m_X11_cost_32 n32 (m_X11_cost_109 Q) Q v1 v2 v3 0 0 (-1) 0 h8) ∧ (x7 = 0 → Q (-1) h8))))
set_option maxHeartbeats 4000000 in
set_option maxRecDepth 100000 in
theorem s_X11_cost {l : Launch} {G : Cx} {d : Nat} (hd : 6 ≤ d) {v1 : Int32} {v2 : Int32} {v3 : Int32} {h : Hp} {Q : Int64 → Hp → Prop} (hm : m_X11_cost v1 v2 v3 h Q) : Ct l G d 0 0 yX11_cost MX11_cost [tR 11 0 (some 0), tI v1, tI v2, tI v3] h (qJ Q) := by
  unfold m_X11_cost at hm
  refine Ct.of (L := [some (tR 11 0 (some 0)), some (tI v1), some (tI v2), some (tI v3)]) (by decide) rfl rfl (Nat.le_of_ble_eq_true rfl) rfl ?_
  refine r_iload_n dX11_cost_0 rfl rfl ?_
  refine r_iload_n dX11_cost_1 rfl rfl ?_
  refine r_callSI (d' := d - 1) (as := [tI v1, tI v2]) (st := []) dX11_cost_2 mi_X11_isPair t_965 t_966 rfl rfl (Nat.le_of_ble_eq_true rfl) (by omega) ⟨by decide, by decide⟩ ⟨rfl, rfl⟩ (s_X11_isPair (by omega) hm) (fun x5 h6 hm => ?_)
  refine r_if_eq (tgt := 16) dX11_cost_5 rfl (fun hc => ?_) (fun hc => ?_)
  · replace hm := hm.1 hc
    refine r_ldc2_w dX11_cost_16 t_914 ?_
    exact r_lreturn dX11_cost_19 rfl ⟨by decide, by decide⟩ ⟨_, rfl, hm⟩
  · replace hm := hm.2 hc
    refine r_iload_n dX11_cost_8 rfl rfl ?_
    refine r_iconst (v := 2) dX11_cost_9 rfl ?_
    refine r_callSI (d' := d - 1) (as := [tI v3, tI 2]) (st := []) dX11_cost_10 mi_X11_isWithin t_405 t_406 rfl rfl (Nat.le_of_ble_eq_true rfl) (by omega) ⟨by decide, by decide⟩ ⟨rfl, rfl⟩ (s_X11_isWithin (by omega) hm) (fun x7 h8 hm => ?_)
    refine r_if_ne (tgt := 20) dX11_cost_13 rfl (fun hc => ?_) (fun hc => ?_)
    · replace hm := hm.1 hc
      refine r_lconst (v := 0) dX11_cost_20 rfl ?_
      refine r_lstore (L' := [some (tR 11 0 (some 0)), some (tI v1), some (tI v2), some (tI v3), some (tJ 0), none]) dX11_cost_21 (by decide) rfl ?_
      refine r_lconst (v := 0) dX11_cost_23 rfl ?_
      refine r_lstore (L' := [some (tR 11 0 (some 0)), some (tI v1), some (tI v2), some (tI v3), some (tJ 0), none, some (tJ 0), none]) dX11_cost_24 (by decide) rfl ?_
      refine r_iconst (v := (-1)) dX11_cost_26 rfl ?_
      refine r_istore (L' := [some (tR 11 0 (some 0)), some (tI v1), some (tI v2), some (tI v3), some (tJ 0), none, some (tJ 0), none, some (tI (-1))]) dX11_cost_27 (by decide) rfl ?_
      refine r_iconst (v := 0) dX11_cost_29 rfl ?_
      refine r_istore (L' := [some (tR 11 0 (some 0)), some (tI v1), some (tI v2), some (tI v3), some (tJ 0), none, some (tJ 0), none, some (tI (-1)), some (tI 0)]) dX11_cost_30 (by decide) rfl ?_
      refine r_keep (L' := [some (tR 11 0 (some 0)), some (tI v1), some (tI v2), some (tI v3), some (tJ 0), none, some (tJ 0), none, some (tI (-1)), some (tI 0)]) [true, true, true, true, true, false, true, false, true, true] rfl ?_
      obtain ⟨n, hm⟩ := hm
      refine s_X11_cost_32 hd ?_ hm
      · exact (fun _ _ _ _ hm => s_X11_cost_109 hd hm)
    · replace hm := hm.2 hc
      refine r_ldc2_w dX11_cost_16 t_914 ?_
      exact r_lreturn dX11_cost_19 rfl ⟨by decide, by decide⟩ ⟨_, rfl, hm⟩
theorem dX11_lawInForce_0 : decode cX11_lawInForce 0 = .ok (.aload_n 0, 1) := rfl
theorem dX11_lawInForce_1 : decode cX11_lawInForce 1 = .ok (.getfield 139, 3) := rfl
theorem dX11_lawInForce_4 : decode cX11_lawInForce 4 = .ok (.ifCond .ne 7, 3) := by decide +kernel
theorem dX11_lawInForce_7 : decode cX11_lawInForce 7 = .ok (.aconst_null, 1) := rfl
theorem dX11_lawInForce_8 : decode cX11_lawInForce 8 = .ok (.goto 14, 3) := by decide +kernel
theorem dX11_lawInForce_11 : decode cX11_lawInForce 11 = .ok (.aload_n 0, 1) := rfl
theorem dX11_lawInForce_12 : decode cX11_lawInForce 12 = .ok (.getfield 37, 3) := rfl
theorem dX11_lawInForce_15 : decode cX11_lawInForce 15 = .ok (.aload_n 0, 1) := rfl
theorem dX11_lawInForce_16 : decode cX11_lawInForce 16 = .ok (.getfield 139, 3) := rfl
theorem dX11_lawInForce_19 : decode cX11_lawInForce 19 = .ok (.iconst 1, 1) := rfl
theorem dX11_lawInForce_20 : decode cX11_lawInForce 20 = .ok (.isub, 1) := rfl
theorem dX11_lawInForce_21 : decode cX11_lawInForce 21 = .ok (.aaload, 1) := rfl
theorem dX11_lawInForce_22 : decode cX11_lawInForce 22 = .ok (.areturn, 1) := rfl
def m_X11_lawInForce  (h : Hp) (Q : Option Nat → Hp → Prop) : Prop := (¬ (hI h 0 6) = 0 → vp_in ((hI h 0 6) - 1) 6 ∧ ∃ b1 : Nat, hR h 9 (ix ((hI h 0 6) - 1)) = some b1 ∧ (Q (some b1) h)) ∧ ((hI h 0 6) = 0 → Q none h)
set_option maxHeartbeats 4000000 in
set_option maxRecDepth 100000 in
theorem s_X11_lawInForce {l : Launch} {G : Cx} {d : Nat} (hd : 2 ≤ d) {h : Hp} {Q : Option Nat → Hp → Prop} (hm : m_X11_lawInForce h Q) : Ct l G d 0 0 yX11_lawInForce MX11_lawInForce [tR 11 0 (some 0)] h (qR 6 Q) := by
  unfold m_X11_lawInForce at hm
  refine Ct.of (L := [some (tR 11 0 (some 0))]) (by decide) rfl rfl (Nat.le_of_ble_eq_true rfl) rfl ?_
  refine r_aload_n dX11_lawInForce_0 rfl rfl ?_
  refine r_getI (k := 6) cl_11 dX11_lawInForce_1 t_352 (Or.inl rfl) gf_11_6 ?_
  refine r_if_ne (tgt := 11) dX11_lawInForce_4 rfl (fun hc => ?_) (fun hc => ?_)
  · replace hm := hm.1 hc
    refine r_aload_n dX11_lawInForce_11 rfl rfl ?_
    refine r_getC (k := 5) cl_11 dX11_lawInForce_12 t_351 gf_11_5.1 gf_11_5.2 (gc_11_5 _) ?_
    refine r_aload_n dX11_lawInForce_15 rfl rfl ?_
    refine r_getI (k := 6) cl_11 dX11_lawInForce_16 t_352 (Or.inl rfl) gf_11_6 ?_
    refine r_iconst (v := 1) dX11_lawInForce_19 rfl ?_
    refine r_isub dX11_lawInForce_20 ?_
    obtain ⟨hi_b1, b1, hb_b1, hm⟩ := hm
    refine r_aaldS (kd := 6) (ti := 6) (cn := RX6) dX11_lawInForce_21 rfl hi_b1 hb_b1 ?_
    exact r_areturn dX11_lawInForce_22 rfl ⟨by decide, by decide⟩ ⟨_, rfl, hm⟩
  · replace hm := hm.2 hc
    refine r_null (k := 6) (n := 0) dX11_lawInForce_7 ?_
    refine r_goto (tgt := 22) dX11_lawInForce_8 rfl ?_
    exact r_areturn dX11_lawInForce_22 rfl ⟨by decide, by decide⟩ ⟨_, rfl, hm⟩
theorem dX11_breach_0 : decode cX11_breach 0 = .ok (.aload_n 0, 1) := rfl
theorem dX11_breach_1 : decode cX11_breach 1 = .ok (.invokevirtual 239, 3) := rfl
theorem dX11_breach_4 : decode cX11_breach 4 = .ok (.astore_n 2, 1) := rfl
theorem dX11_breach_5 : decode cX11_breach 5 = .ok (.aload_n 2, 1) := rfl
theorem dX11_breach_6 : decode cX11_breach 6 = .ok (.ifnull 11, 3) := by decide +kernel
theorem dX11_breach_9 : decode cX11_breach 9 = .ok (.iload_n 1, 1) := rfl
theorem dX11_breach_10 : decode cX11_breach 10 = .ok (.iconst 3, 1) := rfl
theorem dX11_breach_11 : decode cX11_breach 11 = .ok (.invokestatic 98, 3) := rfl
theorem dX11_breach_14 : decode cX11_breach 14 = .ok (.ifCond .ne 5, 3) := by decide +kernel
theorem dX11_breach_17 : decode cX11_breach 17 = .ok (.iconst (-1), 1) := rfl
theorem dX11_breach_18 : decode cX11_breach 18 = .ok (.ireturn, 1) := rfl
theorem dX11_breach_19 : decode cX11_breach 19 = .ok (.aload_n 0, 1) := rfl
theorem dX11_breach_20 : decode cX11_breach 20 = .ok (.getfield 78, 3) := rfl
theorem dX11_breach_23 : decode cX11_breach 23 = .ok (.aload_n 0, 1) := rfl
theorem dX11_breach_24 : decode cX11_breach 24 = .ok (.getfield 51, 3) := rfl
theorem dX11_breach_27 : decode cX11_breach 27 = .ok (.invokevirtual 243, 3) := rfl
theorem dX11_breach_30 : decode cX11_breach 30 = .ok (.aload_n 0, 1) := rfl
theorem dX11_breach_31 : decode cX11_breach 31 = .ok (.getfield 78, 3) := rfl
theorem dX11_breach_34 : decode cX11_breach 34 = .ok (.aload_n 2, 1) := rfl
theorem dX11_breach_35 : decode cX11_breach 35 = .ok (.invokevirtual 247, 3) := rfl
theorem dX11_breach_38 : decode cX11_breach 38 = .ok (.istore_n 3, 1) := rfl
theorem dX11_breach_39 : decode cX11_breach 39 = .ok (.iload_n 3, 1) := rfl
theorem dX11_breach_40 : decode cX11_breach 40 = .ok (.iconst (-1), 1) := rfl
theorem dX11_breach_41 : decode cX11_breach 41 = .ok (.if_icmp .eq 7, 3) := by decide +kernel
theorem dX11_breach_44 : decode cX11_breach 44 = .ok (.iload_n 1, 1) := rfl
theorem dX11_breach_45 : decode cX11_breach 45 = .ok (.ifCond .ne 5, 3) := by decide +kernel
theorem dX11_breach_48 : decode cX11_breach 48 = .ok (.iload_n 3, 1) := rfl
theorem dX11_breach_49 : decode cX11_breach 49 = .ok (.ireturn, 1) := rfl
theorem dX11_breach_50 : decode cX11_breach 50 = .ok (.iload_n 1, 1) := rfl
theorem dX11_breach_51 : decode cX11_breach 51 = .ok (.iconst 1, 1) := rfl
theorem dX11_breach_52 : decode cX11_breach 52 = .ok (.if_icmp .ne 13, 3) := by decide +kernel
theorem dX11_breach_55 : decode cX11_breach 55 = .ok (.aload_n 0, 1) := rfl
theorem dX11_breach_56 : decode cX11_breach 56 = .ok (.getfield 78, 3) := rfl
theorem dX11_breach_59 : decode cX11_breach 59 = .ok (.getfield 251, 3) := rfl
theorem dX11_breach_62 : decode cX11_breach 62 = .ok (.goto 10, 3) := by decide +kernel
theorem dX11_breach_65 : decode cX11_breach 65 = .ok (.aload_n 0, 1) := rfl
theorem dX11_breach_66 : decode cX11_breach 66 = .ok (.getfield 78, 3) := rfl
theorem dX11_breach_69 : decode cX11_breach 69 = .ok (.getfield 254, 3) := rfl
theorem dX11_breach_72 : decode cX11_breach 72 = .ok (.ireturn, 1) := rfl
def m_X11_breach (v1 : Int32) (h : Hp) (Q : Int32 → Hp → Prop) : Prop := m_X11_lawInForce h (fun (x1 : Option Nat) (h2 : Hp) => (x1 = none → Q (-1) h2) ∧ (∀ b3 : Nat, x1 = some b3 → m_X11_isWithin v1 3 h2 (fun (x4 : Int32) (h5 : Hp) => (¬ x4 = 0 → m_X3_hear 11 h5 (fun (h7 : Hp) => m_X3_firstThatBars b3 h7 (fun (x8 : Int32) (h9 : Hp) => (x8 = (-1) → Q x8 h9) ∧ (¬ x8 = (-1) → (¬ v1 = 0 → (¬ v1 = 1 → Q (hI h9 30 4) h9) ∧ (v1 = 1 → Q (hI h9 30 3) h9)) ∧ (v1 = 0 → Q x8 h9))))) ∧ (x4 = 0 → Q (-1) h5))))
set_option maxHeartbeats 4000000 in
set_option maxRecDepth 100000 in
theorem s_X11_breach {l : Launch} {G : Cx} {d : Nat} (hd : 10 ≤ d) {v1 : Int32} {h : Hp} {Q : Int32 → Hp → Prop} (hm : m_X11_breach v1 h Q) : Ct l G d 0 0 yX11_breach MX11_breach [tR 11 0 (some 0), tI v1] h (qI Q) := by
  unfold m_X11_breach at hm
  refine Ct.of (L := [some (tR 11 0 (some 0)), some (tI v1)]) (by decide) rfl rfl (Nat.le_of_ble_eq_true rfl) rfl ?_
  refine r_aload_n dX11_breach_0 rfl rfl ?_
  refine r_callVR (d' := d - 1) (as := []) (st := []) cl_11 dX11_breach_1 mi_X11_lawInForce t_1061 t_1063 ts_39 rfl rfl (Nat.le_of_ble_eq_true rfl) (by omega) ⟨by decide, by decide⟩ ⟨rfl, rfl⟩ (s_X11_lawInForce (by omega) hm) (fun x1 h2 hm => ?_)
  refine r_astore_n (L' := [some (tR 11 0 (some 0)), some (tI v1), some (tR 6 0 x1)]) dX11_breach_4 rfl (by decide) rfl ?_
  refine r_aload_n dX11_breach_5 rfl rfl ?_
  refine r_ifnull (tgt := 17) dX11_breach_6 rfl (fun hc => ?_) (fun hc => ?_)
  · replace hm := hm.1 hc
    subst hc
    refine r_iconst (v := (-1)) dX11_breach_17 rfl ?_
    exact r_ireturn dX11_breach_18 rfl ⟨by decide, by decide⟩ ⟨_, rfl, hm⟩
  · obtain ⟨b3, hc⟩ := Option.ne_none_iff_exists'.mp hc
    replace hm := hm.2 b3 hc
    subst hc
    refine r_iload_n dX11_breach_9 rfl rfl ?_
    refine r_iconst (v := 3) dX11_breach_10 rfl ?_
    refine r_callSI (d' := d - 1) (as := [tI v1, tI 3]) (st := []) dX11_breach_11 mi_X11_isWithin t_405 t_406 rfl rfl (Nat.le_of_ble_eq_true rfl) (by omega) ⟨by decide, by decide⟩ ⟨rfl, rfl⟩ (s_X11_isWithin (by omega) hm) (fun x4 h5 hm => ?_)
    refine r_if_ne (tgt := 19) dX11_breach_14 rfl (fun hc => ?_) (fun hc => ?_)
    · replace hm := hm.1 hc
      refine r_aload_n dX11_breach_19 rfl rfl ?_
      refine r_getC (k := 15) cl_11 dX11_breach_20 t_361 gf_11_15.1 gf_11_15.2 (gc_11_15 _) ?_
      refine r_aload_n dX11_breach_23 rfl rfl ?_
      refine r_getC (k := 10) cl_11 dX11_breach_24 t_356 gf_11_10.1 gf_11_10.2 (gc_11_10 _) ?_
      refine r_callVU (d' := d - 1) (as := [tR 0 0 (some 11)]) (st := []) cl_3 dX11_breach_27 mi_X3_hear t_1065 t_1066 t_1067 rfl rfl (Nat.le_of_ble_eq_true rfl) (by omega) ⟨by decide, by decide⟩ ⟨rfl, rfl⟩ (s_X3_hear (by omega) hm) (fun h7 hm => ?_)
      refine r_aload_n dX11_breach_30 rfl rfl ?_
      refine r_getC (k := 15) cl_11 dX11_breach_31 t_361 gf_11_15.1 gf_11_15.2 (gc_11_15 _) ?_
      refine r_aload_n dX11_breach_34 rfl rfl ?_
      refine r_callVI (d' := d - 1) (as := [tR 6 0 (some b3)]) (st := []) cl_3 dX11_breach_35 mi_X3_firstThatBars t_1074 t_1075 t_1076 rfl rfl (Nat.le_of_ble_eq_true rfl) (by omega) ⟨by decide, by decide⟩ ⟨rfl, rfl⟩ (s_X3_firstThatBars (by omega) hm) (fun x8 h9 hm => ?_)
      refine r_istore_n (L' := [some (tR 11 0 (some 0)), some (tI v1), some (tR 6 0 (some b3)), some (tI x8)]) dX11_breach_38 rfl (by decide) rfl ?_
      refine r_iload_n dX11_breach_39 rfl rfl ?_
      refine r_iconst (v := (-1)) dX11_breach_40 rfl ?_
      refine r_icmp_eq (tgt := 48) dX11_breach_41 rfl (fun hc => ?_) (fun hc => ?_)
      · replace hm := hm.1 hc
        refine r_iload_n dX11_breach_48 rfl rfl ?_
        exact r_ireturn dX11_breach_49 rfl ⟨by decide, by decide⟩ ⟨_, rfl, hm⟩
      · replace hm := hm.2 hc
        refine r_iload_n dX11_breach_44 rfl rfl ?_
        refine r_if_ne (tgt := 50) dX11_breach_45 rfl (fun hc => ?_) (fun hc => ?_)
        · replace hm := hm.1 hc
          refine r_iload_n dX11_breach_50 rfl rfl ?_
          refine r_iconst (v := 1) dX11_breach_51 rfl ?_
          refine r_icmp_ne (tgt := 65) dX11_breach_52 rfl (fun hc => ?_) (fun hc => ?_)
          · replace hm := hm.1 hc
            refine r_aload_n dX11_breach_65 rfl rfl ?_
            refine r_getC (k := 15) cl_11 dX11_breach_66 t_361 gf_11_15.1 gf_11_15.2 (gc_11_15 _) ?_
            refine r_getI (k := 4) cl_3 dX11_breach_69 t_246 (Or.inl rfl) gf_3_4 ?_
            exact r_ireturn dX11_breach_72 rfl ⟨by decide, by decide⟩ ⟨_, rfl, hm⟩
          · replace hm := hm.2 hc
            refine r_aload_n dX11_breach_55 rfl rfl ?_
            refine r_getC (k := 15) cl_11 dX11_breach_56 t_361 gf_11_15.1 gf_11_15.2 (gc_11_15 _) ?_
            refine r_getI (k := 3) cl_3 dX11_breach_59 t_244 (Or.inl rfl) gf_3_3 ?_
            refine r_goto (tgt := 72) dX11_breach_62 rfl ?_
            exact r_ireturn dX11_breach_72 rfl ⟨by decide, by decide⟩ ⟨_, rfl, hm⟩
        · replace hm := hm.2 hc
          refine r_iload_n dX11_breach_48 rfl rfl ?_
          exact r_ireturn dX11_breach_49 rfl ⟨by decide, by decide⟩ ⟨_, rfl, hm⟩
    · replace hm := hm.2 hc
      refine r_iconst (v := (-1)) dX11_breach_17 rfl ?_
      exact r_ireturn dX11_breach_18 rfl ⟨by decide, by decide⟩ ⟨_, rfl, hm⟩
theorem dX11_bars_0 : decode cX11_bars 0 = .ok (.iload_n 1, 1) := rfl
theorem dX11_bars_1 : decode cX11_bars 1 = .ok (.aload_n 0, 1) := rfl
theorem dX11_bars_2 : decode cX11_bars 2 = .ok (.getfield 149, 3) := rfl
theorem dX11_bars_5 : decode cX11_bars 5 = .ok (.invokestatic 98, 3) := rfl
theorem dX11_bars_8 : decode cX11_bars 8 = .ok (.ifCond .ne 5, 3) := by decide +kernel
theorem dX11_bars_11 : decode cX11_bars 11 = .ok (.iconst (-1), 1) := rfl
theorem dX11_bars_12 : decode cX11_bars 12 = .ok (.ireturn, 1) := rfl
theorem dX11_bars_13 : decode cX11_bars 13 = .ok (.aload_n 0, 1) := rfl
theorem dX11_bars_14 : decode cX11_bars 14 = .ok (.getfield 78, 3) := rfl
theorem dX11_bars_17 : decode cX11_bars 17 = .ok (.aload_n 0, 1) := rfl
theorem dX11_bars_18 : decode cX11_bars 18 = .ok (.getfield 51, 3) := rfl
theorem dX11_bars_21 : decode cX11_bars 21 = .ok (.invokevirtual 243, 3) := rfl
theorem dX11_bars_24 : decode cX11_bars 24 = .ok (.aload_n 0, 1) := rfl
theorem dX11_bars_25 : decode cX11_bars 25 = .ok (.getfield 78, 3) := rfl
theorem dX11_bars_28 : decode cX11_bars 28 = .ok (.aload_n 0, 1) := rfl
theorem dX11_bars_29 : decode cX11_bars 29 = .ok (.getfield 41, 3) := rfl
theorem dX11_bars_32 : decode cX11_bars 32 = .ok (.iload_n 1, 1) := rfl
theorem dX11_bars_33 : decode cX11_bars 33 = .ok (.aaload, 1) := rfl
theorem dX11_bars_34 : decode cX11_bars 34 = .ok (.invokevirtual 247, 3) := rfl
theorem dX11_bars_37 : decode cX11_bars 37 = .ok (.iconst (-1), 1) := rfl
theorem dX11_bars_38 : decode cX11_bars 38 = .ok (.if_icmp .ne 7, 3) := by decide +kernel
theorem dX11_bars_41 : decode cX11_bars 41 = .ok (.iconst 0, 1) := rfl
theorem dX11_bars_42 : decode cX11_bars 42 = .ok (.goto 4, 3) := by decide +kernel
theorem dX11_bars_45 : decode cX11_bars 45 = .ok (.iconst 1, 1) := rfl
theorem dX11_bars_46 : decode cX11_bars 46 = .ok (.ireturn, 1) := rfl
def m_X11_bars (v1 : Int32) (h : Hp) (Q : Int32 → Hp → Prop) : Prop := m_X11_isWithin v1 (hI h 0 8) h (fun (x1 : Int32) (h2 : Hp) => (¬ x1 = 0 → m_X3_hear 11 h2 (fun (h4 : Hp) => vp_in v1 12 ∧ ∃ b5 : Nat, hR h4 10 (ix v1) = some b5 ∧ (m_X3_firstThatBars b5 h4 (fun (x6 : Int32) (h7 : Hp) => (¬ x6 = (-1) → Q 1 h7) ∧ (x6 = (-1) → Q 0 h7))))) ∧ (x1 = 0 → Q (-1) h2))
set_option maxHeartbeats 4000000 in
set_option maxRecDepth 100000 in
theorem s_X11_bars {l : Launch} {G : Cx} {d : Nat} (hd : 10 ≤ d) {v1 : Int32} {h : Hp} {Q : Int32 → Hp → Prop} (hm : m_X11_bars v1 h Q) : Ct l G d 0 0 yX11_bars MX11_bars [tR 11 0 (some 0), tI v1] h (qI Q) := by
  unfold m_X11_bars at hm
  refine Ct.of (L := [some (tR 11 0 (some 0)), some (tI v1)]) (by decide) rfl rfl (Nat.le_of_ble_eq_true rfl) rfl ?_
  refine r_iload_n dX11_bars_0 rfl rfl ?_
  refine r_aload_n dX11_bars_1 rfl rfl ?_
  refine r_getI (k := 8) cl_11 dX11_bars_2 t_354 (Or.inl rfl) gf_11_8 ?_
  refine r_callSI (d' := d - 1) (as := [tI v1, tI (hI h 0 8)]) (st := []) dX11_bars_5 mi_X11_isWithin t_405 t_406 rfl rfl (Nat.le_of_ble_eq_true rfl) (by omega) ⟨by decide, by decide⟩ ⟨rfl, rfl⟩ (s_X11_isWithin (by omega) hm) (fun x1 h2 hm => ?_)
  refine r_if_ne (tgt := 13) dX11_bars_8 rfl (fun hc => ?_) (fun hc => ?_)
  · replace hm := hm.1 hc
    refine r_aload_n dX11_bars_13 rfl rfl ?_
    refine r_getC (k := 15) cl_11 dX11_bars_14 t_361 gf_11_15.1 gf_11_15.2 (gc_11_15 _) ?_
    refine r_aload_n dX11_bars_17 rfl rfl ?_
    refine r_getC (k := 10) cl_11 dX11_bars_18 t_356 gf_11_10.1 gf_11_10.2 (gc_11_10 _) ?_
    refine r_callVU (d' := d - 1) (as := [tR 0 0 (some 11)]) (st := []) cl_3 dX11_bars_21 mi_X3_hear t_1065 t_1066 t_1067 rfl rfl (Nat.le_of_ble_eq_true rfl) (by omega) ⟨by decide, by decide⟩ ⟨rfl, rfl⟩ (s_X3_hear (by omega) hm) (fun h4 hm => ?_)
    refine r_aload_n dX11_bars_24 rfl rfl ?_
    refine r_getC (k := 15) cl_11 dX11_bars_25 t_361 gf_11_15.1 gf_11_15.2 (gc_11_15 _) ?_
    refine r_aload_n dX11_bars_28 rfl rfl ?_
    refine r_getC (k := 7) cl_11 dX11_bars_29 t_353 gf_11_7.1 gf_11_7.2 (gc_11_7 _) ?_
    refine r_iload_n dX11_bars_32 rfl rfl ?_
    obtain ⟨hi_b5, b5, hb_b5, hm⟩ := hm
    refine r_aaldS (kd := 6) (ti := 6) (cn := RX6) dX11_bars_33 rfl hi_b5 hb_b5 ?_
    refine r_callVI (d' := d - 1) (as := [tR 6 0 (some b5)]) (st := []) cl_3 dX11_bars_34 mi_X3_firstThatBars t_1074 t_1075 t_1076 rfl rfl (Nat.le_of_ble_eq_true rfl) (by omega) ⟨by decide, by decide⟩ ⟨rfl, rfl⟩ (s_X3_firstThatBars (by omega) hm) (fun x6 h7 hm => ?_)
    refine r_iconst (v := (-1)) dX11_bars_37 rfl ?_
    refine r_icmp_ne (tgt := 45) dX11_bars_38 rfl (fun hc => ?_) (fun hc => ?_)
    · replace hm := hm.1 hc
      refine r_iconst (v := 1) dX11_bars_45 rfl ?_
      exact r_ireturn dX11_bars_46 rfl ⟨by decide, by decide⟩ ⟨_, rfl, hm⟩
    · replace hm := hm.2 hc
      refine r_iconst (v := 0) dX11_bars_41 rfl ?_
      refine r_goto (tgt := 46) dX11_bars_42 rfl ?_
      exact r_ireturn dX11_bars_46 rfl ⟨by decide, by decide⟩ ⟨_, rfl, hm⟩
  · replace hm := hm.2 hc
    refine r_iconst (v := (-1)) dX11_bars_11 rfl ?_
    exact r_ireturn dX11_bars_12 rfl ⟨by decide, by decide⟩ ⟨_, rfl, hm⟩
theorem dX11_offer_0 : decode cX11_offer 0 = .ok (.iload_n 1, 1) := rfl
theorem dX11_offer_1 : decode cX11_offer 1 = .ok (.aload_n 0, 1) := rfl
theorem dX11_offer_2 : decode cX11_offer 2 = .ok (.getfield 116, 3) := rfl
theorem dX11_offer_5 : decode cX11_offer 5 = .ok (.invokestatic 98, 3) := rfl
theorem dX11_offer_8 : decode cX11_offer 8 = .ok (.ifCond .ne 5, 3) := by decide +kernel
theorem dX11_offer_11 : decode cX11_offer 11 = .ok (.iconst (-1), 1) := rfl
theorem dX11_offer_12 : decode cX11_offer 12 = .ok (.ireturn, 1) := rfl
theorem dX11_offer_13 : decode cX11_offer 13 = .ok (.aload_n 0, 1) := rfl
theorem dX11_offer_14 : decode cX11_offer 14 = .ok (.getfield 87, 3) := rfl
theorem dX11_offer_17 : decode cX11_offer 17 = .ok (.aload_n 0, 1) := rfl
theorem dX11_offer_18 : decode cX11_offer 18 = .ok (.getfield 31, 3) := rfl
theorem dX11_offer_21 : decode cX11_offer 21 = .ok (.iload_n 1, 1) := rfl
theorem dX11_offer_22 : decode cX11_offer 22 = .ok (.aaload, 1) := rfl
theorem dX11_offer_23 : decode cX11_offer 23 = .ok (.invokevirtual 257, 3) := rfl
theorem dX11_offer_26 : decode cX11_offer 26 = .ok (.ifCond .eq 13, 3) := by decide +kernel
theorem dX11_offer_29 : decode cX11_offer 29 = .ok (.aload_n 0, 1) := rfl
theorem dX11_offer_30 : decode cX11_offer 30 = .ok (.getfield 87, 3) := rfl
theorem dX11_offer_33 : decode cX11_offer 33 = .ok (.getfield 260, 3) := rfl
theorem dX11_offer_36 : decode cX11_offer 36 = .ok (.goto 4, 3) := by decide +kernel
theorem dX11_offer_39 : decode cX11_offer 39 = .ok (.iconst (-1), 1) := rfl
theorem dX11_offer_40 : decode cX11_offer 40 = .ok (.ireturn, 1) := rfl
def m_X11_offer (v1 : Int32) (h : Hp) (Q : Int32 → Hp → Prop) : Prop := m_X11_isWithin v1 (hI h 0 4) h (fun (x1 : Int32) (h2 : Hp) => (¬ x1 = 0 → vp_in v1 24 ∧ ∃ b3 : Nat, hR h2 8 (ix v1) = some b3 ∧ (m_X7_putOffered b3 h2 (fun (x4 : Int32) (h5 : Hp) => (x4 = 0 → Q (-1) h5) ∧ (¬ x4 = 0 → Q (hI h5 32 3) h5)))) ∧ (x1 = 0 → Q (-1) h2))
set_option maxHeartbeats 4000000 in
set_option maxRecDepth 100000 in
theorem s_X11_offer {l : Launch} {G : Cx} {d : Nat} (hd : 6 ≤ d) {v1 : Int32} {h : Hp} {Q : Int32 → Hp → Prop} (hm : m_X11_offer v1 h Q) : Ct l G d 0 0 yX11_offer MX11_offer [tR 11 0 (some 0), tI v1] h (qI Q) := by
  unfold m_X11_offer at hm
  refine Ct.of (L := [some (tR 11 0 (some 0)), some (tI v1)]) (by decide) rfl rfl (Nat.le_of_ble_eq_true rfl) rfl ?_
  refine r_iload_n dX11_offer_0 rfl rfl ?_
  refine r_aload_n dX11_offer_1 rfl rfl ?_
  refine r_getI (k := 4) cl_11 dX11_offer_2 t_350 (Or.inl rfl) gf_11_4 ?_
  refine r_callSI (d' := d - 1) (as := [tI v1, tI (hI h 0 4)]) (st := []) dX11_offer_5 mi_X11_isWithin t_405 t_406 rfl rfl (Nat.le_of_ble_eq_true rfl) (by omega) ⟨by decide, by decide⟩ ⟨rfl, rfl⟩ (s_X11_isWithin (by omega) hm) (fun x1 h2 hm => ?_)
  refine r_if_ne (tgt := 13) dX11_offer_8 rfl (fun hc => ?_) (fun hc => ?_)
  · replace hm := hm.1 hc
    refine r_aload_n dX11_offer_13 rfl rfl ?_
    refine r_getC (k := 16) cl_11 dX11_offer_14 t_362 gf_11_16.1 gf_11_16.2 (gc_11_16 _) ?_
    refine r_aload_n dX11_offer_17 rfl rfl ?_
    refine r_getC (k := 3) cl_11 dX11_offer_18 t_349 gf_11_3.1 gf_11_3.2 (gc_11_3 _) ?_
    refine r_iload_n dX11_offer_21 rfl rfl ?_
    obtain ⟨hi_b3, b3, hb_b3, hm⟩ := hm
    refine r_aaldS (kd := 1) (ti := 5) (cn := RX1) dX11_offer_22 rfl hi_b3 hb_b3 ?_
    refine r_callVI (d' := d - 1) (as := [tR 1 0 (some b3)]) (st := []) cl_7 dX11_offer_23 mi_X7_putOffered t_1106 t_1107 t_1108 rfl rfl (Nat.le_of_ble_eq_true rfl) (by omega) ⟨by decide, by decide⟩ ⟨rfl, rfl⟩ (s_X7_putOffered (by omega) hm) (fun x4 h5 hm => ?_)
    refine r_if_eq (tgt := 39) dX11_offer_26 rfl (fun hc => ?_) (fun hc => ?_)
    · replace hm := hm.1 hc
      refine r_iconst (v := (-1)) dX11_offer_39 rfl ?_
      exact r_ireturn dX11_offer_40 rfl ⟨by decide, by decide⟩ ⟨_, rfl, hm⟩
    · replace hm := hm.2 hc
      refine r_aload_n dX11_offer_29 rfl rfl ?_
      refine r_getC (k := 16) cl_11 dX11_offer_30 t_362 gf_11_16.1 gf_11_16.2 (gc_11_16 _) ?_
      refine r_getI (k := 3) cl_7 dX11_offer_33 t_271 (Or.inl rfl) gf_7_3 ?_
      refine r_goto (tgt := 40) dX11_offer_36 rfl ?_
      exact r_ireturn dX11_offer_40 rfl ⟨by decide, by decide⟩ ⟨_, rfl, hm⟩
  · replace hm := hm.2 hc
    refine r_iconst (v := (-1)) dX11_offer_11 rfl ?_
    exact r_ireturn dX11_offer_12 rfl ⟨by decide, by decide⟩ ⟨_, rfl, hm⟩
theorem dX11_sly_0 : decode cX11_sly 0 = .ok (.iload_n 1, 1) := rfl
theorem dX11_sly_1 : decode cX11_sly 1 = .ok (.iconst 1, 1) := rfl
theorem dX11_sly_2 : decode cX11_sly 2 = .ok (.if_icmp .lt 17, 3) := by decide +kernel
theorem dX11_sly_5 : decode cX11_sly 5 = .ok (.iload_n 1, 1) := rfl
theorem dX11_sly_6 : decode cX11_sly 6 = .ok (.bipush 6, 2) := by decide +kernel
theorem dX11_sly_8 : decode cX11_sly 8 = .ok (.if_icmp .gt 11, 3) := by decide +kernel
theorem dX11_sly_11 : decode cX11_sly 11 = .ok (.iload_n 2, 1) := rfl
theorem dX11_sly_12 : decode cX11_sly 12 = .ok (.iconst 2, 1) := rfl
theorem dX11_sly_13 : decode cX11_sly 13 = .ok (.invokestatic 98, 3) := rfl
theorem dX11_sly_16 : decode cX11_sly 16 = .ok (.ifCond .ne 5, 3) := by decide +kernel
theorem dX11_sly_19 : decode cX11_sly 19 = .ok (.iconst (-1), 1) := rfl
theorem dX11_sly_20 : decode cX11_sly 20 = .ok (.ireturn, 1) := rfl
theorem dX11_sly_21 : decode cX11_sly 21 = .ok (.aload_n 0, 1) := rfl
theorem dX11_sly_22 : decode cX11_sly 22 = .ok (.getfield 87, 3) := rfl
theorem dX11_sly_25 : decode cX11_sly 25 = .ok (.iload_n 1, 1) := rfl
theorem dX11_sly_26 : decode cX11_sly 26 = .ok (.aload_n 0, 1) := rfl
theorem dX11_sly_27 : decode cX11_sly 27 = .ok (.invokevirtual 239, 3) := rfl
theorem dX11_sly_30 : decode cX11_sly 30 = .ok (.invokevirtual 263, 3) := rfl
theorem dX11_sly_33 : decode cX11_sly 33 = .ok (.iload_n 2, 1) := rfl
theorem dX11_sly_34 : decode cX11_sly 34 = .ok (.ifCond .ne 14, 3) := by decide +kernel
theorem dX11_sly_37 : decode cX11_sly 37 = .ok (.aload_n 0, 1) := rfl
theorem dX11_sly_38 : decode cX11_sly 38 = .ok (.getfield 87, 3) := rfl
theorem dX11_sly_41 : decode cX11_sly 41 = .ok (.iload_n 1, 1) := rfl
theorem dX11_sly_42 : decode cX11_sly 42 = .ok (.invokevirtual 267, 3) := rfl
theorem dX11_sly_45 : decode cX11_sly 45 = .ok (.goto 11, 3) := by decide +kernel
theorem dX11_sly_48 : decode cX11_sly 48 = .ok (.aload_n 0, 1) := rfl
theorem dX11_sly_49 : decode cX11_sly 49 = .ok (.getfield 87, 3) := rfl
theorem dX11_sly_52 : decode cX11_sly 52 = .ok (.iload_n 1, 1) := rfl
theorem dX11_sly_53 : decode cX11_sly 53 = .ok (.invokevirtual 270, 3) := rfl
theorem dX11_sly_56 : decode cX11_sly 56 = .ok (.ireturn, 1) := rfl
def m_X11_sly (v1 : Int32) (v2 : Int32) (h : Hp) (Q : Int32 → Hp → Prop) : Prop := (v1 < 1 → Q (-1) h) ∧ (¬ v1 < 1 → (6 < v1 → Q (-1) h) ∧ (¬ 6 < v1 → m_X11_isWithin v2 2 h (fun (x1 : Int32) (h2 : Hp) => (¬ x1 = 0 → m_X11_lawInForce h2 (fun (x3 : Option Nat) (h4 : Hp) => m_X7_look v1 x3 h4 (fun (h6 : Hp) => (¬ v2 = 0 → m_X7_fewest v1 h6 (fun (x7 : Int32) (h8 : Hp) => Q x7 h8)) ∧ (v2 = 0 → m_X7_howMany v1 h6 (fun (x9 : Int32) (h10 : Hp) => Q x9 h10))))) ∧ (x1 = 0 → Q (-1) h2))))
set_option maxHeartbeats 4000000 in
set_option maxRecDepth 100000 in
theorem s_X11_sly {l : Launch} {G : Cx} {d : Nat} (hd : 116 ≤ d) {v1 : Int32} {v2 : Int32} {h : Hp} {Q : Int32 → Hp → Prop} (hm : m_X11_sly v1 v2 h Q) : Ct l G d 0 0 yX11_sly MX11_sly [tR 11 0 (some 0), tI v1, tI v2] h (qI Q) := by
  unfold m_X11_sly at hm
  refine Ct.of (L := [some (tR 11 0 (some 0)), some (tI v1), some (tI v2)]) (by decide) rfl rfl (Nat.le_of_ble_eq_true rfl) rfl ?_
  refine r_iload_n dX11_sly_0 rfl rfl ?_
  refine r_iconst (v := 1) dX11_sly_1 rfl ?_
  refine r_icmp_lt (tgt := 19) dX11_sly_2 rfl (fun hc => ?_) (fun hc => ?_)
  · replace hm := hm.1 hc
    refine r_iconst (v := (-1)) dX11_sly_19 rfl ?_
    exact r_ireturn dX11_sly_20 rfl ⟨by decide, by decide⟩ ⟨_, rfl, hm⟩
  · replace hm := hm.2 hc
    refine r_iload_n dX11_sly_5 rfl rfl ?_
    refine r_bipush (v := 6) dX11_sly_6 rfl ?_
    refine r_icmp_gt (tgt := 19) dX11_sly_8 rfl (fun hc => ?_) (fun hc => ?_)
    · replace hm := hm.1 hc
      refine r_iconst (v := (-1)) dX11_sly_19 rfl ?_
      exact r_ireturn dX11_sly_20 rfl ⟨by decide, by decide⟩ ⟨_, rfl, hm⟩
    · replace hm := hm.2 hc
      refine r_iload_n dX11_sly_11 rfl rfl ?_
      refine r_iconst (v := 2) dX11_sly_12 rfl ?_
      refine r_callSI (d' := d - 1) (as := [tI v2, tI 2]) (st := []) dX11_sly_13 mi_X11_isWithin t_405 t_406 rfl rfl (Nat.le_of_ble_eq_true rfl) (by omega) ⟨by decide, by decide⟩ ⟨rfl, rfl⟩ (s_X11_isWithin (by omega) hm) (fun x1 h2 hm => ?_)
      refine r_if_ne (tgt := 21) dX11_sly_16 rfl (fun hc => ?_) (fun hc => ?_)
      · replace hm := hm.1 hc
        refine r_aload_n dX11_sly_21 rfl rfl ?_
        refine r_getC (k := 16) cl_11 dX11_sly_22 t_362 gf_11_16.1 gf_11_16.2 (gc_11_16 _) ?_
        refine r_iload_n dX11_sly_25 rfl rfl ?_
        refine r_aload_n dX11_sly_26 rfl rfl ?_
        refine r_callVR (d' := d - 1) (as := []) (st := [tI v1, tR 7 0 (some 32)]) cl_11 dX11_sly_27 mi_X11_lawInForce t_1061 t_1063 ts_39 rfl rfl (Nat.le_of_ble_eq_true rfl) (by omega) ⟨by decide, by decide⟩ ⟨rfl, rfl⟩ (s_X11_lawInForce (by omega) hm) (fun x3 h4 hm => ?_)
        refine r_callVU (d' := d - 1) (as := [tI v1, tR 6 0 x3]) (st := []) cl_7 dX11_sly_30 mi_X7_look t_1115 t_1116 t_1117 rfl rfl (Nat.le_of_ble_eq_true rfl) (by omega) ⟨by decide, by decide⟩ ⟨rfl, rfl⟩ (s_X7_look (by omega) hm) (fun h6 hm => ?_)
        refine r_iload_n dX11_sly_33 rfl rfl ?_
        refine r_if_ne (tgt := 48) dX11_sly_34 rfl (fun hc => ?_) (fun hc => ?_)
        · replace hm := hm.1 hc
          refine r_aload_n dX11_sly_48 rfl rfl ?_
          refine r_getC (k := 16) cl_11 dX11_sly_49 t_362 gf_11_16.1 gf_11_16.2 (gc_11_16 _) ?_
          refine r_iload_n dX11_sly_52 rfl rfl ?_
          refine r_callVI (d' := d - 1) (as := [tI v1]) (st := []) cl_7 dX11_sly_53 mi_X7_fewest t_1165 t_1166 t_1167 rfl rfl (Nat.le_of_ble_eq_true rfl) (by omega) ⟨by decide, by decide⟩ ⟨rfl, rfl⟩ (s_X7_fewest (by omega) hm) (fun x7 h8 hm => ?_)
          exact r_ireturn dX11_sly_56 rfl ⟨by decide, by decide⟩ ⟨_, rfl, hm⟩
        · replace hm := hm.2 hc
          refine r_aload_n dX11_sly_37 rfl rfl ?_
          refine r_getC (k := 16) cl_11 dX11_sly_38 t_362 gf_11_16.1 gf_11_16.2 (gc_11_16 _) ?_
          refine r_iload_n dX11_sly_41 rfl rfl ?_
          refine r_callVI (d' := d - 1) (as := [tI v1]) (st := []) cl_7 dX11_sly_42 mi_X7_howMany t_1160 t_1161 t_1162 rfl rfl (Nat.le_of_ble_eq_true rfl) (by omega) ⟨by decide, by decide⟩ ⟨rfl, rfl⟩ (s_X7_howMany (by omega) hm) (fun x9 h10 hm => ?_)
          refine r_goto (tgt := 56) dX11_sly_45 rfl ?_
          exact r_ireturn dX11_sly_56 rfl ⟨by decide, by decide⟩ ⟨_, rfl, hm⟩
      · replace hm := hm.2 hc
        refine r_iconst (v := (-1)) dX11_sly_19 rfl ?_
        exact r_ireturn dX11_sly_20 rfl ⟨by decide, by decide⟩ ⟨_, rfl, hm⟩
