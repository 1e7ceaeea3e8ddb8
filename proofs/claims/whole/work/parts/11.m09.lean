theorem dX12_netOf_0 : decode cX12_netOf 0 = .ok (.lconst 0, 1) := by decide +kernel
theorem dX12_netOf_1 : decode cX12_netOf 1 = .ok (.lstore 4, 2) := by decide +kernel
theorem dX12_netOf_3 : decode cX12_netOf 3 = .ok (.iconst 0, 1) := by decide +kernel
theorem dX12_netOf_4 : decode cX12_netOf 4 = .ok (.istore 6, 2) := by decide +kernel
theorem dX12_netOf_6 : decode cX12_netOf 6 = .ok (.iload 6, 2) := by decide +kernel
theorem dX12_netOf_8 : decode cX12_netOf 8 = .ok (.aload_n 0, 1) := by decide +kernel
theorem dX12_netOf_9 : decode cX12_netOf 9 = .ok (.getfield 404, 3) := by decide +kernel
theorem dX12_netOf_12 : decode cX12_netOf 12 = .ok (.if_icmp .ge 94, 3) := by decide +kernel
theorem dX12_netOf_15 : decode cX12_netOf 15 = .ok (.aload_n 0, 1) := by decide +kernel
theorem dX12_netOf_16 : decode cX12_netOf 16 = .ok (.getfield 106, 3) := by decide +kernel
theorem dX12_netOf_19 : decode cX12_netOf 19 = .ok (.iload 6, 2) := by decide +kernel
theorem dX12_netOf_21 : decode cX12_netOf 21 = .ok (.iaload, 1) := by decide +kernel
theorem dX12_netOf_22 : decode cX12_netOf 22 = .ok (.iload_n 2, 1) := by decide +kernel
theorem dX12_netOf_23 : decode cX12_netOf 23 = .ok (.if_icmp .ne 77, 3) := by decide +kernel
theorem dX12_netOf_26 : decode cX12_netOf 26 = .ok (.iload_n 3, 1) := by decide +kernel
theorem dX12_netOf_27 : decode cX12_netOf 27 = .ok (.ifCond .lt 17, 3) := by decide +kernel
theorem dX12_netOf_30 : decode cX12_netOf 30 = .ok (.aload_n 0, 1) := by decide +kernel
theorem dX12_netOf_31 : decode cX12_netOf 31 = .ok (.getfield 97, 3) := by decide +kernel
theorem dX12_netOf_34 : decode cX12_netOf 34 = .ok (.iload 6, 2) := by decide +kernel
theorem dX12_netOf_36 : decode cX12_netOf 36 = .ok (.iaload, 1) := by decide +kernel
theorem dX12_netOf_37 : decode cX12_netOf 37 = .ok (.iload_n 3, 1) := by decide +kernel
theorem dX12_netOf_38 : decode cX12_netOf 38 = .ok (.if_icmp .eq 6, 3) := by decide +kernel
theorem dX12_netOf_41 : decode cX12_netOf 41 = .ok (.goto 59, 3) := by decide +kernel
theorem dX12_netOf_44 : decode cX12_netOf 44 = .ok (.aload_n 0, 1) := by decide +kernel
theorem dX12_netOf_45 : decode cX12_netOf 45 = .ok (.getfield 7, 3) := by decide +kernel
theorem dX12_netOf_48 : decode cX12_netOf 48 = .ok (.aload_n 0, 1) := by decide +kernel
theorem dX12_netOf_49 : decode cX12_netOf 49 = .ok (.getfield 103, 3) := by decide +kernel
theorem dX12_netOf_52 : decode cX12_netOf 52 = .ok (.iload 6, 2) := by decide +kernel
theorem dX12_netOf_54 : decode cX12_netOf 54 = .ok (.iaload, 1) := by decide +kernel
theorem dX12_netOf_55 : decode cX12_netOf 55 = .ok (.iaload, 1) := by decide +kernel
theorem dX12_netOf_56 : decode cX12_netOf 56 = .ok (.iload_n 1, 1) := by decide +kernel
theorem dX12_netOf_57 : decode cX12_netOf 57 = .ok (.if_icmp .ne 15, 3) := by decide +kernel
theorem dX12_netOf_60 : decode cX12_netOf 60 = .ok (.lload 4, 2) := by decide +kernel
theorem dX12_netOf_62 : decode cX12_netOf 62 = .ok (.aload_n 0, 1) := by decide +kernel
theorem dX12_netOf_63 : decode cX12_netOf 63 = .ok (.getfield 109, 3) := by decide +kernel
theorem dX12_netOf_66 : decode cX12_netOf 66 = .ok (.iload 6, 2) := by decide +kernel
theorem dX12_netOf_68 : decode cX12_netOf 68 = .ok (.laload, 1) := by decide +kernel
theorem dX12_netOf_69 : decode cX12_netOf 69 = .ok (.ladd, 1) := by decide +kernel
theorem dX12_netOf_70 : decode cX12_netOf 70 = .ok (.lstore 4, 2) := by decide +kernel
theorem dX12_netOf_72 : decode cX12_netOf 72 = .ok (.aload_n 0, 1) := by decide +kernel
theorem dX12_netOf_73 : decode cX12_netOf 73 = .ok (.getfield 7, 3) := by decide +kernel
theorem dX12_netOf_76 : decode cX12_netOf 76 = .ok (.aload_n 0, 1) := by decide +kernel
theorem dX12_netOf_77 : decode cX12_netOf 77 = .ok (.getfield 100, 3) := by decide +kernel
theorem dX12_netOf_80 : decode cX12_netOf 80 = .ok (.iload 6, 2) := by decide +kernel
theorem dX12_netOf_82 : decode cX12_netOf 82 = .ok (.iaload, 1) := by decide +kernel
theorem dX12_netOf_83 : decode cX12_netOf 83 = .ok (.iaload, 1) := by decide +kernel
theorem dX12_netOf_84 : decode cX12_netOf 84 = .ok (.iload_n 1, 1) := by decide +kernel
theorem dX12_netOf_85 : decode cX12_netOf 85 = .ok (.if_icmp .ne 15, 3) := by decide +kernel
theorem dX12_netOf_88 : decode cX12_netOf 88 = .ok (.lload 4, 2) := by decide +kernel
theorem dX12_netOf_90 : decode cX12_netOf 90 = .ok (.aload_n 0, 1) := by decide +kernel
theorem dX12_netOf_91 : decode cX12_netOf 91 = .ok (.getfield 109, 3) := by decide +kernel
theorem dX12_netOf_94 : decode cX12_netOf 94 = .ok (.iload 6, 2) := by decide +kernel
theorem dX12_netOf_96 : decode cX12_netOf 96 = .ok (.laload, 1) := by decide +kernel
theorem dX12_netOf_97 : decode cX12_netOf 97 = .ok (.lsub, 1) := by decide +kernel
theorem dX12_netOf_98 : decode cX12_netOf 98 = .ok (.lstore 4, 2) := by decide +kernel
theorem dX12_netOf_100 : decode cX12_netOf 100 = .ok (.iinc 6 1, 3) := by decide +kernel
theorem dX12_netOf_103 : decode cX12_netOf 103 = .ok (.goto (-97), 3) := by decide +kernel
theorem dX12_netOf_106 : decode cX12_netOf 106 = .ok (.lload 4, 2) := by decide +kernel
theorem dX12_netOf_108 : decode cX12_netOf 108 = .ok (.lreturn, 1) := by decide +kernel
def m_X12_netOf_100 (k6 : Int32 → Int32 → Int32 → Int64 → Int32 → Hp → Prop) (Q : Int64 → Hp → Prop) (v1 : Int32) (v2 : Int32) (v3 : Int32) (v4 : Int64) (v6 : Int32) (h : Hp) : Prop := ∀ x1 : Int32, x1 = v6 + 1 → k6 v1 v2 v3 v4 x1 h
set_option maxHeartbeats 4000000 in
set_option maxRecDepth 100000 in
theorem s_X12_netOf_100 {l : Launch} {G : Cx} {d : Nat} {h0 : Hp} (hd : 2 ≤ d) {k6 : Int32 → Int32 → Int32 → Int64 → Int32 → Hp → Prop} {Q : Int64 → Hp → Prop} (hk6 : ∀ (v1 : Int32) (v2 : Int32) (v3 : Int32) (v4 : Int64) (v6 : Int32) (hh : Hp), k6 v1 v2 v3 v4 v6 hh → Rn l G d 0 0 MX12_netOf h0 (qJ Q) 6 [some (tR 12 0 (some 51)), some (tI v1), some (tI v2), some (tI v3), some (tJ v4), none, some (tI v6)] [] hh 0 0) {v1 : Int32} {v2 : Int32} {v3 : Int32} {v4 : Int64} {v6 : Int32} {h : Hp} (hm : m_X12_netOf_100 k6 Q v1 v2 v3 v4 v6 h) : Rn l G d 0 0 MX12_netOf h0 (qJ Q) 100 [some (tR 12 0 (some 51)), some (tI v1), some (tI v2), some (tI v3), some (tJ v4), none, some (tI v6)] [] h 0 0 := by
  unfold m_X12_netOf_100 at hm
  obtain ⟨x1, e_x1⟩ : ∃ y : Int32, y = v6 + 1 := ⟨_, rfl⟩
  replace hm := hm x1 e_x1
  refine r_iinc (L' := [some (tR 12 0 (some 51)), some (tI v1), some (tI v2), some (tI v3), some (tJ v4), none, some (tI x1)]) dX12_netOf_100 rfl (by rw [e_x1]; rfl) (by decide) rfl ?_
  refine r_goto (tgt := 6) dX12_netOf_103 rfl ?_
  refine r_keep (L' := [some (tR 12 0 (some 51)), some (tI v1), some (tI v2), some (tI v3), some (tJ v4), none, some (tI x1)]) [true, true, true, true, true, false, true] rfl ?_
  exact hk6 _ _ _ _ _ _ hm
def m_X12_netOf_72 (k6 : Int32 → Int32 → Int32 → Int64 → Int32 → Hp → Prop) (Q : Int64 → Hp → Prop) (v1 : Int32) (v2 : Int32) (v3 : Int32) (v4 : Int64) (v6 : Int32) (h : Hp) : Prop := vp_in v6 256 ∧ (vp_in (hI h 80 (ix v6)) 8 ∧ ((¬ (hI h 52 (ix (hI h 80 (ix v6)))) = v1 → m_X12_netOf_100 k6 Q v1 v2 v3 v4 v6 h) ∧ ((hI h 52 (ix (hI h 80 (ix v6)))) = v1 → vp_in v6 256 ∧ (∀ x2 : Int64, x2 = (v4 - (hJ h 83 (ix v6))) → m_X12_netOf_100 k6 Q v1 v2 v3 x2 v6 h))))
set_option maxHeartbeats 4000000 in
set_option maxRecDepth 100000 in
theorem s_X12_netOf_72 {l : Launch} {G : Cx} {d : Nat} {h0 : Hp} (hd : 2 ≤ d) {k6 : Int32 → Int32 → Int32 → Int64 → Int32 → Hp → Prop} {Q : Int64 → Hp → Prop} (hk6 : ∀ (v1 : Int32) (v2 : Int32) (v3 : Int32) (v4 : Int64) (v6 : Int32) (hh : Hp), k6 v1 v2 v3 v4 v6 hh → Rn l G d 0 0 MX12_netOf h0 (qJ Q) 6 [some (tR 12 0 (some 51)), some (tI v1), some (tI v2), some (tI v3), some (tJ v4), none, some (tI v6)] [] hh 0 0) {v1 : Int32} {v2 : Int32} {v3 : Int32} {v4 : Int64} {v6 : Int32} {h : Hp} (hm : m_X12_netOf_72 k6 Q v1 v2 v3 v4 v6 h) : Rn l G d 0 0 MX12_netOf h0 (qJ Q) 72 [some (tR 12 0 (some 51)), some (tI v1), some (tI v2), some (tI v3), some (tJ v4), none, some (tI v6)] [] h 0 0 := by
  unfold m_X12_netOf_72 at hm
  refine r_aload_n dX12_netOf_72 rfl rfl ?_
  refine r_getC (k := 0) cl_12 dX12_netOf_73 t_1272 gf_12_0.1 gf_12_0.2 (gc_12_0 _) ?_
  refine r_aload_n dX12_netOf_76 rfl rfl ?_
  refine r_getC (k := 50) cl_12 dX12_netOf_77 t_1322 gf_12_50.1 gf_12_50.2 (gc_12_50 _) ?_
  refine r_iload dX12_netOf_80 rfl ?_
  refine r_iald dX12_netOf_82 hm.1 ?_
  replace hm := hm.2
  refine r_iald dX12_netOf_83 hm.1 ?_
  replace hm := hm.2
  refine r_iload_n dX12_netOf_84 rfl rfl ?_
  refine r_icmp_ne (tgt := 100) dX12_netOf_85 rfl (fun hc => ?_) (fun hc => ?_)
  · replace hm := hm.1 hc
    refine r_keep (L' := [some (tR 12 0 (some 51)), some (tI v1), some (tI v2), some (tI v3), some (tJ v4), none, some (tI v6)]) [true, true, true, true, true, false, true] rfl ?_
    exact s_X12_netOf_100 hd hk6 hm
  · replace hm := hm.2 hc
    refine r_lload dX12_netOf_88 rfl ?_
    refine r_aload_n dX12_netOf_90 rfl rfl ?_
    refine r_getC (k := 53) cl_12 dX12_netOf_91 t_1325 gf_12_53.1 gf_12_53.2 (gc_12_53 _) ?_
    refine r_iload dX12_netOf_94 rfl ?_
    refine r_lald dX12_netOf_96 hm.1 ?_
    replace hm := hm.2
    refine r_lsub dX12_netOf_97 ?_
    refine r_nmJ (fun x2 e_x2 => ?_)
    replace hm := hm x2 e_x2
    refine r_lstore (L' := [some (tR 12 0 (some 51)), some (tI v1), some (tI v2), some (tI v3), some (tJ x2), none, some (tI v6)]) dX12_netOf_98 (by decide) rfl ?_
    refine r_keep (L' := [some (tR 12 0 (some 51)), some (tI v1), some (tI v2), some (tI v3), some (tJ x2), none, some (tI v6)]) [true, true, true, true, true, false, true] rfl ?_
    exact s_X12_netOf_100 hd hk6 hm
def m_X12_netOf_44 (k6 : Int32 → Int32 → Int32 → Int64 → Int32 → Hp → Prop) (Q : Int64 → Hp → Prop) (v1 : Int32) (v2 : Int32) (v3 : Int32) (v4 : Int64) (v6 : Int32) (h : Hp) : Prop := vp_in v6 256 ∧ (vp_in (hI h 81 (ix v6)) 8 ∧ ((¬ (hI h 52 (ix (hI h 81 (ix v6)))) = v1 → m_X12_netOf_72 k6 Q v1 v2 v3 v4 v6 h) ∧ ((hI h 52 (ix (hI h 81 (ix v6)))) = v1 → vp_in v6 256 ∧ (∀ x3 : Int64, x3 = (v4 + (hJ h 83 (ix v6))) → m_X12_netOf_72 k6 Q v1 v2 v3 x3 v6 h))))
set_option maxHeartbeats 4000000 in
set_option maxRecDepth 100000 in
theorem s_X12_netOf_44 {l : Launch} {G : Cx} {d : Nat} {h0 : Hp} (hd : 2 ≤ d) {k6 : Int32 → Int32 → Int32 → Int64 → Int32 → Hp → Prop} {Q : Int64 → Hp → Prop} (hk6 : ∀ (v1 : Int32) (v2 : Int32) (v3 : Int32) (v4 : Int64) (v6 : Int32) (hh : Hp), k6 v1 v2 v3 v4 v6 hh → Rn l G d 0 0 MX12_netOf h0 (qJ Q) 6 [some (tR 12 0 (some 51)), some (tI v1), some (tI v2), some (tI v3), some (tJ v4), none, some (tI v6)] [] hh 0 0) {v1 : Int32} {v2 : Int32} {v3 : Int32} {v4 : Int64} {v6 : Int32} {h : Hp} (hm : m_X12_netOf_44 k6 Q v1 v2 v3 v4 v6 h) : Rn l G d 0 0 MX12_netOf h0 (qJ Q) 44 [some (tR 12 0 (some 51)), some (tI v1), some (tI v2), some (tI v3), some (tJ v4), none, some (tI v6)] [] h 0 0 := by
  unfold m_X12_netOf_44 at hm
  refine r_aload_n dX12_netOf_44 rfl rfl ?_
  refine r_getC (k := 0) cl_12 dX12_netOf_45 t_1272 gf_12_0.1 gf_12_0.2 (gc_12_0 _) ?_
  refine r_aload_n dX12_netOf_48 rfl rfl ?_
  refine r_getC (k := 51) cl_12 dX12_netOf_49 t_1323 gf_12_51.1 gf_12_51.2 (gc_12_51 _) ?_
  refine r_iload dX12_netOf_52 rfl ?_
  refine r_iald dX12_netOf_54 hm.1 ?_
  replace hm := hm.2
  refine r_iald dX12_netOf_55 hm.1 ?_
  replace hm := hm.2
  refine r_iload_n dX12_netOf_56 rfl rfl ?_
  refine r_icmp_ne (tgt := 72) dX12_netOf_57 rfl (fun hc => ?_) (fun hc => ?_)
  · replace hm := hm.1 hc
    refine r_keep (L' := [some (tR 12 0 (some 51)), some (tI v1), some (tI v2), some (tI v3), some (tJ v4), none, some (tI v6)]) [true, true, true, true, true, false, true] rfl ?_
    exact s_X12_netOf_72 hd hk6 hm
  · replace hm := hm.2 hc
    refine r_lload dX12_netOf_60 rfl ?_
    refine r_aload_n dX12_netOf_62 rfl rfl ?_
    refine r_getC (k := 53) cl_12 dX12_netOf_63 t_1325 gf_12_53.1 gf_12_53.2 (gc_12_53 _) ?_
    refine r_iload dX12_netOf_66 rfl ?_
    refine r_lald dX12_netOf_68 hm.1 ?_
    replace hm := hm.2
    refine r_ladd dX12_netOf_69 ?_
    refine r_nmJ (fun x3 e_x3 => ?_)
    replace hm := hm x3 e_x3
    refine r_lstore (L' := [some (tR 12 0 (some 51)), some (tI v1), some (tI v2), some (tI v3), some (tJ x3), none, some (tI v6)]) dX12_netOf_70 (by decide) rfl ?_
    refine r_keep (L' := [some (tR 12 0 (some 51)), some (tI v1), some (tI v2), some (tI v3), some (tJ x3), none, some (tI v6)]) [true, true, true, true, true, false, true] rfl ?_
    exact s_X12_netOf_72 hd hk6 hm
def m_X12_netOf_6 : Nat → (Int64 → Hp → Prop) → Int32 → Int32 → Int32 → Int64 → Int32 → Hp → Prop
  | 0, _, _, _, _, _, _, _ => False
  | n + 1, Q, v1, v2, v3, v4, v6, h => ((hI h 51 48) ≤ v6 → Q v4 h) ∧ (¬ (hI h 51 48) ≤ v6 → vp_in v6 256 ∧ ((¬ (hI h 82 (ix v6)) = v2 → m_X12_netOf_100 (fun (v1 : Int32) (v2 : Int32) (v3 : Int32) (v4 : Int64) (v6 : Int32) (hh : Hp) => m_X12_netOf_6 n Q v1 v2 v3 v4 v6 hh) Q v1 v2 v3 v4 v6 h) ∧ ((hI h 82 (ix v6)) = v2 → (v3 < 0 → m_X12_netOf_44 (fun (v1 : Int32) (v2 : Int32) (v3 : Int32) (v4 : Int64) (v6 : Int32) (hh : Hp) => m_X12_netOf_6 n Q v1 v2 v3 v4 v6 hh) Q v1 v2 v3 v4 v6 h) ∧ (¬ v3 < 0 → vp_in v6 256 ∧ (((hI h 79 (ix v6)) = v3 → m_X12_netOf_44 (fun (v1 : Int32) (v2 : Int32) (v3 : Int32) (v4 : Int64) (v6 : Int32) (hh : Hp) => m_X12_netOf_6 n Q v1 v2 v3 v4 v6 hh) Q v1 v2 v3 v4 v6 h) ∧ (¬ (hI h 79 (ix v6)) = v3 → m_X12_netOf_100 (fun (v1 : Int32) (v2 : Int32) (v3 : Int32) (v4 : Int64) (v6 : Int32) (hh : Hp) => m_X12_netOf_6 n Q v1 v2 v3 v4 v6 hh) Q v1 v2 v3 v4 v6 h))))))
set_option maxHeartbeats 4000000 in
set_option maxRecDepth 100000 in
theorem s_X12_netOf_6 {l : Launch} {G : Cx} {d : Nat} {h0 : Hp} (hd : 2 ≤ d) {Q : Int64 → Hp → Prop} : ∀ {n : Nat} {v1 : Int32} {v2 : Int32} {v3 : Int32} {v4 : Int64} {v6 : Int32} {h : Hp}, m_X12_netOf_6 n Q v1 v2 v3 v4 v6 h → Rn l G d 0 0 MX12_netOf h0 (qJ Q) 6 [some (tR 12 0 (some 51)), some (tI v1), some (tI v2), some (tI v3), some (tJ v4), none, some (tI v6)] [] h 0 0 := by
  intro n
  induction n with
  | zero => intro v1 v2 v3 v4 v6 h hm; exact hm.elim
  | succ n ih =>
    intro v1 v2 v3 v4 v6 h hm
    have hk6 := fun (v1 : Int32) (v2 : Int32) (v3 : Int32) (v4 : Int64) (v6 : Int32) (hh : Hp) (hm : m_X12_netOf_6 n Q v1 v2 v3 v4 v6 hh) => ih hm
    rw [m_X12_netOf_6] at hm
    refine r_iload dX12_netOf_6 rfl ?_
    refine r_aload_n dX12_netOf_8 rfl rfl ?_
    refine r_getI (k := 48) cl_12 dX12_netOf_9 t_1320 (Or.inl rfl) gf_12_48 ?_
    refine r_icmp_ge (tgt := 106) dX12_netOf_12 rfl (fun hc => ?_) (fun hc => ?_)
    · replace hm := hm.1 hc
      refine r_lload dX12_netOf_106 rfl ?_
      exact r_lreturn dX12_netOf_108 rfl ⟨by decide, by decide⟩ ⟨_, rfl, hm⟩
    · replace hm := hm.2 hc
      refine r_aload_n dX12_netOf_15 rfl rfl ?_
      refine r_getC (k := 52) cl_12 dX12_netOf_16 t_1324 gf_12_52.1 gf_12_52.2 (gc_12_52 _) ?_
      refine r_iload dX12_netOf_19 rfl ?_
      refine r_iald dX12_netOf_21 hm.1 ?_
      replace hm := hm.2
      refine r_iload_n dX12_netOf_22 rfl rfl ?_
      refine r_icmp_ne (tgt := 100) dX12_netOf_23 rfl (fun hc => ?_) (fun hc => ?_)
      · replace hm := hm.1 hc
        refine r_keep (L' := [some (tR 12 0 (some 51)), some (tI v1), some (tI v2), some (tI v3), some (tJ v4), none, some (tI v6)]) [true, true, true, true, true, false, true] rfl ?_
        exact s_X12_netOf_100 hd hk6 hm
      · replace hm := hm.2 hc
        refine r_iload_n dX12_netOf_26 rfl rfl ?_
        refine r_if_lt (tgt := 44) dX12_netOf_27 rfl (fun hc => ?_) (fun hc => ?_)
        · replace hm := hm.1 hc
          refine r_keep (L' := [some (tR 12 0 (some 51)), some (tI v1), some (tI v2), some (tI v3), some (tJ v4), none, some (tI v6)]) [true, true, true, true, true, false, true] rfl ?_
          exact s_X12_netOf_44 hd hk6 hm
        · replace hm := hm.2 hc
          refine r_aload_n dX12_netOf_30 rfl rfl ?_
          refine r_getC (k := 49) cl_12 dX12_netOf_31 t_1321 gf_12_49.1 gf_12_49.2 (gc_12_49 _) ?_
          refine r_iload dX12_netOf_34 rfl ?_
          refine r_iald dX12_netOf_36 hm.1 ?_
          replace hm := hm.2
          refine r_iload_n dX12_netOf_37 rfl rfl ?_
          refine r_icmp_eq (tgt := 44) dX12_netOf_38 rfl (fun hc => ?_) (fun hc => ?_)
          · replace hm := hm.1 hc
            refine r_keep (L' := [some (tR 12 0 (some 51)), some (tI v1), some (tI v2), some (tI v3), some (tJ v4), none, some (tI v6)]) [true, true, true, true, true, false, true] rfl ?_
            exact s_X12_netOf_44 hd hk6 hm
          · replace hm := hm.2 hc
            refine r_goto (tgt := 100) dX12_netOf_41 rfl ?_
            refine r_keep (L' := [some (tR 12 0 (some 51)), some (tI v1), some (tI v2), some (tI v3), some (tJ v4), none, some (tI v6)]) [true, true, true, true, true, false, true] rfl ?_
            exact s_X12_netOf_100 hd hk6 hm
def m_X12_netOf (v1 : Int32) (v2 : Int32) (v3 : Int32) (h : Hp) (Q : Int64 → Hp → Prop) : Prop := ∃ n6, m_X12_netOf_6 n6 Q v1 v2 v3 0 0 h
set_option maxHeartbeats 4000000 in
set_option maxRecDepth 100000 in
theorem s_X12_netOf {l : Launch} {G : Cx} {d : Nat} (hd : 2 ≤ d) {v1 : Int32} {v2 : Int32} {v3 : Int32} {h : Hp} {Q : Int64 → Hp → Prop} (hm : m_X12_netOf v1 v2 v3 h Q) : Ct l G d 0 0 yX12_netOf MX12_netOf [tR 12 0 (some 51), tI v1, tI v2, tI v3] h (qJ Q) := by
  unfold m_X12_netOf at hm
  refine Ct.of (L := [some (tR 12 0 (some 51)), some (tI v1), some (tI v2), some (tI v3)]) (by decide) rfl rfl (Nat.le_of_ble_eq_true rfl) rfl ?_
  refine r_lconst (v := 0) dX12_netOf_0 rfl ?_
  refine r_lstore (L' := [some (tR 12 0 (some 51)), some (tI v1), some (tI v2), some (tI v3), some (tJ 0), none]) dX12_netOf_1 (by decide) rfl ?_
  refine r_iconst (v := 0) dX12_netOf_3 rfl ?_
  refine r_istore (L' := [some (tR 12 0 (some 51)), some (tI v1), some (tI v2), some (tI v3), some (tJ 0), none, some (tI 0)]) dX12_netOf_4 (by decide) rfl ?_
  refine r_keep (L' := [some (tR 12 0 (some 51)), some (tI v1), some (tI v2), some (tI v3), some (tJ 0), none, some (tI 0)]) [true, true, true, true, true, false, true] rfl ?_
  obtain ⟨n, hm⟩ := hm
  refine s_X12_netOf_6 hd hm
theorem dX12_findRow_0 : decode cX12_findRow 0 = .ok (.iload_n 2, 1) := by decide +kernel
theorem dX12_findRow_1 : decode cX12_findRow 1 = .ok (.istore 5, 2) := by decide +kernel
theorem dX12_findRow_3 : decode cX12_findRow 3 = .ok (.bipush 96, 2) := by decide +kernel
theorem dX12_findRow_5 : decode cX12_findRow 5 = .ok (.iload_n 1, 1) := by decide +kernel
theorem dX12_findRow_6 : decode cX12_findRow 6 = .ok (.imul, 1) := by decide +kernel
theorem dX12_findRow_7 : decode cX12_findRow 7 = .ok (.istore 6, 2) := by decide +kernel
theorem dX12_findRow_9 : decode cX12_findRow 9 = .ok (.aload_n 0, 1) := by decide +kernel
theorem dX12_findRow_10 : decode cX12_findRow 10 = .ok (.iload 6, 2) := by decide +kernel
theorem dX12_findRow_12 : decode cX12_findRow 12 = .ok (.invokevirtual 356, 3) := by decide +kernel
theorem dX12_findRow_15 : decode cX12_findRow 15 = .ok (.ifCond .eq 15, 3) := by decide +kernel
theorem dX12_findRow_18 : decode cX12_findRow 18 = .ok (.aload_n 0, 1) := by decide +kernel
theorem dX12_findRow_19 : decode cX12_findRow 19 = .ok (.iload 6, 2) := by decide +kernel
theorem dX12_findRow_21 : decode cX12_findRow 21 = .ok (.iload_n 3, 1) := by decide +kernel
theorem dX12_findRow_22 : decode cX12_findRow 22 = .ok (.iload 4, 2) := by decide +kernel
theorem dX12_findRow_24 : decode cX12_findRow 24 = .ok (.invokevirtual 407, 3) := by decide +kernel
theorem dX12_findRow_27 : decode cX12_findRow 27 = .ok (.goto 4, 3) := by decide +kernel
theorem dX12_findRow_30 : decode cX12_findRow 30 = .ok (.lconst 0, 1) := by decide +kernel
theorem dX12_findRow_31 : decode cX12_findRow 31 = .ok (.lstore 7, 2) := by decide +kernel
theorem dX12_findRow_33 : decode cX12_findRow 33 = .ok (.lload 7, 2) := by decide +kernel
theorem dX12_findRow_35 : decode cX12_findRow 35 = .ok (.lconst 0, 1) := by decide +kernel
theorem dX12_findRow_36 : decode cX12_findRow 36 = .ok (.lcmp, 1) := by decide +kernel
theorem dX12_findRow_37 : decode cX12_findRow 37 = .ok (.ifCond .le 33, 3) := by decide +kernel
theorem dX12_findRow_40 : decode cX12_findRow 40 = .ok (.iload 5, 2) := by decide +kernel
theorem dX12_findRow_42 : decode cX12_findRow 42 = .ok (.aload_n 0, 1) := by decide +kernel
theorem dX12_findRow_43 : decode cX12_findRow 43 = .ok (.iload 6, 2) := by decide +kernel
theorem dX12_findRow_45 : decode cX12_findRow 45 = .ok (.invokevirtual 440, 3) := by decide +kernel
theorem dX12_findRow_48 : decode cX12_findRow 48 = .ok (.if_icmp .ge 22, 3) := by decide +kernel
theorem dX12_findRow_51 : decode cX12_findRow 51 = .ok (.aload_n 0, 1) := by decide +kernel
theorem dX12_findRow_52 : decode cX12_findRow 52 = .ok (.iload 6, 2) := by decide +kernel
theorem dX12_findRow_54 : decode cX12_findRow 54 = .ok (.putfield 443, 3) := by decide +kernel
theorem dX12_findRow_57 : decode cX12_findRow 57 = .ok (.aload_n 0, 1) := by decide +kernel
theorem dX12_findRow_58 : decode cX12_findRow 58 = .ok (.iload 5, 2) := by decide +kernel
theorem dX12_findRow_60 : decode cX12_findRow 60 = .ok (.putfield 446, 3) := by decide +kernel
theorem dX12_findRow_63 : decode cX12_findRow 63 = .ok (.aload_n 0, 1) := by decide +kernel
theorem dX12_findRow_64 : decode cX12_findRow 64 = .ok (.lload 7, 2) := by decide +kernel
theorem dX12_findRow_66 : decode cX12_findRow 66 = .ok (.putfield 449, 3) := by decide +kernel
theorem dX12_findRow_69 : decode cX12_findRow 69 = .ok (.return_, 1) := by decide +kernel
theorem dX12_findRow_70 : decode cX12_findRow 70 = .ok (.iload 5, 2) := by decide +kernel
theorem dX12_findRow_72 : decode cX12_findRow 72 = .ok (.lload 7, 2) := by decide +kernel
theorem dX12_findRow_74 : decode cX12_findRow 74 = .ok (.lconst 0, 1) := by decide +kernel
theorem dX12_findRow_75 : decode cX12_findRow 75 = .ok (.lcmp, 1) := by decide +kernel
theorem dX12_findRow_76 : decode cX12_findRow 76 = .ok (.ifCond .le 12, 3) := by decide +kernel
theorem dX12_findRow_79 : decode cX12_findRow 79 = .ok (.aload_n 0, 1) := by decide +kernel
theorem dX12_findRow_80 : decode cX12_findRow 80 = .ok (.iload 6, 2) := by decide +kernel
theorem dX12_findRow_82 : decode cX12_findRow 82 = .ok (.invokevirtual 440, 3) := by decide +kernel
theorem dX12_findRow_85 : decode cX12_findRow 85 = .ok (.goto 4, 3) := by decide +kernel
theorem dX12_findRow_88 : decode cX12_findRow 88 = .ok (.iconst 0, 1) := by decide +kernel
theorem dX12_findRow_89 : decode cX12_findRow 89 = .ok (.isub, 1) := by decide +kernel
theorem dX12_findRow_90 : decode cX12_findRow 90 = .ok (.istore 5, 2) := by decide +kernel
theorem dX12_findRow_92 : decode cX12_findRow 92 = .ok (.iinc 6 1, 3) := by decide +kernel
theorem dX12_findRow_95 : decode cX12_findRow 95 = .ok (.goto (-86), 3) := by decide +kernel
def m_X12_findRow_89 (k9 : Int32 → Int32 → Int32 → Int32 → Hp → Prop) (k51 : Int32 → Int32 → Int64 → Hp → Prop) (Q : Hp → Prop) (v3 : Int32) (v4 : Int32) (v6 : Int32) (s0 : Int32) (s1 : Int32) (h : Hp) : Prop := ∀ x1 : Int32, x1 = (s0 - s1) → ∀ x2 : Int32, x2 = v6 + 1 → k9 v3 v4 x1 x2 h
set_option maxHeartbeats 4000000 in
set_option maxRecDepth 100000 in
theorem s_X12_findRow_89 {l : Launch} {G : Cx} {d : Nat} {h0 : Hp} (hd : 4 ≤ d) {k9 : Int32 → Int32 → Int32 → Int32 → Hp → Prop} {k51 : Int32 → Int32 → Int64 → Hp → Prop} {Q : Hp → Prop} (hk9 : ∀ (v3 : Int32) (v4 : Int32) (v5 : Int32) (v6 : Int32) (hh : Hp), k9 v3 v4 v5 v6 hh → Rn l G d 0 0 MX12_findRow h0 (qV Q) 9 [some (tR 12 0 (some 51)), none, none, some (tI v3), some (tI v4), some (tI v5), some (tI v6)] [] hh 0 0) (hk51 : ∀ (v5 : Int32) (v6 : Int32) (v7 : Int64) (hh : Hp), k51 v5 v6 v7 hh → Rn l G d 0 0 MX12_findRow h0 (qV Q) 51 [some (tR 12 0 (some 51)), none, none, none, none, some (tI v5), some (tI v6), some (tJ v7)] [] hh 0 0) {v3 : Int32} {v4 : Int32} {v6 : Int32} {s0 : Int32} {s1 : Int32} {h : Hp} (hm : m_X12_findRow_89 k9 k51 Q v3 v4 v6 s0 s1 h) : Rn l G d 0 0 MX12_findRow h0 (qV Q) 89 [some (tR 12 0 (some 51)), none, none, some (tI v3), some (tI v4), none, some (tI v6)] [tI s1, tI s0] h 0 0 := by
  unfold m_X12_findRow_89 at hm
  refine r_isub dX12_findRow_89 ?_
  refine r_nmI (fun x1 e_x1 => ?_)
  replace hm := hm x1 e_x1
  refine r_istore (L' := [some (tR 12 0 (some 51)), none, none, some (tI v3), some (tI v4), some (tI x1), some (tI v6)]) dX12_findRow_90 (by decide) rfl ?_
  obtain ⟨x2, e_x2⟩ : ∃ y : Int32, y = v6 + 1 := ⟨_, rfl⟩
  replace hm := hm x2 e_x2
  refine r_iinc (L' := [some (tR 12 0 (some 51)), none, none, some (tI v3), some (tI v4), some (tI x1), some (tI x2)]) dX12_findRow_92 rfl (by rw [e_x2]; rfl) (by decide) rfl ?_
  refine r_goto (tgt := 9) dX12_findRow_95 rfl ?_
  refine r_keep (L' := [some (tR 12 0 (some 51)), none, none, some (tI v3), some (tI v4), some (tI x1), some (tI x2)]) [true, false, false, true, true, true, true] rfl ?_
  exact hk9 _ _ _ _ _ hm
def m_X12_findRow_70 (k9 : Int32 → Int32 → Int32 → Int32 → Hp → Prop) (k51 : Int32 → Int32 → Int64 → Hp → Prop) (Q : Hp → Prop) (v3 : Int32) (v4 : Int32) (v5 : Int32) (v6 : Int32) (v7 : Int64) (h : Hp) : Prop := ((lg_cmp v7 0) ≤ 0 → m_X12_findRow_89 k9 k51 Q v3 v4 v6 v5 0 h) ∧ (¬ (lg_cmp v7 0) ≤ 0 → m_X12_rowsOf v6 h (fun (x3 : Int32) (h4 : Hp) => m_X12_findRow_89 k9 k51 Q v3 v4 v6 v5 x3 h4))
set_option maxHeartbeats 4000000 in
set_option maxRecDepth 100000 in
theorem s_X12_findRow_70 {l : Launch} {G : Cx} {d : Nat} {h0 : Hp} (hd : 4 ≤ d) {k9 : Int32 → Int32 → Int32 → Int32 → Hp → Prop} {k51 : Int32 → Int32 → Int64 → Hp → Prop} {Q : Hp → Prop} (hk9 : ∀ (v3 : Int32) (v4 : Int32) (v5 : Int32) (v6 : Int32) (hh : Hp), k9 v3 v4 v5 v6 hh → Rn l G d 0 0 MX12_findRow h0 (qV Q) 9 [some (tR 12 0 (some 51)), none, none, some (tI v3), some (tI v4), some (tI v5), some (tI v6)] [] hh 0 0) (hk51 : ∀ (v5 : Int32) (v6 : Int32) (v7 : Int64) (hh : Hp), k51 v5 v6 v7 hh → Rn l G d 0 0 MX12_findRow h0 (qV Q) 51 [some (tR 12 0 (some 51)), none, none, none, none, some (tI v5), some (tI v6), some (tJ v7)] [] hh 0 0) {v3 : Int32} {v4 : Int32} {v5 : Int32} {v6 : Int32} {v7 : Int64} {h : Hp} (hm : m_X12_findRow_70 k9 k51 Q v3 v4 v5 v6 v7 h) : Rn l G d 0 0 MX12_findRow h0 (qV Q) 70 [some (tR 12 0 (some 51)), none, none, some (tI v3), some (tI v4), some (tI v5), some (tI v6), some (tJ v7)] [] h 0 0 := by
  unfold m_X12_findRow_70 at hm
  refine r_iload dX12_findRow_70 rfl ?_
  refine r_lload dX12_findRow_72 rfl ?_
  refine r_lconst (v := 0) dX12_findRow_74 rfl ?_
  refine r_lcmp dX12_findRow_75 ?_
  refine r_if_le (tgt := 88) dX12_findRow_76 rfl (fun hc => ?_) (fun hc => ?_)
  · replace hm := hm.1 hc
    refine r_iconst (v := 0) dX12_findRow_88 rfl ?_
    refine r_keep (L' := [some (tR 12 0 (some 51)), none, none, some (tI v3), some (tI v4), none, some (tI v6)]) [true, false, false, true, true, false, true] rfl ?_
    exact s_X12_findRow_89 hd hk9 hk51 hm
  · replace hm := hm.2 hc
    refine r_aload_n dX12_findRow_79 rfl rfl ?_
    refine r_iload dX12_findRow_80 rfl ?_
    refine r_callVI (d' := d - 1) (as := [tI v6]) (st := [tI v5]) cl_12 dX12_findRow_82 mi_X12_rowsOf t_1773 t_1775 ts_93 rfl rfl (Nat.le_of_ble_eq_true rfl) (by omega) ⟨by decide, by decide⟩ ⟨rfl, rfl⟩ (s_X12_rowsOf (by omega) hm) (fun x3 h4 hm => ?_)
    refine r_goto (tgt := 89) dX12_findRow_85 rfl ?_
    refine r_keep (L' := [some (tR 12 0 (some 51)), none, none, some (tI v3), some (tI v4), none, some (tI v6)]) [true, false, false, true, true, false, true] rfl ?_
    exact s_X12_findRow_89 hd hk9 hk51 hm
def m_X12_findRow_51  (Q : Hp → Prop) (v5 : Int32) (v6 : Int32) (v7 : Int64) (h : Hp) : Prop := Q (wJ (wI (wI h 51 58 v6) 51 59 v5) 51 60 v7)
set_option maxHeartbeats 4000000 in
set_option maxRecDepth 100000 in
theorem s_X12_findRow_51 {l : Launch} {G : Cx} {d : Nat} {h0 : Hp} (hd : 4 ≤ d) {Q : Hp → Prop} {v5 : Int32} {v6 : Int32} {v7 : Int64} {h : Hp} (hm : m_X12_findRow_51 Q v5 v6 v7 h) : Rn l G d 0 0 MX12_findRow h0 (qV Q) 51 [some (tR 12 0 (some 51)), none, none, none, none, some (tI v5), some (tI v6), some (tJ v7)] [] h 0 0 := by
  unfold m_X12_findRow_51 at hm
  refine r_aload_n dX12_findRow_51 rfl rfl ?_
  refine r_iload dX12_findRow_52 rfl ?_
  refine r_putI0 (k := 58) cl_12 dX12_findRow_54 t_1330 (Or.inl rfl) gf_12_58 pf_12_58.1 (Or.inl pf_12_58.2) ?_
  refine r_aload_n dX12_findRow_57 rfl rfl ?_
  refine r_iload dX12_findRow_58 rfl ?_
  refine r_putI0 (k := 59) cl_12 dX12_findRow_60 t_1331 (Or.inl rfl) gf_12_59 pf_12_59.1 (Or.inl pf_12_59.2) ?_
  refine r_aload_n dX12_findRow_63 rfl rfl ?_
  refine r_lload dX12_findRow_64 rfl ?_
  refine r_putJ0 (k := 60) cl_12 dX12_findRow_66 t_1332 (Or.inl rfl) gf_12_60 pf_12_60.1 (Or.inl pf_12_60.2) ?_
  exact r_return dX12_findRow_69 rfl ⟨by decide, by decide⟩ ⟨rfl, hm⟩
def m_X12_findRow_31 (k9 : Int32 → Int32 → Int32 → Int32 → Hp → Prop) (k51 : Int32 → Int32 → Int64 → Hp → Prop) (Q : Hp → Prop) (v3 : Int32) (v4 : Int32) (v5 : Int32) (v6 : Int32) (s0 : Int64) (h : Hp) : Prop := ((lg_cmp s0 0) ≤ 0 → m_X12_findRow_70 k9 k51 Q v3 v4 v5 v6 s0 h) ∧ (¬ (lg_cmp s0 0) ≤ 0 → m_X12_rowsOf v6 h (fun (x5 : Int32) (h6 : Hp) => (x5 ≤ v5 → m_X12_findRow_70 k9 k51 Q v3 v4 v5 v6 s0 h6) ∧ (¬ x5 ≤ v5 → k51 v5 v6 s0 h6)))
set_option maxHeartbeats 4000000 in
set_option maxRecDepth 100000 in
theorem s_X12_findRow_31 {l : Launch} {G : Cx} {d : Nat} {h0 : Hp} (hd : 4 ≤ d) {k9 : Int32 → Int32 → Int32 → Int32 → Hp → Prop} {k51 : Int32 → Int32 → Int64 → Hp → Prop} {Q : Hp → Prop} (hk9 : ∀ (v3 : Int32) (v4 : Int32) (v5 : Int32) (v6 : Int32) (hh : Hp), k9 v3 v4 v5 v6 hh → Rn l G d 0 0 MX12_findRow h0 (qV Q) 9 [some (tR 12 0 (some 51)), none, none, some (tI v3), some (tI v4), some (tI v5), some (tI v6)] [] hh 0 0) (hk51 : ∀ (v5 : Int32) (v6 : Int32) (v7 : Int64) (hh : Hp), k51 v5 v6 v7 hh → Rn l G d 0 0 MX12_findRow h0 (qV Q) 51 [some (tR 12 0 (some 51)), none, none, none, none, some (tI v5), some (tI v6), some (tJ v7)] [] hh 0 0) {v3 : Int32} {v4 : Int32} {v5 : Int32} {v6 : Int32} {s0 : Int64} {h : Hp} (hm : m_X12_findRow_31 k9 k51 Q v3 v4 v5 v6 s0 h) : Rn l G d 0 0 MX12_findRow h0 (qV Q) 31 [some (tR 12 0 (some 51)), none, none, some (tI v3), some (tI v4), some (tI v5), some (tI v6)] [tJ s0] h 0 0 := by
  unfold m_X12_findRow_31 at hm
  refine r_lstore (L' := [some (tR 12 0 (some 51)), none, none, some (tI v3), some (tI v4), some (tI v5), some (tI v6), some (tJ s0), none]) dX12_findRow_31 (by decide) rfl ?_
  refine r_lload dX12_findRow_33 rfl ?_
  refine r_lconst (v := 0) dX12_findRow_35 rfl ?_
  refine r_lcmp dX12_findRow_36 ?_
  refine r_if_le (tgt := 70) dX12_findRow_37 rfl (fun hc => ?_) (fun hc => ?_)
  · replace hm := hm.1 hc
    refine r_keep (L' := [some (tR 12 0 (some 51)), none, none, some (tI v3), some (tI v4), some (tI v5), some (tI v6), some (tJ s0)]) [true, false, false, true, true, true, true, true] rfl ?_
    exact s_X12_findRow_70 hd hk9 hk51 hm
  · replace hm := hm.2 hc
    refine r_iload dX12_findRow_40 rfl ?_
    refine r_aload_n dX12_findRow_42 rfl rfl ?_
    refine r_iload dX12_findRow_43 rfl ?_
    refine r_callVI (d' := d - 1) (as := [tI v6]) (st := [tI v5]) cl_12 dX12_findRow_45 mi_X12_rowsOf t_1773 t_1775 ts_93 rfl rfl (Nat.le_of_ble_eq_true rfl) (by omega) ⟨by decide, by decide⟩ ⟨rfl, rfl⟩ (s_X12_rowsOf (by omega) hm) (fun x5 h6 hm => ?_)
    refine r_icmp_ge (tgt := 70) dX12_findRow_48 rfl (fun hc => ?_) (fun hc => ?_)
    · replace hm := hm.1 hc
      refine r_keep (L' := [some (tR 12 0 (some 51)), none, none, some (tI v3), some (tI v4), some (tI v5), some (tI v6), some (tJ s0)]) [true, false, false, true, true, true, true, true] rfl ?_
      exact s_X12_findRow_70 hd hk9 hk51 hm
    · replace hm := hm.2 hc
      refine r_keep (L' := [some (tR 12 0 (some 51)), none, none, none, none, some (tI v5), some (tI v6), some (tJ s0)]) [true, false, false, false, false, true, true, true] rfl ?_
      exact hk51 _ _ _ _ hm
def m_X12_findRow_9 : Nat → (Int32 → Int32 → Int64 → Hp → Prop) → (Hp → Prop) → Int32 → Int32 → Int32 → Int32 → Hp → Prop
  | 0, _, _, _, _, _, _, _ => False
  | n + 1, k51, Q, v3, v4, v5, v6, h => m_X12_isLeaf v6 h (fun (x7 : Int32) (h8 : Hp) => (x7 = 0 → m_X12_findRow_31 (fun (v3 : Int32) (v4 : Int32) (v5 : Int32) (v6 : Int32) (hh : Hp) => m_X12_findRow_9 n k51 Q v3 v4 v5 v6 hh) k51 Q v3 v4 v5 v6 0 h8) ∧ (¬ x7 = 0 → m_X12_times v6 v3 v4 h8 (fun (x9 : Int64) (h10 : Hp) => m_X12_findRow_31 (fun (v3 : Int32) (v4 : Int32) (v5 : Int32) (v6 : Int32) (hh : Hp) => m_X12_findRow_9 n k51 Q v3 v4 v5 v6 hh) k51 Q v3 v4 v5 v6 x9 h10)))
set_option maxHeartbeats 4000000 in
set_option maxRecDepth 100000 in
theorem s_X12_findRow_9 {l : Launch} {G : Cx} {d : Nat} {h0 : Hp} (hd : 4 ≤ d) {k51 : Int32 → Int32 → Int64 → Hp → Prop} {Q : Hp → Prop} (hk51 : ∀ (v5 : Int32) (v6 : Int32) (v7 : Int64) (hh : Hp), k51 v5 v6 v7 hh → Rn l G d 0 0 MX12_findRow h0 (qV Q) 51 [some (tR 12 0 (some 51)), none, none, none, none, some (tI v5), some (tI v6), some (tJ v7)] [] hh 0 0) : ∀ {n : Nat} {v3 : Int32} {v4 : Int32} {v5 : Int32} {v6 : Int32} {h : Hp}, m_X12_findRow_9 n k51 Q v3 v4 v5 v6 h → Rn l G d 0 0 MX12_findRow h0 (qV Q) 9 [some (tR 12 0 (some 51)), none, none, some (tI v3), some (tI v4), some (tI v5), some (tI v6)] [] h 0 0 := by
  intro n
  induction n with
  | zero => intro v3 v4 v5 v6 h hm; exact hm.elim
  | succ n ih =>
    intro v3 v4 v5 v6 h hm
    have hk9 := fun (v3 : Int32) (v4 : Int32) (v5 : Int32) (v6 : Int32) (hh : Hp) (hm : m_X12_findRow_9 n k51 Q v3 v4 v5 v6 hh) => ih hm
    rw [m_X12_findRow_9] at hm
    refine r_aload_n dX12_findRow_9 rfl rfl ?_
    refine r_iload dX12_findRow_10 rfl ?_
    refine r_callVI (d' := d - 1) (as := [tI v6]) (st := []) cl_12 dX12_findRow_12 mi_X12_isLeaf t_1677 t_1679 ts_75 rfl rfl (Nat.le_of_ble_eq_true rfl) (by omega) ⟨by decide, by decide⟩ ⟨rfl, rfl⟩ (s_X12_isLeaf (by omega) hm) (fun x7 h8 hm => ?_)
    refine r_if_eq (tgt := 30) dX12_findRow_15 rfl (fun hc => ?_) (fun hc => ?_)
    · replace hm := hm.1 hc
      refine r_lconst (v := 0) dX12_findRow_30 rfl ?_
      refine r_keep (L' := [some (tR 12 0 (some 51)), none, none, some (tI v3), some (tI v4), some (tI v5), some (tI v6)]) [true, false, false, true, true, true, true] rfl ?_
      exact s_X12_findRow_31 hd hk9 hk51 hm
    · replace hm := hm.2 hc
      refine r_aload_n dX12_findRow_18 rfl rfl ?_
      refine r_iload dX12_findRow_19 rfl ?_
      refine r_iload_n dX12_findRow_21 rfl rfl ?_
      refine r_iload dX12_findRow_22 rfl ?_
      refine r_callVJ (d' := d - 1) (as := [tI v6, tI v3, tI v4]) (st := []) cl_12 dX12_findRow_24 mi_X12_times t_1733 t_1735 ts_86 rfl rfl (Nat.le_of_ble_eq_true rfl) (by omega) ⟨by decide, by decide⟩ ⟨rfl, rfl⟩ (s_X12_times (by omega) hm) (fun x9 h10 hm => ?_)
      refine r_goto (tgt := 31) dX12_findRow_27 rfl ?_
      refine r_keep (L' := [some (tR 12 0 (some 51)), none, none, some (tI v3), some (tI v4), some (tI v5), some (tI v6)]) [true, false, false, true, true, true, true] rfl ?_
      exact s_X12_findRow_31 hd hk9 hk51 hm
def m_X12_findRow (v1 : Int32) (v2 : Int32) (v3 : Int32) (v4 : Int32) (h : Hp) (Q : Hp → Prop) : Prop := ∀ x11 : Int32, x11 = (96 * v1) → ∃ n9, m_X12_findRow_9 n9 (m_X12_findRow_51 Q) Q v3 v4 v2 x11 h
set_option maxHeartbeats 4000000 in
set_option maxRecDepth 100000 in
theorem s_X12_findRow {l : Launch} {G : Cx} {d : Nat} (hd : 4 ≤ d) {v1 : Int32} {v2 : Int32} {v3 : Int32} {v4 : Int32} {h : Hp} {Q : Hp → Prop} (hm : m_X12_findRow v1 v2 v3 v4 h Q) : Ct l G d 0 0 yX12_findRow MX12_findRow [tR 12 0 (some 51), tI v1, tI v2, tI v3, tI v4] h (qV Q) := by
  unfold m_X12_findRow at hm
  refine Ct.of (L := [some (tR 12 0 (some 51)), some (tI v1), some (tI v2), some (tI v3), some (tI v4)]) (by decide) rfl rfl (Nat.le_of_ble_eq_true rfl) rfl ?_
  refine r_iload_n dX12_findRow_0 rfl rfl ?_
  refine r_istore (L' := [some (tR 12 0 (some 51)), some (tI v1), some (tI v2), some (tI v3), some (tI v4), some (tI v2)]) dX12_findRow_1 (by decide) rfl ?_
  refine r_bipush (v := 96) dX12_findRow_3 rfl ?_
  refine r_iload_n dX12_findRow_5 rfl rfl ?_
  refine r_imul dX12_findRow_6 ?_
  refine r_nmI (fun x11 e_x11 => ?_)
  replace hm := hm x11 e_x11
  refine r_istore (L' := [some (tR 12 0 (some 51)), some (tI v1), some (tI v2), some (tI v3), some (tI v4), some (tI v2), some (tI x11)]) dX12_findRow_7 (by decide) rfl ?_
  refine r_keep (L' := [some (tR 12 0 (some 51)), none, none, some (tI v3), some (tI v4), some (tI v2), some (tI x11)]) [true, false, false, true, true, true, true] rfl ?_
  obtain ⟨n, hm⟩ := hm
  refine s_X12_findRow_9 hd ?_ hm
  · exact (fun _ _ _ _ hm => s_X12_findRow_51 hd hm)
theorem dX12_rowTold_0 : decode cX12_rowTold 0 = .ok (.aload_n 0, 1) := by decide +kernel
theorem dX12_rowTold_1 : decode cX12_rowTold 1 = .ok (.getfield 443, 3) := by decide +kernel
theorem dX12_rowTold_4 : decode cX12_rowTold 4 = .ok (.istore_n 2, 1) := by decide +kernel
theorem dX12_rowTold_5 : decode cX12_rowTold 5 = .ok (.aload_n 0, 1) := by decide +kernel
theorem dX12_rowTold_6 : decode cX12_rowTold 6 = .ok (.getfield 446, 3) := by decide +kernel
theorem dX12_rowTold_9 : decode cX12_rowTold 9 = .ok (.ifCond .le 7, 3) := by decide +kernel
theorem dX12_rowTold_12 : decode cX12_rowTold 12 = .ok (.iconst 1, 1) := by decide +kernel
theorem dX12_rowTold_13 : decode cX12_rowTold 13 = .ok (.goto 4, 3) := by decide +kernel
theorem dX12_rowTold_16 : decode cX12_rowTold 16 = .ok (.iconst 0, 1) := by decide +kernel
theorem dX12_rowTold_17 : decode cX12_rowTold 17 = .ok (.istore_n 3, 1) := by decide +kernel
theorem dX12_rowTold_18 : decode cX12_rowTold 18 = .ok (.aload_n 0, 1) := by decide +kernel
theorem dX12_rowTold_19 : decode cX12_rowTold 19 = .ok (.getfield 28, 3) := by decide +kernel
theorem dX12_rowTold_22 : decode cX12_rowTold 22 = .ok (.iload_n 2, 1) := by decide +kernel
theorem dX12_rowTold_23 : decode cX12_rowTold 23 = .ok (.iaload, 1) := by decide +kernel
theorem dX12_rowTold_24 : decode cX12_rowTold 24 = .ok (.iconst 2, 1) := by decide +kernel
theorem dX12_rowTold_25 : decode cX12_rowTold 25 = .ok (.if_icmp .ne 11, 3) := by decide +kernel
theorem dX12_rowTold_28 : decode cX12_rowTold 28 = .ok (.aload_n 0, 1) := by decide +kernel
theorem dX12_rowTold_29 : decode cX12_rowTold 29 = .ok (.getfield 446, 3) := by decide +kernel
theorem dX12_rowTold_32 : decode cX12_rowTold 32 = .ok (.iconst 1, 1) := by decide +kernel
theorem dX12_rowTold_33 : decode cX12_rowTold 33 = .ok (.if_icmp .eq 11, 3) := by decide +kernel
theorem dX12_rowTold_36 : decode cX12_rowTold 36 = .ok (.aload_n 0, 1) := by decide +kernel
theorem dX12_rowTold_37 : decode cX12_rowTold 37 = .ok (.getfield 446, 3) := by decide +kernel
theorem dX12_rowTold_40 : decode cX12_rowTold 40 = .ok (.iconst 2, 1) := by decide +kernel
theorem dX12_rowTold_41 : decode cX12_rowTold 41 = .ok (.if_icmp .ne 7, 3) := by decide +kernel
theorem dX12_rowTold_44 : decode cX12_rowTold 44 = .ok (.iconst 1, 1) := by decide +kernel
theorem dX12_rowTold_45 : decode cX12_rowTold 45 = .ok (.goto 4, 3) := by decide +kernel
theorem dX12_rowTold_48 : decode cX12_rowTold 48 = .ok (.iconst 0, 1) := by decide +kernel
theorem dX12_rowTold_49 : decode cX12_rowTold 49 = .ok (.istore 4, 2) := by decide +kernel
theorem dX12_rowTold_51 : decode cX12_rowTold 51 = .ok (.iload_n 1, 1) := by decide +kernel
theorem dX12_rowTold_52 : decode cX12_rowTold 52 = .ok (.tableswitch 120 0 3 #[32, 59, 81, 103], 32) := by decide +kernel
theorem dX12_rowTold_84 : decode cX12_rowTold 84 = .ok (.aload_n 0, 1) := by decide +kernel
theorem dX12_rowTold_85 : decode cX12_rowTold 85 = .ok (.iload_n 2, 1) := by decide +kernel
theorem dX12_rowTold_86 : decode cX12_rowTold 86 = .ok (.invokevirtual 362, 3) := by decide +kernel
theorem dX12_rowTold_89 : decode cX12_rowTold 89 = .ok (.iload_n 3, 1) := by decide +kernel
theorem dX12_rowTold_90 : decode cX12_rowTold 90 = .ok (.ifCond .eq 12, 3) := by decide +kernel
theorem dX12_rowTold_93 : decode cX12_rowTold 93 = .ok (.aload_n 0, 1) := by decide +kernel
theorem dX12_rowTold_94 : decode cX12_rowTold 94 = .ok (.getfield 64, 3) := by decide +kernel
theorem dX12_rowTold_97 : decode cX12_rowTold 97 = .ok (.iload_n 2, 1) := by decide +kernel
theorem dX12_rowTold_98 : decode cX12_rowTold 98 = .ok (.iaload, 1) := by decide +kernel
theorem dX12_rowTold_99 : decode cX12_rowTold 99 = .ok (.goto 9, 3) := by decide +kernel
theorem dX12_rowTold_102 : decode cX12_rowTold 102 = .ok (.aload_n 0, 1) := by decide +kernel
theorem dX12_rowTold_103 : decode cX12_rowTold 103 = .ok (.getfield 61, 3) := by decide +kernel
theorem dX12_rowTold_106 : decode cX12_rowTold 106 = .ok (.iload_n 2, 1) := by decide +kernel
theorem dX12_rowTold_107 : decode cX12_rowTold 107 = .ok (.iaload, 1) := by decide +kernel
theorem dX12_rowTold_108 : decode cX12_rowTold 108 = .ok (.iadd, 1) := by decide +kernel
theorem dX12_rowTold_109 : decode cX12_rowTold 109 = .ok (.i2l, 1) := by decide +kernel
theorem dX12_rowTold_110 : decode cX12_rowTold 110 = .ok (.lreturn, 1) := by decide +kernel
theorem dX12_rowTold_111 : decode cX12_rowTold 111 = .ok (.iload_n 3, 1) := by decide +kernel
theorem dX12_rowTold_112 : decode cX12_rowTold 112 = .ok (.ifCond .eq 13, 3) := by decide +kernel
theorem dX12_rowTold_115 : decode cX12_rowTold 115 = .ok (.aload_n 0, 1) := by decide +kernel
theorem dX12_rowTold_116 : decode cX12_rowTold 116 = .ok (.getfield 49, 3) := by decide +kernel
theorem dX12_rowTold_119 : decode cX12_rowTold 119 = .ok (.iload_n 2, 1) := by decide +kernel
theorem dX12_rowTold_120 : decode cX12_rowTold 120 = .ok (.iaload, 1) := by decide +kernel
theorem dX12_rowTold_121 : decode cX12_rowTold 121 = .ok (.i2l, 1) := by decide +kernel
theorem dX12_rowTold_122 : decode cX12_rowTold 122 = .ok (.goto 10, 3) := by decide +kernel
theorem dX12_rowTold_125 : decode cX12_rowTold 125 = .ok (.aload_n 0, 1) := by decide +kernel
theorem dX12_rowTold_126 : decode cX12_rowTold 126 = .ok (.getfield 46, 3) := by decide +kernel
theorem dX12_rowTold_129 : decode cX12_rowTold 129 = .ok (.iload_n 2, 1) := by decide +kernel
theorem dX12_rowTold_130 : decode cX12_rowTold 130 = .ok (.iaload, 1) := by decide +kernel
theorem dX12_rowTold_131 : decode cX12_rowTold 131 = .ok (.i2l, 1) := by decide +kernel
theorem dX12_rowTold_132 : decode cX12_rowTold 132 = .ok (.lreturn, 1) := by decide +kernel
theorem dX12_rowTold_133 : decode cX12_rowTold 133 = .ok (.iload_n 3, 1) := by decide +kernel
theorem dX12_rowTold_134 : decode cX12_rowTold 134 = .ok (.ifCond .eq 13, 3) := by decide +kernel
theorem dX12_rowTold_137 : decode cX12_rowTold 137 = .ok (.aload_n 0, 1) := by decide +kernel
theorem dX12_rowTold_138 : decode cX12_rowTold 138 = .ok (.getfield 46, 3) := by decide +kernel
theorem dX12_rowTold_141 : decode cX12_rowTold 141 = .ok (.iload_n 2, 1) := by decide +kernel
theorem dX12_rowTold_142 : decode cX12_rowTold 142 = .ok (.iaload, 1) := by decide +kernel
theorem dX12_rowTold_143 : decode cX12_rowTold 143 = .ok (.i2l, 1) := by decide +kernel
theorem dX12_rowTold_144 : decode cX12_rowTold 144 = .ok (.goto 10, 3) := by decide +kernel
theorem dX12_rowTold_147 : decode cX12_rowTold 147 = .ok (.aload_n 0, 1) := by decide +kernel
theorem dX12_rowTold_148 : decode cX12_rowTold 148 = .ok (.getfield 49, 3) := by decide +kernel
theorem dX12_rowTold_151 : decode cX12_rowTold 151 = .ok (.iload_n 2, 1) := by decide +kernel
theorem dX12_rowTold_152 : decode cX12_rowTold 152 = .ok (.iaload, 1) := by decide +kernel
theorem dX12_rowTold_153 : decode cX12_rowTold 153 = .ok (.i2l, 1) := by decide +kernel
theorem dX12_rowTold_154 : decode cX12_rowTold 154 = .ok (.lreturn, 1) := by decide +kernel
theorem dX12_rowTold_155 : decode cX12_rowTold 155 = .ok (.iload 4, 2) := by decide +kernel
theorem dX12_rowTold_157 : decode cX12_rowTold 157 = .ok (.ifCond .eq 7, 3) := by decide +kernel
theorem dX12_rowTold_160 : decode cX12_rowTold 160 = .ok (.lconst 0, 1) := by decide +kernel
theorem dX12_rowTold_161 : decode cX12_rowTold 161 = .ok (.goto 10, 3) := by decide +kernel
theorem dX12_rowTold_164 : decode cX12_rowTold 164 = .ok (.aload_n 0, 1) := by decide +kernel
theorem dX12_rowTold_165 : decode cX12_rowTold 165 = .ok (.getfield 52, 3) := by decide +kernel
theorem dX12_rowTold_168 : decode cX12_rowTold 168 = .ok (.iload_n 2, 1) := by decide +kernel
theorem dX12_rowTold_169 : decode cX12_rowTold 169 = .ok (.iaload, 1) := by decide +kernel
theorem dX12_rowTold_170 : decode cX12_rowTold 170 = .ok (.i2l, 1) := by decide +kernel
theorem dX12_rowTold_171 : decode cX12_rowTold 171 = .ok (.lreturn, 1) := by decide +kernel
theorem dX12_rowTold_172 : decode cX12_rowTold 172 = .ok (.aload_n 0, 1) := by decide +kernel
theorem dX12_rowTold_173 : decode cX12_rowTold 173 = .ok (.getfield 449, 3) := by decide +kernel
theorem dX12_rowTold_176 : decode cX12_rowTold 176 = .ok (.iload 4, 2) := by decide +kernel
theorem dX12_rowTold_178 : decode cX12_rowTold 178 = .ok (.ifCond .eq 12, 3) := by decide +kernel
theorem dX12_rowTold_181 : decode cX12_rowTold 181 = .ok (.aload_n 0, 1) := by decide +kernel
theorem dX12_rowTold_182 : decode cX12_rowTold 182 = .ok (.getfield 58, 3) := by decide +kernel
theorem dX12_rowTold_185 : decode cX12_rowTold 185 = .ok (.iload_n 2, 1) := by decide +kernel
theorem dX12_rowTold_186 : decode cX12_rowTold 186 = .ok (.iaload, 1) := by decide +kernel
theorem dX12_rowTold_187 : decode cX12_rowTold 187 = .ok (.goto 9, 3) := by decide +kernel
theorem dX12_rowTold_190 : decode cX12_rowTold 190 = .ok (.aload_n 0, 1) := by decide +kernel
theorem dX12_rowTold_191 : decode cX12_rowTold 191 = .ok (.getfield 55, 3) := by decide +kernel
theorem dX12_rowTold_194 : decode cX12_rowTold 194 = .ok (.iload_n 2, 1) := by decide +kernel
theorem dX12_rowTold_195 : decode cX12_rowTold 195 = .ok (.iaload, 1) := by decide +kernel
theorem dX12_rowTold_196 : decode cX12_rowTold 196 = .ok (.i2l, 1) := by decide +kernel
theorem dX12_rowTold_197 : decode cX12_rowTold 197 = .ok (.lmul, 1) := by decide +kernel
theorem dX12_rowTold_198 : decode cX12_rowTold 198 = .ok (.lreturn, 1) := by decide +kernel
def m_X12_rowTold_49  (Q : Int64 → Hp → Prop) (v1 : Int32) (v2 : Int32) (v3 : Int32) (s0 : Int32) (h : Hp) : Prop := (v1 = 0 → m_X12_later v2 h (fun (x1 : Int32) (h2 : Hp) => (v3 = 0 → vp_in v2 2304 ∧ (Q ((x1 + (hI h2 69 (ix v2))).toInt64) h2)) ∧ (¬ v3 = 0 → vp_in v2 2304 ∧ (Q ((x1 + (hI h2 70 (ix v2))).toInt64) h2)))) ∧ (¬ v1 = 0 → (v1 = 1 → (v3 = 0 → vp_in v2 2304 ∧ (Q ((hI h 64 (ix v2)).toInt64) h)) ∧ (¬ v3 = 0 → vp_in v2 2304 ∧ (Q ((hI h 65 (ix v2)).toInt64) h))) ∧ (¬ v1 = 1 → (v1 = 2 → (v3 = 0 → vp_in v2 2304 ∧ (Q ((hI h 65 (ix v2)).toInt64) h)) ∧ (¬ v3 = 0 → vp_in v2 2304 ∧ (Q ((hI h 64 (ix v2)).toInt64) h))) ∧ (¬ v1 = 2 → (v1 = 3 → (s0 = 0 → vp_in v2 2304 ∧ (Q ((hI h 66 (ix v2)).toInt64) h)) ∧ (¬ s0 = 0 → Q 0 h)) ∧ (¬ v1 = 3 → (s0 = 0 → vp_in v2 2304 ∧ (Q ((hJ h 51 60) * ((hI h 67 (ix v2)).toInt64)) h)) ∧ (¬ s0 = 0 → vp_in v2 2304 ∧ (Q ((hJ h 51 60) * ((hI h 68 (ix v2)).toInt64)) h))))))
set_option maxHeartbeats 4000000 in
set_option maxRecDepth 100000 in
theorem s_X12_rowTold_49 {l : Launch} {G : Cx} {d : Nat} {h0 : Hp} (hd : 4 ≤ d) {Q : Int64 → Hp → Prop} {v1 : Int32} {v2 : Int32} {v3 : Int32} {s0 : Int32} {h : Hp} (hm : m_X12_rowTold_49 Q v1 v2 v3 s0 h) : Rn l G d 0 0 MX12_rowTold h0 (qJ Q) 49 [some (tR 12 0 (some 51)), some (tI v1), some (tI v2), some (tI v3)] [tI s0] h 0 0 := by
  unfold m_X12_rowTold_49 at hm
  refine r_istore (L' := [some (tR 12 0 (some 51)), some (tI v1), some (tI v2), some (tI v3), some (tI s0)]) dX12_rowTold_49 (by decide) rfl ?_
  refine r_iload_n dX12_rowTold_51 rfl rfl ?_
  by_cases hc0 : v1 = 0
  · refine r_tableIn (tgt := 84) (off := 32) dX12_rowTold_52 (by rw [hc0]; decide) (by rw [hc0]; decide) (by rw [hc0]; rfl) rfl ?_
    replace hm := hm.1 hc0
    refine r_aload_n dX12_rowTold_84 rfl rfl ?_
    refine r_iload_n dX12_rowTold_85 rfl rfl ?_
    refine r_callVI (d' := d - 1) (as := [tI v2]) (st := []) cl_12 dX12_rowTold_86 mi_X12_later t_1689 t_1691 ts_77 rfl rfl (Nat.le_of_ble_eq_true rfl) (by omega) ⟨by decide, by decide⟩ ⟨rfl, rfl⟩ (s_X12_later (by omega) hm) (fun x1 h2 hm => ?_)
    refine r_iload_n dX12_rowTold_89 rfl rfl ?_
    refine r_if_eq (tgt := 102) dX12_rowTold_90 rfl (fun hc => ?_) (fun hc => ?_)
    · replace hm := hm.1 hc
      refine r_aload_n dX12_rowTold_102 rfl rfl ?_
      refine r_getC (k := 18) cl_12 dX12_rowTold_103 t_1290 gf_12_18.1 gf_12_18.2 (gc_12_18 _) ?_
      refine r_iload_n dX12_rowTold_106 rfl rfl ?_
      refine r_iald dX12_rowTold_107 hm.1 ?_
      replace hm := hm.2
      refine r_iadd dX12_rowTold_108 ?_
      refine r_i2l dX12_rowTold_109 ?_
      exact r_lreturn dX12_rowTold_110 rfl ⟨by decide, by decide⟩ ⟨_, rfl, hm⟩
    · replace hm := hm.2 hc
      refine r_aload_n dX12_rowTold_93 rfl rfl ?_
      refine r_getC (k := 19) cl_12 dX12_rowTold_94 t_1291 gf_12_19.1 gf_12_19.2 (gc_12_19 _) ?_
      refine r_iload_n dX12_rowTold_97 rfl rfl ?_
      refine r_iald dX12_rowTold_98 hm.1 ?_
      replace hm := hm.2
      refine r_goto (tgt := 108) dX12_rowTold_99 rfl ?_
      refine r_iadd dX12_rowTold_108 ?_
      refine r_i2l dX12_rowTold_109 ?_
      exact r_lreturn dX12_rowTold_110 rfl ⟨by decide, by decide⟩ ⟨_, rfl, hm⟩
  replace hm := hm.2 hc0
  by_cases hc1 : v1 = 1
  · refine r_tableIn (tgt := 111) (off := 59) dX12_rowTold_52 (by rw [hc1]; decide) (by rw [hc1]; decide) (by rw [hc1]; rfl) rfl ?_
    replace hm := hm.1 hc1
    refine r_iload_n dX12_rowTold_111 rfl rfl ?_
    refine r_if_eq (tgt := 125) dX12_rowTold_112 rfl (fun hc => ?_) (fun hc => ?_)
    · replace hm := hm.1 hc
      refine r_aload_n dX12_rowTold_125 rfl rfl ?_
      refine r_getC (k := 13) cl_12 dX12_rowTold_126 t_1285 gf_12_13.1 gf_12_13.2 (gc_12_13 _) ?_
      refine r_iload_n dX12_rowTold_129 rfl rfl ?_
      refine r_iald dX12_rowTold_130 hm.1 ?_
      replace hm := hm.2
      refine r_i2l dX12_rowTold_131 ?_
      exact r_lreturn dX12_rowTold_132 rfl ⟨by decide, by decide⟩ ⟨_, rfl, hm⟩
    · replace hm := hm.2 hc
      refine r_aload_n dX12_rowTold_115 rfl rfl ?_
      refine r_getC (k := 14) cl_12 dX12_rowTold_116 t_1286 gf_12_14.1 gf_12_14.2 (gc_12_14 _) ?_
      refine r_iload_n dX12_rowTold_119 rfl rfl ?_
      refine r_iald dX12_rowTold_120 hm.1 ?_
      replace hm := hm.2
      refine r_i2l dX12_rowTold_121 ?_
      refine r_goto (tgt := 132) dX12_rowTold_122 rfl ?_
      exact r_lreturn dX12_rowTold_132 rfl ⟨by decide, by decide⟩ ⟨_, rfl, hm⟩
  replace hm := hm.2 hc1
  by_cases hc2 : v1 = 2
  · refine r_tableIn (tgt := 133) (off := 81) dX12_rowTold_52 (by rw [hc2]; decide) (by rw [hc2]; decide) (by rw [hc2]; rfl) rfl ?_
    replace hm := hm.1 hc2
    refine r_iload_n dX12_rowTold_133 rfl rfl ?_
    refine r_if_eq (tgt := 147) dX12_rowTold_134 rfl (fun hc => ?_) (fun hc => ?_)
    · replace hm := hm.1 hc
      refine r_aload_n dX12_rowTold_147 rfl rfl ?_
      refine r_getC (k := 14) cl_12 dX12_rowTold_148 t_1286 gf_12_14.1 gf_12_14.2 (gc_12_14 _) ?_
      refine r_iload_n dX12_rowTold_151 rfl rfl ?_
      refine r_iald dX12_rowTold_152 hm.1 ?_
      replace hm := hm.2
      refine r_i2l dX12_rowTold_153 ?_
      exact r_lreturn dX12_rowTold_154 rfl ⟨by decide, by decide⟩ ⟨_, rfl, hm⟩
    · replace hm := hm.2 hc
      refine r_aload_n dX12_rowTold_137 rfl rfl ?_
      refine r_getC (k := 13) cl_12 dX12_rowTold_138 t_1285 gf_12_13.1 gf_12_13.2 (gc_12_13 _) ?_
      refine r_iload_n dX12_rowTold_141 rfl rfl ?_
      refine r_iald dX12_rowTold_142 hm.1 ?_
      replace hm := hm.2
      refine r_i2l dX12_rowTold_143 ?_
      refine r_goto (tgt := 154) dX12_rowTold_144 rfl ?_
      exact r_lreturn dX12_rowTold_154 rfl ⟨by decide, by decide⟩ ⟨_, rfl, hm⟩
  replace hm := hm.2 hc2
  by_cases hc3 : v1 = 3
  · refine r_tableIn (tgt := 155) (off := 103) dX12_rowTold_52 (by rw [hc3]; decide) (by rw [hc3]; decide) (by rw [hc3]; rfl) rfl ?_
    replace hm := hm.1 hc3
    refine r_iload dX12_rowTold_155 rfl ?_
    refine r_if_eq (tgt := 164) dX12_rowTold_157 rfl (fun hc => ?_) (fun hc => ?_)
    · replace hm := hm.1 hc
      refine r_aload_n dX12_rowTold_164 rfl rfl ?_
      refine r_getC (k := 15) cl_12 dX12_rowTold_165 t_1287 gf_12_15.1 gf_12_15.2 (gc_12_15 _) ?_
      refine r_iload_n dX12_rowTold_168 rfl rfl ?_
      refine r_iald dX12_rowTold_169 hm.1 ?_
      replace hm := hm.2
      refine r_i2l dX12_rowTold_170 ?_
      exact r_lreturn dX12_rowTold_171 rfl ⟨by decide, by decide⟩ ⟨_, rfl, hm⟩
    · replace hm := hm.2 hc
      refine r_lconst (v := 0) dX12_rowTold_160 rfl ?_
      refine r_goto (tgt := 171) dX12_rowTold_161 rfl ?_
      exact r_lreturn dX12_rowTold_171 rfl ⟨by decide, by decide⟩ ⟨_, rfl, hm⟩
  replace hm := hm.2 hc3
  refine r_tableOut (tgt := 172) dX12_rowTold_52 (sw_out (n := 4) (fun k hk => by rcases (show k = 0 ∨ k = 1 ∨ k = 2 ∨ k = 3 by omega) with rfl | rfl | rfl | rfl <;> first | exact hc0 | exact hc1 | exact hc2 | exact hc3)) rfl ?_
  refine r_aload_n dX12_rowTold_172 rfl rfl ?_
  refine r_getJ (k := 60) cl_12 dX12_rowTold_173 t_1332 (Or.inl rfl) gf_12_60 ?_
  refine r_iload dX12_rowTold_176 rfl ?_
  refine r_if_eq (tgt := 190) dX12_rowTold_178 rfl (fun hc => ?_) (fun hc => ?_)
  · replace hm := hm.1 hc
    refine r_aload_n dX12_rowTold_190 rfl rfl ?_
    refine r_getC (k := 16) cl_12 dX12_rowTold_191 t_1288 gf_12_16.1 gf_12_16.2 (gc_12_16 _) ?_
    refine r_iload_n dX12_rowTold_194 rfl rfl ?_
    refine r_iald dX12_rowTold_195 hm.1 ?_
    replace hm := hm.2
    refine r_i2l dX12_rowTold_196 ?_
    refine r_lmul dX12_rowTold_197 ?_
    exact r_lreturn dX12_rowTold_198 rfl ⟨by decide, by decide⟩ ⟨_, rfl, hm⟩
  · replace hm := hm.2 hc
    refine r_aload_n dX12_rowTold_181 rfl rfl ?_
    refine r_getC (k := 17) cl_12 dX12_rowTold_182 t_1289 gf_12_17.1 gf_12_17.2 (gc_12_17 _) ?_
    refine r_iload_n dX12_rowTold_185 rfl rfl ?_
    refine r_iald dX12_rowTold_186 hm.1 ?_
    replace hm := hm.2
    refine r_goto (tgt := 196) dX12_rowTold_187 rfl ?_
    refine r_i2l dX12_rowTold_196 ?_
    refine r_lmul dX12_rowTold_197 ?_
    exact r_lreturn dX12_rowTold_198 rfl ⟨by decide, by decide⟩ ⟨_, rfl, hm⟩
def m_X12_rowTold_44  (Q : Int64 → Hp → Prop) (v1 : Int32) (v2 : Int32) (v3 : Int32) (h : Hp) : Prop := m_X12_rowTold_49 Q v1 v2 v3 1 h
set_option maxHeartbeats 4000000 in
set_option maxRecDepth 100000 in
theorem s_X12_rowTold_44 {l : Launch} {G : Cx} {d : Nat} {h0 : Hp} (hd : 4 ≤ d) {Q : Int64 → Hp → Prop} {v1 : Int32} {v2 : Int32} {v3 : Int32} {h : Hp} (hm : m_X12_rowTold_44 Q v1 v2 v3 h) : Rn l G d 0 0 MX12_rowTold h0 (qJ Q) 44 [some (tR 12 0 (some 51)), some (tI v1), some (tI v2), some (tI v3)] [] h 0 0 := by
  unfold m_X12_rowTold_44 at hm
  refine r_iconst (v := 1) dX12_rowTold_44 rfl ?_
  refine r_goto (tgt := 49) dX12_rowTold_45 rfl ?_
  refine r_keep (L' := [some (tR 12 0 (some 51)), some (tI v1), some (tI v2), some (tI v3)]) [true, true, true, true] rfl ?_
  exact s_X12_rowTold_49 hd hm
def m_X12_rowTold_36  (Q : Int64 → Hp → Prop) (v1 : Int32) (v2 : Int32) (v3 : Int32) (h : Hp) : Prop := (¬ (hI h 51 59) = 2 → m_X12_rowTold_49 Q v1 v2 v3 0 h) ∧ ((hI h 51 59) = 2 → m_X12_rowTold_44 Q v1 v2 v3 h)
set_option maxHeartbeats 4000000 in
set_option maxRecDepth 100000 in
theorem s_X12_rowTold_36 {l : Launch} {G : Cx} {d : Nat} {h0 : Hp} (hd : 4 ≤ d) {Q : Int64 → Hp → Prop} {v1 : Int32} {v2 : Int32} {v3 : Int32} {h : Hp} (hm : m_X12_rowTold_36 Q v1 v2 v3 h) : Rn l G d 0 0 MX12_rowTold h0 (qJ Q) 36 [some (tR 12 0 (some 51)), some (tI v1), some (tI v2), some (tI v3)] [] h 0 0 := by
  unfold m_X12_rowTold_36 at hm
  refine r_aload_n dX12_rowTold_36 rfl rfl ?_
  refine r_getI (k := 59) cl_12 dX12_rowTold_37 t_1331 (Or.inl rfl) gf_12_59 ?_
  refine r_iconst (v := 2) dX12_rowTold_40 rfl ?_
  refine r_icmp_ne (tgt := 48) dX12_rowTold_41 rfl (fun hc => ?_) (fun hc => ?_)
  · replace hm := hm.1 hc
    refine r_iconst (v := 0) dX12_rowTold_48 rfl ?_
    refine r_keep (L' := [some (tR 12 0 (some 51)), some (tI v1), some (tI v2), some (tI v3)]) [true, true, true, true] rfl ?_
    exact s_X12_rowTold_49 hd hm
  · replace hm := hm.2 hc
    refine r_keep (L' := [some (tR 12 0 (some 51)), some (tI v1), some (tI v2), some (tI v3)]) [true, true, true, true] rfl ?_
    exact s_X12_rowTold_44 hd hm
def m_X12_rowTold_17  (Q : Int64 → Hp → Prop) (v1 : Int32) (v2 : Int32) (s0 : Int32) (h : Hp) : Prop := vp_in v2 2304 ∧ ((¬ (hI h 58 (ix v2)) = 2 → m_X12_rowTold_36 Q v1 v2 s0 h) ∧ ((hI h 58 (ix v2)) = 2 → ((hI h 51 59) = 1 → m_X12_rowTold_44 Q v1 v2 s0 h) ∧ (¬ (hI h 51 59) = 1 → m_X12_rowTold_36 Q v1 v2 s0 h)))
set_option maxHeartbeats 4000000 in
set_option maxRecDepth 100000 in
theorem s_X12_rowTold_17 {l : Launch} {G : Cx} {d : Nat} {h0 : Hp} (hd : 4 ≤ d) {Q : Int64 → Hp → Prop} {v1 : Int32} {v2 : Int32} {s0 : Int32} {h : Hp} (hm : m_X12_rowTold_17 Q v1 v2 s0 h) : Rn l G d 0 0 MX12_rowTold h0 (qJ Q) 17 [some (tR 12 0 (some 51)), some (tI v1), some (tI v2)] [tI s0] h 0 0 := by
  unfold m_X12_rowTold_17 at hm
  refine r_istore_n (L' := [some (tR 12 0 (some 51)), some (tI v1), some (tI v2), some (tI s0)]) dX12_rowTold_17 rfl (by decide) rfl ?_
  refine r_aload_n dX12_rowTold_18 rfl rfl ?_
  refine r_getC (k := 7) cl_12 dX12_rowTold_19 t_1279 gf_12_7.1 gf_12_7.2 (gc_12_7 _) ?_
  refine r_iload_n dX12_rowTold_22 rfl rfl ?_
  refine r_iald dX12_rowTold_23 hm.1 ?_
  replace hm := hm.2
  refine r_iconst (v := 2) dX12_rowTold_24 rfl ?_
  refine r_icmp_ne (tgt := 36) dX12_rowTold_25 rfl (fun hc => ?_) (fun hc => ?_)
  · replace hm := hm.1 hc
    refine r_keep (L' := [some (tR 12 0 (some 51)), some (tI v1), some (tI v2), some (tI s0)]) [true, true, true, true] rfl ?_
    exact s_X12_rowTold_36 hd hm
  · replace hm := hm.2 hc
    refine r_aload_n dX12_rowTold_28 rfl rfl ?_
    refine r_getI (k := 59) cl_12 dX12_rowTold_29 t_1331 (Or.inl rfl) gf_12_59 ?_
    refine r_iconst (v := 1) dX12_rowTold_32 rfl ?_
    refine r_icmp_eq (tgt := 44) dX12_rowTold_33 rfl (fun hc => ?_) (fun hc => ?_)
    · replace hm := hm.1 hc
      refine r_keep (L' := [some (tR 12 0 (some 51)), some (tI v1), some (tI v2), some (tI s0)]) [true, true, true, true] rfl ?_
      exact s_X12_rowTold_44 hd hm
    · replace hm := hm.2 hc
      refine r_keep (L' := [some (tR 12 0 (some 51)), some (tI v1), some (tI v2), some (tI s0)]) [true, true, true, true] rfl ?_
      exact s_X12_rowTold_36 hd hm
def m_X12_rowTold (v1 : Int32) (h : Hp) (Q : Int64 → Hp → Prop) : Prop := ∀ x3 : Int32, x3 = (hI h 51 58) → ((hI h 51 59) ≤ 0 → m_X12_rowTold_17 Q v1 x3 0 h) ∧ (¬ (hI h 51 59) ≤ 0 → m_X12_rowTold_17 Q v1 x3 1 h)
set_option maxHeartbeats 4000000 in
set_option maxRecDepth 100000 in
theorem s_X12_rowTold {l : Launch} {G : Cx} {d : Nat} (hd : 4 ≤ d) {v1 : Int32} {h : Hp} {Q : Int64 → Hp → Prop} (hm : m_X12_rowTold v1 h Q) : Ct l G d 0 0 yX12_rowTold MX12_rowTold [tR 12 0 (some 51), tI v1] h (qJ Q) := by
  unfold m_X12_rowTold at hm
  refine Ct.of (L := [some (tR 12 0 (some 51)), some (tI v1)]) (by decide) rfl rfl (Nat.le_of_ble_eq_true rfl) rfl ?_
  refine r_aload_n dX12_rowTold_0 rfl rfl ?_
  refine r_getI (k := 58) cl_12 dX12_rowTold_1 t_1330 (Or.inl rfl) gf_12_58 ?_
  refine r_nmI (fun x3 e_x3 => ?_)
  replace hm := hm x3 e_x3
  refine r_istore_n (L' := [some (tR 12 0 (some 51)), some (tI v1), some (tI x3)]) dX12_rowTold_4 rfl (by decide) rfl ?_
  refine r_aload_n dX12_rowTold_5 rfl rfl ?_
  refine r_getI (k := 59) cl_12 dX12_rowTold_6 t_1331 (Or.inl rfl) gf_12_59 ?_
  refine r_if_le (tgt := 16) dX12_rowTold_9 rfl (fun hc => ?_) (fun hc => ?_)
  · replace hm := hm.1 hc
    refine r_iconst (v := 0) dX12_rowTold_16 rfl ?_
    refine r_keep (L' := [some (tR 12 0 (some 51)), some (tI v1), some (tI x3)]) [true, true, true] rfl ?_
    exact s_X12_rowTold_17 hd hm
  · replace hm := hm.2 hc
    refine r_iconst (v := 1) dX12_rowTold_12 rfl ?_
    refine r_goto (tgt := 17) dX12_rowTold_13 rfl ?_
    refine r_keep (L' := [some (tR 12 0 (some 51)), some (tI v1), some (tI x3)]) [true, true, true] rfl ?_
    exact s_X12_rowTold_17 hd hm
theorem dX12_rowsOfDeal_0 : decode cX12_rowsOfDeal 0 = .ok (.iconst 0, 1) := rfl
theorem dX12_rowsOfDeal_1 : decode cX12_rowsOfDeal 1 = .ok (.istore 4, 2) := rfl
theorem dX12_rowsOfDeal_3 : decode cX12_rowsOfDeal 3 = .ok (.bipush 96, 2) := by decide +kernel
theorem dX12_rowsOfDeal_5 : decode cX12_rowsOfDeal 5 = .ok (.iload_n 1, 1) := rfl
theorem dX12_rowsOfDeal_6 : decode cX12_rowsOfDeal 6 = .ok (.imul, 1) := rfl
theorem dX12_rowsOfDeal_7 : decode cX12_rowsOfDeal 7 = .ok (.istore 5, 2) := rfl
theorem dX12_rowsOfDeal_9 : decode cX12_rowsOfDeal 9 = .ok (.iload 5, 2) := rfl
theorem dX12_rowsOfDeal_11 : decode cX12_rowsOfDeal 11 = .ok (.bipush 96, 2) := by decide +kernel
theorem dX12_rowsOfDeal_13 : decode cX12_rowsOfDeal 13 = .ok (.iload_n 1, 1) := rfl
theorem dX12_rowsOfDeal_14 : decode cX12_rowsOfDeal 14 = .ok (.imul, 1) := rfl
theorem dX12_rowsOfDeal_15 : decode cX12_rowsOfDeal 15 = .ok (.aload_n 0, 1) := rfl
theorem dX12_rowsOfDeal_16 : decode cX12_rowsOfDeal 16 = .ok (.getfield 13, 3) := rfl
theorem dX12_rowsOfDeal_19 : decode cX12_rowsOfDeal 19 = .ok (.iload_n 1, 1) := rfl
theorem dX12_rowsOfDeal_20 : decode cX12_rowsOfDeal 20 = .ok (.iaload, 1) := rfl
theorem dX12_rowsOfDeal_21 : decode cX12_rowsOfDeal 21 = .ok (.iadd, 1) := rfl
theorem dX12_rowsOfDeal_22 : decode cX12_rowsOfDeal 22 = .ok (.if_icmp .ge 42, 3) := by decide +kernel
theorem dX12_rowsOfDeal_25 : decode cX12_rowsOfDeal 25 = .ok (.aload_n 0, 1) := rfl
theorem dX12_rowsOfDeal_26 : decode cX12_rowsOfDeal 26 = .ok (.iload 5, 2) := rfl
theorem dX12_rowsOfDeal_28 : decode cX12_rowsOfDeal 28 = .ok (.invokevirtual 356, 3) := rfl
theorem dX12_rowsOfDeal_31 : decode cX12_rowsOfDeal 31 = .ok (.ifCond .eq 27, 3) := by decide +kernel
theorem dX12_rowsOfDeal_34 : decode cX12_rowsOfDeal 34 = .ok (.aload_n 0, 1) := rfl
theorem dX12_rowsOfDeal_35 : decode cX12_rowsOfDeal 35 = .ok (.iload 5, 2) := rfl
theorem dX12_rowsOfDeal_37 : decode cX12_rowsOfDeal 37 = .ok (.iload_n 2, 1) := rfl
theorem dX12_rowsOfDeal_38 : decode cX12_rowsOfDeal 38 = .ok (.iload_n 3, 1) := rfl
theorem dX12_rowsOfDeal_39 : decode cX12_rowsOfDeal 39 = .ok (.invokevirtual 407, 3) := rfl
theorem dX12_rowsOfDeal_42 : decode cX12_rowsOfDeal 42 = .ok (.lconst 0, 1) := rfl
theorem dX12_rowsOfDeal_43 : decode cX12_rowsOfDeal 43 = .ok (.lcmp, 1) := rfl
theorem dX12_rowsOfDeal_44 : decode cX12_rowsOfDeal 44 = .ok (.ifCond .le 14, 3) := by decide +kernel
theorem dX12_rowsOfDeal_47 : decode cX12_rowsOfDeal 47 = .ok (.iload 4, 2) := rfl
theorem dX12_rowsOfDeal_49 : decode cX12_rowsOfDeal 49 = .ok (.aload_n 0, 1) := rfl
theorem dX12_rowsOfDeal_50 : decode cX12_rowsOfDeal 50 = .ok (.iload 5, 2) := rfl
theorem dX12_rowsOfDeal_52 : decode cX12_rowsOfDeal 52 = .ok (.invokevirtual 440, 3) := rfl
theorem dX12_rowsOfDeal_55 : decode cX12_rowsOfDeal 55 = .ok (.iadd, 1) := rfl
theorem dX12_rowsOfDeal_56 : decode cX12_rowsOfDeal 56 = .ok (.istore 4, 2) := rfl
theorem dX12_rowsOfDeal_58 : decode cX12_rowsOfDeal 58 = .ok (.iinc 5 1, 3) := by decide +kernel
theorem dX12_rowsOfDeal_61 : decode cX12_rowsOfDeal 61 = .ok (.goto (-52), 3) := by decide +kernel
theorem dX12_rowsOfDeal_64 : decode cX12_rowsOfDeal 64 = .ok (.iload 4, 2) := rfl
theorem dX12_rowsOfDeal_66 : decode cX12_rowsOfDeal 66 = .ok (.ireturn, 1) := rfl
def m_X12_rowsOfDeal_58 (k9 : Int32 → Int32 → Int32 → Int32 → Int32 → Hp → Prop) (Q : Int32 → Hp → Prop) (v1 : Int32) (v2 : Int32) (v3 : Int32) (v4 : Int32) (v5 : Int32) (h : Hp) : Prop := ∀ x1 : Int32, x1 = v5 + 1 → k9 v1 v2 v3 v4 x1 h
set_option maxHeartbeats 4000000 in
set_option maxRecDepth 100000 in
theorem s_X12_rowsOfDeal_58 {l : Launch} {G : Cx} {d : Nat} {h0 : Hp} (hd : 4 ≤ d) {k9 : Int32 → Int32 → Int32 → Int32 → Int32 → Hp → Prop} {Q : Int32 → Hp → Prop} (hk9 : ∀ (v1 : Int32) (v2 : Int32) (v3 : Int32) (v4 : Int32) (v5 : Int32) (hh : Hp), k9 v1 v2 v3 v4 v5 hh → Rn l G d 0 0 MX12_rowsOfDeal h0 (qI Q) 9 [some (tR 12 0 (some 51)), some (tI v1), some (tI v2), some (tI v3), some (tI v4), some (tI v5)] [] hh 0 0) {v1 : Int32} {v2 : Int32} {v3 : Int32} {v4 : Int32} {v5 : Int32} {h : Hp} (hm : m_X12_rowsOfDeal_58 k9 Q v1 v2 v3 v4 v5 h) : Rn l G d 0 0 MX12_rowsOfDeal h0 (qI Q) 58 [some (tR 12 0 (some 51)), some (tI v1), some (tI v2), some (tI v3), some (tI v4), some (tI v5)] [] h 0 0 := by
  unfold m_X12_rowsOfDeal_58 at hm
  obtain ⟨x1, e_x1⟩ : ∃ y : Int32, y = v5 + 1 := ⟨_, rfl⟩
  replace hm := hm x1 e_x1
  refine r_iinc (L' := [some (tR 12 0 (some 51)), some (tI v1), some (tI v2), some (tI v3), some (tI v4), some (tI x1)]) dX12_rowsOfDeal_58 rfl (by rw [e_x1]; rfl) (by decide) rfl ?_
  refine r_goto (tgt := 9) dX12_rowsOfDeal_61 rfl ?_
  refine r_keep (L' := [some (tR 12 0 (some 51)), some (tI v1), some (tI v2), some (tI v3), some (tI v4), some (tI x1)]) [true, true, true, true, true, true] rfl ?_
  exact hk9 _ _ _ _ _ _ hm
def m_X12_rowsOfDeal_9 : Nat → (Int32 → Hp → Prop) → Int32 → Int32 → Int32 → Int32 → Int32 → Hp → Prop
  | 0, _, _, _, _, _, _, _ => False
  | n + 1, Q, v1, v2, v3, v4, v5, h => vp_in v1 24 ∧ ((((96 * v1) + (hI h 53 (ix v1))) ≤ v5 → Q v4 h) ∧ (¬ ((96 * v1) + (hI h 53 (ix v1))) ≤ v5 → m_X12_isLeaf v5 h (fun (x2 : Int32) (h3 : Hp) => (x2 = 0 → m_X12_rowsOfDeal_58 (fun (v1 : Int32) (v2 : Int32) (v3 : Int32) (v4 : Int32) (v5 : Int32) (hh : Hp) => m_X12_rowsOfDeal_9 n Q v1 v2 v3 v4 v5 hh) Q v1 v2 v3 v4 v5 h3) ∧ (¬ x2 = 0 → m_X12_times v5 v2 v3 h3 (fun (x4 : Int64) (h5 : Hp) => ((lg_cmp x4 0) ≤ 0 → m_X12_rowsOfDeal_58 (fun (v1 : Int32) (v2 : Int32) (v3 : Int32) (v4 : Int32) (v5 : Int32) (hh : Hp) => m_X12_rowsOfDeal_9 n Q v1 v2 v3 v4 v5 hh) Q v1 v2 v3 v4 v5 h5) ∧ (¬ (lg_cmp x4 0) ≤ 0 → m_X12_rowsOf v5 h5 (fun (x6 : Int32) (h7 : Hp) => ∀ x8 : Int32, x8 = (v4 + x6) → m_X12_rowsOfDeal_58 (fun (v1 : Int32) (v2 : Int32) (v3 : Int32) (v4 : Int32) (v5 : Int32) (hh : Hp) => m_X12_rowsOfDeal_9 n Q v1 v2 v3 v4 v5 hh) Q v1 v2 v3 x8 v5 h7)))))))
set_option maxHeartbeats 4000000 in
set_option maxRecDepth 100000 in
theorem s_X12_rowsOfDeal_9 {l : Launch} {G : Cx} {d : Nat} {h0 : Hp} (hd : 4 ≤ d) {Q : Int32 → Hp → Prop} : ∀ {n : Nat} {v1 : Int32} {v2 : Int32} {v3 : Int32} {v4 : Int32} {v5 : Int32} {h : Hp}, m_X12_rowsOfDeal_9 n Q v1 v2 v3 v4 v5 h → Rn l G d 0 0 MX12_rowsOfDeal h0 (qI Q) 9 [some (tR 12 0 (some 51)), some (tI v1), some (tI v2), some (tI v3), some (tI v4), some (tI v5)] [] h 0 0 := by
  intro n
  induction n with
  | zero => intro v1 v2 v3 v4 v5 h hm; exact hm.elim
  | succ n ih =>
    intro v1 v2 v3 v4 v5 h hm
    have hk9 := fun (v1 : Int32) (v2 : Int32) (v3 : Int32) (v4 : Int32) (v5 : Int32) (hh : Hp) (hm : m_X12_rowsOfDeal_9 n Q v1 v2 v3 v4 v5 hh) => ih hm
    rw [m_X12_rowsOfDeal_9] at hm
    refine r_iload dX12_rowsOfDeal_9 rfl ?_
    refine r_bipush (v := 96) dX12_rowsOfDeal_11 rfl ?_
    refine r_iload_n dX12_rowsOfDeal_13 rfl rfl ?_
    refine r_imul dX12_rowsOfDeal_14 ?_
    refine r_aload_n dX12_rowsOfDeal_15 rfl rfl ?_
    refine r_getC (k := 2) cl_12 dX12_rowsOfDeal_16 t_1274 gf_12_2.1 gf_12_2.2 (gc_12_2 _) ?_
    refine r_iload_n dX12_rowsOfDeal_19 rfl rfl ?_
    refine r_iald dX12_rowsOfDeal_20 hm.1 ?_
    replace hm := hm.2
    refine r_iadd dX12_rowsOfDeal_21 ?_
    refine r_icmp_ge (tgt := 64) dX12_rowsOfDeal_22 rfl (fun hc => ?_) (fun hc => ?_)
    · replace hm := hm.1 hc
      refine r_iload dX12_rowsOfDeal_64 rfl ?_
      exact r_ireturn dX12_rowsOfDeal_66 rfl ⟨by decide, by decide⟩ ⟨_, rfl, hm⟩
    · replace hm := hm.2 hc
      refine r_aload_n dX12_rowsOfDeal_25 rfl rfl ?_
      refine r_iload dX12_rowsOfDeal_26 rfl ?_
      refine r_callVI (d' := d - 1) (as := [tI v5]) (st := []) cl_12 dX12_rowsOfDeal_28 mi_X12_isLeaf t_1677 t_1679 ts_75 rfl rfl (Nat.le_of_ble_eq_true rfl) (by omega) ⟨by decide, by decide⟩ ⟨rfl, rfl⟩ (s_X12_isLeaf (by omega) hm) (fun x2 h3 hm => ?_)
      refine r_if_eq (tgt := 58) dX12_rowsOfDeal_31 rfl (fun hc => ?_) (fun hc => ?_)
      · replace hm := hm.1 hc
        refine r_keep (L' := [some (tR 12 0 (some 51)), some (tI v1), some (tI v2), some (tI v3), some (tI v4), some (tI v5)]) [true, true, true, true, true, true] rfl ?_
        exact s_X12_rowsOfDeal_58 hd hk9 hm
      · replace hm := hm.2 hc
        refine r_aload_n dX12_rowsOfDeal_34 rfl rfl ?_
        refine r_iload dX12_rowsOfDeal_35 rfl ?_
        refine r_iload_n dX12_rowsOfDeal_37 rfl rfl ?_
        refine r_iload_n dX12_rowsOfDeal_38 rfl rfl ?_
        refine r_callVJ (d' := d - 1) (as := [tI v5, tI v2, tI v3]) (st := []) cl_12 dX12_rowsOfDeal_39 mi_X12_times t_1733 t_1735 ts_86 rfl rfl (Nat.le_of_ble_eq_true rfl) (by omega) ⟨by decide, by decide⟩ ⟨rfl, rfl⟩ (s_X12_times (by omega) hm) (fun x4 h5 hm => ?_)
        refine r_lconst (v := 0) dX12_rowsOfDeal_42 rfl ?_
        refine r_lcmp dX12_rowsOfDeal_43 ?_
        refine r_if_le (tgt := 58) dX12_rowsOfDeal_44 rfl (fun hc => ?_) (fun hc => ?_)
        · replace hm := hm.1 hc
          refine r_keep (L' := [some (tR 12 0 (some 51)), some (tI v1), some (tI v2), some (tI v3), some (tI v4), some (tI v5)]) [true, true, true, true, true, true] rfl ?_
          exact s_X12_rowsOfDeal_58 hd hk9 hm
        · replace hm := hm.2 hc
          refine r_iload dX12_rowsOfDeal_47 rfl ?_
          refine r_aload_n dX12_rowsOfDeal_49 rfl rfl ?_
          refine r_iload dX12_rowsOfDeal_50 rfl ?_
          refine r_callVI (d' := d - 1) (as := [tI v5]) (st := [tI v4]) cl_12 dX12_rowsOfDeal_52 mi_X12_rowsOf t_1773 t_1775 ts_93 rfl rfl (Nat.le_of_ble_eq_true rfl) (by omega) ⟨by decide, by decide⟩ ⟨rfl, rfl⟩ (s_X12_rowsOf (by omega) hm) (fun x6 h7 hm => ?_)
          refine r_iadd dX12_rowsOfDeal_55 ?_
          refine r_nmI (fun x8 e_x8 => ?_)
          replace hm := hm x8 e_x8
          refine r_istore (L' := [some (tR 12 0 (some 51)), some (tI v1), some (tI v2), some (tI v3), some (tI x8), some (tI v5)]) dX12_rowsOfDeal_56 (by decide) rfl ?_
          refine r_keep (L' := [some (tR 12 0 (some 51)), some (tI v1), some (tI v2), some (tI v3), some (tI x8), some (tI v5)]) [true, true, true, true, true, true] rfl ?_
          exact s_X12_rowsOfDeal_58 hd hk9 hm
def m_X12_rowsOfDeal (v1 : Int32) (v2 : Int32) (v3 : Int32) (h : Hp) (Q : Int32 → Hp → Prop) : Prop := ∀ x9 : Int32, x9 = (96 * v1) → ∃ n9, m_X12_rowsOfDeal_9 n9 Q v1 v2 v3 0 x9 h
set_option maxHeartbeats 4000000 in
set_option maxRecDepth 100000 in
theorem s_X12_rowsOfDeal {l : Launch} {G : Cx} {d : Nat} (hd : 4 ≤ d) {v1 : Int32} {v2 : Int32} {v3 : Int32} {h : Hp} {Q : Int32 → Hp → Prop} (hm : m_X12_rowsOfDeal v1 v2 v3 h Q) : Ct l G d 0 0 yX12_rowsOfDeal MX12_rowsOfDeal [tR 12 0 (some 51), tI v1, tI v2, tI v3] h (qI Q) := by
  unfold m_X12_rowsOfDeal at hm
  refine Ct.of (L := [some (tR 12 0 (some 51)), some (tI v1), some (tI v2), some (tI v3)]) (by decide) rfl rfl (Nat.le_of_ble_eq_true rfl) rfl ?_
  refine r_iconst (v := 0) dX12_rowsOfDeal_0 rfl ?_
  refine r_istore (L' := [some (tR 12 0 (some 51)), some (tI v1), some (tI v2), some (tI v3), some (tI 0)]) dX12_rowsOfDeal_1 (by decide) rfl ?_
  refine r_bipush (v := 96) dX12_rowsOfDeal_3 rfl ?_
  refine r_iload_n dX12_rowsOfDeal_5 rfl rfl ?_
  refine r_imul dX12_rowsOfDeal_6 ?_
  refine r_nmI (fun x9 e_x9 => ?_)
  replace hm := hm x9 e_x9
  refine r_istore (L' := [some (tR 12 0 (some 51)), some (tI v1), some (tI v2), some (tI v3), some (tI 0), some (tI x9)]) dX12_rowsOfDeal_7 (by decide) rfl ?_
  refine r_keep (L' := [some (tR 12 0 (some 51)), some (tI v1), some (tI v2), some (tI v3), some (tI 0), some (tI x9)]) [true, true, true, true, true, true] rfl ?_
  obtain ⟨n, hm⟩ := hm
  refine s_X12_rowsOfDeal_9 hd hm
theorem dX12_passed_0 : decode cX12_passed 0 = .ok (.aload_n 0, 1) := by decide +kernel
theorem dX12_passed_1 : decode cX12_passed 1 = .ok (.invokevirtual 452, 3) := by decide +kernel
theorem dX12_passed_4 : decode cX12_passed 4 = .ok (.iload_n 1, 1) := by decide +kernel
theorem dX12_passed_5 : decode cX12_passed 5 = .ok (.ifCond .lt 34, 3) := by decide +kernel
theorem dX12_passed_8 : decode cX12_passed 8 = .ok (.iload_n 1, 1) := by decide +kernel
theorem dX12_passed_9 : decode cX12_passed 9 = .ok (.aload_n 0, 1) := by decide +kernel
theorem dX12_passed_10 : decode cX12_passed 10 = .ok (.invokevirtual 437, 3) := by decide +kernel
theorem dX12_passed_13 : decode cX12_passed 13 = .ok (.if_icmp .ge 26, 3) := by decide +kernel
theorem dX12_passed_16 : decode cX12_passed 16 = .ok (.iload_n 2, 1) := by decide +kernel
theorem dX12_passed_17 : decode cX12_passed 17 = .ok (.iconst (-1), 1) := by decide +kernel
theorem dX12_passed_18 : decode cX12_passed 18 = .ok (.if_icmp .lt 21, 3) := by decide +kernel
theorem dX12_passed_21 : decode cX12_passed 21 = .ok (.iload_n 3, 1) := by decide +kernel
theorem dX12_passed_22 : decode cX12_passed 22 = .ok (.iconst 0, 1) := by decide +kernel
theorem dX12_passed_23 : decode cX12_passed 23 = .ok (.iload_n 2, 1) := by decide +kernel
theorem dX12_passed_24 : decode cX12_passed 24 = .ok (.iconst (-1), 1) := by decide +kernel
theorem dX12_passed_25 : decode cX12_passed 25 = .ok (.if_icmp .ne 7, 3) := by decide +kernel
theorem dX12_passed_28 : decode cX12_passed 28 = .ok (.iconst 0, 1) := by decide +kernel
theorem dX12_passed_29 : decode cX12_passed 29 = .ok (.goto 4, 3) := by decide +kernel
theorem dX12_passed_32 : decode cX12_passed 32 = .ok (.iconst 4, 1) := by decide +kernel
theorem dX12_passed_33 : decode cX12_passed 33 = .ok (.invokestatic 185, 3) := by decide +kernel
theorem dX12_passed_36 : decode cX12_passed 36 = .ok (.ifCond .ne 7, 3) := by decide +kernel
theorem dX12_passed_39 : decode cX12_passed 39 = .ok (.ldc2_w 205, 3) := by decide +kernel
theorem dX12_passed_42 : decode cX12_passed 42 = .ok (.lreturn, 1) := by decide +kernel
theorem dX12_passed_43 : decode cX12_passed 43 = .ok (.iconst 0, 1) := by decide +kernel
theorem dX12_passed_44 : decode cX12_passed 44 = .ok (.istore 4, 2) := by decide +kernel
theorem dX12_passed_46 : decode cX12_passed 46 = .ok (.iconst 5, 1) := by decide +kernel
theorem dX12_passed_47 : decode cX12_passed 47 = .ok (.istore 5, 2) := by decide +kernel
theorem dX12_passed_49 : decode cX12_passed 49 = .ok (.iconst 0, 1) := by decide +kernel
theorem dX12_passed_50 : decode cX12_passed 50 = .ok (.istore 6, 2) := by decide +kernel
theorem dX12_passed_52 : decode cX12_passed 52 = .ok (.iload 6, 2) := by decide +kernel
theorem dX12_passed_54 : decode cX12_passed 54 = .ok (.aload_n 0, 1) := by decide +kernel
theorem dX12_passed_55 : decode cX12_passed 55 = .ok (.getfield 425, 3) := by decide +kernel
theorem dX12_passed_58 : decode cX12_passed 58 = .ok (.if_icmp .ge 86, 3) := by decide +kernel
theorem dX12_passed_61 : decode cX12_passed 61 = .ok (.aload_n 0, 1) := by decide +kernel
theorem dX12_passed_62 : decode cX12_passed 62 = .ok (.aload_n 0, 1) := by decide +kernel
theorem dX12_passed_63 : decode cX12_passed 63 = .ok (.getfield 116, 3) := by decide +kernel
theorem dX12_passed_66 : decode cX12_passed 66 = .ok (.iload 6, 2) := by decide +kernel
theorem dX12_passed_68 : decode cX12_passed 68 = .ok (.iaload, 1) := by decide +kernel
theorem dX12_passed_69 : decode cX12_passed 69 = .ok (.iload_n 1, 1) := by decide +kernel
theorem dX12_passed_70 : decode cX12_passed 70 = .ok (.iload 5, 2) := by decide +kernel
theorem dX12_passed_72 : decode cX12_passed 72 = .ok (.invokevirtual 455, 3) := by decide +kernel
theorem dX12_passed_75 : decode cX12_passed 75 = .ok (.istore 7, 2) := by decide +kernel
theorem dX12_passed_77 : decode cX12_passed 77 = .ok (.iload_n 2, 1) := by decide +kernel
theorem dX12_passed_78 : decode cX12_passed 78 = .ok (.ifCond .lt 36, 3) := by decide +kernel
theorem dX12_passed_81 : decode cX12_passed 81 = .ok (.iload_n 2, 1) := by decide +kernel
theorem dX12_passed_82 : decode cX12_passed 82 = .ok (.iload 4, 2) := by decide +kernel
theorem dX12_passed_84 : decode cX12_passed 84 = .ok (.iload 7, 2) := by decide +kernel
theorem dX12_passed_86 : decode cX12_passed 86 = .ok (.iadd, 1) := by decide +kernel
theorem dX12_passed_87 : decode cX12_passed 87 = .ok (.if_icmp .ge 27, 3) := by decide +kernel
theorem dX12_passed_90 : decode cX12_passed 90 = .ok (.aload_n 0, 1) := by decide +kernel
theorem dX12_passed_91 : decode cX12_passed 91 = .ok (.aload_n 0, 1) := by decide +kernel
theorem dX12_passed_92 : decode cX12_passed 92 = .ok (.getfield 116, 3) := by decide +kernel
theorem dX12_passed_95 : decode cX12_passed 95 = .ok (.iload 6, 2) := by decide +kernel
theorem dX12_passed_97 : decode cX12_passed 97 = .ok (.iaload, 1) := by decide +kernel
theorem dX12_passed_98 : decode cX12_passed 98 = .ok (.iload_n 2, 1) := by decide +kernel
theorem dX12_passed_99 : decode cX12_passed 99 = .ok (.iload 4, 2) := by decide +kernel
theorem dX12_passed_101 : decode cX12_passed 101 = .ok (.isub, 1) := by decide +kernel
theorem dX12_passed_102 : decode cX12_passed 102 = .ok (.iload_n 1, 1) := by decide +kernel
theorem dX12_passed_103 : decode cX12_passed 103 = .ok (.iload 5, 2) := by decide +kernel
theorem dX12_passed_105 : decode cX12_passed 105 = .ok (.invokevirtual 458, 3) := by decide +kernel
theorem dX12_passed_108 : decode cX12_passed 108 = .ok (.aload_n 0, 1) := by decide +kernel
theorem dX12_passed_109 : decode cX12_passed 109 = .ok (.iload_n 3, 1) := by decide +kernel
theorem dX12_passed_110 : decode cX12_passed 110 = .ok (.invokevirtual 462, 3) := by decide +kernel
theorem dX12_passed_113 : decode cX12_passed 113 = .ok (.lreturn, 1) := by decide +kernel
theorem dX12_passed_114 : decode cX12_passed 114 = .ok (.iload 4, 2) := by decide +kernel
theorem dX12_passed_116 : decode cX12_passed 116 = .ok (.iload 7, 2) := by decide +kernel
theorem dX12_passed_118 : decode cX12_passed 118 = .ok (.iadd, 1) := by decide +kernel
theorem dX12_passed_119 : decode cX12_passed 119 = .ok (.istore 4, 2) := by decide +kernel
theorem dX12_passed_121 : decode cX12_passed 121 = .ok (.iload 5, 2) := by decide +kernel
theorem dX12_passed_123 : decode cX12_passed 123 = .ok (.aload_n 0, 1) := by decide +kernel
theorem dX12_passed_124 : decode cX12_passed 124 = .ok (.getfield 22, 3) := by decide +kernel
theorem dX12_passed_127 : decode cX12_passed 127 = .ok (.aload_n 0, 1) := by decide +kernel
theorem dX12_passed_128 : decode cX12_passed 128 = .ok (.getfield 116, 3) := by decide +kernel
theorem dX12_passed_131 : decode cX12_passed 131 = .ok (.iload 6, 2) := by decide +kernel
theorem dX12_passed_133 : decode cX12_passed 133 = .ok (.iaload, 1) := by decide +kernel
theorem dX12_passed_134 : decode cX12_passed 134 = .ok (.iaload, 1) := by decide +kernel
theorem dX12_passed_135 : decode cX12_passed 135 = .ok (.iadd, 1) := by decide +kernel
theorem dX12_passed_136 : decode cX12_passed 136 = .ok (.istore 5, 2) := by decide +kernel
theorem dX12_passed_138 : decode cX12_passed 138 = .ok (.iinc 6 1, 3) := by decide +kernel
theorem dX12_passed_141 : decode cX12_passed 141 = .ok (.goto (-89), 3) := by decide +kernel
theorem dX12_passed_144 : decode cX12_passed 144 = .ok (.iload_n 2, 1) := by decide +kernel
theorem dX12_passed_145 : decode cX12_passed 145 = .ok (.iconst (-1), 1) := by decide +kernel
theorem dX12_passed_146 : decode cX12_passed 146 = .ok (.if_icmp .ne 9, 3) := by decide +kernel
theorem dX12_passed_149 : decode cX12_passed 149 = .ok (.iload 4, 2) := by decide +kernel
theorem dX12_passed_151 : decode cX12_passed 151 = .ok (.i2l, 1) := by decide +kernel
theorem dX12_passed_152 : decode cX12_passed 152 = .ok (.goto 6, 3) := by decide +kernel
theorem dX12_passed_155 : decode cX12_passed 155 = .ok (.ldc2_w 205, 3) := by decide +kernel
theorem dX12_passed_158 : decode cX12_passed 158 = .ok (.lreturn, 1) := by decide +kernel
def m_X12_passed_144  (Q : Int64 → Hp → Prop) (v2 : Int32) (v4 : Int32) (h : Hp) : Prop := (¬ v2 = (-1) → Q (-1) h) ∧ (v2 = (-1) → Q v4.toInt64 h)
set_option maxHeartbeats 4000000 in
set_option maxRecDepth 100000 in
theorem s_X12_passed_144 {l : Launch} {G : Cx} {d : Nat} {h0 : Hp} (hd : 6 ≤ d) {Q : Int64 → Hp → Prop} {v2 : Int32} {v4 : Int32} {h : Hp} (hm : m_X12_passed_144 Q v2 v4 h) : Rn l G d 0 0 MX12_passed h0 (qJ Q) 144 [none, none, some (tI v2), none, some (tI v4)] [] h 0 0 := by
  unfold m_X12_passed_144 at hm
  refine r_iload_n dX12_passed_144 rfl rfl ?_
  refine r_iconst (v := (-1)) dX12_passed_145 rfl ?_
  refine r_icmp_ne (tgt := 155) dX12_passed_146 rfl (fun hc => ?_) (fun hc => ?_)
  · replace hm := hm.1 hc
    refine r_ldc2_w dX12_passed_155 t_1580 ?_
    exact r_lreturn dX12_passed_158 rfl ⟨by decide, by decide⟩ ⟨_, rfl, hm⟩
  · replace hm := hm.2 hc
    refine r_iload dX12_passed_149 rfl ?_
    refine r_i2l dX12_passed_151 ?_
    refine r_goto (tgt := 158) dX12_passed_152 rfl ?_
    exact r_lreturn dX12_passed_158 rfl ⟨by decide, by decide⟩ ⟨_, rfl, hm⟩
def m_X12_passed_114 (k52 : Int32 → Int32 → Int32 → Int32 → Int32 → Int32 → Hp → Prop) (k90 : Int32 → Int32 → Int32 → Int32 → Int32 → Int32 → Hp → Prop) (k144 : Int32 → Int32 → Hp → Prop) (Q : Int64 → Hp → Prop) (v1 : Int32) (v2 : Int32) (v3 : Int32) (v4 : Int32) (v5 : Int32) (v6 : Int32) (v7 : Int32) (h : Hp) : Prop := ∀ x1 : Int32, x1 = (v4 + v7) → vp_in v6 6 ∧ (vp_in (hI h 85 (ix v6)) 24 ∧ (∀ x2 : Int32, x2 = (v5 + (hI h 56 (ix (hI h 85 (ix v6))))) → ∀ x3 : Int32, x3 = v6 + 1 → k52 v1 v2 v3 x1 x2 x3 h))
set_option maxHeartbeats 4000000 in
set_option maxRecDepth 100000 in
theorem s_X12_passed_114 {l : Launch} {G : Cx} {d : Nat} {h0 : Hp} (hd : 6 ≤ d) {k52 : Int32 → Int32 → Int32 → Int32 → Int32 → Int32 → Hp → Prop} {k90 : Int32 → Int32 → Int32 → Int32 → Int32 → Int32 → Hp → Prop} {k144 : Int32 → Int32 → Hp → Prop} {Q : Int64 → Hp → Prop} (hk52 : ∀ (v1 : Int32) (v2 : Int32) (v3 : Int32) (v4 : Int32) (v5 : Int32) (v6 : Int32) (hh : Hp), k52 v1 v2 v3 v4 v5 v6 hh → Rn l G d 0 0 MX12_passed h0 (qJ Q) 52 [some (tR 12 0 (some 51)), some (tI v1), some (tI v2), some (tI v3), some (tI v4), some (tI v5), some (tI v6)] [] hh 0 0) (hk90 : ∀ (v1 : Int32) (v2 : Int32) (v3 : Int32) (v4 : Int32) (v5 : Int32) (v6 : Int32) (hh : Hp), k90 v1 v2 v3 v4 v5 v6 hh → Rn l G d 0 0 MX12_passed h0 (qJ Q) 90 [some (tR 12 0 (some 51)), some (tI v1), some (tI v2), some (tI v3), some (tI v4), some (tI v5), some (tI v6)] [] hh 0 0) (hk144 : ∀ (v2 : Int32) (v4 : Int32) (hh : Hp), k144 v2 v4 hh → Rn l G d 0 0 MX12_passed h0 (qJ Q) 144 [none, none, some (tI v2), none, some (tI v4)] [] hh 0 0) {v1 : Int32} {v2 : Int32} {v3 : Int32} {v4 : Int32} {v5 : Int32} {v6 : Int32} {v7 : Int32} {h : Hp} (hm : m_X12_passed_114 k52 k90 k144 Q v1 v2 v3 v4 v5 v6 v7 h) : Rn l G d 0 0 MX12_passed h0 (qJ Q) 114 [some (tR 12 0 (some 51)), some (tI v1), some (tI v2), some (tI v3), some (tI v4), some (tI v5), some (tI v6), some (tI v7)] [] h 0 0 := by
  unfold m_X12_passed_114 at hm
  refine r_iload dX12_passed_114 rfl ?_
  refine r_iload dX12_passed_116 rfl ?_
  refine r_iadd dX12_passed_118 ?_
  refine r_nmI (fun x1 e_x1 => ?_)
  replace hm := hm x1 e_x1
  refine r_istore (L' := [some (tR 12 0 (some 51)), some (tI v1), some (tI v2), some (tI v3), some (tI x1), some (tI v5), some (tI v6), some (tI v7)]) dX12_passed_119 (by decide) rfl ?_
  refine r_iload dX12_passed_121 rfl ?_
  refine r_aload_n dX12_passed_123 rfl rfl ?_
  refine r_getC (k := 5) cl_12 dX12_passed_124 t_1277 gf_12_5.1 gf_12_5.2 (gc_12_5 _) ?_
  refine r_aload_n dX12_passed_127 rfl rfl ?_
  refine r_getC (k := 57) cl_12 dX12_passed_128 t_1329 gf_12_57.1 gf_12_57.2 (gc_12_57 _) ?_
  refine r_iload dX12_passed_131 rfl ?_
  refine r_iald dX12_passed_133 hm.1 ?_
  replace hm := hm.2
  refine r_iald dX12_passed_134 hm.1 ?_
  replace hm := hm.2
  refine r_iadd dX12_passed_135 ?_
  refine r_nmI (fun x2 e_x2 => ?_)
  replace hm := hm x2 e_x2
  refine r_istore (L' := [some (tR 12 0 (some 51)), some (tI v1), some (tI v2), some (tI v3), some (tI x1), some (tI x2), some (tI v6), some (tI v7)]) dX12_passed_136 (by decide) rfl ?_
  obtain ⟨x3, e_x3⟩ : ∃ y : Int32, y = v6 + 1 := ⟨_, rfl⟩
  replace hm := hm x3 e_x3
  refine r_iinc (L' := [some (tR 12 0 (some 51)), some (tI v1), some (tI v2), some (tI v3), some (tI x1), some (tI x2), some (tI x3), some (tI v7)]) dX12_passed_138 rfl (by rw [e_x3]; rfl) (by decide) rfl ?_
  refine r_goto (tgt := 52) dX12_passed_141 rfl ?_
  refine r_keep (L' := [some (tR 12 0 (some 51)), some (tI v1), some (tI v2), some (tI v3), some (tI x1), some (tI x2), some (tI x3)]) [true, true, true, true, true, true, true] rfl ?_
  exact hk52 _ _ _ _ _ _ _ hm
def m_X12_passed_90  (Q : Int64 → Hp → Prop) (v1 : Int32) (v2 : Int32) (v3 : Int32) (v4 : Int32) (v5 : Int32) (v6 : Int32) (h : Hp) : Prop := vp_in v6 6 ∧ (m_X12_findRow (hI h 85 (ix v6)) (v2 - v4) v1 v5 h (fun (h5 : Hp) => m_X12_rowTold v3 h5 (fun (x6 : Int64) (h7 : Hp) => Q x6 h7)))
set_option maxHeartbeats 4000000 in
set_option maxRecDepth 100000 in
theorem s_X12_passed_90 {l : Launch} {G : Cx} {d : Nat} {h0 : Hp} (hd : 6 ≤ d) {Q : Int64 → Hp → Prop} {v1 : Int32} {v2 : Int32} {v3 : Int32} {v4 : Int32} {v5 : Int32} {v6 : Int32} {h : Hp} (hm : m_X12_passed_90 Q v1 v2 v3 v4 v5 v6 h) : Rn l G d 0 0 MX12_passed h0 (qJ Q) 90 [some (tR 12 0 (some 51)), some (tI v1), some (tI v2), some (tI v3), some (tI v4), some (tI v5), some (tI v6)] [] h 0 0 := by
  unfold m_X12_passed_90 at hm
  refine r_aload_n dX12_passed_90 rfl rfl ?_
  refine r_aload_n dX12_passed_91 rfl rfl ?_
  refine r_getC (k := 57) cl_12 dX12_passed_92 t_1329 gf_12_57.1 gf_12_57.2 (gc_12_57 _) ?_
  refine r_iload dX12_passed_95 rfl ?_
  refine r_iald dX12_passed_97 hm.1 ?_
  replace hm := hm.2
  refine r_iload_n dX12_passed_98 rfl rfl ?_
  refine r_iload dX12_passed_99 rfl ?_
  refine r_isub dX12_passed_101 ?_
  refine r_iload_n dX12_passed_102 rfl rfl ?_
  refine r_iload dX12_passed_103 rfl ?_
  refine r_callVU (d' := d - 1) (as := [tI (hI h 85 (ix v6)), tI (v2 - v4), tI v1, tI v5]) (st := []) cl_12 dX12_passed_105 mi_X12_findRow t_1777 t_1779 ts_94 rfl rfl (Nat.le_of_ble_eq_true rfl) (by omega) ⟨by decide, by decide⟩ ⟨rfl, rfl⟩ (s_X12_findRow (by omega) hm) (fun h5 hm => ?_)
  refine r_aload_n dX12_passed_108 rfl rfl ?_
  refine r_iload_n dX12_passed_109 rfl rfl ?_
  refine r_callVJ (d' := d - 1) (as := [tI v3]) (st := []) cl_12 dX12_passed_110 mi_X12_rowTold t_1781 t_1783 ts_95 rfl rfl (Nat.le_of_ble_eq_true rfl) (by omega) ⟨by decide, by decide⟩ ⟨rfl, rfl⟩ (s_X12_rowTold (by omega) hm) (fun x6 h7 hm => ?_)
  exact r_lreturn dX12_passed_113 rfl ⟨by decide, by decide⟩ ⟨_, rfl, hm⟩
def m_X12_passed_52 : Nat → (Int32 → Int32 → Int32 → Int32 → Int32 → Int32 → Hp → Prop) → (Int32 → Int32 → Hp → Prop) → (Int64 → Hp → Prop) → Int32 → Int32 → Int32 → Int32 → Int32 → Int32 → Hp → Prop
  | 0, _, _, _, _, _, _, _, _, _, _ => False
  | n + 1, k90, k144, Q, v1, v2, v3, v4, v5, v6, h => ((hI h 51 55) ≤ v6 → k144 v2 v4 h) ∧ (¬ (hI h 51 55) ≤ v6 → vp_in v6 6 ∧ (m_X12_rowsOfDeal (hI h 85 (ix v6)) v1 v5 h (fun (x8 : Int32) (h9 : Hp) => (v2 < 0 → m_X12_passed_114 (fun (v1 : Int32) (v2 : Int32) (v3 : Int32) (v4 : Int32) (v5 : Int32) (v6 : Int32) (hh : Hp) => m_X12_passed_52 n k90 k144 Q v1 v2 v3 v4 v5 v6 hh) k90 k144 Q v1 v2 v3 v4 v5 v6 x8 h9) ∧ (¬ v2 < 0 → ((v4 + x8) ≤ v2 → m_X12_passed_114 (fun (v1 : Int32) (v2 : Int32) (v3 : Int32) (v4 : Int32) (v5 : Int32) (v6 : Int32) (hh : Hp) => m_X12_passed_52 n k90 k144 Q v1 v2 v3 v4 v5 v6 hh) k90 k144 Q v1 v2 v3 v4 v5 v6 x8 h9) ∧ (¬ (v4 + x8) ≤ v2 → k90 v1 v2 v3 v4 v5 v6 h9)))))
set_option maxHeartbeats 4000000 in
set_option maxRecDepth 100000 in
theorem s_X12_passed_52 {l : Launch} {G : Cx} {d : Nat} {h0 : Hp} (hd : 6 ≤ d) {k90 : Int32 → Int32 → Int32 → Int32 → Int32 → Int32 → Hp → Prop} {k144 : Int32 → Int32 → Hp → Prop} {Q : Int64 → Hp → Prop} (hk90 : ∀ (v1 : Int32) (v2 : Int32) (v3 : Int32) (v4 : Int32) (v5 : Int32) (v6 : Int32) (hh : Hp), k90 v1 v2 v3 v4 v5 v6 hh → Rn l G d 0 0 MX12_passed h0 (qJ Q) 90 [some (tR 12 0 (some 51)), some (tI v1), some (tI v2), some (tI v3), some (tI v4), some (tI v5), some (tI v6)] [] hh 0 0) (hk144 : ∀ (v2 : Int32) (v4 : Int32) (hh : Hp), k144 v2 v4 hh → Rn l G d 0 0 MX12_passed h0 (qJ Q) 144 [none, none, some (tI v2), none, some (tI v4)] [] hh 0 0) : ∀ {n : Nat} {v1 : Int32} {v2 : Int32} {v3 : Int32} {v4 : Int32} {v5 : Int32} {v6 : Int32} {h : Hp}, m_X12_passed_52 n k90 k144 Q v1 v2 v3 v4 v5 v6 h → Rn l G d 0 0 MX12_passed h0 (qJ Q) 52 [some (tR 12 0 (some 51)), some (tI v1), some (tI v2), some (tI v3), some (tI v4), some (tI v5), some (tI v6)] [] h 0 0 := by
  intro n
  induction n with
  | zero => intro v1 v2 v3 v4 v5 v6 h hm; exact hm.elim
  | succ n ih =>
    intro v1 v2 v3 v4 v5 v6 h hm
    have hk52 := fun (v1 : Int32) (v2 : Int32) (v3 : Int32) (v4 : Int32) (v5 : Int32) (v6 : Int32) (hh : Hp) (hm : m_X12_passed_52 n k90 k144 Q v1 v2 v3 v4 v5 v6 hh) => ih hm
    rw [m_X12_passed_52] at hm
    refine r_iload dX12_passed_52 rfl ?_
    refine r_aload_n dX12_passed_54 rfl rfl ?_
    refine r_getI (k := 55) cl_12 dX12_passed_55 t_1327 (Or.inl rfl) gf_12_55 ?_
    refine r_icmp_ge (tgt := 144) dX12_passed_58 rfl (fun hc => ?_) (fun hc => ?_)
    · replace hm := hm.1 hc
      refine r_keep (L' := [none, none, some (tI v2), none, some (tI v4)]) [false, false, true, false, true] rfl ?_
      exact hk144 _ _ _ hm
    · replace hm := hm.2 hc
      refine r_aload_n dX12_passed_61 rfl rfl ?_
      refine r_aload_n dX12_passed_62 rfl rfl ?_
      refine r_getC (k := 57) cl_12 dX12_passed_63 t_1329 gf_12_57.1 gf_12_57.2 (gc_12_57 _) ?_
      refine r_iload dX12_passed_66 rfl ?_
      refine r_iald dX12_passed_68 hm.1 ?_
      replace hm := hm.2
      refine r_iload_n dX12_passed_69 rfl rfl ?_
      refine r_iload dX12_passed_70 rfl ?_
      refine r_callVI (d' := d - 1) (as := [tI (hI h 85 (ix v6)), tI v1, tI v5]) (st := []) cl_12 dX12_passed_72 mi_X12_rowsOfDeal t_1769 t_1771 ts_92 rfl rfl (Nat.le_of_ble_eq_true rfl) (by omega) ⟨by decide, by decide⟩ ⟨rfl, rfl⟩ (s_X12_rowsOfDeal (by omega) hm) (fun x8 h9 hm => ?_)
      refine r_istore (L' := [some (tR 12 0 (some 51)), some (tI v1), some (tI v2), some (tI v3), some (tI v4), some (tI v5), some (tI v6), some (tI x8)]) dX12_passed_75 (by decide) rfl ?_
      refine r_iload_n dX12_passed_77 rfl rfl ?_
      refine r_if_lt (tgt := 114) dX12_passed_78 rfl (fun hc => ?_) (fun hc => ?_)
      · replace hm := hm.1 hc
        refine r_keep (L' := [some (tR 12 0 (some 51)), some (tI v1), some (tI v2), some (tI v3), some (tI v4), some (tI v5), some (tI v6), some (tI x8)]) [true, true, true, true, true, true, true, true] rfl ?_
        exact s_X12_passed_114 hd hk52 hk90 hk144 hm
      · replace hm := hm.2 hc
        refine r_iload_n dX12_passed_81 rfl rfl ?_
        refine r_iload dX12_passed_82 rfl ?_
        refine r_iload dX12_passed_84 rfl ?_
        refine r_iadd dX12_passed_86 ?_
        refine r_icmp_ge (tgt := 114) dX12_passed_87 rfl (fun hc => ?_) (fun hc => ?_)
        · replace hm := hm.1 hc
          refine r_keep (L' := [some (tR 12 0 (some 51)), some (tI v1), some (tI v2), some (tI v3), some (tI v4), some (tI v5), some (tI v6), some (tI x8)]) [true, true, true, true, true, true, true, true] rfl ?_
          exact s_X12_passed_114 hd hk52 hk90 hk144 hm
        · replace hm := hm.2 hc
          refine r_keep (L' := [some (tR 12 0 (some 51)), some (tI v1), some (tI v2), some (tI v3), some (tI v4), some (tI v5), some (tI v6)]) [true, true, true, true, true, true, true] rfl ?_
          exact hk90 _ _ _ _ _ _ _ hm
def m_X12_passed_33  (Q : Int64 → Hp → Prop) (v1 : Int32) (v2 : Int32) (v3 : Int32) (s0 : Int32) (s1 : Int32) (s2 : Int32) (h : Hp) : Prop := m_X12_within s0 s1 s2 h (fun (x10 : Int32) (h11 : Hp) => (¬ x10 = 0 → ∃ n52, m_X12_passed_52 n52 (m_X12_passed_90 Q) (m_X12_passed_144 Q) Q v1 v2 v3 0 5 0 h11) ∧ (x10 = 0 → Q (-1) h11))
set_option maxHeartbeats 4000000 in
set_option maxRecDepth 100000 in
theorem s_X12_passed_33 {l : Launch} {G : Cx} {d : Nat} {h0 : Hp} (hd : 6 ≤ d) {Q : Int64 → Hp → Prop} {v1 : Int32} {v2 : Int32} {v3 : Int32} {s0 : Int32} {s1 : Int32} {s2 : Int32} {h : Hp} (hm : m_X12_passed_33 Q v1 v2 v3 s0 s1 s2 h) : Rn l G d 0 0 MX12_passed h0 (qJ Q) 33 [some (tR 12 0 (some 51)), some (tI v1), some (tI v2), some (tI v3)] [tI s2, tI s1, tI s0] h 0 0 := by
  unfold m_X12_passed_33 at hm
  refine r_callSI (d' := d - 1) (as := [tI s0, tI s1, tI s2]) (st := []) dX12_passed_33 mi_X12_within t_1557 t_1558 rfl rfl (Nat.le_of_ble_eq_true rfl) (by omega) ⟨by decide, by decide⟩ ⟨rfl, rfl⟩ (s_X12_within (by omega) hm) (fun x10 h11 hm => ?_)
  refine r_if_ne (tgt := 43) dX12_passed_36 rfl (fun hc => ?_) (fun hc => ?_)
  · replace hm := hm.1 hc
    refine r_iconst (v := 0) dX12_passed_43 rfl ?_
    refine r_istore (L' := [some (tR 12 0 (some 51)), some (tI v1), some (tI v2), some (tI v3), some (tI 0)]) dX12_passed_44 (by decide) rfl ?_
    refine r_iconst (v := 5) dX12_passed_46 rfl ?_
    refine r_istore (L' := [some (tR 12 0 (some 51)), some (tI v1), some (tI v2), some (tI v3), some (tI 0), some (tI 5)]) dX12_passed_47 (by decide) rfl ?_
    refine r_iconst (v := 0) dX12_passed_49 rfl ?_
    refine r_istore (L' := [some (tR 12 0 (some 51)), some (tI v1), some (tI v2), some (tI v3), some (tI 0), some (tI 5), some (tI 0)]) dX12_passed_50 (by decide) rfl ?_
    refine r_keep (L' := [some (tR 12 0 (some 51)), some (tI v1), some (tI v2), some (tI v3), some (tI 0), some (tI 5), some (tI 0)]) [true, true, true, true, true, true, true] rfl ?_
    obtain ⟨n, hm⟩ := hm
    refine s_X12_passed_52 hd ?_ ?_ hm
    · exact (fun _ _ _ _ _ _ _ hm => s_X12_passed_90 hd hm)
    · exact (fun _ _ _ hm => s_X12_passed_144 hd hm)
  · replace hm := hm.2 hc
    refine r_ldc2_w dX12_passed_39 t_1580 ?_
    exact r_lreturn dX12_passed_42 rfl ⟨by decide, by decide⟩ ⟨_, rfl, hm⟩
def m_X12_passed (v1 : Int32) (v2 : Int32) (v3 : Int32) (h : Hp) (Q : Int64 → Hp → Prop) : Prop := m_X12_bundleAtHand h (fun (h13 : Hp) => (v1 < 0 → Q (-1) h13) ∧ (¬ v1 < 0 → m_X12_codesAtHand h13 (fun (x14 : Int32) (h15 : Hp) => (x14 ≤ v1 → Q (-1) h15) ∧ (¬ x14 ≤ v1 → (v2 < (-1) → Q (-1) h15) ∧ (¬ v2 < (-1) → (¬ v2 = (-1) → m_X12_passed_33 Q v1 v2 v3 v3 0 4 h15) ∧ (v2 = (-1) → m_X12_passed_33 Q v1 v2 v3 v3 0 0 h15))))))
set_option maxHeartbeats 4000000 in
set_option maxRecDepth 100000 in
theorem s_X12_passed {l : Launch} {G : Cx} {d : Nat} (hd : 6 ≤ d) {v1 : Int32} {v2 : Int32} {v3 : Int32} {h : Hp} {Q : Int64 → Hp → Prop} (hm : m_X12_passed v1 v2 v3 h Q) : Ct l G d 0 0 yX12_passed MX12_passed [tR 12 0 (some 51), tI v1, tI v2, tI v3] h (qJ Q) := by
  unfold m_X12_passed at hm
  refine Ct.of (L := [some (tR 12 0 (some 51)), some (tI v1), some (tI v2), some (tI v3)]) (by decide) rfl rfl (Nat.le_of_ble_eq_true rfl) rfl ?_
  refine r_aload_n dX12_passed_0 rfl rfl ?_
  refine r_callVU (d' := d - 1) (as := []) (st := []) cl_12 dX12_passed_1 mi_X12_bundleAtHand t_1757 t_1759 ts_89 rfl rfl (Nat.le_of_ble_eq_true rfl) (by omega) ⟨by decide, by decide⟩ ⟨rfl, rfl⟩ (s_X12_bundleAtHand (by omega) hm) (fun h13 hm => ?_)
  refine r_iload_n dX12_passed_4 rfl rfl ?_
  refine r_if_lt (tgt := 39) dX12_passed_5 rfl (fun hc => ?_) (fun hc => ?_)
  · replace hm := hm.1 hc
    refine r_ldc2_w dX12_passed_39 t_1580 ?_
    exact r_lreturn dX12_passed_42 rfl ⟨by decide, by decide⟩ ⟨_, rfl, hm⟩
  · replace hm := hm.2 hc
    refine r_iload_n dX12_passed_8 rfl rfl ?_
    refine r_aload_n dX12_passed_9 rfl rfl ?_
    refine r_callVI (d' := d - 1) (as := []) (st := [tI v1]) cl_12 dX12_passed_10 mi_X12_codesAtHand t_1761 t_1763 ts_90 rfl rfl (Nat.le_of_ble_eq_true rfl) (by omega) ⟨by decide, by decide⟩ ⟨rfl, rfl⟩ (s_X12_codesAtHand (by omega) hm) (fun x14 h15 hm => ?_)
    refine r_icmp_ge (tgt := 39) dX12_passed_13 rfl (fun hc => ?_) (fun hc => ?_)
    · replace hm := hm.1 hc
      refine r_ldc2_w dX12_passed_39 t_1580 ?_
      exact r_lreturn dX12_passed_42 rfl ⟨by decide, by decide⟩ ⟨_, rfl, hm⟩
    · replace hm := hm.2 hc
      refine r_iload_n dX12_passed_16 rfl rfl ?_
      refine r_iconst (v := (-1)) dX12_passed_17 rfl ?_
      refine r_icmp_lt (tgt := 39) dX12_passed_18 rfl (fun hc => ?_) (fun hc => ?_)
      · replace hm := hm.1 hc
        refine r_ldc2_w dX12_passed_39 t_1580 ?_
        exact r_lreturn dX12_passed_42 rfl ⟨by decide, by decide⟩ ⟨_, rfl, hm⟩
      · replace hm := hm.2 hc
        refine r_iload_n dX12_passed_21 rfl rfl ?_
        refine r_iconst (v := 0) dX12_passed_22 rfl ?_
        refine r_iload_n dX12_passed_23 rfl rfl ?_
        refine r_iconst (v := (-1)) dX12_passed_24 rfl ?_
        refine r_icmp_ne (tgt := 32) dX12_passed_25 rfl (fun hc => ?_) (fun hc => ?_)
        · replace hm := hm.1 hc
          refine r_iconst (v := 4) dX12_passed_32 rfl ?_
          refine r_keep (L' := [some (tR 12 0 (some 51)), some (tI v1), some (tI v2), some (tI v3)]) [true, true, true, true] rfl ?_
          exact s_X12_passed_33 hd hm
        · replace hm := hm.2 hc
          refine r_iconst (v := 0) dX12_passed_28 rfl ?_
          refine r_goto (tgt := 33) dX12_passed_29 rfl ?_
          refine r_keep (L' := [some (tR 12 0 (some 51)), some (tI v1), some (tI v2), some (tI v3)]) [true, true, true, true] rfl ?_
          exact s_X12_passed_33 hd hm
theorem dX12_net_0 : decode cX12_net 0 = .ok (.aload_n 0, 1) := rfl
theorem dX12_net_1 : decode cX12_net 1 = .ok (.invokevirtual 452, 3) := rfl
theorem dX12_net_4 : decode cX12_net 4 = .ok (.iload_n 1, 1) := rfl
theorem dX12_net_5 : decode cX12_net 5 = .ok (.ifCond .lt 42, 3) := by decide +kernel
theorem dX12_net_8 : decode cX12_net 8 = .ok (.iload_n 1, 1) := rfl
theorem dX12_net_9 : decode cX12_net 9 = .ok (.aload_n 0, 1) := rfl
theorem dX12_net_10 : decode cX12_net 10 = .ok (.invokevirtual 437, 3) := rfl
theorem dX12_net_13 : decode cX12_net 13 = .ok (.if_icmp .ge 34, 3) := by decide +kernel
theorem dX12_net_16 : decode cX12_net 16 = .ok (.iload_n 2, 1) := rfl
theorem dX12_net_17 : decode cX12_net 17 = .ok (.iconst 0, 1) := rfl
theorem dX12_net_18 : decode cX12_net 18 = .ok (.bipush 7, 2) := by decide +kernel
theorem dX12_net_20 : decode cX12_net 20 = .ok (.invokestatic 185, 3) := rfl
theorem dX12_net_23 : decode cX12_net 23 = .ok (.ifCond .eq 24, 3) := by decide +kernel
theorem dX12_net_26 : decode cX12_net 26 = .ok (.iload_n 3, 1) := rfl
theorem dX12_net_27 : decode cX12_net 27 = .ok (.iconst 0, 1) := rfl
theorem dX12_net_28 : decode cX12_net 28 = .ok (.iconst 5, 1) := rfl
theorem dX12_net_29 : decode cX12_net 29 = .ok (.invokestatic 185, 3) := rfl
theorem dX12_net_32 : decode cX12_net 32 = .ok (.ifCond .eq 15, 3) := by decide +kernel
theorem dX12_net_35 : decode cX12_net 35 = .ok (.iload 4, 2) := rfl
theorem dX12_net_37 : decode cX12_net 37 = .ok (.iconst (-1), 1) := rfl
theorem dX12_net_38 : decode cX12_net 38 = .ok (.sipush 9999, 3) := by decide +kernel
theorem dX12_net_41 : decode cX12_net 41 = .ok (.invokestatic 185, 3) := rfl
theorem dX12_net_44 : decode cX12_net 44 = .ok (.ifCond .ne 7, 3) := by decide +kernel
theorem dX12_net_47 : decode cX12_net 47 = .ok (.ldc2_w 466, 3) := rfl
theorem dX12_net_50 : decode cX12_net 50 = .ok (.lreturn, 1) := rfl
theorem dX12_net_51 : decode cX12_net 51 = .ok (.aload_n 0, 1) := rfl
theorem dX12_net_52 : decode cX12_net 52 = .ok (.iload_n 1, 1) := rfl
theorem dX12_net_53 : decode cX12_net 53 = .ok (.invokevirtual 468, 3) := rfl
theorem dX12_net_56 : decode cX12_net 56 = .ok (.aload_n 0, 1) := rfl
theorem dX12_net_57 : decode cX12_net 57 = .ok (.iload_n 2, 1) := rfl
theorem dX12_net_58 : decode cX12_net 58 = .ok (.iload_n 3, 1) := rfl
theorem dX12_net_59 : decode cX12_net 59 = .ok (.iload 4, 2) := rfl
theorem dX12_net_61 : decode cX12_net 61 = .ok (.invokevirtual 471, 3) := rfl
theorem dX12_net_64 : decode cX12_net 64 = .ok (.lreturn, 1) := rfl
def m_X12_net (v1 : Int32) (v2 : Int32) (v3 : Int32) (v4 : Int32) (h : Hp) (Q : Int64 → Hp → Prop) : Prop := m_X12_bundleAtHand h (fun (h2 : Hp) => (v1 < 0 → Q (-1000000000000) h2) ∧ (¬ v1 < 0 → m_X12_codesAtHand h2 (fun (x3 : Int32) (h4 : Hp) => (x3 ≤ v1 → Q (-1000000000000) h4) ∧ (¬ x3 ≤ v1 → m_X12_within v2 0 7 h4 (fun (x5 : Int32) (h6 : Hp) => (x5 = 0 → Q (-1000000000000) h6) ∧ (¬ x5 = 0 → m_X12_within v3 0 5 h6 (fun (x7 : Int32) (h8 : Hp) => (x7 = 0 → Q (-1000000000000) h8) ∧ (¬ x7 = 0 → m_X12_within v4 (-1) 9999 h8 (fun (x9 : Int32) (h10 : Hp) => (¬ x9 = 0 → m_X12_passesAll v1 h10 (fun (h12 : Hp) => m_X12_netOf v2 v3 v4 h12 (fun (x13 : Int64) (h14 : Hp) => Q x13 h14))) ∧ (x9 = 0 → Q (-1000000000000) h10))))))))))
set_option maxHeartbeats 4000000 in
set_option maxRecDepth 100000 in
theorem s_X12_net {l : Launch} {G : Cx} {d : Nat} (hd : 8 ≤ d) {v1 : Int32} {v2 : Int32} {v3 : Int32} {v4 : Int32} {h : Hp} {Q : Int64 → Hp → Prop} (hm : m_X12_net v1 v2 v3 v4 h Q) : Ct l G d 0 0 yX12_net MX12_net [tR 12 0 (some 51), tI v1, tI v2, tI v3, tI v4] h (qJ Q) := by
  unfold m_X12_net at hm
  refine Ct.of (L := [some (tR 12 0 (some 51)), some (tI v1), some (tI v2), some (tI v3), some (tI v4)]) (by decide) rfl rfl (Nat.le_of_ble_eq_true rfl) rfl ?_
  refine r_aload_n dX12_net_0 rfl rfl ?_
  refine r_callVU (d' := d - 1) (as := []) (st := []) cl_12 dX12_net_1 mi_X12_bundleAtHand t_1757 t_1759 ts_89 rfl rfl (Nat.le_of_ble_eq_true rfl) (by omega) ⟨by decide, by decide⟩ ⟨rfl, rfl⟩ (s_X12_bundleAtHand (by omega) hm) (fun h2 hm => ?_)
  refine r_iload_n dX12_net_4 rfl rfl ?_
  refine r_if_lt (tgt := 47) dX12_net_5 rfl (fun hc => ?_) (fun hc => ?_)
  · replace hm := hm.1 hc
    refine r_ldc2_w dX12_net_47 t_1789 ?_
    exact r_lreturn dX12_net_50 rfl ⟨by decide, by decide⟩ ⟨_, rfl, hm⟩
  · replace hm := hm.2 hc
    refine r_iload_n dX12_net_8 rfl rfl ?_
    refine r_aload_n dX12_net_9 rfl rfl ?_
    refine r_callVI (d' := d - 1) (as := []) (st := [tI v1]) cl_12 dX12_net_10 mi_X12_codesAtHand t_1761 t_1763 ts_90 rfl rfl (Nat.le_of_ble_eq_true rfl) (by omega) ⟨by decide, by decide⟩ ⟨rfl, rfl⟩ (s_X12_codesAtHand (by omega) hm) (fun x3 h4 hm => ?_)
    refine r_icmp_ge (tgt := 47) dX12_net_13 rfl (fun hc => ?_) (fun hc => ?_)
    · replace hm := hm.1 hc
      refine r_ldc2_w dX12_net_47 t_1789 ?_
      exact r_lreturn dX12_net_50 rfl ⟨by decide, by decide⟩ ⟨_, rfl, hm⟩
    · replace hm := hm.2 hc
      refine r_iload_n dX12_net_16 rfl rfl ?_
      refine r_iconst (v := 0) dX12_net_17 rfl ?_
      refine r_bipush (v := 7) dX12_net_18 rfl ?_
      refine r_callSI (d' := d - 1) (as := [tI v2, tI 0, tI 7]) (st := []) dX12_net_20 mi_X12_within t_1557 t_1558 rfl rfl (Nat.le_of_ble_eq_true rfl) (by omega) ⟨by decide, by decide⟩ ⟨rfl, rfl⟩ (s_X12_within (by omega) hm) (fun x5 h6 hm => ?_)
      refine r_if_eq (tgt := 47) dX12_net_23 rfl (fun hc => ?_) (fun hc => ?_)
      · replace hm := hm.1 hc
        refine r_ldc2_w dX12_net_47 t_1789 ?_
        exact r_lreturn dX12_net_50 rfl ⟨by decide, by decide⟩ ⟨_, rfl, hm⟩
      · replace hm := hm.2 hc
        refine r_iload_n dX12_net_26 rfl rfl ?_
        refine r_iconst (v := 0) dX12_net_27 rfl ?_
        refine r_iconst (v := 5) dX12_net_28 rfl ?_
        refine r_callSI (d' := d - 1) (as := [tI v3, tI 0, tI 5]) (st := []) dX12_net_29 mi_X12_within t_1557 t_1558 rfl rfl (Nat.le_of_ble_eq_true rfl) (by omega) ⟨by decide, by decide⟩ ⟨rfl, rfl⟩ (s_X12_within (by omega) hm) (fun x7 h8 hm => ?_)
        refine r_if_eq (tgt := 47) dX12_net_32 rfl (fun hc => ?_) (fun hc => ?_)
        · replace hm := hm.1 hc
          refine r_ldc2_w dX12_net_47 t_1789 ?_
          exact r_lreturn dX12_net_50 rfl ⟨by decide, by decide⟩ ⟨_, rfl, hm⟩
        · replace hm := hm.2 hc
          refine r_iload dX12_net_35 rfl ?_
          refine r_iconst (v := (-1)) dX12_net_37 rfl ?_
          refine r_sipush (v := 9999) dX12_net_38 rfl ?_
          refine r_callSI (d' := d - 1) (as := [tI v4, tI (-1), tI 9999]) (st := []) dX12_net_41 mi_X12_within t_1557 t_1558 rfl rfl (Nat.le_of_ble_eq_true rfl) (by omega) ⟨by decide, by decide⟩ ⟨rfl, rfl⟩ (s_X12_within (by omega) hm) (fun x9 h10 hm => ?_)
          refine r_if_ne (tgt := 51) dX12_net_44 rfl (fun hc => ?_) (fun hc => ?_)
          · replace hm := hm.1 hc
            refine r_aload_n dX12_net_51 rfl rfl ?_
            refine r_iload_n dX12_net_52 rfl rfl ?_
            refine r_callVU (d' := d - 1) (as := [tI v1]) (st := []) cl_12 dX12_net_53 mi_X12_passesAll t_1790 t_1792 ts_96 rfl rfl (Nat.le_of_ble_eq_true rfl) (by omega) ⟨by decide, by decide⟩ ⟨rfl, rfl⟩ (s_X12_passesAll (by omega) hm) (fun h12 hm => ?_)
            refine r_aload_n dX12_net_56 rfl rfl ?_
            refine r_iload_n dX12_net_57 rfl rfl ?_
            refine r_iload_n dX12_net_58 rfl rfl ?_
            refine r_iload dX12_net_59 rfl ?_
            refine r_callVJ (d' := d - 1) (as := [tI v2, tI v3, tI v4]) (st := []) cl_12 dX12_net_61 mi_X12_netOf t_1794 t_1796 ts_97 rfl rfl (Nat.le_of_ble_eq_true rfl) (by omega) ⟨by decide, by decide⟩ ⟨rfl, rfl⟩ (s_X12_netOf (by omega) hm) (fun x13 h14 hm => ?_)
            exact r_lreturn dX12_net_64 rfl ⟨by decide, by decide⟩ ⟨_, rfl, hm⟩
          · replace hm := hm.2 hc
            refine r_ldc2_w dX12_net_47 t_1789 ?_
            exact r_lreturn dX12_net_50 rfl ⟨by decide, by decide⟩ ⟨_, rfl, hm⟩
theorem dX12_codes_0 : decode cX12_codes 0 = .ok (.aload_n 0, 1) := rfl
theorem dX12_codes_1 : decode cX12_codes 1 = .ok (.invokevirtual 452, 3) := rfl
theorem dX12_codes_4 : decode cX12_codes 4 = .ok (.aload_n 0, 1) := rfl
theorem dX12_codes_5 : decode cX12_codes 5 = .ok (.invokevirtual 474, 3) := rfl
theorem dX12_codes_8 : decode cX12_codes 8 = .ok (.ifCond .eq 20, 3) := by decide +kernel
theorem dX12_codes_11 : decode cX12_codes 11 = .ok (.iconst 1, 1) := rfl
theorem dX12_codes_12 : decode cX12_codes 12 = .ok (.aload_n 0, 1) := rfl
theorem dX12_codes_13 : decode cX12_codes 13 = .ok (.invokevirtual 428, 3) := rfl
theorem dX12_codes_16 : decode cX12_codes 16 = .ok (.invokestatic 431, 3) := rfl
theorem dX12_codes_19 : decode cX12_codes 19 = .ok (.aload_n 0, 1) := rfl
theorem dX12_codes_20 : decode cX12_codes 20 = .ok (.invokevirtual 434, 3) := rfl
theorem dX12_codes_23 : decode cX12_codes 23 = .ok (.iadd, 1) := rfl
theorem dX12_codes_24 : decode cX12_codes 24 = .ok (.ishl, 1) := rfl
theorem dX12_codes_25 : decode cX12_codes 25 = .ok (.goto 4, 3) := by decide +kernel
theorem dX12_codes_28 : decode cX12_codes 28 = .ok (.iconst (-1), 1) := rfl
theorem dX12_codes_29 : decode cX12_codes 29 = .ok (.ireturn, 1) := rfl
def m_X12_codes  (h : Hp) (Q : Int32 → Hp → Prop) : Prop := m_X12_bundleAtHand h (fun (h2 : Hp) => m_X12_isLookedAt h2 (fun (x3 : Int32) (h4 : Hp) => (x3 = 0 → Q (-1) h4) ∧ (¬ x3 = 0 → m_X12_eventsAtHand h4 (fun (x5 : Int32) (h6 : Hp) => m_X12_bitsOf x5 h6 (fun (x7 : Int32) (h8 : Hp) => m_X12_choicesAtHand h8 (fun (x9 : Int32) (h10 : Hp) => Q (1 <<< ((x7 + x9) &&& 31)) h10))))))
set_option maxHeartbeats 4000000 in
set_option maxRecDepth 100000 in
theorem s_X12_codes {l : Launch} {G : Cx} {d : Nat} (hd : 6 ≤ d) {h : Hp} {Q : Int32 → Hp → Prop} (hm : m_X12_codes h Q) : Ct l G d 0 0 yX12_codes MX12_codes [tR 12 0 (some 51)] h (qI Q) := by
  unfold m_X12_codes at hm
  refine Ct.of (L := [some (tR 12 0 (some 51))]) (by decide) rfl rfl (Nat.le_of_ble_eq_true rfl) rfl ?_
  refine r_aload_n dX12_codes_0 rfl rfl ?_
  refine r_callVU (d' := d - 1) (as := []) (st := []) cl_12 dX12_codes_1 mi_X12_bundleAtHand t_1757 t_1759 ts_89 rfl rfl (Nat.le_of_ble_eq_true rfl) (by omega) ⟨by decide, by decide⟩ ⟨rfl, rfl⟩ (s_X12_bundleAtHand (by omega) hm) (fun h2 hm => ?_)
  refine r_aload_n dX12_codes_4 rfl rfl ?_
  refine r_callVI (d' := d - 1) (as := []) (st := []) cl_12 dX12_codes_5 mi_X12_isLookedAt t_1802 t_1804 ts_98 rfl rfl (Nat.le_of_ble_eq_true rfl) (by omega) ⟨by decide, by decide⟩ ⟨rfl, rfl⟩ (s_X12_isLookedAt (by omega) hm) (fun x3 h4 hm => ?_)
  refine r_if_eq (tgt := 28) dX12_codes_8 rfl (fun hc => ?_) (fun hc => ?_)
  · replace hm := hm.1 hc
    refine r_iconst (v := (-1)) dX12_codes_28 rfl ?_
    exact r_ireturn dX12_codes_29 rfl ⟨by decide, by decide⟩ ⟨_, rfl, hm⟩
  · replace hm := hm.2 hc
    refine r_iconst (v := 1) dX12_codes_11 rfl ?_
    refine r_aload_n dX12_codes_12 rfl rfl ?_
    refine r_callVI (d' := d - 1) (as := []) (st := [tI 1]) cl_12 dX12_codes_13 mi_X12_eventsAtHand t_1806 t_1808 ts_99 rfl rfl (Nat.le_of_ble_eq_true rfl) (by omega) ⟨by decide, by decide⟩ ⟨rfl, rfl⟩ (s_X12_eventsAtHand (by omega) hm) (fun x5 h6 hm => ?_)
    refine r_callSI (d' := d - 1) (as := [tI x5]) (st := [tI 1]) dX12_codes_16 mi_X12_bitsOf t_1810 t_1811 rfl rfl (Nat.le_of_ble_eq_true rfl) (by omega) ⟨by decide, by decide⟩ ⟨rfl, rfl⟩ (s_X12_bitsOf (by omega) hm) (fun x7 h8 hm => ?_)
    refine r_aload_n dX12_codes_19 rfl rfl ?_
    refine r_callVI (d' := d - 1) (as := []) (st := [tI x7, tI 1]) cl_12 dX12_codes_20 mi_X12_choicesAtHand t_1765 t_1767 ts_91 rfl rfl (Nat.le_of_ble_eq_true rfl) (by omega) ⟨by decide, by decide⟩ ⟨rfl, rfl⟩ (s_X12_choicesAtHand (by omega) hm) (fun x9 h10 hm => ?_)
    refine r_iadd dX12_codes_23 ?_
    refine r_ishl dX12_codes_24 ?_
    refine r_goto (tgt := 29) dX12_codes_25 rfl ?_
    exact r_ireturn dX12_codes_29 rfl ⟨by decide, by decide⟩ ⟨_, rfl, hm⟩
theorem dX12_findDays_0 : decode cX12_findDays 0 = .ok (.aload_n 0, 1) := by decide +kernel
theorem dX12_findDays_1 : decode cX12_findDays 1 = .ok (.iconst 0, 1) := by decide +kernel
theorem dX12_findDays_2 : decode cX12_findDays 2 = .ok (.putfield 477, 3) := by decide +kernel
theorem dX12_findDays_5 : decode cX12_findDays 5 = .ok (.iconst 0, 1) := by decide +kernel
theorem dX12_findDays_6 : decode cX12_findDays 6 = .ok (.istore_n 1, 1) := by decide +kernel
theorem dX12_findDays_7 : decode cX12_findDays 7 = .ok (.iload_n 1, 1) := by decide +kernel
theorem dX12_findDays_8 : decode cX12_findDays 8 = .ok (.aload_n 0, 1) := by decide +kernel
theorem dX12_findDays_9 : decode cX12_findDays 9 = .ok (.getfield 404, 3) := by decide +kernel
theorem dX12_findDays_12 : decode cX12_findDays 12 = .ok (.if_icmp .ge 130, 3) := by decide +kernel
theorem dX12_findDays_15 : decode cX12_findDays 15 = .ok (.aload_n 0, 1) := by decide +kernel
theorem dX12_findDays_16 : decode cX12_findDays 16 = .ok (.getfield 106, 3) := by decide +kernel
theorem dX12_findDays_19 : decode cX12_findDays 19 = .ok (.iload_n 1, 1) := by decide +kernel
theorem dX12_findDays_20 : decode cX12_findDays 20 = .ok (.iaload, 1) := by decide +kernel
theorem dX12_findDays_21 : decode cX12_findDays 21 = .ok (.ifCond .eq 6, 3) := by decide +kernel
theorem dX12_findDays_24 : decode cX12_findDays 24 = .ok (.goto 112, 3) := by decide +kernel
theorem dX12_findDays_27 : decode cX12_findDays 27 = .ok (.iconst 0, 1) := by decide +kernel
theorem dX12_findDays_28 : decode cX12_findDays 28 = .ok (.istore_n 2, 1) := by decide +kernel
theorem dX12_findDays_29 : decode cX12_findDays 29 = .ok (.iload_n 2, 1) := by decide +kernel
theorem dX12_findDays_30 : decode cX12_findDays 30 = .ok (.aload_n 0, 1) := by decide +kernel
theorem dX12_findDays_31 : decode cX12_findDays 31 = .ok (.getfield 477, 3) := by decide +kernel
theorem dX12_findDays_34 : decode cX12_findDays 34 = .ok (.if_icmp .ge 24, 3) := by decide +kernel
theorem dX12_findDays_37 : decode cX12_findDays 37 = .ok (.aload_n 0, 1) := by decide +kernel
theorem dX12_findDays_38 : decode cX12_findDays 38 = .ok (.getfield 119, 3) := by decide +kernel
theorem dX12_findDays_41 : decode cX12_findDays 41 = .ok (.iload_n 2, 1) := by decide +kernel
theorem dX12_findDays_42 : decode cX12_findDays 42 = .ok (.iaload, 1) := by decide +kernel
theorem dX12_findDays_43 : decode cX12_findDays 43 = .ok (.aload_n 0, 1) := by decide +kernel
theorem dX12_findDays_44 : decode cX12_findDays 44 = .ok (.getfield 97, 3) := by decide +kernel
theorem dX12_findDays_47 : decode cX12_findDays 47 = .ok (.iload_n 1, 1) := by decide +kernel
theorem dX12_findDays_48 : decode cX12_findDays 48 = .ok (.iaload, 1) := by decide +kernel
theorem dX12_findDays_49 : decode cX12_findDays 49 = .ok (.if_icmp .ge 9, 3) := by decide +kernel
theorem dX12_findDays_52 : decode cX12_findDays 52 = .ok (.iinc 2 1, 3) := by decide +kernel
theorem dX12_findDays_55 : decode cX12_findDays 55 = .ok (.goto (-26), 3) := by decide +kernel
theorem dX12_findDays_58 : decode cX12_findDays 58 = .ok (.iload_n 2, 1) := by decide +kernel
theorem dX12_findDays_59 : decode cX12_findDays 59 = .ok (.aload_n 0, 1) := by decide +kernel
theorem dX12_findDays_60 : decode cX12_findDays 60 = .ok (.getfield 477, 3) := by decide +kernel
theorem dX12_findDays_63 : decode cX12_findDays 63 = .ok (.if_icmp .ge 21, 3) := by decide +kernel
theorem dX12_findDays_66 : decode cX12_findDays 66 = .ok (.aload_n 0, 1) := by decide +kernel
theorem dX12_findDays_67 : decode cX12_findDays 67 = .ok (.getfield 119, 3) := by decide +kernel
theorem dX12_findDays_70 : decode cX12_findDays 70 = .ok (.iload_n 2, 1) := by decide +kernel
theorem dX12_findDays_71 : decode cX12_findDays 71 = .ok (.iaload, 1) := by decide +kernel
theorem dX12_findDays_72 : decode cX12_findDays 72 = .ok (.aload_n 0, 1) := by decide +kernel
theorem dX12_findDays_73 : decode cX12_findDays 73 = .ok (.getfield 97, 3) := by decide +kernel
theorem dX12_findDays_76 : decode cX12_findDays 76 = .ok (.iload_n 1, 1) := by decide +kernel
theorem dX12_findDays_77 : decode cX12_findDays 77 = .ok (.iaload, 1) := by decide +kernel
theorem dX12_findDays_78 : decode cX12_findDays 78 = .ok (.if_icmp .ne 6, 3) := by decide +kernel
theorem dX12_findDays_81 : decode cX12_findDays 81 = .ok (.goto 55, 3) := by decide +kernel
theorem dX12_findDays_84 : decode cX12_findDays 84 = .ok (.aload_n 0, 1) := by decide +kernel
theorem dX12_findDays_85 : decode cX12_findDays 85 = .ok (.getfield 477, 3) := by decide +kernel
theorem dX12_findDays_88 : decode cX12_findDays 88 = .ok (.istore_n 3, 1) := by decide +kernel
theorem dX12_findDays_89 : decode cX12_findDays 89 = .ok (.iload_n 3, 1) := by decide +kernel
theorem dX12_findDays_90 : decode cX12_findDays 90 = .ok (.iload_n 2, 1) := by decide +kernel
theorem dX12_findDays_91 : decode cX12_findDays 91 = .ok (.if_icmp .le 23, 3) := by decide +kernel
theorem dX12_findDays_94 : decode cX12_findDays 94 = .ok (.aload_n 0, 1) := by decide +kernel
theorem dX12_findDays_95 : decode cX12_findDays 95 = .ok (.getfield 119, 3) := by decide +kernel
theorem dX12_findDays_98 : decode cX12_findDays 98 = .ok (.iload_n 3, 1) := by decide +kernel
theorem dX12_findDays_99 : decode cX12_findDays 99 = .ok (.aload_n 0, 1) := by decide +kernel
theorem dX12_findDays_100 : decode cX12_findDays 100 = .ok (.getfield 119, 3) := by decide +kernel
theorem dX12_findDays_103 : decode cX12_findDays 103 = .ok (.iload_n 3, 1) := by decide +kernel
theorem dX12_findDays_104 : decode cX12_findDays 104 = .ok (.iconst 1, 1) := by decide +kernel
theorem dX12_findDays_105 : decode cX12_findDays 105 = .ok (.isub, 1) := by decide +kernel
theorem dX12_findDays_106 : decode cX12_findDays 106 = .ok (.iaload, 1) := by decide +kernel
theorem dX12_findDays_107 : decode cX12_findDays 107 = .ok (.iastore, 1) := by decide +kernel
theorem dX12_findDays_108 : decode cX12_findDays 108 = .ok (.iinc 3 (-1), 3) := by decide +kernel
theorem dX12_findDays_111 : decode cX12_findDays 111 = .ok (.goto (-22), 3) := by decide +kernel
theorem dX12_findDays_114 : decode cX12_findDays 114 = .ok (.aload_n 0, 1) := by decide +kernel
theorem dX12_findDays_115 : decode cX12_findDays 115 = .ok (.getfield 119, 3) := by decide +kernel
theorem dX12_findDays_118 : decode cX12_findDays 118 = .ok (.iload_n 2, 1) := by decide +kernel
theorem dX12_findDays_119 : decode cX12_findDays 119 = .ok (.aload_n 0, 1) := by decide +kernel
theorem dX12_findDays_120 : decode cX12_findDays 120 = .ok (.getfield 97, 3) := by decide +kernel
theorem dX12_findDays_123 : decode cX12_findDays 123 = .ok (.iload_n 1, 1) := by decide +kernel
theorem dX12_findDays_124 : decode cX12_findDays 124 = .ok (.iaload, 1) := by decide +kernel
theorem dX12_findDays_125 : decode cX12_findDays 125 = .ok (.iastore, 1) := by decide +kernel
theorem dX12_findDays_126 : decode cX12_findDays 126 = .ok (.aload_n 0, 1) := by decide +kernel
theorem dX12_findDays_127 : decode cX12_findDays 127 = .ok (.dup, 1) := by decide +kernel
theorem dX12_findDays_128 : decode cX12_findDays 128 = .ok (.getfield 477, 3) := by decide +kernel
theorem dX12_findDays_131 : decode cX12_findDays 131 = .ok (.iconst 1, 1) := by decide +kernel
theorem dX12_findDays_132 : decode cX12_findDays 132 = .ok (.iadd, 1) := by decide +kernel
theorem dX12_findDays_133 : decode cX12_findDays 133 = .ok (.putfield 477, 3) := by decide +kernel
theorem dX12_findDays_136 : decode cX12_findDays 136 = .ok (.iinc 1 1, 3) := by decide +kernel
theorem dX12_findDays_139 : decode cX12_findDays 139 = .ok (.goto (-132), 3) := by decide +kernel
theorem dX12_findDays_142 : decode cX12_findDays 142 = .ok (.return_, 1) := by decide +kernel
def m_X12_findDays_136 (k7 : Int32 → Hp → Prop) (Q : Hp → Prop) (v1 : Int32) (h : Hp) : Prop := ∀ x1 : Int32, x1 = v1 + 1 → k7 x1 h
set_option maxHeartbeats 4000000 in
set_option maxRecDepth 100000 in
theorem s_X12_findDays_136 {l : Launch} {G : Cx} {d : Nat} {h0 : Hp} (hd : 2 ≤ d) {k7 : Int32 → Hp → Prop} {Q : Hp → Prop} (hk7 : ∀ (v1 : Int32) (hh : Hp), k7 v1 hh → Rn l G d 0 0 MX12_findDays h0 (qV Q) 7 [some (tR 12 0 (some 51)), some (tI v1)] [] hh 0 0) {v1 : Int32} {h : Hp} (hm : m_X12_findDays_136 k7 Q v1 h) : Rn l G d 0 0 MX12_findDays h0 (qV Q) 136 [some (tR 12 0 (some 51)), some (tI v1)] [] h 0 0 := by
  unfold m_X12_findDays_136 at hm
  obtain ⟨x1, e_x1⟩ : ∃ y : Int32, y = v1 + 1 := ⟨_, rfl⟩
  replace hm := hm x1 e_x1
  refine r_iinc (L' := [some (tR 12 0 (some 51)), some (tI x1)]) dX12_findDays_136 rfl (by rw [e_x1]; rfl) (by decide) rfl ?_
  refine r_goto (tgt := 7) dX12_findDays_139 rfl ?_
  refine r_keep (L' := [some (tR 12 0 (some 51)), some (tI x1)]) [true, true] rfl ?_
  exact hk7 _ _ hm
def m_X12_findDays_114 (k7 : Int32 → Hp → Prop) (Q : Hp → Prop) (v1 : Int32) (v2 : Int32) (h : Hp) : Prop := vp_in v1 256 ∧ (vp_in v2 256 ∧ (m_X12_findDays_136 k7 Q v1 (wI (wI h 86 (ix v2) (hI h 79 (ix v1))) 51 61 ((hI (wI h 86 (ix v2) (hI h 79 (ix v1))) 51 61) + 1))))
set_option maxHeartbeats 4000000 in
set_option maxRecDepth 100000 in
theorem s_X12_findDays_114 {l : Launch} {G : Cx} {d : Nat} {h0 : Hp} (hd : 2 ≤ d) {k7 : Int32 → Hp → Prop} {Q : Hp → Prop} (hk7 : ∀ (v1 : Int32) (hh : Hp), k7 v1 hh → Rn l G d 0 0 MX12_findDays h0 (qV Q) 7 [some (tR 12 0 (some 51)), some (tI v1)] [] hh 0 0) {v1 : Int32} {v2 : Int32} {h : Hp} (hm : m_X12_findDays_114 k7 Q v1 v2 h) : Rn l G d 0 0 MX12_findDays h0 (qV Q) 114 [some (tR 12 0 (some 51)), some (tI v1), some (tI v2)] [] h 0 0 := by
  unfold m_X12_findDays_114 at hm
  refine r_aload_n dX12_findDays_114 rfl rfl ?_
  refine r_getC (k := 62) cl_12 dX12_findDays_115 t_1334 gf_12_62.1 gf_12_62.2 (gc_12_62 _) ?_
  refine r_iload_n dX12_findDays_118 rfl rfl ?_
  refine r_aload_n dX12_findDays_119 rfl rfl ?_
  refine r_getC (k := 49) cl_12 dX12_findDays_120 t_1321 gf_12_49.1 gf_12_49.2 (gc_12_49 _) ?_
  refine r_iload_n dX12_findDays_123 rfl rfl ?_
  refine r_iald dX12_findDays_124 hm.1 ?_
  replace hm := hm.2
  refine r_iast dX12_findDays_125 hm.1 ?_
  replace hm := hm.2
  refine r_aload_n dX12_findDays_126 rfl rfl ?_
  refine r_dup dX12_findDays_127 cv_cat1R ?_
  refine r_getI (k := 61) cl_12 dX12_findDays_128 t_1333 (Or.inl rfl) gf_12_61 ?_
  refine r_iconst (v := 1) dX12_findDays_131 rfl ?_
  refine r_iadd dX12_findDays_132 ?_
  refine r_putI0 (k := 61) cl_12 dX12_findDays_133 t_1333 (Or.inl rfl) gf_12_61 pf_12_61.1 (Or.inl pf_12_61.2) ?_
  refine r_keep (L' := [some (tR 12 0 (some 51)), some (tI v1)]) [true, true] rfl ?_
  exact s_X12_findDays_136 hd hk7 hm
def m_X12_findDays_89 : Nat → (Int32 → Int32 → Hp → Prop) → (Hp → Prop) → Int32 → Int32 → Int32 → Hp → Prop
  | 0, _, _, _, _, _, _ => False
  | n + 1, k114, Q, v1, v2, v3, h => (v3 ≤ v2 → k114 v1 v2 h) ∧ (¬ v3 ≤ v2 → vp_in (v3 - 1) 256 ∧ (vp_in v3 256 ∧ (∀ x2 : Int32, x2 = v3 + (-1) → m_X12_findDays_89 n k114 Q v1 v2 x2 (wI h 86 (ix v3) (hI h 86 (ix (v3 - 1)))))))
set_option maxHeartbeats 4000000 in
set_option maxRecDepth 100000 in
theorem s_X12_findDays_89 {l : Launch} {G : Cx} {d : Nat} {h0 : Hp} (hd : 2 ≤ d) {k114 : Int32 → Int32 → Hp → Prop} {Q : Hp → Prop} (hk114 : ∀ (v1 : Int32) (v2 : Int32) (hh : Hp), k114 v1 v2 hh → Rn l G d 0 0 MX12_findDays h0 (qV Q) 114 [some (tR 12 0 (some 51)), some (tI v1), some (tI v2)] [] hh 0 0) : ∀ {n : Nat} {v1 : Int32} {v2 : Int32} {v3 : Int32} {h : Hp}, m_X12_findDays_89 n k114 Q v1 v2 v3 h → Rn l G d 0 0 MX12_findDays h0 (qV Q) 89 [some (tR 12 0 (some 51)), some (tI v1), some (tI v2), some (tI v3)] [] h 0 0 := by
  intro n
  induction n with
  | zero => intro v1 v2 v3 h hm; exact hm.elim
  | succ n ih =>
    intro v1 v2 v3 h hm
    have hk89 := fun (v1 : Int32) (v2 : Int32) (v3 : Int32) (hh : Hp) (hm : m_X12_findDays_89 n k114 Q v1 v2 v3 hh) => ih hm
    rw [m_X12_findDays_89] at hm
    refine r_iload_n dX12_findDays_89 rfl rfl ?_
    refine r_iload_n dX12_findDays_90 rfl rfl ?_
    refine r_icmp_le (tgt := 114) dX12_findDays_91 rfl (fun hc => ?_) (fun hc => ?_)
    · replace hm := hm.1 hc
      refine r_keep (L' := [some (tR 12 0 (some 51)), some (tI v1), some (tI v2)]) [true, true, true] rfl ?_
      exact hk114 _ _ _ hm
    · replace hm := hm.2 hc
      refine r_aload_n dX12_findDays_94 rfl rfl ?_
      refine r_getC (k := 62) cl_12 dX12_findDays_95 t_1334 gf_12_62.1 gf_12_62.2 (gc_12_62 _) ?_
      refine r_iload_n dX12_findDays_98 rfl rfl ?_
      refine r_aload_n dX12_findDays_99 rfl rfl ?_
      refine r_getC (k := 62) cl_12 dX12_findDays_100 t_1334 gf_12_62.1 gf_12_62.2 (gc_12_62 _) ?_
      refine r_iload_n dX12_findDays_103 rfl rfl ?_
      refine r_iconst (v := 1) dX12_findDays_104 rfl ?_
      refine r_isub dX12_findDays_105 ?_
      refine r_iald dX12_findDays_106 hm.1 ?_
      replace hm := hm.2
      refine r_iast dX12_findDays_107 hm.1 ?_
      replace hm := hm.2
      obtain ⟨x2, e_x2⟩ : ∃ y : Int32, y = v3 + (-1) := ⟨_, rfl⟩
      replace hm := hm x2 e_x2
      refine r_iinc (L' := [some (tR 12 0 (some 51)), some (tI v1), some (tI v2), some (tI x2)]) dX12_findDays_108 rfl (by rw [e_x2]; rfl) (by decide) rfl ?_
      refine r_goto (tgt := 89) dX12_findDays_111 rfl ?_
      refine r_keep (L' := [some (tR 12 0 (some 51)), some (tI v1), some (tI v2), some (tI x2)]) [true, true, true, true] rfl ?_
      exact hk89 _ _ _ _ hm
def m_X12_findDays_84 (k7 : Int32 → Hp → Prop) (Q : Hp → Prop) (v1 : Int32) (v2 : Int32) (h : Hp) : Prop := ∀ x3 : Int32, x3 = (hI h 51 61) → ∃ n89, m_X12_findDays_89 n89 (m_X12_findDays_114 k7 Q) Q v1 v2 x3 h
set_option maxHeartbeats 4000000 in
set_option maxRecDepth 100000 in
theorem s_X12_findDays_84 {l : Launch} {G : Cx} {d : Nat} {h0 : Hp} (hd : 2 ≤ d) {k7 : Int32 → Hp → Prop} {Q : Hp → Prop} (hk7 : ∀ (v1 : Int32) (hh : Hp), k7 v1 hh → Rn l G d 0 0 MX12_findDays h0 (qV Q) 7 [some (tR 12 0 (some 51)), some (tI v1)] [] hh 0 0) {v1 : Int32} {v2 : Int32} {h : Hp} (hm : m_X12_findDays_84 k7 Q v1 v2 h) : Rn l G d 0 0 MX12_findDays h0 (qV Q) 84 [some (tR 12 0 (some 51)), some (tI v1), some (tI v2)] [] h 0 0 := by
  unfold m_X12_findDays_84 at hm
  refine r_aload_n dX12_findDays_84 rfl rfl ?_
  refine r_getI (k := 61) cl_12 dX12_findDays_85 t_1333 (Or.inl rfl) gf_12_61 ?_
  refine r_nmI (fun x3 e_x3 => ?_)
  replace hm := hm x3 e_x3
  refine r_istore_n (L' := [some (tR 12 0 (some 51)), some (tI v1), some (tI v2), some (tI x3)]) dX12_findDays_88 rfl (by decide) rfl ?_
  refine r_keep (L' := [some (tR 12 0 (some 51)), some (tI v1), some (tI v2), some (tI x3)]) [true, true, true, true] rfl ?_
  obtain ⟨n, hm⟩ := hm
  refine s_X12_findDays_89 hd ?_ hm
  · exact (fun _ _ _ hm => s_X12_findDays_114 hd hk7 hm)
def m_X12_findDays_58 (k7 : Int32 → Hp → Prop) (Q : Hp → Prop) (v1 : Int32) (v2 : Int32) (h : Hp) : Prop := ((hI h 51 61) ≤ v2 → m_X12_findDays_84 k7 Q v1 v2 h) ∧ (¬ (hI h 51 61) ≤ v2 → vp_in v2 256 ∧ (vp_in v1 256 ∧ ((¬ (hI h 86 (ix v2)) = (hI h 79 (ix v1)) → m_X12_findDays_84 k7 Q v1 v2 h) ∧ ((hI h 86 (ix v2)) = (hI h 79 (ix v1)) → m_X12_findDays_136 k7 Q v1 h))))
set_option maxHeartbeats 4000000 in
set_option maxRecDepth 100000 in
theorem s_X12_findDays_58 {l : Launch} {G : Cx} {d : Nat} {h0 : Hp} (hd : 2 ≤ d) {k7 : Int32 → Hp → Prop} {Q : Hp → Prop} (hk7 : ∀ (v1 : Int32) (hh : Hp), k7 v1 hh → Rn l G d 0 0 MX12_findDays h0 (qV Q) 7 [some (tR 12 0 (some 51)), some (tI v1)] [] hh 0 0) {v1 : Int32} {v2 : Int32} {h : Hp} (hm : m_X12_findDays_58 k7 Q v1 v2 h) : Rn l G d 0 0 MX12_findDays h0 (qV Q) 58 [some (tR 12 0 (some 51)), some (tI v1), some (tI v2)] [] h 0 0 := by
  unfold m_X12_findDays_58 at hm
  refine r_iload_n dX12_findDays_58 rfl rfl ?_
  refine r_aload_n dX12_findDays_59 rfl rfl ?_
  refine r_getI (k := 61) cl_12 dX12_findDays_60 t_1333 (Or.inl rfl) gf_12_61 ?_
  refine r_icmp_ge (tgt := 84) dX12_findDays_63 rfl (fun hc => ?_) (fun hc => ?_)
  · replace hm := hm.1 hc
    refine r_keep (L' := [some (tR 12 0 (some 51)), some (tI v1), some (tI v2)]) [true, true, true] rfl ?_
    exact s_X12_findDays_84 hd hk7 hm
  · replace hm := hm.2 hc
    refine r_aload_n dX12_findDays_66 rfl rfl ?_
    refine r_getC (k := 62) cl_12 dX12_findDays_67 t_1334 gf_12_62.1 gf_12_62.2 (gc_12_62 _) ?_
    refine r_iload_n dX12_findDays_70 rfl rfl ?_
    refine r_iald dX12_findDays_71 hm.1 ?_
    replace hm := hm.2
    refine r_aload_n dX12_findDays_72 rfl rfl ?_
    refine r_getC (k := 49) cl_12 dX12_findDays_73 t_1321 gf_12_49.1 gf_12_49.2 (gc_12_49 _) ?_
    refine r_iload_n dX12_findDays_76 rfl rfl ?_
    refine r_iald dX12_findDays_77 hm.1 ?_
    replace hm := hm.2
    refine r_icmp_ne (tgt := 84) dX12_findDays_78 rfl (fun hc => ?_) (fun hc => ?_)
    · replace hm := hm.1 hc
      refine r_keep (L' := [some (tR 12 0 (some 51)), some (tI v1), some (tI v2)]) [true, true, true] rfl ?_
      exact s_X12_findDays_84 hd hk7 hm
    · replace hm := hm.2 hc
      refine r_goto (tgt := 136) dX12_findDays_81 rfl ?_
      refine r_keep (L' := [some (tR 12 0 (some 51)), some (tI v1)]) [true, true] rfl ?_
      exact s_X12_findDays_136 hd hk7 hm
def m_X12_findDays_29 : Nat → (Int32 → Int32 → Hp → Prop) → (Hp → Prop) → Int32 → Int32 → Hp → Prop
  | 0, _, _, _, _, _ => False
  | n + 1, k58, Q, v1, v2, h => ((hI h 51 61) ≤ v2 → k58 v1 v2 h) ∧ (¬ (hI h 51 61) ≤ v2 → vp_in v2 256 ∧ (vp_in v1 256 ∧ (((hI h 79 (ix v1)) ≤ (hI h 86 (ix v2)) → k58 v1 v2 h) ∧ (¬ (hI h 79 (ix v1)) ≤ (hI h 86 (ix v2)) → ∀ x4 : Int32, x4 = v2 + 1 → m_X12_findDays_29 n k58 Q v1 x4 h))))
set_option maxHeartbeats 4000000 in
set_option maxRecDepth 100000 in
theorem s_X12_findDays_29 {l : Launch} {G : Cx} {d : Nat} {h0 : Hp} (hd : 2 ≤ d) {k58 : Int32 → Int32 → Hp → Prop} {Q : Hp → Prop} (hk58 : ∀ (v1 : Int32) (v2 : Int32) (hh : Hp), k58 v1 v2 hh → Rn l G d 0 0 MX12_findDays h0 (qV Q) 58 [some (tR 12 0 (some 51)), some (tI v1), some (tI v2)] [] hh 0 0) : ∀ {n : Nat} {v1 : Int32} {v2 : Int32} {h : Hp}, m_X12_findDays_29 n k58 Q v1 v2 h → Rn l G d 0 0 MX12_findDays h0 (qV Q) 29 [some (tR 12 0 (some 51)), some (tI v1), some (tI v2)] [] h 0 0 := by
  intro n
  induction n with
  | zero => intro v1 v2 h hm; exact hm.elim
  | succ n ih =>
    intro v1 v2 h hm
    have hk29 := fun (v1 : Int32) (v2 : Int32) (hh : Hp) (hm : m_X12_findDays_29 n k58 Q v1 v2 hh) => ih hm
    rw [m_X12_findDays_29] at hm
    refine r_iload_n dX12_findDays_29 rfl rfl ?_
    refine r_aload_n dX12_findDays_30 rfl rfl ?_
    refine r_getI (k := 61) cl_12 dX12_findDays_31 t_1333 (Or.inl rfl) gf_12_61 ?_
    refine r_icmp_ge (tgt := 58) dX12_findDays_34 rfl (fun hc => ?_) (fun hc => ?_)
    · replace hm := hm.1 hc
      refine r_keep (L' := [some (tR 12 0 (some 51)), some (tI v1), some (tI v2)]) [true, true, true] rfl ?_
      exact hk58 _ _ _ hm
    · replace hm := hm.2 hc
      refine r_aload_n dX12_findDays_37 rfl rfl ?_
      refine r_getC (k := 62) cl_12 dX12_findDays_38 t_1334 gf_12_62.1 gf_12_62.2 (gc_12_62 _) ?_
      refine r_iload_n dX12_findDays_41 rfl rfl ?_
      refine r_iald dX12_findDays_42 hm.1 ?_
      replace hm := hm.2
      refine r_aload_n dX12_findDays_43 rfl rfl ?_
      refine r_getC (k := 49) cl_12 dX12_findDays_44 t_1321 gf_12_49.1 gf_12_49.2 (gc_12_49 _) ?_
      refine r_iload_n dX12_findDays_47 rfl rfl ?_
      refine r_iald dX12_findDays_48 hm.1 ?_
      replace hm := hm.2
      refine r_icmp_ge (tgt := 58) dX12_findDays_49 rfl (fun hc => ?_) (fun hc => ?_)
      · replace hm := hm.1 hc
        refine r_keep (L' := [some (tR 12 0 (some 51)), some (tI v1), some (tI v2)]) [true, true, true] rfl ?_
        exact hk58 _ _ _ hm
      · replace hm := hm.2 hc
        obtain ⟨x4, e_x4⟩ : ∃ y : Int32, y = v2 + 1 := ⟨_, rfl⟩
        replace hm := hm x4 e_x4
        refine r_iinc (L' := [some (tR 12 0 (some 51)), some (tI v1), some (tI x4)]) dX12_findDays_52 rfl (by rw [e_x4]; rfl) (by decide) rfl ?_
        refine r_goto (tgt := 29) dX12_findDays_55 rfl ?_
        refine r_keep (L' := [some (tR 12 0 (some 51)), some (tI v1), some (tI x4)]) [true, true, true] rfl ?_
        exact hk29 _ _ _ hm
def m_X12_findDays_7 : Nat → (Hp → Prop) → Int32 → Hp → Prop
  | 0, _, _, _ => False
  | n + 1, Q, v1, h => ((hI h 51 48) ≤ v1 → Q h) ∧ (¬ (hI h 51 48) ≤ v1 → vp_in v1 256 ∧ (((hI h 82 (ix v1)) = 0 → ∃ n29, m_X12_findDays_29 n29 (m_X12_findDays_58 (fun (v1 : Int32) (hh : Hp) => m_X12_findDays_7 n Q v1 hh) Q) Q v1 0 h) ∧ (¬ (hI h 82 (ix v1)) = 0 → m_X12_findDays_136 (fun (v1 : Int32) (hh : Hp) => m_X12_findDays_7 n Q v1 hh) Q v1 h)))
set_option maxHeartbeats 4000000 in
set_option maxRecDepth 100000 in
theorem s_X12_findDays_7 {l : Launch} {G : Cx} {d : Nat} {h0 : Hp} (hd : 2 ≤ d) {Q : Hp → Prop} : ∀ {n : Nat} {v1 : Int32} {h : Hp}, m_X12_findDays_7 n Q v1 h → Rn l G d 0 0 MX12_findDays h0 (qV Q) 7 [some (tR 12 0 (some 51)), some (tI v1)] [] h 0 0 := by
  intro n
  induction n with
  | zero => intro v1 h hm; exact hm.elim
  | succ n ih =>
    intro v1 h hm
    have hk7 := fun (v1 : Int32) (hh : Hp) (hm : m_X12_findDays_7 n Q v1 hh) => ih hm
    rw [m_X12_findDays_7] at hm
    refine r_iload_n dX12_findDays_7 rfl rfl ?_
    refine r_aload_n dX12_findDays_8 rfl rfl ?_
    refine r_getI (k := 48) cl_12 dX12_findDays_9 t_1320 (Or.inl rfl) gf_12_48 ?_
    refine r_icmp_ge (tgt := 142) dX12_findDays_12 rfl (fun hc => ?_) (fun hc => ?_)
    · replace hm := hm.1 hc
      exact r_return dX12_findDays_142 rfl ⟨by decide, by decide⟩ ⟨rfl, hm⟩
    · replace hm := hm.2 hc
      refine r_aload_n dX12_findDays_15 rfl rfl ?_
      refine r_getC (k := 52) cl_12 dX12_findDays_16 t_1324 gf_12_52.1 gf_12_52.2 (gc_12_52 _) ?_
      refine r_iload_n dX12_findDays_19 rfl rfl ?_
      refine r_iald dX12_findDays_20 hm.1 ?_
      replace hm := hm.2
      refine r_if_eq (tgt := 27) dX12_findDays_21 rfl (fun hc => ?_) (fun hc => ?_)
      · replace hm := hm.1 hc
        refine r_iconst (v := 0) dX12_findDays_27 rfl ?_
        refine r_istore_n (L' := [some (tR 12 0 (some 51)), some (tI v1), some (tI 0)]) dX12_findDays_28 rfl (by decide) rfl ?_
        refine r_keep (L' := [some (tR 12 0 (some 51)), some (tI v1), some (tI 0)]) [true, true, true] rfl ?_
        obtain ⟨n, hm⟩ := hm
        refine s_X12_findDays_29 hd ?_ hm
        · exact (fun _ _ _ hm => s_X12_findDays_58 hd hk7 hm)
      · replace hm := hm.2 hc
        refine r_goto (tgt := 136) dX12_findDays_24 rfl ?_
        refine r_keep (L' := [some (tR 12 0 (some 51)), some (tI v1)]) [true, true] rfl ?_
        exact s_X12_findDays_136 hd hk7 hm
def m_X12_findDays  (h : Hp) (Q : Hp → Prop) : Prop := ∃ n7, m_X12_findDays_7 n7 Q 0 (wI h 51 61 0)
set_option maxHeartbeats 4000000 in
set_option maxRecDepth 100000 in
theorem s_X12_findDays {l : Launch} {G : Cx} {d : Nat} (hd : 2 ≤ d) {h : Hp} {Q : Hp → Prop} (hm : m_X12_findDays h Q) : Ct l G d 0 0 yX12_findDays MX12_findDays [tR 12 0 (some 51)] h (qV Q) := by
  unfold m_X12_findDays at hm
  refine Ct.of (L := [some (tR 12 0 (some 51))]) (by decide) rfl rfl (Nat.le_of_ble_eq_true rfl) rfl ?_
  refine r_aload_n dX12_findDays_0 rfl rfl ?_
  refine r_iconst (v := 0) dX12_findDays_1 rfl ?_
  refine r_putI0 (k := 61) cl_12 dX12_findDays_2 t_1333 (Or.inl rfl) gf_12_61 pf_12_61.1 (Or.inl pf_12_61.2) ?_
  refine r_iconst (v := 0) dX12_findDays_5 rfl ?_
  refine r_istore_n (L' := [some (tR 12 0 (some 51)), some (tI 0)]) dX12_findDays_6 rfl (by decide) rfl ?_
  refine r_keep (L' := [some (tR 12 0 (some 51)), some (tI 0)]) [true, true] rfl ?_
  obtain ⟨n, hm⟩ := hm
  refine s_X12_findDays_7 hd hm
theorem dX12_lendingDay_0 : decode cX12_lendingDay 0 = .ok (.iconst (-1), 1) := by decide +kernel
theorem dX12_lendingDay_1 : decode cX12_lendingDay 1 = .ok (.istore_n 2, 1) := by decide +kernel
theorem dX12_lendingDay_2 : decode cX12_lendingDay 2 = .ok (.iconst 0, 1) := by decide +kernel
theorem dX12_lendingDay_3 : decode cX12_lendingDay 3 = .ok (.istore_n 3, 1) := by decide +kernel
theorem dX12_lendingDay_4 : decode cX12_lendingDay 4 = .ok (.iconst 0, 1) := by decide +kernel
theorem dX12_lendingDay_5 : decode cX12_lendingDay 5 = .ok (.istore 4, 2) := by decide +kernel
theorem dX12_lendingDay_7 : decode cX12_lendingDay 7 = .ok (.iload 4, 2) := by decide +kernel
theorem dX12_lendingDay_9 : decode cX12_lendingDay 9 = .ok (.aload_n 0, 1) := by decide +kernel
theorem dX12_lendingDay_10 : decode cX12_lendingDay 10 = .ok (.getfield 477, 3) := by decide +kernel
theorem dX12_lendingDay_13 : decode cX12_lendingDay 13 = .ok (.if_icmp .ge 87, 3) := by decide +kernel
theorem dX12_lendingDay_16 : decode cX12_lendingDay 16 = .ok (.aload_n 0, 1) := by decide +kernel
theorem dX12_lendingDay_17 : decode cX12_lendingDay 17 = .ok (.iload_n 1, 1) := by decide +kernel
theorem dX12_lendingDay_18 : decode cX12_lendingDay 18 = .ok (.iconst 0, 1) := by decide +kernel
theorem dX12_lendingDay_19 : decode cX12_lendingDay 19 = .ok (.aload_n 0, 1) := by decide +kernel
theorem dX12_lendingDay_20 : decode cX12_lendingDay 20 = .ok (.getfield 119, 3) := by decide +kernel
theorem dX12_lendingDay_23 : decode cX12_lendingDay 23 = .ok (.iload 4, 2) := by decide +kernel
theorem dX12_lendingDay_25 : decode cX12_lendingDay 25 = .ok (.iaload, 1) := by decide +kernel
theorem dX12_lendingDay_26 : decode cX12_lendingDay 26 = .ok (.invokevirtual 471, 3) := by decide +kernel
theorem dX12_lendingDay_29 : decode cX12_lendingDay 29 = .ok (.lstore 5, 2) := by decide +kernel
theorem dX12_lendingDay_31 : decode cX12_lendingDay 31 = .ok (.lload 5, 2) := by decide +kernel
theorem dX12_lendingDay_33 : decode cX12_lendingDay 33 = .ok (.lconst 0, 1) := by decide +kernel
theorem dX12_lendingDay_34 : decode cX12_lendingDay 34 = .ok (.lcmp, 1) := by decide +kernel
theorem dX12_lendingDay_35 : decode cX12_lendingDay 35 = .ok (.ifCond .ne 6, 3) := by decide +kernel
theorem dX12_lendingDay_38 : decode cX12_lendingDay 38 = .ok (.goto 56, 3) := by decide +kernel
theorem dX12_lendingDay_41 : decode cX12_lendingDay 41 = .ok (.iload_n 2, 1) := by decide +kernel
theorem dX12_lendingDay_42 : decode cX12_lendingDay 42 = .ok (.ifCond .ge 10, 3) := by decide +kernel
theorem dX12_lendingDay_45 : decode cX12_lendingDay 45 = .ok (.lload 5, 2) := by decide +kernel
theorem dX12_lendingDay_47 : decode cX12_lendingDay 47 = .ok (.lconst 0, 1) := by decide +kernel
theorem dX12_lendingDay_48 : decode cX12_lendingDay 48 = .ok (.lcmp, 1) := by decide +kernel
theorem dX12_lendingDay_49 : decode cX12_lendingDay 49 = .ok (.ifCond .gt 14, 3) := by decide +kernel
theorem dX12_lendingDay_52 : decode cX12_lendingDay 52 = .ok (.iload_n 3, 1) := by decide +kernel
theorem dX12_lendingDay_53 : decode cX12_lendingDay 53 = .ok (.ifCond .eq 12, 3) := by decide +kernel
theorem dX12_lendingDay_56 : decode cX12_lendingDay 56 = .ok (.lload 5, 2) := by decide +kernel
theorem dX12_lendingDay_58 : decode cX12_lendingDay 58 = .ok (.lconst 0, 1) := by decide +kernel
theorem dX12_lendingDay_59 : decode cX12_lendingDay 59 = .ok (.lcmp, 1) := by decide +kernel
theorem dX12_lendingDay_60 : decode cX12_lendingDay 60 = .ok (.ifCond .ge 5, 3) := by decide +kernel
theorem dX12_lendingDay_63 : decode cX12_lendingDay 63 = .ok (.iconst (-1), 1) := by decide +kernel
theorem dX12_lendingDay_64 : decode cX12_lendingDay 64 = .ok (.ireturn, 1) := by decide +kernel
theorem dX12_lendingDay_65 : decode cX12_lendingDay 65 = .ok (.iload_n 2, 1) := by decide +kernel
theorem dX12_lendingDay_66 : decode cX12_lendingDay 66 = .ok (.ifCond .ge 11, 3) := by decide +kernel
theorem dX12_lendingDay_69 : decode cX12_lendingDay 69 = .ok (.aload_n 0, 1) := by decide +kernel
theorem dX12_lendingDay_70 : decode cX12_lendingDay 70 = .ok (.getfield 119, 3) := by decide +kernel
theorem dX12_lendingDay_73 : decode cX12_lendingDay 73 = .ok (.iload 4, 2) := by decide +kernel
theorem dX12_lendingDay_75 : decode cX12_lendingDay 75 = .ok (.iaload, 1) := by decide +kernel
theorem dX12_lendingDay_76 : decode cX12_lendingDay 76 = .ok (.istore_n 2, 1) := by decide +kernel
theorem dX12_lendingDay_77 : decode cX12_lendingDay 77 = .ok (.iload_n 3, 1) := by decide +kernel
theorem dX12_lendingDay_78 : decode cX12_lendingDay 78 = .ok (.ifCond .ne 10, 3) := by decide +kernel
theorem dX12_lendingDay_81 : decode cX12_lendingDay 81 = .ok (.lload 5, 2) := by decide +kernel
theorem dX12_lendingDay_83 : decode cX12_lendingDay 83 = .ok (.lconst 0, 1) := by decide +kernel
theorem dX12_lendingDay_84 : decode cX12_lendingDay 84 = .ok (.lcmp, 1) := by decide +kernel
theorem dX12_lendingDay_85 : decode cX12_lendingDay 85 = .ok (.ifCond .le 7, 3) := by decide +kernel
theorem dX12_lendingDay_88 : decode cX12_lendingDay 88 = .ok (.iconst 1, 1) := by decide +kernel
theorem dX12_lendingDay_89 : decode cX12_lendingDay 89 = .ok (.goto 4, 3) := by decide +kernel
theorem dX12_lendingDay_92 : decode cX12_lendingDay 92 = .ok (.iconst 0, 1) := by decide +kernel
theorem dX12_lendingDay_93 : decode cX12_lendingDay 93 = .ok (.istore_n 3, 1) := by decide +kernel
theorem dX12_lendingDay_94 : decode cX12_lendingDay 94 = .ok (.iinc 4 1, 3) := by decide +kernel
theorem dX12_lendingDay_97 : decode cX12_lendingDay 97 = .ok (.goto (-90), 3) := by decide +kernel
theorem dX12_lendingDay_100 : decode cX12_lendingDay 100 = .ok (.iload_n 2, 1) := by decide +kernel
theorem dX12_lendingDay_101 : decode cX12_lendingDay 101 = .ok (.ireturn, 1) := by decide +kernel
def m_X12_lendingDay_94 (k7 : Int32 → Int32 → Int32 → Int32 → Hp → Prop) (Q : Int32 → Hp → Prop) (v1 : Int32) (v2 : Int32) (v3 : Int32) (v4 : Int32) (h : Hp) : Prop := ∀ x1 : Int32, x1 = v4 + 1 → k7 v1 v2 v3 x1 h
set_option maxHeartbeats 4000000 in
set_option maxRecDepth 100000 in
theorem s_X12_lendingDay_94 {l : Launch} {G : Cx} {d : Nat} {h0 : Hp} (hd : 4 ≤ d) {k7 : Int32 → Int32 → Int32 → Int32 → Hp → Prop} {Q : Int32 → Hp → Prop} (hk7 : ∀ (v1 : Int32) (v2 : Int32) (v3 : Int32) (v4 : Int32) (hh : Hp), k7 v1 v2 v3 v4 hh → Rn l G d 0 0 MX12_lendingDay h0 (qI Q) 7 [some (tR 12 0 (some 51)), some (tI v1), some (tI v2), some (tI v3), some (tI v4)] [] hh 0 0) {v1 : Int32} {v2 : Int32} {v3 : Int32} {v4 : Int32} {h : Hp} (hm : m_X12_lendingDay_94 k7 Q v1 v2 v3 v4 h) : Rn l G d 0 0 MX12_lendingDay h0 (qI Q) 94 [some (tR 12 0 (some 51)), some (tI v1), some (tI v2), some (tI v3), some (tI v4)] [] h 0 0 := by
  unfold m_X12_lendingDay_94 at hm
  obtain ⟨x1, e_x1⟩ : ∃ y : Int32, y = v4 + 1 := ⟨_, rfl⟩
  replace hm := hm x1 e_x1
  refine r_iinc (L' := [some (tR 12 0 (some 51)), some (tI v1), some (tI v2), some (tI v3), some (tI x1)]) dX12_lendingDay_94 rfl (by rw [e_x1]; rfl) (by decide) rfl ?_
  refine r_goto (tgt := 7) dX12_lendingDay_97 rfl ?_
  refine r_keep (L' := [some (tR 12 0 (some 51)), some (tI v1), some (tI v2), some (tI v3), some (tI x1)]) [true, true, true, true, true] rfl ?_
  exact hk7 _ _ _ _ _ hm
def m_X12_lendingDay_93 (k7 : Int32 → Int32 → Int32 → Int32 → Hp → Prop) (Q : Int32 → Hp → Prop) (v1 : Int32) (v2 : Int32) (v4 : Int32) (s0 : Int32) (h : Hp) : Prop := m_X12_lendingDay_94 k7 Q v1 v2 s0 v4 h
set_option maxHeartbeats 4000000 in
set_option maxRecDepth 100000 in
theorem s_X12_lendingDay_93 {l : Launch} {G : Cx} {d : Nat} {h0 : Hp} (hd : 4 ≤ d) {k7 : Int32 → Int32 → Int32 → Int32 → Hp → Prop} {Q : Int32 → Hp → Prop} (hk7 : ∀ (v1 : Int32) (v2 : Int32) (v3 : Int32) (v4 : Int32) (hh : Hp), k7 v1 v2 v3 v4 hh → Rn l G d 0 0 MX12_lendingDay h0 (qI Q) 7 [some (tR 12 0 (some 51)), some (tI v1), some (tI v2), some (tI v3), some (tI v4)] [] hh 0 0) {v1 : Int32} {v2 : Int32} {v4 : Int32} {s0 : Int32} {h : Hp} (hm : m_X12_lendingDay_93 k7 Q v1 v2 v4 s0 h) : Rn l G d 0 0 MX12_lendingDay h0 (qI Q) 93 [some (tR 12 0 (some 51)), some (tI v1), some (tI v2), none, some (tI v4)] [tI s0] h 0 0 := by
  unfold m_X12_lendingDay_93 at hm
  refine r_istore_n (L' := [some (tR 12 0 (some 51)), some (tI v1), some (tI v2), some (tI s0), some (tI v4)]) dX12_lendingDay_93 rfl (by decide) rfl ?_
  refine r_keep (L' := [some (tR 12 0 (some 51)), some (tI v1), some (tI v2), some (tI s0), some (tI v4)]) [true, true, true, true, true] rfl ?_
  exact s_X12_lendingDay_94 hd hk7 hm
def m_X12_lendingDay_88 (k7 : Int32 → Int32 → Int32 → Int32 → Hp → Prop) (Q : Int32 → Hp → Prop) (v1 : Int32) (v2 : Int32) (v4 : Int32) (h : Hp) : Prop := m_X12_lendingDay_93 k7 Q v1 v2 v4 1 h
set_option maxHeartbeats 4000000 in
set_option maxRecDepth 100000 in
theorem s_X12_lendingDay_88 {l : Launch} {G : Cx} {d : Nat} {h0 : Hp} (hd : 4 ≤ d) {k7 : Int32 → Int32 → Int32 → Int32 → Hp → Prop} {Q : Int32 → Hp → Prop} (hk7 : ∀ (v1 : Int32) (v2 : Int32) (v3 : Int32) (v4 : Int32) (hh : Hp), k7 v1 v2 v3 v4 hh → Rn l G d 0 0 MX12_lendingDay h0 (qI Q) 7 [some (tR 12 0 (some 51)), some (tI v1), some (tI v2), some (tI v3), some (tI v4)] [] hh 0 0) {v1 : Int32} {v2 : Int32} {v4 : Int32} {h : Hp} (hm : m_X12_lendingDay_88 k7 Q v1 v2 v4 h) : Rn l G d 0 0 MX12_lendingDay h0 (qI Q) 88 [some (tR 12 0 (some 51)), some (tI v1), some (tI v2), none, some (tI v4)] [] h 0 0 := by
  unfold m_X12_lendingDay_88 at hm
  refine r_iconst (v := 1) dX12_lendingDay_88 rfl ?_
  refine r_goto (tgt := 93) dX12_lendingDay_89 rfl ?_
  refine r_keep (L' := [some (tR 12 0 (some 51)), some (tI v1), some (tI v2), none, some (tI v4)]) [true, true, true, false, true] rfl ?_
  exact s_X12_lendingDay_93 hd hk7 hm
def m_X12_lendingDay_77 (k7 : Int32 → Int32 → Int32 → Int32 → Hp → Prop) (Q : Int32 → Hp → Prop) (v1 : Int32) (v2 : Int32) (v3 : Int32) (v4 : Int32) (v5 : Int64) (h : Hp) : Prop := (¬ v3 = 0 → m_X12_lendingDay_88 k7 Q v1 v2 v4 h) ∧ (v3 = 0 → ((lg_cmp v5 0) ≤ 0 → m_X12_lendingDay_93 k7 Q v1 v2 v4 0 h) ∧ (¬ (lg_cmp v5 0) ≤ 0 → m_X12_lendingDay_88 k7 Q v1 v2 v4 h))
set_option maxHeartbeats 4000000 in
set_option maxRecDepth 100000 in
theorem s_X12_lendingDay_77 {l : Launch} {G : Cx} {d : Nat} {h0 : Hp} (hd : 4 ≤ d) {k7 : Int32 → Int32 → Int32 → Int32 → Hp → Prop} {Q : Int32 → Hp → Prop} (hk7 : ∀ (v1 : Int32) (v2 : Int32) (v3 : Int32) (v4 : Int32) (hh : Hp), k7 v1 v2 v3 v4 hh → Rn l G d 0 0 MX12_lendingDay h0 (qI Q) 7 [some (tR 12 0 (some 51)), some (tI v1), some (tI v2), some (tI v3), some (tI v4)] [] hh 0 0) {v1 : Int32} {v2 : Int32} {v3 : Int32} {v4 : Int32} {v5 : Int64} {h : Hp} (hm : m_X12_lendingDay_77 k7 Q v1 v2 v3 v4 v5 h) : Rn l G d 0 0 MX12_lendingDay h0 (qI Q) 77 [some (tR 12 0 (some 51)), some (tI v1), some (tI v2), some (tI v3), some (tI v4), some (tJ v5)] [] h 0 0 := by
  unfold m_X12_lendingDay_77 at hm
  refine r_iload_n dX12_lendingDay_77 rfl rfl ?_
  refine r_if_ne (tgt := 88) dX12_lendingDay_78 rfl (fun hc => ?_) (fun hc => ?_)
  · replace hm := hm.1 hc
    refine r_keep (L' := [some (tR 12 0 (some 51)), some (tI v1), some (tI v2), none, some (tI v4)]) [true, true, true, false, true] rfl ?_
    exact s_X12_lendingDay_88 hd hk7 hm
  · replace hm := hm.2 hc
    refine r_lload dX12_lendingDay_81 rfl ?_
    refine r_lconst (v := 0) dX12_lendingDay_83 rfl ?_
    refine r_lcmp dX12_lendingDay_84 ?_
    refine r_if_le (tgt := 92) dX12_lendingDay_85 rfl (fun hc => ?_) (fun hc => ?_)
    · replace hm := hm.1 hc
      refine r_iconst (v := 0) dX12_lendingDay_92 rfl ?_
      refine r_keep (L' := [some (tR 12 0 (some 51)), some (tI v1), some (tI v2), none, some (tI v4)]) [true, true, true, false, true] rfl ?_
      exact s_X12_lendingDay_93 hd hk7 hm
    · replace hm := hm.2 hc
      refine r_keep (L' := [some (tR 12 0 (some 51)), some (tI v1), some (tI v2), none, some (tI v4)]) [true, true, true, false, true] rfl ?_
      exact s_X12_lendingDay_88 hd hk7 hm
def m_X12_lendingDay_65 (k7 : Int32 → Int32 → Int32 → Int32 → Hp → Prop) (Q : Int32 → Hp → Prop) (v1 : Int32) (v2 : Int32) (v3 : Int32) (v4 : Int32) (v5 : Int64) (h : Hp) : Prop := (0 ≤ v2 → m_X12_lendingDay_77 k7 Q v1 v2 v3 v4 v5 h) ∧ (¬ 0 ≤ v2 → vp_in v4 256 ∧ (∀ x2 : Int32, x2 = (hI h 86 (ix v4)) → m_X12_lendingDay_77 k7 Q v1 x2 v3 v4 v5 h))
set_option maxHeartbeats 4000000 in
set_option maxRecDepth 100000 in
theorem s_X12_lendingDay_65 {l : Launch} {G : Cx} {d : Nat} {h0 : Hp} (hd : 4 ≤ d) {k7 : Int32 → Int32 → Int32 → Int32 → Hp → Prop} {Q : Int32 → Hp → Prop} (hk7 : ∀ (v1 : Int32) (v2 : Int32) (v3 : Int32) (v4 : Int32) (hh : Hp), k7 v1 v2 v3 v4 hh → Rn l G d 0 0 MX12_lendingDay h0 (qI Q) 7 [some (tR 12 0 (some 51)), some (tI v1), some (tI v2), some (tI v3), some (tI v4)] [] hh 0 0) {v1 : Int32} {v2 : Int32} {v3 : Int32} {v4 : Int32} {v5 : Int64} {h : Hp} (hm : m_X12_lendingDay_65 k7 Q v1 v2 v3 v4 v5 h) : Rn l G d 0 0 MX12_lendingDay h0 (qI Q) 65 [some (tR 12 0 (some 51)), some (tI v1), some (tI v2), some (tI v3), some (tI v4), some (tJ v5)] [] h 0 0 := by
  unfold m_X12_lendingDay_65 at hm
  refine r_iload_n dX12_lendingDay_65 rfl rfl ?_
  refine r_if_ge (tgt := 77) dX12_lendingDay_66 rfl (fun hc => ?_) (fun hc => ?_)
  · replace hm := hm.1 hc
    refine r_keep (L' := [some (tR 12 0 (some 51)), some (tI v1), some (tI v2), some (tI v3), some (tI v4), some (tJ v5)]) [true, true, true, true, true, true] rfl ?_
    exact s_X12_lendingDay_77 hd hk7 hm
  · replace hm := hm.2 hc
    refine r_aload_n dX12_lendingDay_69 rfl rfl ?_
    refine r_getC (k := 62) cl_12 dX12_lendingDay_70 t_1334 gf_12_62.1 gf_12_62.2 (gc_12_62 _) ?_
    refine r_iload dX12_lendingDay_73 rfl ?_
    refine r_iald dX12_lendingDay_75 hm.1 ?_
    replace hm := hm.2
    refine r_nmI (fun x2 e_x2 => ?_)
    replace hm := hm x2 e_x2
    refine r_istore_n (L' := [some (tR 12 0 (some 51)), some (tI v1), some (tI x2), some (tI v3), some (tI v4), some (tJ v5)]) dX12_lendingDay_76 rfl (by decide) rfl ?_
    refine r_keep (L' := [some (tR 12 0 (some 51)), some (tI v1), some (tI x2), some (tI v3), some (tI v4), some (tJ v5)]) [true, true, true, true, true, true] rfl ?_
    exact s_X12_lendingDay_77 hd hk7 hm
def m_X12_lendingDay_52 (k7 : Int32 → Int32 → Int32 → Int32 → Hp → Prop) (Q : Int32 → Hp → Prop) (v1 : Int32) (v2 : Int32) (v3 : Int32) (v4 : Int32) (v5 : Int64) (h : Hp) : Prop := (v3 = 0 → m_X12_lendingDay_65 k7 Q v1 v2 v3 v4 v5 h) ∧ (¬ v3 = 0 → (0 ≤ (lg_cmp v5 0) → m_X12_lendingDay_65 k7 Q v1 v2 v3 v4 v5 h) ∧ (¬ 0 ≤ (lg_cmp v5 0) → Q (-1) h))
set_option maxHeartbeats 4000000 in
set_option maxRecDepth 100000 in
theorem s_X12_lendingDay_52 {l : Launch} {G : Cx} {d : Nat} {h0 : Hp} (hd : 4 ≤ d) {k7 : Int32 → Int32 → Int32 → Int32 → Hp → Prop} {Q : Int32 → Hp → Prop} (hk7 : ∀ (v1 : Int32) (v2 : Int32) (v3 : Int32) (v4 : Int32) (hh : Hp), k7 v1 v2 v3 v4 hh → Rn l G d 0 0 MX12_lendingDay h0 (qI Q) 7 [some (tR 12 0 (some 51)), some (tI v1), some (tI v2), some (tI v3), some (tI v4)] [] hh 0 0) {v1 : Int32} {v2 : Int32} {v3 : Int32} {v4 : Int32} {v5 : Int64} {h : Hp} (hm : m_X12_lendingDay_52 k7 Q v1 v2 v3 v4 v5 h) : Rn l G d 0 0 MX12_lendingDay h0 (qI Q) 52 [some (tR 12 0 (some 51)), some (tI v1), some (tI v2), some (tI v3), some (tI v4), some (tJ v5)] [] h 0 0 := by
  unfold m_X12_lendingDay_52 at hm
  refine r_iload_n dX12_lendingDay_52 rfl rfl ?_
  refine r_if_eq (tgt := 65) dX12_lendingDay_53 rfl (fun hc => ?_) (fun hc => ?_)
  · replace hm := hm.1 hc
    refine r_keep (L' := [some (tR 12 0 (some 51)), some (tI v1), some (tI v2), some (tI v3), some (tI v4), some (tJ v5)]) [true, true, true, true, true, true] rfl ?_
    exact s_X12_lendingDay_65 hd hk7 hm
  · replace hm := hm.2 hc
    refine r_lload dX12_lendingDay_56 rfl ?_
    refine r_lconst (v := 0) dX12_lendingDay_58 rfl ?_
    refine r_lcmp dX12_lendingDay_59 ?_
    refine r_if_ge (tgt := 65) dX12_lendingDay_60 rfl (fun hc => ?_) (fun hc => ?_)
    · replace hm := hm.1 hc
      refine r_keep (L' := [some (tR 12 0 (some 51)), some (tI v1), some (tI v2), some (tI v3), some (tI v4), some (tJ v5)]) [true, true, true, true, true, true] rfl ?_
      exact s_X12_lendingDay_65 hd hk7 hm
    · replace hm := hm.2 hc
      refine r_iconst (v := (-1)) dX12_lendingDay_63 rfl ?_
      exact r_ireturn dX12_lendingDay_64 rfl ⟨by decide, by decide⟩ ⟨_, rfl, hm⟩
def m_X12_lendingDay_7 : Nat → (Int32 → Hp → Prop) → Int32 → Int32 → Int32 → Int32 → Hp → Prop
  | 0, _, _, _, _, _, _ => False
  | n + 1, Q, v1, v2, v3, v4, h => ((hI h 51 61) ≤ v4 → Q v2 h) ∧ (¬ (hI h 51 61) ≤ v4 → vp_in v4 256 ∧ (m_X12_netOf v1 0 (hI h 86 (ix v4)) h (fun (x3 : Int64) (h4 : Hp) => (¬ (lg_cmp x3 0) = 0 → (0 ≤ v2 → m_X12_lendingDay_52 (fun (v1 : Int32) (v2 : Int32) (v3 : Int32) (v4 : Int32) (hh : Hp) => m_X12_lendingDay_7 n Q v1 v2 v3 v4 hh) Q v1 v2 v3 v4 x3 h4) ∧ (¬ 0 ≤ v2 → (0 < (lg_cmp x3 0) → Q (-1) h4) ∧ (¬ 0 < (lg_cmp x3 0) → m_X12_lendingDay_52 (fun (v1 : Int32) (v2 : Int32) (v3 : Int32) (v4 : Int32) (hh : Hp) => m_X12_lendingDay_7 n Q v1 v2 v3 v4 hh) Q v1 v2 v3 v4 x3 h4))) ∧ ((lg_cmp x3 0) = 0 → m_X12_lendingDay_94 (fun (v1 : Int32) (v2 : Int32) (v3 : Int32) (v4 : Int32) (hh : Hp) => m_X12_lendingDay_7 n Q v1 v2 v3 v4 hh) Q v1 v2 v3 v4 h4))))
set_option maxHeartbeats 4000000 in
set_option maxRecDepth 100000 in
theorem s_X12_lendingDay_7 {l : Launch} {G : Cx} {d : Nat} {h0 : Hp} (hd : 4 ≤ d) {Q : Int32 → Hp → Prop} : ∀ {n : Nat} {v1 : Int32} {v2 : Int32} {v3 : Int32} {v4 : Int32} {h : Hp}, m_X12_lendingDay_7 n Q v1 v2 v3 v4 h → Rn l G d 0 0 MX12_lendingDay h0 (qI Q) 7 [some (tR 12 0 (some 51)), some (tI v1), some (tI v2), some (tI v3), some (tI v4)] [] h 0 0 := by
  intro n
  induction n with
  | zero => intro v1 v2 v3 v4 h hm; exact hm.elim
  | succ n ih =>
    intro v1 v2 v3 v4 h hm
    have hk7 := fun (v1 : Int32) (v2 : Int32) (v3 : Int32) (v4 : Int32) (hh : Hp) (hm : m_X12_lendingDay_7 n Q v1 v2 v3 v4 hh) => ih hm
    rw [m_X12_lendingDay_7] at hm
    refine r_iload dX12_lendingDay_7 rfl ?_
    refine r_aload_n dX12_lendingDay_9 rfl rfl ?_
    refine r_getI (k := 61) cl_12 dX12_lendingDay_10 t_1333 (Or.inl rfl) gf_12_61 ?_
    refine r_icmp_ge (tgt := 100) dX12_lendingDay_13 rfl (fun hc => ?_) (fun hc => ?_)
    · replace hm := hm.1 hc
      refine r_iload_n dX12_lendingDay_100 rfl rfl ?_
      exact r_ireturn dX12_lendingDay_101 rfl ⟨by decide, by decide⟩ ⟨_, rfl, hm⟩
    · replace hm := hm.2 hc
      refine r_aload_n dX12_lendingDay_16 rfl rfl ?_
      refine r_iload_n dX12_lendingDay_17 rfl rfl ?_
      refine r_iconst (v := 0) dX12_lendingDay_18 rfl ?_
      refine r_aload_n dX12_lendingDay_19 rfl rfl ?_
      refine r_getC (k := 62) cl_12 dX12_lendingDay_20 t_1334 gf_12_62.1 gf_12_62.2 (gc_12_62 _) ?_
      refine r_iload dX12_lendingDay_23 rfl ?_
      refine r_iald dX12_lendingDay_25 hm.1 ?_
      replace hm := hm.2
      refine r_callVJ (d' := d - 1) (as := [tI v1, tI 0, tI (hI h 86 (ix v4))]) (st := []) cl_12 dX12_lendingDay_26 mi_X12_netOf t_1794 t_1796 ts_97 rfl rfl (Nat.le_of_ble_eq_true rfl) (by omega) ⟨by decide, by decide⟩ ⟨rfl, rfl⟩ (s_X12_netOf (by omega) hm) (fun x3 h4 hm => ?_)
      refine r_lstore (L' := [some (tR 12 0 (some 51)), some (tI v1), some (tI v2), some (tI v3), some (tI v4), some (tJ x3), none]) dX12_lendingDay_29 (by decide) rfl ?_
      refine r_lload dX12_lendingDay_31 rfl ?_
      refine r_lconst (v := 0) dX12_lendingDay_33 rfl ?_
      refine r_lcmp dX12_lendingDay_34 ?_
      refine r_if_ne (tgt := 41) dX12_lendingDay_35 rfl (fun hc => ?_) (fun hc => ?_)
      · replace hm := hm.1 hc
        refine r_iload_n dX12_lendingDay_41 rfl rfl ?_
        refine r_if_ge (tgt := 52) dX12_lendingDay_42 rfl (fun hc => ?_) (fun hc => ?_)
        · replace hm := hm.1 hc
          refine r_keep (L' := [some (tR 12 0 (some 51)), some (tI v1), some (tI v2), some (tI v3), some (tI v4), some (tJ x3)]) [true, true, true, true, true, true] rfl ?_
          exact s_X12_lendingDay_52 hd hk7 hm
        · replace hm := hm.2 hc
          refine r_lload dX12_lendingDay_45 rfl ?_
          refine r_lconst (v := 0) dX12_lendingDay_47 rfl ?_
          refine r_lcmp dX12_lendingDay_48 ?_
          refine r_if_gt (tgt := 63) dX12_lendingDay_49 rfl (fun hc => ?_) (fun hc => ?_)
          · replace hm := hm.1 hc
            refine r_iconst (v := (-1)) dX12_lendingDay_63 rfl ?_
            exact r_ireturn dX12_lendingDay_64 rfl ⟨by decide, by decide⟩ ⟨_, rfl, hm⟩
          · replace hm := hm.2 hc
            refine r_keep (L' := [some (tR 12 0 (some 51)), some (tI v1), some (tI v2), some (tI v3), some (tI v4), some (tJ x3)]) [true, true, true, true, true, true] rfl ?_
            exact s_X12_lendingDay_52 hd hk7 hm
      · replace hm := hm.2 hc
        refine r_goto (tgt := 94) dX12_lendingDay_38 rfl ?_
        refine r_keep (L' := [some (tR 12 0 (some 51)), some (tI v1), some (tI v2), some (tI v3), some (tI v4)]) [true, true, true, true, true] rfl ?_
        exact s_X12_lendingDay_94 hd hk7 hm
def m_X12_lendingDay (v1 : Int32) (h : Hp) (Q : Int32 → Hp → Prop) : Prop := ∃ n7, m_X12_lendingDay_7 n7 Q v1 (-1) 0 0 h
set_option maxHeartbeats 4000000 in
set_option maxRecDepth 100000 in
theorem s_X12_lendingDay {l : Launch} {G : Cx} {d : Nat} (hd : 4 ≤ d) {v1 : Int32} {h : Hp} {Q : Int32 → Hp → Prop} (hm : m_X12_lendingDay v1 h Q) : Ct l G d 0 0 yX12_lendingDay MX12_lendingDay [tR 12 0 (some 51), tI v1] h (qI Q) := by
  unfold m_X12_lendingDay at hm
  refine Ct.of (L := [some (tR 12 0 (some 51)), some (tI v1)]) (by decide) rfl rfl (Nat.le_of_ble_eq_true rfl) rfl ?_
  refine r_iconst (v := (-1)) dX12_lendingDay_0 rfl ?_
  refine r_istore_n (L' := [some (tR 12 0 (some 51)), some (tI v1), some (tI (-1))]) dX12_lendingDay_1 rfl (by decide) rfl ?_
  refine r_iconst (v := 0) dX12_lendingDay_2 rfl ?_
  refine r_istore_n (L' := [some (tR 12 0 (some 51)), some (tI v1), some (tI (-1)), some (tI 0)]) dX12_lendingDay_3 rfl (by decide) rfl ?_
  refine r_iconst (v := 0) dX12_lendingDay_4 rfl ?_
  refine r_istore (L' := [some (tR 12 0 (some 51)), some (tI v1), some (tI (-1)), some (tI 0), some (tI 0)]) dX12_lendingDay_5 (by decide) rfl ?_
  refine r_keep (L' := [some (tR 12 0 (some 51)), some (tI v1), some (tI (-1)), some (tI 0), some (tI 0)]) [true, true, true, true, true] rfl ?_
  obtain ⟨n, hm⟩ := hm
  refine s_X12_lendingDay_7 hd hm
theorem dX12_findLending_0 : decode cX12_findLending 0 = .ok (.aload_n 0, 1) := by decide +kernel
theorem dX12_findLending_1 : decode cX12_findLending 1 = .ok (.iload_n 1, 1) := by decide +kernel
theorem dX12_findLending_2 : decode cX12_findLending 2 = .ok (.invokevirtual 468, 3) := by decide +kernel
theorem dX12_findLending_5 : decode cX12_findLending 5 = .ok (.aload_n 0, 1) := by decide +kernel
theorem dX12_findLending_6 : decode cX12_findLending 6 = .ok (.invokevirtual 480, 3) := by decide +kernel
theorem dX12_findLending_9 : decode cX12_findLending 9 = .ok (.iconst 0, 1) := by decide +kernel
theorem dX12_findLending_10 : decode cX12_findLending 10 = .ok (.istore_n 2, 1) := by decide +kernel
theorem dX12_findLending_11 : decode cX12_findLending 11 = .ok (.iload_n 2, 1) := by decide +kernel
theorem dX12_findLending_12 : decode cX12_findLending 12 = .ok (.bipush 8, 2) := by decide +kernel
theorem dX12_findLending_14 : decode cX12_findLending 14 = .ok (.if_icmp .ge 82, 3) := by decide +kernel
theorem dX12_findLending_17 : decode cX12_findLending 17 = .ok (.aload_n 0, 1) := by decide +kernel
theorem dX12_findLending_18 : decode cX12_findLending 18 = .ok (.getfield 128, 3) := by decide +kernel
theorem dX12_findLending_21 : decode cX12_findLending 21 = .ok (.iload_n 2, 1) := by decide +kernel
theorem dX12_findLending_22 : decode cX12_findLending 22 = .ok (.iconst 0, 1) := by decide +kernel
theorem dX12_findLending_23 : decode cX12_findLending 23 = .ok (.iastore, 1) := by decide +kernel
theorem dX12_findLending_24 : decode cX12_findLending 24 = .ok (.aload_n 0, 1) := by decide +kernel
theorem dX12_findLending_25 : decode cX12_findLending 25 = .ok (.getfield 122, 3) := by decide +kernel
theorem dX12_findLending_28 : decode cX12_findLending 28 = .ok (.iload_n 2, 1) := by decide +kernel
theorem dX12_findLending_29 : decode cX12_findLending 29 = .ok (.iconst 1, 1) := by decide +kernel
theorem dX12_findLending_30 : decode cX12_findLending 30 = .ok (.bastore, 1) := by decide +kernel
theorem dX12_findLending_31 : decode cX12_findLending 31 = .ok (.aload_n 0, 1) := by decide +kernel
theorem dX12_findLending_32 : decode cX12_findLending 32 = .ok (.getfield 125, 3) := by decide +kernel
theorem dX12_findLending_35 : decode cX12_findLending 35 = .ok (.iload_n 2, 1) := by decide +kernel
theorem dX12_findLending_36 : decode cX12_findLending 36 = .ok (.aload_n 0, 1) := by decide +kernel
theorem dX12_findLending_37 : decode cX12_findLending 37 = .ok (.iload_n 2, 1) := by decide +kernel
theorem dX12_findLending_38 : decode cX12_findLending 38 = .ok (.iconst 0, 1) := by decide +kernel
theorem dX12_findLending_39 : decode cX12_findLending 39 = .ok (.iconst (-1), 1) := by decide +kernel
theorem dX12_findLending_40 : decode cX12_findLending 40 = .ok (.invokevirtual 471, 3) := by decide +kernel
theorem dX12_findLending_43 : decode cX12_findLending 43 = .ok (.lastore, 1) := by decide +kernel
theorem dX12_findLending_44 : decode cX12_findLending 44 = .ok (.iconst 1, 1) := by decide +kernel
theorem dX12_findLending_45 : decode cX12_findLending 45 = .ok (.istore_n 3, 1) := by decide +kernel
theorem dX12_findLending_46 : decode cX12_findLending 46 = .ok (.iload_n 3, 1) := by decide +kernel
theorem dX12_findLending_47 : decode cX12_findLending 47 = .ok (.bipush 6, 2) := by decide +kernel
theorem dX12_findLending_49 : decode cX12_findLending 49 = .ok (.if_icmp .ge 41, 3) := by decide +kernel
theorem dX12_findLending_52 : decode cX12_findLending 52 = .ok (.aload_n 0, 1) := by decide +kernel
theorem dX12_findLending_53 : decode cX12_findLending 53 = .ok (.getfield 122, 3) := by decide +kernel
theorem dX12_findLending_56 : decode cX12_findLending 56 = .ok (.iload_n 2, 1) := by decide +kernel
theorem dX12_findLending_57 : decode cX12_findLending 57 = .ok (.aload_n 0, 1) := by decide +kernel
theorem dX12_findLending_58 : decode cX12_findLending 58 = .ok (.getfield 122, 3) := by decide +kernel
theorem dX12_findLending_61 : decode cX12_findLending 61 = .ok (.iload_n 2, 1) := by decide +kernel
theorem dX12_findLending_62 : decode cX12_findLending 62 = .ok (.baload, 1) := by decide +kernel
theorem dX12_findLending_63 : decode cX12_findLending 63 = .ok (.ifCond .eq 19, 3) := by decide +kernel
theorem dX12_findLending_66 : decode cX12_findLending 66 = .ok (.aload_n 0, 1) := by decide +kernel
theorem dX12_findLending_67 : decode cX12_findLending 67 = .ok (.iload_n 2, 1) := by decide +kernel
theorem dX12_findLending_68 : decode cX12_findLending 68 = .ok (.iload_n 3, 1) := by decide +kernel
theorem dX12_findLending_69 : decode cX12_findLending 69 = .ok (.iconst (-1), 1) := by decide +kernel
theorem dX12_findLending_70 : decode cX12_findLending 70 = .ok (.invokevirtual 471, 3) := by decide +kernel
theorem dX12_findLending_73 : decode cX12_findLending 73 = .ok (.lconst 0, 1) := by decide +kernel
theorem dX12_findLending_74 : decode cX12_findLending 74 = .ok (.lcmp, 1) := by decide +kernel
theorem dX12_findLending_75 : decode cX12_findLending 75 = .ok (.ifCond .ne 7, 3) := by decide +kernel
theorem dX12_findLending_78 : decode cX12_findLending 78 = .ok (.iconst 1, 1) := by decide +kernel
theorem dX12_findLending_79 : decode cX12_findLending 79 = .ok (.goto 4, 3) := by decide +kernel
theorem dX12_findLending_82 : decode cX12_findLending 82 = .ok (.iconst 0, 1) := by decide +kernel
theorem dX12_findLending_83 : decode cX12_findLending 83 = .ok (.bastore, 1) := by decide +kernel
theorem dX12_findLending_84 : decode cX12_findLending 84 = .ok (.iinc 3 1, 3) := by decide +kernel
theorem dX12_findLending_87 : decode cX12_findLending 87 = .ok (.goto (-41), 3) := by decide +kernel
theorem dX12_findLending_90 : decode cX12_findLending 90 = .ok (.iinc 2 1, 3) := by decide +kernel
theorem dX12_findLending_93 : decode cX12_findLending 93 = .ok (.goto (-82), 3) := by decide +kernel
theorem dX12_findLending_96 : decode cX12_findLending 96 = .ok (.iconst 0, 1) := by decide +kernel
theorem dX12_findLending_97 : decode cX12_findLending 97 = .ok (.istore_n 2, 1) := by decide +kernel
theorem dX12_findLending_98 : decode cX12_findLending 98 = .ok (.iload_n 2, 1) := by decide +kernel
theorem dX12_findLending_99 : decode cX12_findLending 99 = .ok (.bipush 8, 2) := by decide +kernel
theorem dX12_findLending_101 : decode cX12_findLending 101 = .ok (.if_icmp .ge 116, 3) := by decide +kernel
theorem dX12_findLending_104 : decode cX12_findLending 104 = .ok (.aload_n 0, 1) := by decide +kernel
theorem dX12_findLending_105 : decode cX12_findLending 105 = .ok (.getfield 122, 3) := by decide +kernel
theorem dX12_findLending_108 : decode cX12_findLending 108 = .ok (.iload_n 2, 1) := by decide +kernel
theorem dX12_findLending_109 : decode cX12_findLending 109 = .ok (.baload, 1) := by decide +kernel
theorem dX12_findLending_110 : decode cX12_findLending 110 = .ok (.ifCond .eq 22, 3) := by decide +kernel
theorem dX12_findLending_113 : decode cX12_findLending 113 = .ok (.aload_n 0, 1) := by decide +kernel
theorem dX12_findLending_114 : decode cX12_findLending 114 = .ok (.getfield 125, 3) := by decide +kernel
theorem dX12_findLending_117 : decode cX12_findLending 117 = .ok (.iload_n 2, 1) := by decide +kernel
theorem dX12_findLending_118 : decode cX12_findLending 118 = .ok (.laload, 1) := by decide +kernel
theorem dX12_findLending_119 : decode cX12_findLending 119 = .ok (.lconst 0, 1) := by decide +kernel
theorem dX12_findLending_120 : decode cX12_findLending 120 = .ok (.lcmp, 1) := by decide +kernel
theorem dX12_findLending_121 : decode cX12_findLending 121 = .ok (.ifCond .le 11, 3) := by decide +kernel
theorem dX12_findLending_124 : decode cX12_findLending 124 = .ok (.aload_n 0, 1) := by decide +kernel
theorem dX12_findLending_125 : decode cX12_findLending 125 = .ok (.iload_n 2, 1) := by decide +kernel
theorem dX12_findLending_126 : decode cX12_findLending 126 = .ok (.invokevirtual 483, 3) := by decide +kernel
theorem dX12_findLending_129 : decode cX12_findLending 129 = .ok (.goto 4, 3) := by decide +kernel
theorem dX12_findLending_132 : decode cX12_findLending 132 = .ok (.iconst (-1), 1) := by decide +kernel
theorem dX12_findLending_133 : decode cX12_findLending 133 = .ok (.istore_n 3, 1) := by decide +kernel
theorem dX12_findLending_134 : decode cX12_findLending 134 = .ok (.iload_n 3, 1) := by decide +kernel
theorem dX12_findLending_135 : decode cX12_findLending 135 = .ok (.ifCond .ge 6, 3) := by decide +kernel
theorem dX12_findLending_138 : decode cX12_findLending 138 = .ok (.goto 73, 3) := by decide +kernel
theorem dX12_findLending_141 : decode cX12_findLending 141 = .ok (.iconst 0, 1) := by decide +kernel
theorem dX12_findLending_142 : decode cX12_findLending 142 = .ok (.istore 4, 2) := by decide +kernel
theorem dX12_findLending_144 : decode cX12_findLending 144 = .ok (.iload 4, 2) := by decide +kernel
theorem dX12_findLending_146 : decode cX12_findLending 146 = .ok (.bipush 8, 2) := by decide +kernel
theorem dX12_findLending_148 : decode cX12_findLending 148 = .ok (.if_icmp .ge 63, 3) := by decide +kernel
theorem dX12_findLending_151 : decode cX12_findLending 151 = .ok (.iload 4, 2) := by decide +kernel
theorem dX12_findLending_153 : decode cX12_findLending 153 = .ok (.iload_n 2, 1) := by decide +kernel
theorem dX12_findLending_154 : decode cX12_findLending 154 = .ok (.if_icmp .eq 51, 3) := by decide +kernel
theorem dX12_findLending_157 : decode cX12_findLending 157 = .ok (.aload_n 0, 1) := by decide +kernel
theorem dX12_findLending_158 : decode cX12_findLending 158 = .ok (.getfield 122, 3) := by decide +kernel
theorem dX12_findLending_161 : decode cX12_findLending 161 = .ok (.iload 4, 2) := by decide +kernel
theorem dX12_findLending_163 : decode cX12_findLending 163 = .ok (.baload, 1) := by decide +kernel
theorem dX12_findLending_164 : decode cX12_findLending 164 = .ok (.ifCond .eq 41, 3) := by decide +kernel
theorem dX12_findLending_167 : decode cX12_findLending 167 = .ok (.aload_n 0, 1) := by decide +kernel
theorem dX12_findLending_168 : decode cX12_findLending 168 = .ok (.getfield 125, 3) := by decide +kernel
theorem dX12_findLending_171 : decode cX12_findLending 171 = .ok (.iload 4, 2) := by decide +kernel
theorem dX12_findLending_173 : decode cX12_findLending 173 = .ok (.laload, 1) := by decide +kernel
theorem dX12_findLending_174 : decode cX12_findLending 174 = .ok (.lconst 0, 1) := by decide +kernel
theorem dX12_findLending_175 : decode cX12_findLending 175 = .ok (.lcmp, 1) := by decide +kernel
theorem dX12_findLending_176 : decode cX12_findLending 176 = .ok (.ifCond .ge 29, 3) := by decide +kernel
theorem dX12_findLending_179 : decode cX12_findLending 179 = .ok (.aload_n 0, 1) := by decide +kernel
theorem dX12_findLending_180 : decode cX12_findLending 180 = .ok (.iload 4, 2) := by decide +kernel
theorem dX12_findLending_182 : decode cX12_findLending 182 = .ok (.iconst 0, 1) := by decide +kernel
theorem dX12_findLending_183 : decode cX12_findLending 183 = .ok (.iload_n 3, 1) := by decide +kernel
theorem dX12_findLending_184 : decode cX12_findLending 184 = .ok (.invokevirtual 471, 3) := by decide +kernel
theorem dX12_findLending_187 : decode cX12_findLending 187 = .ok (.lconst 0, 1) := by decide +kernel
theorem dX12_findLending_188 : decode cX12_findLending 188 = .ok (.lcmp, 1) := by decide +kernel
theorem dX12_findLending_189 : decode cX12_findLending 189 = .ok (.ifCond .le 16, 3) := by decide +kernel
theorem dX12_findLending_192 : decode cX12_findLending 192 = .ok (.aload_n 0, 1) := by decide +kernel
theorem dX12_findLending_193 : decode cX12_findLending 193 = .ok (.getfield 128, 3) := by decide +kernel
theorem dX12_findLending_196 : decode cX12_findLending 196 = .ok (.iload_n 2, 1) := by decide +kernel
theorem dX12_findLending_197 : decode cX12_findLending 197 = .ok (.dup2, 1) := by decide +kernel
theorem dX12_findLending_198 : decode cX12_findLending 198 = .ok (.iaload, 1) := by decide +kernel
theorem dX12_findLending_199 : decode cX12_findLending 199 = .ok (.iconst 1, 1) := by decide +kernel
theorem dX12_findLending_200 : decode cX12_findLending 200 = .ok (.iload 4, 2) := by decide +kernel
theorem dX12_findLending_202 : decode cX12_findLending 202 = .ok (.ishl, 1) := by decide +kernel
theorem dX12_findLending_203 : decode cX12_findLending 203 = .ok (.ior, 1) := by decide +kernel
theorem dX12_findLending_204 : decode cX12_findLending 204 = .ok (.iastore, 1) := by decide +kernel
theorem dX12_findLending_205 : decode cX12_findLending 205 = .ok (.iinc 4 1, 3) := by decide +kernel
theorem dX12_findLending_208 : decode cX12_findLending 208 = .ok (.goto (-64), 3) := by decide +kernel
theorem dX12_findLending_211 : decode cX12_findLending 211 = .ok (.iinc 2 1, 3) := by decide +kernel
theorem dX12_findLending_214 : decode cX12_findLending 214 = .ok (.goto (-116), 3) := by decide +kernel
theorem dX12_findLending_217 : decode cX12_findLending 217 = .ok (.return_, 1) := by decide +kernel
def m_X12_findLending_211 (k98 : Int32 → Hp → Prop) (Q : Hp → Prop) (v2 : Int32) (h : Hp) : Prop := ∀ x1 : Int32, x1 = v2 + 1 → k98 x1 h
set_option maxHeartbeats 4000000 in
set_option maxRecDepth 100000 in
theorem s_X12_findLending_211 {l : Launch} {G : Cx} {d : Nat} {h0 : Hp} (hd : 8 ≤ d) {k98 : Int32 → Hp → Prop} {Q : Hp → Prop} (hk98 : ∀ (v2 : Int32) (hh : Hp), k98 v2 hh → Rn l G d 0 0 MX12_findLending h0 (qV Q) 98 [some (tR 12 0 (some 51)), none, some (tI v2)] [] hh 0 0) {v2 : Int32} {h : Hp} (hm : m_X12_findLending_211 k98 Q v2 h) : Rn l G d 0 0 MX12_findLending h0 (qV Q) 211 [some (tR 12 0 (some 51)), none, some (tI v2)] [] h 0 0 := by
  unfold m_X12_findLending_211 at hm
  obtain ⟨x1, e_x1⟩ : ∃ y : Int32, y = v2 + 1 := ⟨_, rfl⟩
  replace hm := hm x1 e_x1
  refine r_iinc (L' := [some (tR 12 0 (some 51)), none, some (tI x1)]) dX12_findLending_211 rfl (by rw [e_x1]; rfl) (by decide) rfl ?_
  refine r_goto (tgt := 98) dX12_findLending_214 rfl ?_
  refine r_keep (L' := [some (tR 12 0 (some 51)), none, some (tI x1)]) [true, false, true] rfl ?_
  exact hk98 _ _ hm
def m_X12_findLending_205 (k144 : Int32 → Int32 → Int32 → Hp → Prop) (k211 : Int32 → Hp → Prop) (Q : Hp → Prop) (v2 : Int32) (v3 : Int32) (v4 : Int32) (h : Hp) : Prop := ∀ x2 : Int32, x2 = v4 + 1 → k144 v2 v3 x2 h
set_option maxHeartbeats 4000000 in
set_option maxRecDepth 100000 in
theorem s_X12_findLending_205 {l : Launch} {G : Cx} {d : Nat} {h0 : Hp} (hd : 8 ≤ d) {k144 : Int32 → Int32 → Int32 → Hp → Prop} {k211 : Int32 → Hp → Prop} {Q : Hp → Prop} (hk144 : ∀ (v2 : Int32) (v3 : Int32) (v4 : Int32) (hh : Hp), k144 v2 v3 v4 hh → Rn l G d 0 0 MX12_findLending h0 (qV Q) 144 [some (tR 12 0 (some 51)), none, some (tI v2), some (tI v3), some (tI v4)] [] hh 0 0) (hk211 : ∀ (v2 : Int32) (hh : Hp), k211 v2 hh → Rn l G d 0 0 MX12_findLending h0 (qV Q) 211 [some (tR 12 0 (some 51)), none, some (tI v2)] [] hh 0 0) {v2 : Int32} {v3 : Int32} {v4 : Int32} {h : Hp} (hm : m_X12_findLending_205 k144 k211 Q v2 v3 v4 h) : Rn l G d 0 0 MX12_findLending h0 (qV Q) 205 [some (tR 12 0 (some 51)), none, some (tI v2), some (tI v3), some (tI v4)] [] h 0 0 := by
  unfold m_X12_findLending_205 at hm
  obtain ⟨x2, e_x2⟩ : ∃ y : Int32, y = v4 + 1 := ⟨_, rfl⟩
  replace hm := hm x2 e_x2
  refine r_iinc (L' := [some (tR 12 0 (some 51)), none, some (tI v2), some (tI v3), some (tI x2)]) dX12_findLending_205 rfl (by rw [e_x2]; rfl) (by decide) rfl ?_
  refine r_goto (tgt := 144) dX12_findLending_208 rfl ?_
  refine r_keep (L' := [some (tR 12 0 (some 51)), none, some (tI v2), some (tI v3), some (tI x2)]) [true, false, true, true, true] rfl ?_
  exact hk144 _ _ _ _ hm
def m_X12_findLending_144 : Nat → (Int32 → Hp → Prop) → (Hp → Prop) → Int32 → Int32 → Int32 → Hp → Prop
  | 0, _, _, _, _, _, _ => False
  | n + 1, k211, Q, v2, v3, v4, h => (8 ≤ v4 → k211 v2 h) ∧ (¬ 8 ≤ v4 → (v4 = v2 → m_X12_findLending_205 (fun (v2 : Int32) (v3 : Int32) (v4 : Int32) (hh : Hp) => m_X12_findLending_144 n k211 Q v2 v3 v4 hh) k211 Q v2 v3 v4 h) ∧ (¬ v4 = v2 → vp_in v4 8 ∧ (((hI h 87 (ix v4)) = 0 → m_X12_findLending_205 (fun (v2 : Int32) (v3 : Int32) (v4 : Int32) (hh : Hp) => m_X12_findLending_144 n k211 Q v2 v3 v4 hh) k211 Q v2 v3 v4 h) ∧ (¬ (hI h 87 (ix v4)) = 0 → vp_in v4 8 ∧ ((0 ≤ (lg_cmp (hJ h 88 (ix v4)) 0) → m_X12_findLending_205 (fun (v2 : Int32) (v3 : Int32) (v4 : Int32) (hh : Hp) => m_X12_findLending_144 n k211 Q v2 v3 v4 hh) k211 Q v2 v3 v4 h) ∧ (¬ 0 ≤ (lg_cmp (hJ h 88 (ix v4)) 0) → m_X12_netOf v4 0 v3 h (fun (x3 : Int64) (h4 : Hp) => ((lg_cmp x3 0) ≤ 0 → m_X12_findLending_205 (fun (v2 : Int32) (v3 : Int32) (v4 : Int32) (hh : Hp) => m_X12_findLending_144 n k211 Q v2 v3 v4 hh) k211 Q v2 v3 v4 h4) ∧ (¬ (lg_cmp x3 0) ≤ 0 → vp_in v2 8 ∧ (vp_in v2 8 ∧ (m_X12_findLending_205 (fun (v2 : Int32) (v3 : Int32) (v4 : Int32) (hh : Hp) => m_X12_findLending_144 n k211 Q v2 v3 v4 hh) k211 Q v2 v3 v4 (wI h4 89 (ix v2) ((hI h4 89 (ix v2)) ||| (1 <<< (v4 &&& 31))))))))))))))
set_option maxHeartbeats 4000000 in
set_option maxRecDepth 100000 in
theorem s_X12_findLending_144 {l : Launch} {G : Cx} {d : Nat} {h0 : Hp} (hd : 8 ≤ d) {k211 : Int32 → Hp → Prop} {Q : Hp → Prop} (hk211 : ∀ (v2 : Int32) (hh : Hp), k211 v2 hh → Rn l G d 0 0 MX12_findLending h0 (qV Q) 211 [some (tR 12 0 (some 51)), none, some (tI v2)] [] hh 0 0) : ∀ {n : Nat} {v2 : Int32} {v3 : Int32} {v4 : Int32} {h : Hp}, m_X12_findLending_144 n k211 Q v2 v3 v4 h → Rn l G d 0 0 MX12_findLending h0 (qV Q) 144 [some (tR 12 0 (some 51)), none, some (tI v2), some (tI v3), some (tI v4)] [] h 0 0 := by
  intro n
  induction n with
  | zero => intro v2 v3 v4 h hm; exact hm.elim
  | succ n ih =>
    intro v2 v3 v4 h hm
    have hk144 := fun (v2 : Int32) (v3 : Int32) (v4 : Int32) (hh : Hp) (hm : m_X12_findLending_144 n k211 Q v2 v3 v4 hh) => ih hm
    rw [m_X12_findLending_144] at hm
    refine r_iload dX12_findLending_144 rfl ?_
    refine r_bipush (v := 8) dX12_findLending_146 rfl ?_
    refine r_icmp_ge (tgt := 211) dX12_findLending_148 rfl (fun hc => ?_) (fun hc => ?_)
    · replace hm := hm.1 hc
      refine r_keep (L' := [some (tR 12 0 (some 51)), none, some (tI v2)]) [true, false, true] rfl ?_
      exact hk211 _ _ hm
    · replace hm := hm.2 hc
      refine r_iload dX12_findLending_151 rfl ?_
      refine r_iload_n dX12_findLending_153 rfl rfl ?_
      refine r_icmp_eq (tgt := 205) dX12_findLending_154 rfl (fun hc => ?_) (fun hc => ?_)
      · replace hm := hm.1 hc
        refine r_keep (L' := [some (tR 12 0 (some 51)), none, some (tI v2), some (tI v3), some (tI v4)]) [true, false, true, true, true] rfl ?_
        exact s_X12_findLending_205 hd hk144 hk211 hm
      · replace hm := hm.2 hc
        refine r_aload_n dX12_findLending_157 rfl rfl ?_
        refine r_getC (k := 63) cl_12 dX12_findLending_158 t_1335 gf_12_63.1 gf_12_63.2 (gc_12_63 _) ?_
        refine r_iload dX12_findLending_161 rfl ?_
        refine r_zald dX12_findLending_163 hm.1 ?_
        replace hm := hm.2
        refine r_if_eq (tgt := 205) dX12_findLending_164 rfl (fun hc => ?_) (fun hc => ?_)
        · replace hm := hm.1 hc
          refine r_keep (L' := [some (tR 12 0 (some 51)), none, some (tI v2), some (tI v3), some (tI v4)]) [true, false, true, true, true] rfl ?_
          exact s_X12_findLending_205 hd hk144 hk211 hm
        · replace hm := hm.2 hc
          refine r_aload_n dX12_findLending_167 rfl rfl ?_
          refine r_getC (k := 64) cl_12 dX12_findLending_168 t_1336 gf_12_64.1 gf_12_64.2 (gc_12_64 _) ?_
          refine r_iload dX12_findLending_171 rfl ?_
          refine r_lald dX12_findLending_173 hm.1 ?_
          replace hm := hm.2
          refine r_lconst (v := 0) dX12_findLending_174 rfl ?_
          refine r_lcmp dX12_findLending_175 ?_
          refine r_if_ge (tgt := 205) dX12_findLending_176 rfl (fun hc => ?_) (fun hc => ?_)
          · replace hm := hm.1 hc
            refine r_keep (L' := [some (tR 12 0 (some 51)), none, some (tI v2), some (tI v3), some (tI v4)]) [true, false, true, true, true] rfl ?_
            exact s_X12_findLending_205 hd hk144 hk211 hm
          · replace hm := hm.2 hc
            refine r_aload_n dX12_findLending_179 rfl rfl ?_
            refine r_iload dX12_findLending_180 rfl ?_
            refine r_iconst (v := 0) dX12_findLending_182 rfl ?_
            refine r_iload_n dX12_findLending_183 rfl rfl ?_
            refine r_callVJ (d' := d - 1) (as := [tI v4, tI 0, tI v3]) (st := []) cl_12 dX12_findLending_184 mi_X12_netOf t_1794 t_1796 ts_97 rfl rfl (Nat.le_of_ble_eq_true rfl) (by omega) ⟨by decide, by decide⟩ ⟨rfl, rfl⟩ (s_X12_netOf (by omega) hm) (fun x3 h4 hm => ?_)
            refine r_lconst (v := 0) dX12_findLending_187 rfl ?_
            refine r_lcmp dX12_findLending_188 ?_
            refine r_if_le (tgt := 205) dX12_findLending_189 rfl (fun hc => ?_) (fun hc => ?_)
            · replace hm := hm.1 hc
              refine r_keep (L' := [some (tR 12 0 (some 51)), none, some (tI v2), some (tI v3), some (tI v4)]) [true, false, true, true, true] rfl ?_
              exact s_X12_findLending_205 hd hk144 hk211 hm
            · replace hm := hm.2 hc
              refine r_aload_n dX12_findLending_192 rfl rfl ?_
              refine r_getC (k := 65) cl_12 dX12_findLending_193 t_1337 gf_12_65.1 gf_12_65.2 (gc_12_65 _) ?_
              refine r_iload_n dX12_findLending_196 rfl rfl ?_
              refine r_dup2 dX12_findLending_197 rfl cv_cat1R ?_
              refine r_iald dX12_findLending_198 hm.1 ?_
              replace hm := hm.2
              refine r_iconst (v := 1) dX12_findLending_199 rfl ?_
              refine r_iload dX12_findLending_200 rfl ?_
              refine r_ishl dX12_findLending_202 ?_
              refine r_ior dX12_findLending_203 ?_
              refine r_iast dX12_findLending_204 hm.1 ?_
              replace hm := hm.2
              refine r_keep (L' := [some (tR 12 0 (some 51)), none, some (tI v2), some (tI v3), some (tI v4)]) [true, false, true, true, true] rfl ?_
              exact s_X12_findLending_205 hd hk144 hk211 hm
def m_X12_findLending_133 (k98 : Int32 → Hp → Prop) (Q : Hp → Prop) (v2 : Int32) (s0 : Int32) (h : Hp) : Prop := (0 ≤ s0 → ∃ n144, m_X12_findLending_144 n144 (m_X12_findLending_211 k98 Q) Q v2 s0 0 h) ∧ (¬ 0 ≤ s0 → m_X12_findLending_211 k98 Q v2 h)
set_option maxHeartbeats 4000000 in
set_option maxRecDepth 100000 in
theorem s_X12_findLending_133 {l : Launch} {G : Cx} {d : Nat} {h0 : Hp} (hd : 8 ≤ d) {k98 : Int32 → Hp → Prop} {Q : Hp → Prop} (hk98 : ∀ (v2 : Int32) (hh : Hp), k98 v2 hh → Rn l G d 0 0 MX12_findLending h0 (qV Q) 98 [some (tR 12 0 (some 51)), none, some (tI v2)] [] hh 0 0) {v2 : Int32} {s0 : Int32} {h : Hp} (hm : m_X12_findLending_133 k98 Q v2 s0 h) : Rn l G d 0 0 MX12_findLending h0 (qV Q) 133 [some (tR 12 0 (some 51)), none, some (tI v2)] [tI s0] h 0 0 := by
  unfold m_X12_findLending_133 at hm
  refine r_istore_n (L' := [some (tR 12 0 (some 51)), none, some (tI v2), some (tI s0)]) dX12_findLending_133 rfl (by decide) rfl ?_
  refine r_iload_n dX12_findLending_134 rfl rfl ?_
  refine r_if_ge (tgt := 141) dX12_findLending_135 rfl (fun hc => ?_) (fun hc => ?_)
  · replace hm := hm.1 hc
    refine r_iconst (v := 0) dX12_findLending_141 rfl ?_
    refine r_istore (L' := [some (tR 12 0 (some 51)), none, some (tI v2), some (tI s0), some (tI 0)]) dX12_findLending_142 (by decide) rfl ?_
    refine r_keep (L' := [some (tR 12 0 (some 51)), none, some (tI v2), some (tI s0), some (tI 0)]) [true, false, true, true, true] rfl ?_
    obtain ⟨n, hm⟩ := hm
    refine s_X12_findLending_144 hd ?_ hm
    · exact (fun _ _ hm => s_X12_findLending_211 hd hk98 hm)
  · replace hm := hm.2 hc
    refine r_goto (tgt := 211) dX12_findLending_138 rfl ?_
    refine r_keep (L' := [some (tR 12 0 (some 51)), none, some (tI v2)]) [true, false, true] rfl ?_
    exact s_X12_findLending_211 hd hk98 hm
def m_X12_findLending_132 (k98 : Int32 → Hp → Prop) (Q : Hp → Prop) (v2 : Int32) (h : Hp) : Prop := m_X12_findLending_133 k98 Q v2 (-1) h
set_option maxHeartbeats 4000000 in
set_option maxRecDepth 100000 in
theorem s_X12_findLending_132 {l : Launch} {G : Cx} {d : Nat} {h0 : Hp} (hd : 8 ≤ d) {k98 : Int32 → Hp → Prop} {Q : Hp → Prop} (hk98 : ∀ (v2 : Int32) (hh : Hp), k98 v2 hh → Rn l G d 0 0 MX12_findLending h0 (qV Q) 98 [some (tR 12 0 (some 51)), none, some (tI v2)] [] hh 0 0) {v2 : Int32} {h : Hp} (hm : m_X12_findLending_132 k98 Q v2 h) : Rn l G d 0 0 MX12_findLending h0 (qV Q) 132 [some (tR 12 0 (some 51)), none, some (tI v2)] [] h 0 0 := by
  unfold m_X12_findLending_132 at hm
  refine r_iconst (v := (-1)) dX12_findLending_132 rfl ?_
  refine r_keep (L' := [some (tR 12 0 (some 51)), none, some (tI v2)]) [true, false, true] rfl ?_
  exact s_X12_findLending_133 hd hk98 hm
def m_X12_findLending_98 : Nat → (Hp → Prop) → Int32 → Hp → Prop
  | 0, _, _, _ => False
  | n + 1, Q, v2, h => (8 ≤ v2 → Q h) ∧ (¬ 8 ≤ v2 → vp_in v2 8 ∧ (((hI h 87 (ix v2)) = 0 → m_X12_findLending_132 (fun (v2 : Int32) (hh : Hp) => m_X12_findLending_98 n Q v2 hh) Q v2 h) ∧ (¬ (hI h 87 (ix v2)) = 0 → vp_in v2 8 ∧ (((lg_cmp (hJ h 88 (ix v2)) 0) ≤ 0 → m_X12_findLending_132 (fun (v2 : Int32) (hh : Hp) => m_X12_findLending_98 n Q v2 hh) Q v2 h) ∧ (¬ (lg_cmp (hJ h 88 (ix v2)) 0) ≤ 0 → m_X12_lendingDay v2 h (fun (x5 : Int32) (h6 : Hp) => m_X12_findLending_133 (fun (v2 : Int32) (hh : Hp) => m_X12_findLending_98 n Q v2 hh) Q v2 x5 h6))))))
set_option maxHeartbeats 4000000 in
set_option maxRecDepth 100000 in
theorem s_X12_findLending_98 {l : Launch} {G : Cx} {d : Nat} {h0 : Hp} (hd : 8 ≤ d) {Q : Hp → Prop} : ∀ {n : Nat} {v2 : Int32} {h : Hp}, m_X12_findLending_98 n Q v2 h → Rn l G d 0 0 MX12_findLending h0 (qV Q) 98 [some (tR 12 0 (some 51)), none, some (tI v2)] [] h 0 0 := by
  intro n
  induction n with
  | zero => intro v2 h hm; exact hm.elim
  | succ n ih =>
    intro v2 h hm
    have hk98 := fun (v2 : Int32) (hh : Hp) (hm : m_X12_findLending_98 n Q v2 hh) => ih hm
    rw [m_X12_findLending_98] at hm
    refine r_iload_n dX12_findLending_98 rfl rfl ?_
    refine r_bipush (v := 8) dX12_findLending_99 rfl ?_
    refine r_icmp_ge (tgt := 217) dX12_findLending_101 rfl (fun hc => ?_) (fun hc => ?_)
    · replace hm := hm.1 hc
      exact r_return dX12_findLending_217 rfl ⟨by decide, by decide⟩ ⟨rfl, hm⟩
    · replace hm := hm.2 hc
      refine r_aload_n dX12_findLending_104 rfl rfl ?_
      refine r_getC (k := 63) cl_12 dX12_findLending_105 t_1335 gf_12_63.1 gf_12_63.2 (gc_12_63 _) ?_
      refine r_iload_n dX12_findLending_108 rfl rfl ?_
      refine r_zald dX12_findLending_109 hm.1 ?_
      replace hm := hm.2
      refine r_if_eq (tgt := 132) dX12_findLending_110 rfl (fun hc => ?_) (fun hc => ?_)
      · replace hm := hm.1 hc
        refine r_keep (L' := [some (tR 12 0 (some 51)), none, some (tI v2)]) [true, false, true] rfl ?_
        exact s_X12_findLending_132 hd hk98 hm
      · replace hm := hm.2 hc
        refine r_aload_n dX12_findLending_113 rfl rfl ?_
        refine r_getC (k := 64) cl_12 dX12_findLending_114 t_1336 gf_12_64.1 gf_12_64.2 (gc_12_64 _) ?_
        refine r_iload_n dX12_findLending_117 rfl rfl ?_
        refine r_lald dX12_findLending_118 hm.1 ?_
        replace hm := hm.2
        refine r_lconst (v := 0) dX12_findLending_119 rfl ?_
        refine r_lcmp dX12_findLending_120 ?_
        refine r_if_le (tgt := 132) dX12_findLending_121 rfl (fun hc => ?_) (fun hc => ?_)
        · replace hm := hm.1 hc
          refine r_keep (L' := [some (tR 12 0 (some 51)), none, some (tI v2)]) [true, false, true] rfl ?_
          exact s_X12_findLending_132 hd hk98 hm
        · replace hm := hm.2 hc
          refine r_aload_n dX12_findLending_124 rfl rfl ?_
          refine r_iload_n dX12_findLending_125 rfl rfl ?_
          refine r_callVI (d' := d - 1) (as := [tI v2]) (st := []) cl_12 dX12_findLending_126 mi_X12_lendingDay t_1832 t_1834 ts_103 rfl rfl (Nat.le_of_ble_eq_true rfl) (by omega) ⟨by decide, by decide⟩ ⟨rfl, rfl⟩ (s_X12_lendingDay (by omega) hm) (fun x5 h6 hm => ?_)
          refine r_goto (tgt := 133) dX12_findLending_129 rfl ?_
          refine r_keep (L' := [some (tR 12 0 (some 51)), none, some (tI v2)]) [true, false, true] rfl ?_
          exact s_X12_findLending_133 hd hk98 hm
def m_X12_findLending_96  (Q : Hp → Prop) (h : Hp) : Prop := ∃ n98, m_X12_findLending_98 n98 Q 0 h
set_option maxHeartbeats 4000000 in
set_option maxRecDepth 100000 in
theorem s_X12_findLending_96 {l : Launch} {G : Cx} {d : Nat} {h0 : Hp} (hd : 8 ≤ d) {Q : Hp → Prop} {h : Hp} (hm : m_X12_findLending_96 Q h) : Rn l G d 0 0 MX12_findLending h0 (qV Q) 96 [some (tR 12 0 (some 51))] [] h 0 0 := by
  unfold m_X12_findLending_96 at hm
  refine r_iconst (v := 0) dX12_findLending_96 rfl ?_
  refine r_istore_n (L' := [some (tR 12 0 (some 51)), none, some (tI 0)]) dX12_findLending_97 rfl (by decide) rfl ?_
  refine r_keep (L' := [some (tR 12 0 (some 51)), none, some (tI 0)]) [true, false, true] rfl ?_
  obtain ⟨n, hm⟩ := hm
  refine s_X12_findLending_98 hd hm
def m_X12_findLending_90 (k11 : Int32 → Hp → Prop) (k96 : Hp → Prop) (Q : Hp → Prop) (v2 : Int32) (h : Hp) : Prop := ∀ x7 : Int32, x7 = v2 + 1 → k11 x7 h
set_option maxHeartbeats 4000000 in
set_option maxRecDepth 100000 in
theorem s_X12_findLending_90 {l : Launch} {G : Cx} {d : Nat} {h0 : Hp} (hd : 8 ≤ d) {k11 : Int32 → Hp → Prop} {k96 : Hp → Prop} {Q : Hp → Prop} (hk11 : ∀ (v2 : Int32) (hh : Hp), k11 v2 hh → Rn l G d 0 0 MX12_findLending h0 (qV Q) 11 [some (tR 12 0 (some 51)), none, some (tI v2)] [] hh 0 0) (hk96 : ∀ (hh : Hp), k96 hh → Rn l G d 0 0 MX12_findLending h0 (qV Q) 96 [some (tR 12 0 (some 51))] [] hh 0 0) {v2 : Int32} {h : Hp} (hm : m_X12_findLending_90 k11 k96 Q v2 h) : Rn l G d 0 0 MX12_findLending h0 (qV Q) 90 [some (tR 12 0 (some 51)), none, some (tI v2)] [] h 0 0 := by
  unfold m_X12_findLending_90 at hm
  obtain ⟨x7, e_x7⟩ : ∃ y : Int32, y = v2 + 1 := ⟨_, rfl⟩
  replace hm := hm x7 e_x7
  refine r_iinc (L' := [some (tR 12 0 (some 51)), none, some (tI x7)]) dX12_findLending_90 rfl (by rw [e_x7]; rfl) (by decide) rfl ?_
  refine r_goto (tgt := 11) dX12_findLending_93 rfl ?_
  refine r_keep (L' := [some (tR 12 0 (some 51)), none, some (tI x7)]) [true, false, true] rfl ?_
  exact hk11 _ _ hm
def m_X12_findLending_83 (k46 : Int32 → Int32 → Hp → Prop) (k90 : Int32 → Hp → Prop) (Q : Hp → Prop) (v2 : Int32) (v3 : Int32) (s1 : Int32) (s2 : Int32) (h : Hp) : Prop := vp_in s1 8 ∧ (∀ x8 : Int32, x8 = v3 + 1 → k46 v2 x8 (wI h 87 (ix s1) (s2 &&& 1)))
set_option maxHeartbeats 4000000 in
set_option maxRecDepth 100000 in
theorem s_X12_findLending_83 {l : Launch} {G : Cx} {d : Nat} {h0 : Hp} (hd : 8 ≤ d) {k46 : Int32 → Int32 → Hp → Prop} {k90 : Int32 → Hp → Prop} {Q : Hp → Prop} (hk46 : ∀ (v2 : Int32) (v3 : Int32) (hh : Hp), k46 v2 v3 hh → Rn l G d 0 0 MX12_findLending h0 (qV Q) 46 [some (tR 12 0 (some 51)), none, some (tI v2), some (tI v3)] [] hh 0 0) (hk90 : ∀ (v2 : Int32) (hh : Hp), k90 v2 hh → Rn l G d 0 0 MX12_findLending h0 (qV Q) 90 [some (tR 12 0 (some 51)), none, some (tI v2)] [] hh 0 0) {v2 : Int32} {v3 : Int32} {s1 : Int32} {s2 : Int32} {h : Hp} (hm : m_X12_findLending_83 k46 k90 Q v2 v3 s1 s2 h) : Rn l G d 0 0 MX12_findLending h0 (qV Q) 83 [some (tR 12 0 (some 51)), none, some (tI v2), some (tI v3)] [tI s2, tI s1, tR 42 8 (some 87)] h 0 0 := by
  unfold m_X12_findLending_83 at hm
  refine r_zast dX12_findLending_83 hm.1 ?_
  replace hm := hm.2
  obtain ⟨x8, e_x8⟩ : ∃ y : Int32, y = v3 + 1 := ⟨_, rfl⟩
  replace hm := hm x8 e_x8
  refine r_iinc (L' := [some (tR 12 0 (some 51)), none, some (tI v2), some (tI x8)]) dX12_findLending_84 rfl (by rw [e_x8]; rfl) (by decide) rfl ?_
  refine r_goto (tgt := 46) dX12_findLending_87 rfl ?_
  refine r_keep (L' := [some (tR 12 0 (some 51)), none, some (tI v2), some (tI x8)]) [true, false, true, true] rfl ?_
  exact hk46 _ _ _ hm
def m_X12_findLending_82 (k46 : Int32 → Int32 → Hp → Prop) (k90 : Int32 → Hp → Prop) (Q : Hp → Prop) (v2 : Int32) (v3 : Int32) (s1 : Int32) (h : Hp) : Prop := m_X12_findLending_83 k46 k90 Q v2 v3 s1 0 h
set_option maxHeartbeats 4000000 in
set_option maxRecDepth 100000 in
theorem s_X12_findLending_82 {l : Launch} {G : Cx} {d : Nat} {h0 : Hp} (hd : 8 ≤ d) {k46 : Int32 → Int32 → Hp → Prop} {k90 : Int32 → Hp → Prop} {Q : Hp → Prop} (hk46 : ∀ (v2 : Int32) (v3 : Int32) (hh : Hp), k46 v2 v3 hh → Rn l G d 0 0 MX12_findLending h0 (qV Q) 46 [some (tR 12 0 (some 51)), none, some (tI v2), some (tI v3)] [] hh 0 0) (hk90 : ∀ (v2 : Int32) (hh : Hp), k90 v2 hh → Rn l G d 0 0 MX12_findLending h0 (qV Q) 90 [some (tR 12 0 (some 51)), none, some (tI v2)] [] hh 0 0) {v2 : Int32} {v3 : Int32} {s1 : Int32} {h : Hp} (hm : m_X12_findLending_82 k46 k90 Q v2 v3 s1 h) : Rn l G d 0 0 MX12_findLending h0 (qV Q) 82 [some (tR 12 0 (some 51)), none, some (tI v2), some (tI v3)] [tI s1, tR 42 8 (some 87)] h 0 0 := by
  unfold m_X12_findLending_82 at hm
  refine r_iconst (v := 0) dX12_findLending_82 rfl ?_
  refine r_keep (L' := [some (tR 12 0 (some 51)), none, some (tI v2), some (tI v3)]) [true, false, true, true] rfl ?_
  exact s_X12_findLending_83 hd hk46 hk90 hm
def m_X12_findLending_46 : Nat → (Int32 → Hp → Prop) → (Hp → Prop) → Int32 → Int32 → Hp → Prop
  | 0, _, _, _, _, _ => False
  | n + 1, k90, Q, v2, v3, h => (6 ≤ v3 → k90 v2 h) ∧ (¬ 6 ≤ v3 → vp_in v2 8 ∧ (((hI h 87 (ix v2)) = 0 → m_X12_findLending_82 (fun (v2 : Int32) (v3 : Int32) (hh : Hp) => m_X12_findLending_46 n k90 Q v2 v3 hh) k90 Q v2 v3 v2 h) ∧ (¬ (hI h 87 (ix v2)) = 0 → m_X12_netOf v2 v3 (-1) h (fun (x9 : Int64) (h10 : Hp) => (¬ (lg_cmp x9 0) = 0 → m_X12_findLending_82 (fun (v2 : Int32) (v3 : Int32) (hh : Hp) => m_X12_findLending_46 n k90 Q v2 v3 hh) k90 Q v2 v3 v2 h10) ∧ ((lg_cmp x9 0) = 0 → m_X12_findLending_83 (fun (v2 : Int32) (v3 : Int32) (hh : Hp) => m_X12_findLending_46 n k90 Q v2 v3 hh) k90 Q v2 v3 v2 1 h10)))))
set_option maxHeartbeats 4000000 in
set_option maxRecDepth 100000 in
theorem s_X12_findLending_46 {l : Launch} {G : Cx} {d : Nat} {h0 : Hp} (hd : 8 ≤ d) {k90 : Int32 → Hp → Prop} {Q : Hp → Prop} (hk90 : ∀ (v2 : Int32) (hh : Hp), k90 v2 hh → Rn l G d 0 0 MX12_findLending h0 (qV Q) 90 [some (tR 12 0 (some 51)), none, some (tI v2)] [] hh 0 0) : ∀ {n : Nat} {v2 : Int32} {v3 : Int32} {h : Hp}, m_X12_findLending_46 n k90 Q v2 v3 h → Rn l G d 0 0 MX12_findLending h0 (qV Q) 46 [some (tR 12 0 (some 51)), none, some (tI v2), some (tI v3)] [] h 0 0 := by
  intro n
  induction n with
  | zero => intro v2 v3 h hm; exact hm.elim
  | succ n ih =>
    intro v2 v3 h hm
    have hk46 := fun (v2 : Int32) (v3 : Int32) (hh : Hp) (hm : m_X12_findLending_46 n k90 Q v2 v3 hh) => ih hm
    rw [m_X12_findLending_46] at hm
    refine r_iload_n dX12_findLending_46 rfl rfl ?_
    refine r_bipush (v := 6) dX12_findLending_47 rfl ?_
    refine r_icmp_ge (tgt := 90) dX12_findLending_49 rfl (fun hc => ?_) (fun hc => ?_)
    · replace hm := hm.1 hc
      refine r_keep (L' := [some (tR 12 0 (some 51)), none, some (tI v2)]) [true, false, true] rfl ?_
      exact hk90 _ _ hm
    · replace hm := hm.2 hc
      refine r_aload_n dX12_findLending_52 rfl rfl ?_
      refine r_getC (k := 63) cl_12 dX12_findLending_53 t_1335 gf_12_63.1 gf_12_63.2 (gc_12_63 _) ?_
      refine r_iload_n dX12_findLending_56 rfl rfl ?_
      refine r_aload_n dX12_findLending_57 rfl rfl ?_
      refine r_getC (k := 63) cl_12 dX12_findLending_58 t_1335 gf_12_63.1 gf_12_63.2 (gc_12_63 _) ?_
      refine r_iload_n dX12_findLending_61 rfl rfl ?_
      refine r_zald dX12_findLending_62 hm.1 ?_
      replace hm := hm.2
      refine r_if_eq (tgt := 82) dX12_findLending_63 rfl (fun hc => ?_) (fun hc => ?_)
      · replace hm := hm.1 hc
        refine r_keep (L' := [some (tR 12 0 (some 51)), none, some (tI v2), some (tI v3)]) [true, false, true, true] rfl ?_
        exact s_X12_findLending_82 hd hk46 hk90 hm
      · replace hm := hm.2 hc
        refine r_aload_n dX12_findLending_66 rfl rfl ?_
        refine r_iload_n dX12_findLending_67 rfl rfl ?_
        refine r_iload_n dX12_findLending_68 rfl rfl ?_
        refine r_iconst (v := (-1)) dX12_findLending_69 rfl ?_
        refine r_callVJ (d' := d - 1) (as := [tI v2, tI v3, tI (-1)]) (st := [tI v2, tR 42 8 (some 87)]) cl_12 dX12_findLending_70 mi_X12_netOf t_1794 t_1796 ts_97 rfl rfl (Nat.le_of_ble_eq_true rfl) (by omega) ⟨by decide, by decide⟩ ⟨rfl, rfl⟩ (s_X12_netOf (by omega) hm) (fun x9 h10 hm => ?_)
        refine r_lconst (v := 0) dX12_findLending_73 rfl ?_
        refine r_lcmp dX12_findLending_74 ?_
        refine r_if_ne (tgt := 82) dX12_findLending_75 rfl (fun hc => ?_) (fun hc => ?_)
        · replace hm := hm.1 hc
          refine r_keep (L' := [some (tR 12 0 (some 51)), none, some (tI v2), some (tI v3)]) [true, false, true, true] rfl ?_
          exact s_X12_findLending_82 hd hk46 hk90 hm
        · replace hm := hm.2 hc
          refine r_iconst (v := 1) dX12_findLending_78 rfl ?_
          refine r_goto (tgt := 83) dX12_findLending_79 rfl ?_
          refine r_keep (L' := [some (tR 12 0 (some 51)), none, some (tI v2), some (tI v3)]) [true, false, true, true] rfl ?_
          exact s_X12_findLending_83 hd hk46 hk90 hm
def m_X12_findLending_11 : Nat → (Hp → Prop) → (Hp → Prop) → Int32 → Hp → Prop
  | 0, _, _, _, _ => False
  | n + 1, k96, Q, v2, h => (8 ≤ v2 → k96 h) ∧ (¬ 8 ≤ v2 → vp_in v2 8 ∧ (vp_in v2 8 ∧ (m_X12_netOf v2 0 (-1) (wI (wI h 89 (ix v2) 0) 87 (ix v2) (1 &&& 1)) (fun (x11 : Int64) (h12 : Hp) => vp_in v2 8 ∧ (∃ n46, m_X12_findLending_46 n46 (m_X12_findLending_90 (fun (v2 : Int32) (hh : Hp) => m_X12_findLending_11 n k96 Q v2 hh) k96 Q) Q v2 1 (wJ h12 88 (ix v2) x11))))))
set_option maxHeartbeats 4000000 in
set_option maxRecDepth 100000 in
theorem s_X12_findLending_11 {l : Launch} {G : Cx} {d : Nat} {h0 : Hp} (hd : 8 ≤ d) {k96 : Hp → Prop} {Q : Hp → Prop} (hk96 : ∀ (hh : Hp), k96 hh → Rn l G d 0 0 MX12_findLending h0 (qV Q) 96 [some (tR 12 0 (some 51))] [] hh 0 0) : ∀ {n : Nat} {v2 : Int32} {h : Hp}, m_X12_findLending_11 n k96 Q v2 h → Rn l G d 0 0 MX12_findLending h0 (qV Q) 11 [some (tR 12 0 (some 51)), none, some (tI v2)] [] h 0 0 := by
  intro n
  induction n with
  | zero => intro v2 h hm; exact hm.elim
  | succ n ih =>
    intro v2 h hm
    have hk11 := fun (v2 : Int32) (hh : Hp) (hm : m_X12_findLending_11 n k96 Q v2 hh) => ih hm
    rw [m_X12_findLending_11] at hm
    refine r_iload_n dX12_findLending_11 rfl rfl ?_
    refine r_bipush (v := 8) dX12_findLending_12 rfl ?_
    refine r_icmp_ge (tgt := 96) dX12_findLending_14 rfl (fun hc => ?_) (fun hc => ?_)
    · replace hm := hm.1 hc
      refine r_keep (L' := [some (tR 12 0 (some 51))]) [true] rfl ?_
      exact hk96 _ hm
    · replace hm := hm.2 hc
      refine r_aload_n dX12_findLending_17 rfl rfl ?_
      refine r_getC (k := 65) cl_12 dX12_findLending_18 t_1337 gf_12_65.1 gf_12_65.2 (gc_12_65 _) ?_
      refine r_iload_n dX12_findLending_21 rfl rfl ?_
      refine r_iconst (v := 0) dX12_findLending_22 rfl ?_
      refine r_iast dX12_findLending_23 hm.1 ?_
      replace hm := hm.2
      refine r_aload_n dX12_findLending_24 rfl rfl ?_
      refine r_getC (k := 63) cl_12 dX12_findLending_25 t_1335 gf_12_63.1 gf_12_63.2 (gc_12_63 _) ?_
      refine r_iload_n dX12_findLending_28 rfl rfl ?_
      refine r_iconst (v := 1) dX12_findLending_29 rfl ?_
      refine r_zast dX12_findLending_30 hm.1 ?_
      replace hm := hm.2
      refine r_aload_n dX12_findLending_31 rfl rfl ?_
      refine r_getC (k := 64) cl_12 dX12_findLending_32 t_1336 gf_12_64.1 gf_12_64.2 (gc_12_64 _) ?_
      refine r_iload_n dX12_findLending_35 rfl rfl ?_
      refine r_aload_n dX12_findLending_36 rfl rfl ?_
      refine r_iload_n dX12_findLending_37 rfl rfl ?_
      refine r_iconst (v := 0) dX12_findLending_38 rfl ?_
      refine r_iconst (v := (-1)) dX12_findLending_39 rfl ?_
      refine r_callVJ (d' := d - 1) (as := [tI v2, tI 0, tI (-1)]) (st := [tI v2, tR 43 8 (some 88)]) cl_12 dX12_findLending_40 mi_X12_netOf t_1794 t_1796 ts_97 rfl rfl (Nat.le_of_ble_eq_true rfl) (by omega) ⟨by decide, by decide⟩ ⟨rfl, rfl⟩ (s_X12_netOf (by omega) hm) (fun x11 h12 hm => ?_)
      refine r_last dX12_findLending_43 hm.1 ?_
      replace hm := hm.2
      refine r_iconst (v := 1) dX12_findLending_44 rfl ?_
      refine r_istore_n (L' := [some (tR 12 0 (some 51)), none, some (tI v2), some (tI 1)]) dX12_findLending_45 rfl (by decide) rfl ?_
      refine r_keep (L' := [some (tR 12 0 (some 51)), none, some (tI v2), some (tI 1)]) [true, false, true, true] rfl ?_
      obtain ⟨n, hm⟩ := hm
      refine s_X12_findLending_46 hd ?_ hm
      · exact (fun _ _ hm => s_X12_findLending_90 hd hk11 hk96 hm)
def m_X12_findLending (v1 : Int32) (h : Hp) (Q : Hp → Prop) : Prop := m_X12_passesAll v1 h (fun (h14 : Hp) => m_X12_findDays h14 (fun (h16 : Hp) => ∃ n11, m_X12_findLending_11 n11 (m_X12_findLending_96 Q) Q 0 h16))
set_option maxHeartbeats 4000000 in
set_option maxRecDepth 100000 in
theorem s_X12_findLending {l : Launch} {G : Cx} {d : Nat} (hd : 8 ≤ d) {v1 : Int32} {h : Hp} {Q : Hp → Prop} (hm : m_X12_findLending v1 h Q) : Ct l G d 0 0 yX12_findLending MX12_findLending [tR 12 0 (some 51), tI v1] h (qV Q) := by
  unfold m_X12_findLending at hm
  refine Ct.of (L := [some (tR 12 0 (some 51)), some (tI v1)]) (by decide) rfl rfl (Nat.le_of_ble_eq_true rfl) rfl ?_
  refine r_aload_n dX12_findLending_0 rfl rfl ?_
  refine r_iload_n dX12_findLending_1 rfl rfl ?_
  refine r_callVU (d' := d - 1) (as := [tI v1]) (st := []) cl_12 dX12_findLending_2 mi_X12_passesAll t_1790 t_1792 ts_96 rfl rfl (Nat.le_of_ble_eq_true rfl) (by omega) ⟨by decide, by decide⟩ ⟨rfl, rfl⟩ (s_X12_passesAll (by omega) hm) (fun h14 hm => ?_)
  refine r_aload_n dX12_findLending_5 rfl rfl ?_
  refine r_callVU (d' := d - 1) (as := []) (st := []) cl_12 dX12_findLending_6 mi_X12_findDays t_1828 t_1830 ts_102 rfl rfl (Nat.le_of_ble_eq_true rfl) (by omega) ⟨by decide, by decide⟩ ⟨rfl, rfl⟩ (s_X12_findDays (by omega) hm) (fun h16 hm => ?_)
  refine r_iconst (v := 0) dX12_findLending_9 rfl ?_
  refine r_istore_n (L' := [some (tR 12 0 (some 51)), some (tI v1), some (tI 0)]) dX12_findLending_10 rfl (by decide) rfl ?_
  refine r_keep (L' := [some (tR 12 0 (some 51)), none, some (tI 0)]) [true, false, true] rfl ?_
  obtain ⟨n, hm⟩ := hm
  refine s_X12_findLending_11 hd ?_ hm
  · exact (fun _ hm => s_X12_findLending_96 hd hm)
theorem dX12_areTwo_0 : decode cX12_areTwo 0 = .ok (.iload_n 0, 1) := rfl
theorem dX12_areTwo_1 : decode cX12_areTwo 1 = .ok (.iconst 0, 1) := rfl
theorem dX12_areTwo_2 : decode cX12_areTwo 2 = .ok (.bipush 7, 2) := by decide +kernel
theorem dX12_areTwo_4 : decode cX12_areTwo 4 = .ok (.invokestatic 185, 3) := rfl
theorem dX12_areTwo_7 : decode cX12_areTwo 7 = .ok (.ifCond .eq 22, 3) := by decide +kernel
theorem dX12_areTwo_10 : decode cX12_areTwo 10 = .ok (.iload_n 1, 1) := rfl
theorem dX12_areTwo_11 : decode cX12_areTwo 11 = .ok (.iconst 0, 1) := rfl
theorem dX12_areTwo_12 : decode cX12_areTwo 12 = .ok (.bipush 7, 2) := by decide +kernel
theorem dX12_areTwo_14 : decode cX12_areTwo 14 = .ok (.invokestatic 185, 3) := rfl
theorem dX12_areTwo_17 : decode cX12_areTwo 17 = .ok (.ifCond .eq 12, 3) := by decide +kernel
theorem dX12_areTwo_20 : decode cX12_areTwo 20 = .ok (.iload_n 0, 1) := rfl
theorem dX12_areTwo_21 : decode cX12_areTwo 21 = .ok (.iload_n 1, 1) := rfl
theorem dX12_areTwo_22 : decode cX12_areTwo 22 = .ok (.if_icmp .eq 7, 3) := by decide +kernel
theorem dX12_areTwo_25 : decode cX12_areTwo 25 = .ok (.iconst 1, 1) := rfl
theorem dX12_areTwo_26 : decode cX12_areTwo 26 = .ok (.goto 4, 3) := by decide +kernel
theorem dX12_areTwo_29 : decode cX12_areTwo 29 = .ok (.iconst 0, 1) := rfl
theorem dX12_areTwo_30 : decode cX12_areTwo 30 = .ok (.ireturn, 1) := rfl
def m_X12_areTwo (v0 : Int32) (v1 : Int32) (h : Hp) (Q : Int32 → Hp → Prop) : Prop := m_X12_within v0 0 7 h (fun (x1 : Int32) (h2 : Hp) => (x1 = 0 → Q 0 h2) ∧ (¬ x1 = 0 → m_X12_within v1 0 7 h2 (fun (x3 : Int32) (h4 : Hp) => (x3 = 0 → Q 0 h4) ∧ (¬ x3 = 0 → (v0 = v1 → Q 0 h4) ∧ (¬ v0 = v1 → Q 1 h4)))))
set_option maxHeartbeats 4000000 in
set_option maxRecDepth 100000 in
theorem s_X12_areTwo {l : Launch} {G : Cx} {d : Nat} (hd : 4 ≤ d) {v0 : Int32} {v1 : Int32} {h : Hp} {Q : Int32 → Hp → Prop} (hm : m_X12_areTwo v0 v1 h Q) : Ct l G d 0 0 yX12_areTwo MX12_areTwo [tI v0, tI v1] h (qI Q) := by
  unfold m_X12_areTwo at hm
  refine Ct.of (L := [some (tI v0), some (tI v1)]) (by decide) rfl rfl (Nat.le_of_ble_eq_true rfl) rfl ?_
  refine r_iload_n dX12_areTwo_0 rfl rfl ?_
  refine r_iconst (v := 0) dX12_areTwo_1 rfl ?_
  refine r_bipush (v := 7) dX12_areTwo_2 rfl ?_
  refine r_callSI (d' := d - 1) (as := [tI v0, tI 0, tI 7]) (st := []) dX12_areTwo_4 mi_X12_within t_1557 t_1558 rfl rfl (Nat.le_of_ble_eq_true rfl) (by omega) ⟨by decide, by decide⟩ ⟨rfl, rfl⟩ (s_X12_within (by omega) hm) (fun x1 h2 hm => ?_)
  refine r_if_eq (tgt := 29) dX12_areTwo_7 rfl (fun hc => ?_) (fun hc => ?_)
  · replace hm := hm.1 hc
    refine r_iconst (v := 0) dX12_areTwo_29 rfl ?_
    exact r_bret dX12_areTwo_30 rfl ⟨by decide, by decide⟩ (by unfold bz; decide) ⟨_, rfl, hm⟩
  · replace hm := hm.2 hc
    refine r_iload_n dX12_areTwo_10 rfl rfl ?_
    refine r_iconst (v := 0) dX12_areTwo_11 rfl ?_
    refine r_bipush (v := 7) dX12_areTwo_12 rfl ?_
    refine r_callSI (d' := d - 1) (as := [tI v1, tI 0, tI 7]) (st := []) dX12_areTwo_14 mi_X12_within t_1557 t_1558 rfl rfl (Nat.le_of_ble_eq_true rfl) (by omega) ⟨by decide, by decide⟩ ⟨rfl, rfl⟩ (s_X12_within (by omega) hm) (fun x3 h4 hm => ?_)
    refine r_if_eq (tgt := 29) dX12_areTwo_17 rfl (fun hc => ?_) (fun hc => ?_)
    · replace hm := hm.1 hc
      refine r_iconst (v := 0) dX12_areTwo_29 rfl ?_
      exact r_bret dX12_areTwo_30 rfl ⟨by decide, by decide⟩ (by unfold bz; decide) ⟨_, rfl, hm⟩
    · replace hm := hm.2 hc
      refine r_iload_n dX12_areTwo_20 rfl rfl ?_
      refine r_iload_n dX12_areTwo_21 rfl rfl ?_
      refine r_icmp_eq (tgt := 29) dX12_areTwo_22 rfl (fun hc => ?_) (fun hc => ?_)
      · replace hm := hm.1 hc
        refine r_iconst (v := 0) dX12_areTwo_29 rfl ?_
        exact r_bret dX12_areTwo_30 rfl ⟨by decide, by decide⟩ (by unfold bz; decide) ⟨_, rfl, hm⟩
      · replace hm := hm.2 hc
        refine r_iconst (v := 1) dX12_areTwo_25 rfl ?_
        refine r_goto (tgt := 30) dX12_areTwo_26 rfl ?_
        exact r_bret dX12_areTwo_30 rfl ⟨by decide, by decide⟩ (by unfold bz; decide) ⟨_, rfl, hm⟩
theorem dX12_lends_0 : decode cX12_lends 0 = .ok (.aload_n 0, 1) := rfl
theorem dX12_lends_1 : decode cX12_lends 1 = .ok (.invokevirtual 452, 3) := rfl
theorem dX12_lends_4 : decode cX12_lends 4 = .ok (.iload_n 1, 1) := rfl
theorem dX12_lends_5 : decode cX12_lends 5 = .ok (.iload_n 2, 1) := rfl
theorem dX12_lends_6 : decode cX12_lends 6 = .ok (.invokestatic 486, 3) := rfl
theorem dX12_lends_9 : decode cX12_lends 9 = .ok (.ifCond .eq 10, 3) := by decide +kernel
theorem dX12_lends_12 : decode cX12_lends 12 = .ok (.aload_n 0, 1) := rfl
theorem dX12_lends_13 : decode cX12_lends 13 = .ok (.invokevirtual 474, 3) := rfl
theorem dX12_lends_16 : decode cX12_lends 16 = .ok (.ifCond .ne 5, 3) := by decide +kernel
theorem dX12_lends_19 : decode cX12_lends 19 = .ok (.iconst (-1), 1) := rfl
theorem dX12_lends_20 : decode cX12_lends 20 = .ok (.ireturn, 1) := rfl
theorem dX12_lends_21 : decode cX12_lends 21 = .ok (.iconst 0, 1) := rfl
theorem dX12_lends_22 : decode cX12_lends 22 = .ok (.istore_n 3, 1) := rfl
theorem dX12_lends_23 : decode cX12_lends 23 = .ok (.aload_n 0, 1) := rfl
theorem dX12_lends_24 : decode cX12_lends 24 = .ok (.iconst 0, 1) := rfl
theorem dX12_lends_25 : decode cX12_lends 25 = .ok (.invokevirtual 489, 3) := rfl
theorem dX12_lends_28 : decode cX12_lends 28 = .ok (.istore 4, 2) := rfl
theorem dX12_lends_30 : decode cX12_lends 30 = .ok (.iload 4, 2) := rfl
theorem dX12_lends_32 : decode cX12_lends 32 = .ok (.ifCond .lt 35, 3) := by decide +kernel
theorem dX12_lends_35 : decode cX12_lends 35 = .ok (.aload_n 0, 1) := rfl
theorem dX12_lends_36 : decode cX12_lends 36 = .ok (.iload 4, 2) := rfl
theorem dX12_lends_38 : decode cX12_lends 38 = .ok (.invokevirtual 492, 3) := rfl
theorem dX12_lends_41 : decode cX12_lends 41 = .ok (.iload_n 3, 1) := rfl
theorem dX12_lends_42 : decode cX12_lends 42 = .ok (.aload_n 0, 1) := rfl
theorem dX12_lends_43 : decode cX12_lends 43 = .ok (.getfield 128, 3) := rfl
theorem dX12_lends_46 : decode cX12_lends 46 = .ok (.iload_n 1, 1) := rfl
theorem dX12_lends_47 : decode cX12_lends 47 = .ok (.iaload, 1) := rfl
theorem dX12_lends_48 : decode cX12_lends 48 = .ok (.iload_n 2, 1) := rfl
theorem dX12_lends_49 : decode cX12_lends 49 = .ok (.ishr, 1) := rfl
theorem dX12_lends_50 : decode cX12_lends 50 = .ok (.iconst 1, 1) := rfl
theorem dX12_lends_51 : decode cX12_lends 51 = .ok (.iand, 1) := rfl
theorem dX12_lends_52 : decode cX12_lends 52 = .ok (.iadd, 1) := rfl
theorem dX12_lends_53 : decode cX12_lends 53 = .ok (.istore_n 3, 1) := rfl
theorem dX12_lends_54 : decode cX12_lends 54 = .ok (.aload_n 0, 1) := rfl
theorem dX12_lends_55 : decode cX12_lends 55 = .ok (.iload 4, 2) := rfl
theorem dX12_lends_57 : decode cX12_lends 57 = .ok (.iconst 1, 1) := rfl
theorem dX12_lends_58 : decode cX12_lends 58 = .ok (.iadd, 1) := rfl
theorem dX12_lends_59 : decode cX12_lends 59 = .ok (.invokevirtual 489, 3) := rfl
theorem dX12_lends_62 : decode cX12_lends 62 = .ok (.istore 4, 2) := rfl
theorem dX12_lends_64 : decode cX12_lends 64 = .ok (.goto (-34), 3) := by decide +kernel
theorem dX12_lends_67 : decode cX12_lends 67 = .ok (.iload_n 3, 1) := rfl
theorem dX12_lends_68 : decode cX12_lends 68 = .ok (.ireturn, 1) := rfl
def m_X12_lends_30 : Nat → (Int32 → Hp → Prop) → Int32 → Int32 → Int32 → Int32 → Hp → Prop
  | 0, _, _, _, _, _, _ => False
  | n + 1, Q, v1, v2, v3, v4, h => (v4 < 0 → Q v3 h) ∧ (¬ v4 < 0 → m_X12_findLending v4 h (fun (h2 : Hp) => vp_in v1 8 ∧ (∀ x3 : Int32, x3 = (v3 + (((hI h2 89 (ix v1)) >>> (v2 &&& 31)) &&& 1)) → m_X12_codeFrom (v4 + 1) h2 (fun (x4 : Int32) (h5 : Hp) => m_X12_lends_30 n Q v1 v2 x3 x4 h5))))
set_option maxHeartbeats 4000000 in
set_option maxRecDepth 100000 in
theorem s_X12_lends_30 {l : Launch} {G : Cx} {d : Nat} {h0 : Hp} (hd : 10 ≤ d) {Q : Int32 → Hp → Prop} : ∀ {n : Nat} {v1 : Int32} {v2 : Int32} {v3 : Int32} {v4 : Int32} {h : Hp}, m_X12_lends_30 n Q v1 v2 v3 v4 h → Rn l G d 0 0 MX12_lends h0 (qI Q) 30 [some (tR 12 0 (some 51)), some (tI v1), some (tI v2), some (tI v3), some (tI v4)] [] h 0 0 := by
  intro n
  induction n with
  | zero => intro v1 v2 v3 v4 h hm; exact hm.elim
  | succ n ih =>
    intro v1 v2 v3 v4 h hm
    have hk30 := fun (v1 : Int32) (v2 : Int32) (v3 : Int32) (v4 : Int32) (hh : Hp) (hm : m_X12_lends_30 n Q v1 v2 v3 v4 hh) => ih hm
    rw [m_X12_lends_30] at hm
    refine r_iload dX12_lends_30 rfl ?_
    refine r_if_lt (tgt := 67) dX12_lends_32 rfl (fun hc => ?_) (fun hc => ?_)
    · replace hm := hm.1 hc
      refine r_iload_n dX12_lends_67 rfl rfl ?_
      exact r_ireturn dX12_lends_68 rfl ⟨by decide, by decide⟩ ⟨_, rfl, hm⟩
    · replace hm := hm.2 hc
      refine r_aload_n dX12_lends_35 rfl rfl ?_
      refine r_iload dX12_lends_36 rfl ?_
      refine r_callVU (d' := d - 1) (as := [tI v4]) (st := []) cl_12 dX12_lends_38 mi_X12_findLending t_1824 t_1826 ts_101 rfl rfl (Nat.le_of_ble_eq_true rfl) (by omega) ⟨by decide, by decide⟩ ⟨rfl, rfl⟩ (s_X12_findLending (by omega) hm) (fun h2 hm => ?_)
      refine r_iload_n dX12_lends_41 rfl rfl ?_
      refine r_aload_n dX12_lends_42 rfl rfl ?_
      refine r_getC (k := 65) cl_12 dX12_lends_43 t_1337 gf_12_65.1 gf_12_65.2 (gc_12_65 _) ?_
      refine r_iload_n dX12_lends_46 rfl rfl ?_
      refine r_iald dX12_lends_47 hm.1 ?_
      replace hm := hm.2
      refine r_iload_n dX12_lends_48 rfl rfl ?_
      refine r_ishr dX12_lends_49 ?_
      refine r_iconst (v := 1) dX12_lends_50 rfl ?_
      refine r_iand dX12_lends_51 ?_
      refine r_iadd dX12_lends_52 ?_
      refine r_nmI (fun x3 e_x3 => ?_)
      replace hm := hm x3 e_x3
      refine r_istore_n (L' := [some (tR 12 0 (some 51)), some (tI v1), some (tI v2), some (tI x3), some (tI v4)]) dX12_lends_53 rfl (by decide) rfl ?_
      refine r_aload_n dX12_lends_54 rfl rfl ?_
      refine r_iload dX12_lends_55 rfl ?_
      refine r_iconst (v := 1) dX12_lends_57 rfl ?_
      refine r_iadd dX12_lends_58 ?_
      refine r_callVI (d' := d - 1) (as := [tI (v4 + 1)]) (st := []) cl_12 dX12_lends_59 mi_X12_codeFrom t_1820 t_1822 ts_100 rfl rfl (Nat.le_of_ble_eq_true rfl) (by omega) ⟨by decide, by decide⟩ ⟨rfl, rfl⟩ (s_X12_codeFrom (by omega) hm) (fun x4 h5 hm => ?_)
      refine r_istore (L' := [some (tR 12 0 (some 51)), some (tI v1), some (tI v2), some (tI x3), some (tI x4)]) dX12_lends_62 (by decide) rfl ?_
      refine r_goto (tgt := 30) dX12_lends_64 rfl ?_
      refine r_keep (L' := [some (tR 12 0 (some 51)), some (tI v1), some (tI v2), some (tI x3), some (tI x4)]) [true, true, true, true, true] rfl ?_
      exact hk30 _ _ _ _ _ hm
def m_X12_lends (v1 : Int32) (v2 : Int32) (h : Hp) (Q : Int32 → Hp → Prop) : Prop := m_X12_bundleAtHand h (fun (h7 : Hp) => m_X12_areTwo v1 v2 h7 (fun (x8 : Int32) (h9 : Hp) => (x8 = 0 → Q (-1) h9) ∧ (¬ x8 = 0 → m_X12_isLookedAt h9 (fun (x10 : Int32) (h11 : Hp) => (¬ x10 = 0 → m_X12_codeFrom 0 h11 (fun (x12 : Int32) (h13 : Hp) => ∃ n30, m_X12_lends_30 n30 Q v1 v2 0 x12 h13)) ∧ (x10 = 0 → Q (-1) h11)))))
set_option maxHeartbeats 4000000 in
set_option maxRecDepth 100000 in
theorem s_X12_lends {l : Launch} {G : Cx} {d : Nat} (hd : 10 ≤ d) {v1 : Int32} {v2 : Int32} {h : Hp} {Q : Int32 → Hp → Prop} (hm : m_X12_lends v1 v2 h Q) : Ct l G d 0 0 yX12_lends MX12_lends [tR 12 0 (some 51), tI v1, tI v2] h (qI Q) := by
  unfold m_X12_lends at hm
  refine Ct.of (L := [some (tR 12 0 (some 51)), some (tI v1), some (tI v2)]) (by decide) rfl rfl (Nat.le_of_ble_eq_true rfl) rfl ?_
  refine r_aload_n dX12_lends_0 rfl rfl ?_
  refine r_callVU (d' := d - 1) (as := []) (st := []) cl_12 dX12_lends_1 mi_X12_bundleAtHand t_1757 t_1759 ts_89 rfl rfl (Nat.le_of_ble_eq_true rfl) (by omega) ⟨by decide, by decide⟩ ⟨rfl, rfl⟩ (s_X12_bundleAtHand (by omega) hm) (fun h7 hm => ?_)
  refine r_iload_n dX12_lends_4 rfl rfl ?_
  refine r_iload_n dX12_lends_5 rfl rfl ?_
  refine r_callSI (d' := d - 1) (as := [tI v1, tI v2]) (st := []) dX12_lends_6 mi_X12_areTwo t_1817 t_1818 rfl rfl (Nat.le_of_ble_eq_true rfl) (by omega) ⟨by decide, by decide⟩ ⟨rfl, rfl⟩ (s_X12_areTwo (by omega) hm) (fun x8 h9 hm => ?_)
  refine r_if_eq (tgt := 19) dX12_lends_9 rfl (fun hc => ?_) (fun hc => ?_)
  · replace hm := hm.1 hc
    refine r_iconst (v := (-1)) dX12_lends_19 rfl ?_
    exact r_ireturn dX12_lends_20 rfl ⟨by decide, by decide⟩ ⟨_, rfl, hm⟩
  · replace hm := hm.2 hc
    refine r_aload_n dX12_lends_12 rfl rfl ?_
    refine r_callVI (d' := d - 1) (as := []) (st := []) cl_12 dX12_lends_13 mi_X12_isLookedAt t_1802 t_1804 ts_98 rfl rfl (Nat.le_of_ble_eq_true rfl) (by omega) ⟨by decide, by decide⟩ ⟨rfl, rfl⟩ (s_X12_isLookedAt (by omega) hm) (fun x10 h11 hm => ?_)
    refine r_if_ne (tgt := 21) dX12_lends_16 rfl (fun hc => ?_) (fun hc => ?_)
    · replace hm := hm.1 hc
      refine r_iconst (v := 0) dX12_lends_21 rfl ?_
      refine r_istore_n (L' := [some (tR 12 0 (some 51)), some (tI v1), some (tI v2), some (tI 0)]) dX12_lends_22 rfl (by decide) rfl ?_
      refine r_aload_n dX12_lends_23 rfl rfl ?_
      refine r_iconst (v := 0) dX12_lends_24 rfl ?_
      refine r_callVI (d' := d - 1) (as := [tI 0]) (st := []) cl_12 dX12_lends_25 mi_X12_codeFrom t_1820 t_1822 ts_100 rfl rfl (Nat.le_of_ble_eq_true rfl) (by omega) ⟨by decide, by decide⟩ ⟨rfl, rfl⟩ (s_X12_codeFrom (by omega) hm) (fun x12 h13 hm => ?_)
      refine r_istore (L' := [some (tR 12 0 (some 51)), some (tI v1), some (tI v2), some (tI 0), some (tI x12)]) dX12_lends_28 (by decide) rfl ?_
      refine r_keep (L' := [some (tR 12 0 (some 51)), some (tI v1), some (tI v2), some (tI 0), some (tI x12)]) [true, true, true, true, true] rfl ?_
      obtain ⟨n, hm⟩ := hm
      refine s_X12_lends_30 hd hm
    · replace hm := hm.2 hc
      refine r_iconst (v := (-1)) dX12_lends_19 rfl ?_
      exact r_ireturn dX12_lends_20 rfl ⟨by decide, by decide⟩ ⟨_, rfl, hm⟩
theorem dX12_divisor_0 : decode cX12_divisor 0 = .ok (.lload_n 0, 1) := rfl
theorem dX12_divisor_1 : decode cX12_divisor 1 = .ok (.lstore 4, 2) := rfl
theorem dX12_divisor_3 : decode cX12_divisor 3 = .ok (.lload_n 2, 1) := rfl
theorem dX12_divisor_4 : decode cX12_divisor 4 = .ok (.lstore 6, 2) := rfl
theorem dX12_divisor_6 : decode cX12_divisor 6 = .ok (.lload 6, 2) := rfl
theorem dX12_divisor_8 : decode cX12_divisor 8 = .ok (.lconst 0, 1) := rfl
theorem dX12_divisor_9 : decode cX12_divisor 9 = .ok (.lcmp, 1) := rfl
theorem dX12_divisor_10 : decode cX12_divisor 10 = .ok (.ifCond .le 21, 3) := by decide +kernel
theorem dX12_divisor_13 : decode cX12_divisor 13 = .ok (.lload 4, 2) := rfl
theorem dX12_divisor_15 : decode cX12_divisor 15 = .ok (.lload 6, 2) := rfl
theorem dX12_divisor_17 : decode cX12_divisor 17 = .ok (.lrem, 1) := rfl
theorem dX12_divisor_18 : decode cX12_divisor 18 = .ok (.lstore 8, 2) := rfl
theorem dX12_divisor_20 : decode cX12_divisor 20 = .ok (.lload 6, 2) := rfl
theorem dX12_divisor_22 : decode cX12_divisor 22 = .ok (.lstore 4, 2) := rfl
theorem dX12_divisor_24 : decode cX12_divisor 24 = .ok (.lload 8, 2) := rfl
theorem dX12_divisor_26 : decode cX12_divisor 26 = .ok (.lstore 6, 2) := rfl
theorem dX12_divisor_28 : decode cX12_divisor 28 = .ok (.goto (-22), 3) := by decide +kernel
theorem dX12_divisor_31 : decode cX12_divisor 31 = .ok (.lload 4, 2) := rfl
theorem dX12_divisor_33 : decode cX12_divisor 33 = .ok (.lreturn, 1) := rfl
def m_X12_divisor_6 : Nat → (Int64 → Hp → Prop) → Int64 → Int64 → Hp → Prop
  | 0, _, _, _, _ => False
  | n + 1, Q, v4, v6, h => ((lg_cmp v6 0) ≤ 0 → Q v4 h) ∧ (¬ (lg_cmp v6 0) ≤ 0 → ¬ v6 = 0 ∧ (∀ x1 : Int64, x1 = (v4 - v4 / v6 * v6) → m_X12_divisor_6 n Q v6 x1 h))
set_option maxHeartbeats 4000000 in
set_option maxRecDepth 100000 in
theorem s_X12_divisor_6 {l : Launch} {G : Cx} {d : Nat} {h0 : Hp} (hd : 2 ≤ d) {Q : Int64 → Hp → Prop} : ∀ {n : Nat} {v4 : Int64} {v6 : Int64} {h : Hp}, m_X12_divisor_6 n Q v4 v6 h → Rn l G d 0 0 MX12_divisor h0 (qJ Q) 6 [none, none, none, none, some (tJ v4), none, some (tJ v6)] [] h 0 0 := by
  intro n
  induction n with
  | zero => intro v4 v6 h hm; exact hm.elim
  | succ n ih =>
    intro v4 v6 h hm
    have hk6 := fun (v4 : Int64) (v6 : Int64) (hh : Hp) (hm : m_X12_divisor_6 n Q v4 v6 hh) => ih hm
    rw [m_X12_divisor_6] at hm
    refine r_lload dX12_divisor_6 rfl ?_
    refine r_lconst (v := 0) dX12_divisor_8 rfl ?_
    refine r_lcmp dX12_divisor_9 ?_
    refine r_if_le (tgt := 31) dX12_divisor_10 rfl (fun hc => ?_) (fun hc => ?_)
    · replace hm := hm.1 hc
      refine r_lload dX12_divisor_31 rfl ?_
      exact r_lreturn dX12_divisor_33 rfl ⟨by decide, by decide⟩ ⟨_, rfl, hm⟩
    · replace hm := hm.2 hc
      refine r_lload dX12_divisor_13 rfl ?_
      refine r_lload dX12_divisor_15 rfl ?_
      refine r_lrem dX12_divisor_17 hm.1 ?_
      replace hm := hm.2
      refine r_nmJ (fun x1 e_x1 => ?_)
      replace hm := hm x1 e_x1
      refine r_lstore (L' := [none, none, none, none, some (tJ v4), none, some (tJ v6), none, some (tJ x1), none]) dX12_divisor_18 (by decide) rfl ?_
      refine r_lload dX12_divisor_20 rfl ?_
      refine r_lstore (L' := [none, none, none, none, some (tJ v6), none, some (tJ v6), none, some (tJ x1), none]) dX12_divisor_22 (by decide) rfl ?_
      refine r_lload dX12_divisor_24 rfl ?_
      refine r_lstore (L' := [none, none, none, none, some (tJ v6), none, some (tJ x1), none, some (tJ x1), none]) dX12_divisor_26 (by decide) rfl ?_
      refine r_goto (tgt := 6) dX12_divisor_28 rfl ?_
      refine r_keep (L' := [none, none, none, none, some (tJ v6), none, some (tJ x1)]) [false, false, false, false, true, false, true] rfl ?_
      exact hk6 _ _ _ hm
def m_X12_divisor (v0 : Int64) (v2 : Int64) (h : Hp) (Q : Int64 → Hp → Prop) : Prop := ∃ n6, m_X12_divisor_6 n6 Q v0 v2 h
set_option maxHeartbeats 4000000 in
set_option maxRecDepth 100000 in
theorem s_X12_divisor {l : Launch} {G : Cx} {d : Nat} (hd : 2 ≤ d) {v0 : Int64} {v2 : Int64} {h : Hp} {Q : Int64 → Hp → Prop} (hm : m_X12_divisor v0 v2 h Q) : Ct l G d 0 0 yX12_divisor MX12_divisor [tJ v0, tJ v2] h (qJ Q) := by
  unfold m_X12_divisor at hm
  refine Ct.of (L := [some (tJ v0), none, some (tJ v2), none]) (by decide) rfl rfl (Nat.le_of_ble_eq_true rfl) rfl ?_
  refine r_lload_n dX12_divisor_0 rfl rfl ?_
  refine r_lstore (L' := [some (tJ v0), none, some (tJ v2), none, some (tJ v0), none]) dX12_divisor_1 (by decide) rfl ?_
  refine r_lload_n dX12_divisor_3 rfl rfl ?_
  refine r_lstore (L' := [some (tJ v0), none, some (tJ v2), none, some (tJ v0), none, some (tJ v2), none]) dX12_divisor_4 (by decide) rfl ?_
  refine r_keep (L' := [none, none, none, none, some (tJ v0), none, some (tJ v2)]) [false, false, false, false, true, false, true] rfl ?_
  obtain ⟨n, hm⟩ := hm
  refine s_X12_divisor_6 hd hm
theorem dX12_isLess_0 : decode cX12_isLess 0 = .ok (.lload_n 0, 1) := by decide +kernel
theorem dX12_isLess_1 : decode cX12_isLess 1 = .ok (.lstore 8, 2) := by decide +kernel
theorem dX12_isLess_3 : decode cX12_isLess 3 = .ok (.lload_n 2, 1) := by decide +kernel
theorem dX12_isLess_4 : decode cX12_isLess 4 = .ok (.lstore 10, 2) := by decide +kernel
theorem dX12_isLess_6 : decode cX12_isLess 6 = .ok (.lload 4, 2) := by decide +kernel
theorem dX12_isLess_8 : decode cX12_isLess 8 = .ok (.lstore 12, 2) := by decide +kernel
theorem dX12_isLess_10 : decode cX12_isLess 10 = .ok (.lload 6, 2) := by decide +kernel
theorem dX12_isLess_12 : decode cX12_isLess 12 = .ok (.lstore 14, 2) := by decide +kernel
theorem dX12_isLess_14 : decode cX12_isLess 14 = .ok (.iconst 0, 1) := by decide +kernel
theorem dX12_isLess_15 : decode cX12_isLess 15 = .ok (.istore 16, 2) := by decide +kernel
theorem dX12_isLess_17 : decode cX12_isLess 17 = .ok (.lload 8, 2) := by decide +kernel
theorem dX12_isLess_19 : decode cX12_isLess 19 = .ok (.lload 10, 2) := by decide +kernel
theorem dX12_isLess_21 : decode cX12_isLess 21 = .ok (.ldiv, 1) := by decide +kernel
theorem dX12_isLess_22 : decode cX12_isLess 22 = .ok (.lstore 17, 2) := by decide +kernel
theorem dX12_isLess_24 : decode cX12_isLess 24 = .ok (.lload 12, 2) := by decide +kernel
theorem dX12_isLess_26 : decode cX12_isLess 26 = .ok (.lload 14, 2) := by decide +kernel
theorem dX12_isLess_28 : decode cX12_isLess 28 = .ok (.ldiv, 1) := by decide +kernel
theorem dX12_isLess_29 : decode cX12_isLess 29 = .ok (.lstore 19, 2) := by decide +kernel
theorem dX12_isLess_31 : decode cX12_isLess 31 = .ok (.lload 17, 2) := by decide +kernel
theorem dX12_isLess_33 : decode cX12_isLess 33 = .ok (.lload 19, 2) := by decide +kernel
theorem dX12_isLess_35 : decode cX12_isLess 35 = .ok (.lcmp, 1) := by decide +kernel
theorem dX12_isLess_36 : decode cX12_isLess 36 = .ok (.ifCond .eq 38, 3) := by decide +kernel
theorem dX12_isLess_39 : decode cX12_isLess 39 = .ok (.iload 16, 2) := by decide +kernel
theorem dX12_isLess_41 : decode cX12_isLess 41 = .ok (.ifCond .eq 19, 3) := by decide +kernel
theorem dX12_isLess_44 : decode cX12_isLess 44 = .ok (.lload 17, 2) := by decide +kernel
theorem dX12_isLess_46 : decode cX12_isLess 46 = .ok (.lload 19, 2) := by decide +kernel
theorem dX12_isLess_48 : decode cX12_isLess 48 = .ok (.lcmp, 1) := by decide +kernel
theorem dX12_isLess_49 : decode cX12_isLess 49 = .ok (.ifCond .le 7, 3) := by decide +kernel
theorem dX12_isLess_52 : decode cX12_isLess 52 = .ok (.iconst 1, 1) := by decide +kernel
theorem dX12_isLess_53 : decode cX12_isLess 53 = .ok (.goto 20, 3) := by decide +kernel
theorem dX12_isLess_56 : decode cX12_isLess 56 = .ok (.iconst 0, 1) := by decide +kernel
theorem dX12_isLess_57 : decode cX12_isLess 57 = .ok (.goto 16, 3) := by decide +kernel
theorem dX12_isLess_60 : decode cX12_isLess 60 = .ok (.lload 17, 2) := by decide +kernel
theorem dX12_isLess_62 : decode cX12_isLess 62 = .ok (.lload 19, 2) := by decide +kernel
theorem dX12_isLess_64 : decode cX12_isLess 64 = .ok (.lcmp, 1) := by decide +kernel
theorem dX12_isLess_65 : decode cX12_isLess 65 = .ok (.ifCond .ge 7, 3) := by decide +kernel
theorem dX12_isLess_68 : decode cX12_isLess 68 = .ok (.iconst 1, 1) := by decide +kernel
theorem dX12_isLess_69 : decode cX12_isLess 69 = .ok (.goto 4, 3) := by decide +kernel
theorem dX12_isLess_72 : decode cX12_isLess 72 = .ok (.iconst 0, 1) := by decide +kernel
theorem dX12_isLess_73 : decode cX12_isLess 73 = .ok (.ireturn, 1) := by decide +kernel
theorem dX12_isLess_74 : decode cX12_isLess 74 = .ok (.lload 8, 2) := by decide +kernel
theorem dX12_isLess_76 : decode cX12_isLess 76 = .ok (.lload 10, 2) := by decide +kernel
theorem dX12_isLess_78 : decode cX12_isLess 78 = .ok (.lrem, 1) := by decide +kernel
theorem dX12_isLess_79 : decode cX12_isLess 79 = .ok (.lstore 21, 2) := by decide +kernel
theorem dX12_isLess_81 : decode cX12_isLess 81 = .ok (.lload 12, 2) := by decide +kernel
theorem dX12_isLess_83 : decode cX12_isLess 83 = .ok (.lload 14, 2) := by decide +kernel
theorem dX12_isLess_85 : decode cX12_isLess 85 = .ok (.lrem, 1) := by decide +kernel
theorem dX12_isLess_86 : decode cX12_isLess 86 = .ok (.lstore 23, 2) := by decide +kernel
theorem dX12_isLess_88 : decode cX12_isLess 88 = .ok (.lload 21, 2) := by decide +kernel
theorem dX12_isLess_90 : decode cX12_isLess 90 = .ok (.lconst 0, 1) := by decide +kernel
theorem dX12_isLess_91 : decode cX12_isLess 91 = .ok (.lcmp, 1) := by decide +kernel
theorem dX12_isLess_92 : decode cX12_isLess 92 = .ok (.ifCond .eq 10, 3) := by decide +kernel
theorem dX12_isLess_95 : decode cX12_isLess 95 = .ok (.lload 23, 2) := by decide +kernel
theorem dX12_isLess_97 : decode cX12_isLess 97 = .ok (.lconst 0, 1) := by decide +kernel
theorem dX12_isLess_98 : decode cX12_isLess 98 = .ok (.lcmp, 1) := by decide +kernel
theorem dX12_isLess_99 : decode cX12_isLess 99 = .ok (.ifCond .ne 50, 3) := by decide +kernel
theorem dX12_isLess_102 : decode cX12_isLess 102 = .ok (.iload 16, 2) := by decide +kernel
theorem dX12_isLess_104 : decode cX12_isLess 104 = .ok (.ifCond .eq 25, 3) := by decide +kernel
theorem dX12_isLess_107 : decode cX12_isLess 107 = .ok (.lload 23, 2) := by decide +kernel
theorem dX12_isLess_109 : decode cX12_isLess 109 = .ok (.lconst 0, 1) := by decide +kernel
theorem dX12_isLess_110 : decode cX12_isLess 110 = .ok (.lcmp, 1) := by decide +kernel
theorem dX12_isLess_111 : decode cX12_isLess 111 = .ok (.ifCond .ne 14, 3) := by decide +kernel
theorem dX12_isLess_114 : decode cX12_isLess 114 = .ok (.lload 21, 2) := by decide +kernel
theorem dX12_isLess_116 : decode cX12_isLess 116 = .ok (.lconst 0, 1) := by decide +kernel
theorem dX12_isLess_117 : decode cX12_isLess 117 = .ok (.lcmp, 1) := by decide +kernel
theorem dX12_isLess_118 : decode cX12_isLess 118 = .ok (.ifCond .le 7, 3) := by decide +kernel
theorem dX12_isLess_121 : decode cX12_isLess 121 = .ok (.iconst 1, 1) := by decide +kernel
theorem dX12_isLess_122 : decode cX12_isLess 122 = .ok (.goto 26, 3) := by decide +kernel
theorem dX12_isLess_125 : decode cX12_isLess 125 = .ok (.iconst 0, 1) := by decide +kernel
theorem dX12_isLess_126 : decode cX12_isLess 126 = .ok (.goto 22, 3) := by decide +kernel
theorem dX12_isLess_129 : decode cX12_isLess 129 = .ok (.lload 21, 2) := by decide +kernel
theorem dX12_isLess_131 : decode cX12_isLess 131 = .ok (.lconst 0, 1) := by decide +kernel
theorem dX12_isLess_132 : decode cX12_isLess 132 = .ok (.lcmp, 1) := by decide +kernel
theorem dX12_isLess_133 : decode cX12_isLess 133 = .ok (.ifCond .ne 14, 3) := by decide +kernel
theorem dX12_isLess_136 : decode cX12_isLess 136 = .ok (.lload 23, 2) := by decide +kernel
theorem dX12_isLess_138 : decode cX12_isLess 138 = .ok (.lconst 0, 1) := by decide +kernel
theorem dX12_isLess_139 : decode cX12_isLess 139 = .ok (.lcmp, 1) := by decide +kernel
theorem dX12_isLess_140 : decode cX12_isLess 140 = .ok (.ifCond .le 7, 3) := by decide +kernel
theorem dX12_isLess_143 : decode cX12_isLess 143 = .ok (.iconst 1, 1) := by decide +kernel
theorem dX12_isLess_144 : decode cX12_isLess 144 = .ok (.goto 4, 3) := by decide +kernel
theorem dX12_isLess_147 : decode cX12_isLess 147 = .ok (.iconst 0, 1) := by decide +kernel
theorem dX12_isLess_148 : decode cX12_isLess 148 = .ok (.ireturn, 1) := by decide +kernel
theorem dX12_isLess_149 : decode cX12_isLess 149 = .ok (.lload 10, 2) := by decide +kernel
theorem dX12_isLess_151 : decode cX12_isLess 151 = .ok (.lstore 8, 2) := by decide +kernel
theorem dX12_isLess_153 : decode cX12_isLess 153 = .ok (.lload 21, 2) := by decide +kernel
theorem dX12_isLess_155 : decode cX12_isLess 155 = .ok (.lstore 10, 2) := by decide +kernel
theorem dX12_isLess_157 : decode cX12_isLess 157 = .ok (.lload 14, 2) := by decide +kernel
theorem dX12_isLess_159 : decode cX12_isLess 159 = .ok (.lstore 12, 2) := by decide +kernel
theorem dX12_isLess_161 : decode cX12_isLess 161 = .ok (.lload 23, 2) := by decide +kernel
theorem dX12_isLess_163 : decode cX12_isLess 163 = .ok (.lstore 14, 2) := by decide +kernel
theorem dX12_isLess_165 : decode cX12_isLess 165 = .ok (.iload 16, 2) := by decide +kernel
theorem dX12_isLess_167 : decode cX12_isLess 167 = .ok (.ifCond .ne 7, 3) := by decide +kernel
theorem dX12_isLess_170 : decode cX12_isLess 170 = .ok (.iconst 1, 1) := by decide +kernel
theorem dX12_isLess_171 : decode cX12_isLess 171 = .ok (.goto 4, 3) := by decide +kernel
theorem dX12_isLess_174 : decode cX12_isLess 174 = .ok (.iconst 0, 1) := by decide +kernel
theorem dX12_isLess_175 : decode cX12_isLess 175 = .ok (.istore 16, 2) := by decide +kernel
theorem dX12_isLess_177 : decode cX12_isLess 177 = .ok (.goto (-160), 3) := by decide +kernel
def m_X12_isLess_175 (k17 : Int64 → Int64 → Int64 → Int64 → Int32 → Hp → Prop) (k39 : Int32 → Int64 → Int64 → Hp → Prop) (k102 : Int32 → Int64 → Int64 → Hp → Prop) (Q : Int32 → Hp → Prop) (v8 : Int64) (v10 : Int64) (v12 : Int64) (v14 : Int64) (s0 : Int32) (h : Hp) : Prop := k17 v8 v10 v12 v14 s0 h
set_option maxHeartbeats 4000000 in
set_option maxRecDepth 100000 in
theorem s_X12_isLess_175 {l : Launch} {G : Cx} {d : Nat} {h0 : Hp} (hd : 2 ≤ d) {k17 : Int64 → Int64 → Int64 → Int64 → Int32 → Hp → Prop} {k39 : Int32 → Int64 → Int64 → Hp → Prop} {k102 : Int32 → Int64 → Int64 → Hp → Prop} {Q : Int32 → Hp → Prop} (hk17 : ∀ (v8 : Int64) (v10 : Int64) (v12 : Int64) (v14 : Int64) (v16 : Int32) (hh : Hp), k17 v8 v10 v12 v14 v16 hh → Rn l G d 0 0 MX12_isLess h0 (qI Q) 17 [none, none, none, none, none, none, none, none, some (tJ v8), none, some (tJ v10), none, some (tJ v12), none, some (tJ v14), none, some (tI v16)] [] hh 0 0) (hk39 : ∀ (v16 : Int32) (v17 : Int64) (v19 : Int64) (hh : Hp), k39 v16 v17 v19 hh → Rn l G d 0 0 MX12_isLess h0 (qI Q) 39 [none, none, none, none, none, none, none, none, none, none, none, none, none, none, none, none, some (tI v16), some (tJ v17), none, some (tJ v19)] [] hh 0 0) (hk102 : ∀ (v16 : Int32) (v21 : Int64) (v23 : Int64) (hh : Hp), k102 v16 v21 v23 hh → Rn l G d 0 0 MX12_isLess h0 (qI Q) 102 [none, none, none, none, none, none, none, none, none, none, none, none, none, none, none, none, some (tI v16), none, none, none, none, some (tJ v21), none, some (tJ v23)] [] hh 0 0) {v8 : Int64} {v10 : Int64} {v12 : Int64} {v14 : Int64} {s0 : Int32} {h : Hp} (hm : m_X12_isLess_175 k17 k39 k102 Q v8 v10 v12 v14 s0 h) : Rn l G d 0 0 MX12_isLess h0 (qI Q) 175 [none, none, none, none, none, none, none, none, some (tJ v8), none, some (tJ v10), none, some (tJ v12), none, some (tJ v14)] [tI s0] h 0 0 := by
  unfold m_X12_isLess_175 at hm
  refine r_istore (L' := [none, none, none, none, none, none, none, none, some (tJ v8), none, some (tJ v10), none, some (tJ v12), none, some (tJ v14), none, some (tI s0)]) dX12_isLess_175 (by decide) rfl ?_
  refine r_goto (tgt := 17) dX12_isLess_177 rfl ?_
  refine r_keep (L' := [none, none, none, none, none, none, none, none, some (tJ v8), none, some (tJ v10), none, some (tJ v12), none, some (tJ v14), none, some (tI s0)]) [false, false, false, false, false, false, false, false, true, false, true, false, true, false, true, false, true] rfl ?_
  exact hk17 _ _ _ _ _ _ hm
def m_X12_isLess_102  (Q : Int32 → Hp → Prop) (v16 : Int32) (v21 : Int64) (v23 : Int64) (h : Hp) : Prop := (v16 = 0 → (¬ (lg_cmp v21 0) = 0 → Q 0 h) ∧ ((lg_cmp v21 0) = 0 → ((lg_cmp v23 0) ≤ 0 → Q 0 h) ∧ (¬ (lg_cmp v23 0) ≤ 0 → Q 1 h))) ∧ (¬ v16 = 0 → (¬ (lg_cmp v23 0) = 0 → Q 0 h) ∧ ((lg_cmp v23 0) = 0 → ((lg_cmp v21 0) ≤ 0 → Q 0 h) ∧ (¬ (lg_cmp v21 0) ≤ 0 → Q 1 h)))
set_option maxHeartbeats 4000000 in
set_option maxRecDepth 100000 in
theorem s_X12_isLess_102 {l : Launch} {G : Cx} {d : Nat} {h0 : Hp} (hd : 2 ≤ d) {Q : Int32 → Hp → Prop} {v16 : Int32} {v21 : Int64} {v23 : Int64} {h : Hp} (hm : m_X12_isLess_102 Q v16 v21 v23 h) : Rn l G d 0 0 MX12_isLess h0 (qI Q) 102 [none, none, none, none, none, none, none, none, none, none, none, none, none, none, none, none, some (tI v16), none, none, none, none, some (tJ v21), none, some (tJ v23)] [] h 0 0 := by
  unfold m_X12_isLess_102 at hm
  refine r_iload dX12_isLess_102 rfl ?_
  refine r_if_eq (tgt := 129) dX12_isLess_104 rfl (fun hc => ?_) (fun hc => ?_)
  · replace hm := hm.1 hc
    refine r_lload dX12_isLess_129 rfl ?_
    refine r_lconst (v := 0) dX12_isLess_131 rfl ?_
    refine r_lcmp dX12_isLess_132 ?_
    refine r_if_ne (tgt := 147) dX12_isLess_133 rfl (fun hc => ?_) (fun hc => ?_)
    · replace hm := hm.1 hc
      refine r_iconst (v := 0) dX12_isLess_147 rfl ?_
      exact r_bret dX12_isLess_148 rfl ⟨by decide, by decide⟩ (by unfold bz; decide) ⟨_, rfl, hm⟩
    · replace hm := hm.2 hc
      refine r_lload dX12_isLess_136 rfl ?_
      refine r_lconst (v := 0) dX12_isLess_138 rfl ?_
      refine r_lcmp dX12_isLess_139 ?_
      refine r_if_le (tgt := 147) dX12_isLess_140 rfl (fun hc => ?_) (fun hc => ?_)
      · replace hm := hm.1 hc
        refine r_iconst (v := 0) dX12_isLess_147 rfl ?_
        exact r_bret dX12_isLess_148 rfl ⟨by decide, by decide⟩ (by unfold bz; decide) ⟨_, rfl, hm⟩
      · replace hm := hm.2 hc
        refine r_iconst (v := 1) dX12_isLess_143 rfl ?_
        refine r_goto (tgt := 148) dX12_isLess_144 rfl ?_
        exact r_bret dX12_isLess_148 rfl ⟨by decide, by decide⟩ (by unfold bz; decide) ⟨_, rfl, hm⟩
  · replace hm := hm.2 hc
    refine r_lload dX12_isLess_107 rfl ?_
    refine r_lconst (v := 0) dX12_isLess_109 rfl ?_
    refine r_lcmp dX12_isLess_110 ?_
    refine r_if_ne (tgt := 125) dX12_isLess_111 rfl (fun hc => ?_) (fun hc => ?_)
    · replace hm := hm.1 hc
      refine r_iconst (v := 0) dX12_isLess_125 rfl ?_
      refine r_goto (tgt := 148) dX12_isLess_126 rfl ?_
      exact r_bret dX12_isLess_148 rfl ⟨by decide, by decide⟩ (by unfold bz; decide) ⟨_, rfl, hm⟩
    · replace hm := hm.2 hc
      refine r_lload dX12_isLess_114 rfl ?_
      refine r_lconst (v := 0) dX12_isLess_116 rfl ?_
      refine r_lcmp dX12_isLess_117 ?_
      refine r_if_le (tgt := 125) dX12_isLess_118 rfl (fun hc => ?_) (fun hc => ?_)
      · replace hm := hm.1 hc
        refine r_iconst (v := 0) dX12_isLess_125 rfl ?_
        refine r_goto (tgt := 148) dX12_isLess_126 rfl ?_
        exact r_bret dX12_isLess_148 rfl ⟨by decide, by decide⟩ (by unfold bz; decide) ⟨_, rfl, hm⟩
      · replace hm := hm.2 hc
        refine r_iconst (v := 1) dX12_isLess_121 rfl ?_
        refine r_goto (tgt := 148) dX12_isLess_122 rfl ?_
        exact r_bret dX12_isLess_148 rfl ⟨by decide, by decide⟩ (by unfold bz; decide) ⟨_, rfl, hm⟩
def m_X12_isLess_39  (Q : Int32 → Hp → Prop) (v16 : Int32) (v17 : Int64) (v19 : Int64) (h : Hp) : Prop := (v16 = 0 → (0 ≤ (lg_cmp v17 v19) → Q 0 h) ∧ (¬ 0 ≤ (lg_cmp v17 v19) → Q 1 h)) ∧ (¬ v16 = 0 → ((lg_cmp v17 v19) ≤ 0 → Q 0 h) ∧ (¬ (lg_cmp v17 v19) ≤ 0 → Q 1 h))
set_option maxHeartbeats 4000000 in
set_option maxRecDepth 100000 in
theorem s_X12_isLess_39 {l : Launch} {G : Cx} {d : Nat} {h0 : Hp} (hd : 2 ≤ d) {Q : Int32 → Hp → Prop} {v16 : Int32} {v17 : Int64} {v19 : Int64} {h : Hp} (hm : m_X12_isLess_39 Q v16 v17 v19 h) : Rn l G d 0 0 MX12_isLess h0 (qI Q) 39 [none, none, none, none, none, none, none, none, none, none, none, none, none, none, none, none, some (tI v16), some (tJ v17), none, some (tJ v19)] [] h 0 0 := by
  unfold m_X12_isLess_39 at hm
  refine r_iload dX12_isLess_39 rfl ?_
  refine r_if_eq (tgt := 60) dX12_isLess_41 rfl (fun hc => ?_) (fun hc => ?_)
  · replace hm := hm.1 hc
    refine r_lload dX12_isLess_60 rfl ?_
    refine r_lload dX12_isLess_62 rfl ?_
    refine r_lcmp dX12_isLess_64 ?_
    refine r_if_ge (tgt := 72) dX12_isLess_65 rfl (fun hc => ?_) (fun hc => ?_)
    · replace hm := hm.1 hc
      refine r_iconst (v := 0) dX12_isLess_72 rfl ?_
      exact r_bret dX12_isLess_73 rfl ⟨by decide, by decide⟩ (by unfold bz; decide) ⟨_, rfl, hm⟩
    · replace hm := hm.2 hc
      refine r_iconst (v := 1) dX12_isLess_68 rfl ?_
      refine r_goto (tgt := 73) dX12_isLess_69 rfl ?_
      exact r_bret dX12_isLess_73 rfl ⟨by decide, by decide⟩ (by unfold bz; decide) ⟨_, rfl, hm⟩
  · replace hm := hm.2 hc
    refine r_lload dX12_isLess_44 rfl ?_
    refine r_lload dX12_isLess_46 rfl ?_
    refine r_lcmp dX12_isLess_48 ?_
    refine r_if_le (tgt := 56) dX12_isLess_49 rfl (fun hc => ?_) (fun hc => ?_)
    · replace hm := hm.1 hc
      refine r_iconst (v := 0) dX12_isLess_56 rfl ?_
      refine r_goto (tgt := 73) dX12_isLess_57 rfl ?_
      exact r_bret dX12_isLess_73 rfl ⟨by decide, by decide⟩ (by unfold bz; decide) ⟨_, rfl, hm⟩
    · replace hm := hm.2 hc
      refine r_iconst (v := 1) dX12_isLess_52 rfl ?_
      refine r_goto (tgt := 73) dX12_isLess_53 rfl ?_
      exact r_bret dX12_isLess_73 rfl ⟨by decide, by decide⟩ (by unfold bz; decide) ⟨_, rfl, hm⟩
def m_X12_isLess_17 : Nat → (Int32 → Int64 → Int64 → Hp → Prop) → (Int32 → Int64 → Int64 → Hp → Prop) → (Int32 → Hp → Prop) → Int64 → Int64 → Int64 → Int64 → Int32 → Hp → Prop
  | 0, _, _, _, _, _, _, _, _, _ => False
  | n + 1, k39, k102, Q, v8, v10, v12, v14, v16, h => ¬ v10 = 0 ∧ (∀ x1 : Int64, x1 = (v8 / v10) → ¬ v14 = 0 ∧ (∀ x2 : Int64, x2 = (v12 / v14) → ((lg_cmp x1 x2) = 0 → ¬ v10 = 0 ∧ (∀ x3 : Int64, x3 = (v8 - v8 / v10 * v10) → ¬ v14 = 0 ∧ (∀ x4 : Int64, x4 = (v12 - v12 / v14 * v14) → ((lg_cmp x3 0) = 0 → k102 v16 x3 x4 h) ∧ (¬ (lg_cmp x3 0) = 0 → (¬ (lg_cmp x4 0) = 0 → (¬ v16 = 0 → m_X12_isLess_175 (fun (v8 : Int64) (v10 : Int64) (v12 : Int64) (v14 : Int64) (v16 : Int32) (hh : Hp) => m_X12_isLess_17 n k39 k102 Q v8 v10 v12 v14 v16 hh) k39 k102 Q v10 x3 v14 x4 0 h) ∧ (v16 = 0 → m_X12_isLess_175 (fun (v8 : Int64) (v10 : Int64) (v12 : Int64) (v14 : Int64) (v16 : Int32) (hh : Hp) => m_X12_isLess_17 n k39 k102 Q v8 v10 v12 v14 v16 hh) k39 k102 Q v10 x3 v14 x4 1 h)) ∧ ((lg_cmp x4 0) = 0 → k102 v16 x3 x4 h))))) ∧ (¬ (lg_cmp x1 x2) = 0 → k39 v16 x1 x2 h)))
set_option maxHeartbeats 4000000 in
set_option maxRecDepth 100000 in
theorem s_X12_isLess_17 {l : Launch} {G : Cx} {d : Nat} {h0 : Hp} (hd : 2 ≤ d) {k39 : Int32 → Int64 → Int64 → Hp → Prop} {k102 : Int32 → Int64 → Int64 → Hp → Prop} {Q : Int32 → Hp → Prop} (hk39 : ∀ (v16 : Int32) (v17 : Int64) (v19 : Int64) (hh : Hp), k39 v16 v17 v19 hh → Rn l G d 0 0 MX12_isLess h0 (qI Q) 39 [none, none, none, none, none, none, none, none, none, none, none, none, none, none, none, none, some (tI v16), some (tJ v17), none, some (tJ v19)] [] hh 0 0) (hk102 : ∀ (v16 : Int32) (v21 : Int64) (v23 : Int64) (hh : Hp), k102 v16 v21 v23 hh → Rn l G d 0 0 MX12_isLess h0 (qI Q) 102 [none, none, none, none, none, none, none, none, none, none, none, none, none, none, none, none, some (tI v16), none, none, none, none, some (tJ v21), none, some (tJ v23)] [] hh 0 0) : ∀ {n : Nat} {v8 : Int64} {v10 : Int64} {v12 : Int64} {v14 : Int64} {v16 : Int32} {h : Hp}, m_X12_isLess_17 n k39 k102 Q v8 v10 v12 v14 v16 h → Rn l G d 0 0 MX12_isLess h0 (qI Q) 17 [none, none, none, none, none, none, none, none, some (tJ v8), none, some (tJ v10), none, some (tJ v12), none, some (tJ v14), none, some (tI v16)] [] h 0 0 := by
  intro n
  induction n with
  | zero => intro v8 v10 v12 v14 v16 h hm; exact hm.elim
  | succ n ih =>
    intro v8 v10 v12 v14 v16 h hm
    have hk17 := fun (v8 : Int64) (v10 : Int64) (v12 : Int64) (v14 : Int64) (v16 : Int32) (hh : Hp) (hm : m_X12_isLess_17 n k39 k102 Q v8 v10 v12 v14 v16 hh) => ih hm
    rw [m_X12_isLess_17] at hm
    refine r_lload dX12_isLess_17 rfl ?_
    refine r_lload dX12_isLess_19 rfl ?_
    refine r_ldiv dX12_isLess_21 hm.1 ?_
    replace hm := hm.2
    refine r_nmJ (fun x1 e_x1 => ?_)
    replace hm := hm x1 e_x1
    refine r_lstore (L' := [none, none, none, none, none, none, none, none, some (tJ v8), none, some (tJ v10), none, some (tJ v12), none, some (tJ v14), none, some (tI v16), some (tJ x1), none]) dX12_isLess_22 (by decide) rfl ?_
    refine r_lload dX12_isLess_24 rfl ?_
    refine r_lload dX12_isLess_26 rfl ?_
    refine r_ldiv dX12_isLess_28 hm.1 ?_
    replace hm := hm.2
    refine r_nmJ (fun x2 e_x2 => ?_)
    replace hm := hm x2 e_x2
    refine r_lstore (L' := [none, none, none, none, none, none, none, none, some (tJ v8), none, some (tJ v10), none, some (tJ v12), none, some (tJ v14), none, some (tI v16), some (tJ x1), none, some (tJ x2), none]) dX12_isLess_29 (by decide) rfl ?_
    refine r_lload dX12_isLess_31 rfl ?_
    refine r_lload dX12_isLess_33 rfl ?_
    refine r_lcmp dX12_isLess_35 ?_
    refine r_if_eq (tgt := 74) dX12_isLess_36 rfl (fun hc => ?_) (fun hc => ?_)
    · replace hm := hm.1 hc
      refine r_lload dX12_isLess_74 rfl ?_
      refine r_lload dX12_isLess_76 rfl ?_
      refine r_lrem dX12_isLess_78 hm.1 ?_
      replace hm := hm.2
      refine r_nmJ (fun x3 e_x3 => ?_)
      replace hm := hm x3 e_x3
      refine r_lstore (L' := [none, none, none, none, none, none, none, none, some (tJ v8), none, some (tJ v10), none, some (tJ v12), none, some (tJ v14), none, some (tI v16), some (tJ x1), none, some (tJ x2), none, some (tJ x3), none]) dX12_isLess_79 (by decide) rfl ?_
      refine r_lload dX12_isLess_81 rfl ?_
      refine r_lload dX12_isLess_83 rfl ?_
      refine r_lrem dX12_isLess_85 hm.1 ?_
      replace hm := hm.2
      refine r_nmJ (fun x4 e_x4 => ?_)
      replace hm := hm x4 e_x4
      refine r_lstore (L' := [none, none, none, none, none, none, none, none, some (tJ v8), none, some (tJ v10), none, some (tJ v12), none, some (tJ v14), none, some (tI v16), some (tJ x1), none, some (tJ x2), none, some (tJ x3), none, some (tJ x4), none]) dX12_isLess_86 (by decide) rfl ?_
      refine r_lload dX12_isLess_88 rfl ?_
      refine r_lconst (v := 0) dX12_isLess_90 rfl ?_
      refine r_lcmp dX12_isLess_91 ?_
      refine r_if_eq (tgt := 102) dX12_isLess_92 rfl (fun hc => ?_) (fun hc => ?_)
      · replace hm := hm.1 hc
        refine r_keep (L' := [none, none, none, none, none, none, none, none, none, none, none, none, none, none, none, none, some (tI v16), none, none, none, none, some (tJ x3), none, some (tJ x4)]) [false, false, false, false, false, false, false, false, false, false, false, false, false, false, false, false, true, false, false, false, false, true, false, true] rfl ?_
        exact hk102 _ _ _ _ hm
      · replace hm := hm.2 hc
        refine r_lload dX12_isLess_95 rfl ?_
        refine r_lconst (v := 0) dX12_isLess_97 rfl ?_
        refine r_lcmp dX12_isLess_98 ?_
        refine r_if_ne (tgt := 149) dX12_isLess_99 rfl (fun hc => ?_) (fun hc => ?_)
        · replace hm := hm.1 hc
          refine r_lload dX12_isLess_149 rfl ?_
          refine r_lstore (L' := [none, none, none, none, none, none, none, none, some (tJ v10), none, some (tJ v10), none, some (tJ v12), none, some (tJ v14), none, some (tI v16), some (tJ x1), none, some (tJ x2), none, some (tJ x3), none, some (tJ x4), none]) dX12_isLess_151 (by decide) rfl ?_
          refine r_lload dX12_isLess_153 rfl ?_
          refine r_lstore (L' := [none, none, none, none, none, none, none, none, some (tJ v10), none, some (tJ x3), none, some (tJ v12), none, some (tJ v14), none, some (tI v16), some (tJ x1), none, some (tJ x2), none, some (tJ x3), none, some (tJ x4), none]) dX12_isLess_155 (by decide) rfl ?_
          refine r_lload dX12_isLess_157 rfl ?_
          refine r_lstore (L' := [none, none, none, none, none, none, none, none, some (tJ v10), none, some (tJ x3), none, some (tJ v14), none, some (tJ v14), none, some (tI v16), some (tJ x1), none, some (tJ x2), none, some (tJ x3), none, some (tJ x4), none]) dX12_isLess_159 (by decide) rfl ?_
          refine r_lload dX12_isLess_161 rfl ?_
          refine r_lstore (L' := [none, none, none, none, none, none, none, none, some (tJ v10), none, some (tJ x3), none, some (tJ v14), none, some (tJ x4), none, some (tI v16), some (tJ x1), none, some (tJ x2), none, some (tJ x3), none, some (tJ x4), none]) dX12_isLess_163 (by decide) rfl ?_
          refine r_iload dX12_isLess_165 rfl ?_
          refine r_if_ne (tgt := 174) dX12_isLess_167 rfl (fun hc => ?_) (fun hc => ?_)
          · replace hm := hm.1 hc
            refine r_iconst (v := 0) dX12_isLess_174 rfl ?_
            refine r_keep (L' := [none, none, none, none, none, none, none, none, some (tJ v10), none, some (tJ x3), none, some (tJ v14), none, some (tJ x4)]) [false, false, false, false, false, false, false, false, true, false, true, false, true, false, true] rfl ?_
            exact s_X12_isLess_175 hd hk17 hk39 hk102 hm
          · replace hm := hm.2 hc
            refine r_iconst (v := 1) dX12_isLess_170 rfl ?_
            refine r_goto (tgt := 175) dX12_isLess_171 rfl ?_
            refine r_keep (L' := [none, none, none, none, none, none, none, none, some (tJ v10), none, some (tJ x3), none, some (tJ v14), none, some (tJ x4)]) [false, false, false, false, false, false, false, false, true, false, true, false, true, false, true] rfl ?_
            exact s_X12_isLess_175 hd hk17 hk39 hk102 hm
        · replace hm := hm.2 hc
          refine r_keep (L' := [none, none, none, none, none, none, none, none, none, none, none, none, none, none, none, none, some (tI v16), none, none, none, none, some (tJ x3), none, some (tJ x4)]) [false, false, false, false, false, false, false, false, false, false, false, false, false, false, false, false, true, false, false, false, false, true, false, true] rfl ?_
          exact hk102 _ _ _ _ hm
    · replace hm := hm.2 hc
      refine r_keep (L' := [none, none, none, none, none, none, none, none, none, none, none, none, none, none, none, none, some (tI v16), some (tJ x1), none, some (tJ x2)]) [false, false, false, false, false, false, false, false, false, false, false, false, false, false, false, false, true, true, false, true] rfl ?_
      exact hk39 _ _ _ _ hm
def m_X12_isLess (v0 : Int64) (v2 : Int64) (v4 : Int64) (v6 : Int64) (h : Hp) (Q : Int32 → Hp → Prop) : Prop := ∃ n17, m_X12_isLess_17 n17 (m_X12_isLess_39 Q) (m_X12_isLess_102 Q) Q v0 v2 v4 v6 0 h
set_option maxHeartbeats 4000000 in
set_option maxRecDepth 100000 in
theorem s_X12_isLess {l : Launch} {G : Cx} {d : Nat} (hd : 2 ≤ d) {v0 : Int64} {v2 : Int64} {v4 : Int64} {v6 : Int64} {h : Hp} {Q : Int32 → Hp → Prop} (hm : m_X12_isLess v0 v2 v4 v6 h Q) : Ct l G d 0 0 yX12_isLess MX12_isLess [tJ v0, tJ v2, tJ v4, tJ v6] h (qI Q) := by
  unfold m_X12_isLess at hm
  refine Ct.of (L := [some (tJ v0), none, some (tJ v2), none, some (tJ v4), none, some (tJ v6), none]) (by decide) rfl rfl (Nat.le_of_ble_eq_true rfl) rfl ?_
  refine r_lload_n dX12_isLess_0 rfl rfl ?_
  refine r_lstore (L' := [some (tJ v0), none, some (tJ v2), none, some (tJ v4), none, some (tJ v6), none, some (tJ v0), none]) dX12_isLess_1 (by decide) rfl ?_
  refine r_lload_n dX12_isLess_3 rfl rfl ?_
  refine r_lstore (L' := [some (tJ v0), none, some (tJ v2), none, some (tJ v4), none, some (tJ v6), none, some (tJ v0), none, some (tJ v2), none]) dX12_isLess_4 (by decide) rfl ?_
  refine r_lload dX12_isLess_6 rfl ?_
  refine r_lstore (L' := [some (tJ v0), none, some (tJ v2), none, some (tJ v4), none, some (tJ v6), none, some (tJ v0), none, some (tJ v2), none, some (tJ v4), none]) dX12_isLess_8 (by decide) rfl ?_
  refine r_lload dX12_isLess_10 rfl ?_
  refine r_lstore (L' := [some (tJ v0), none, some (tJ v2), none, some (tJ v4), none, some (tJ v6), none, some (tJ v0), none, some (tJ v2), none, some (tJ v4), none, some (tJ v6), none]) dX12_isLess_12 (by decide) rfl ?_
  refine r_iconst (v := 0) dX12_isLess_14 rfl ?_
  refine r_istore (L' := [some (tJ v0), none, some (tJ v2), none, some (tJ v4), none, some (tJ v6), none, some (tJ v0), none, some (tJ v2), none, some (tJ v4), none, some (tJ v6), none, some (tI 0)]) dX12_isLess_15 (by decide) rfl ?_
  refine r_keep (L' := [none, none, none, none, none, none, none, none, some (tJ v0), none, some (tJ v2), none, some (tJ v4), none, some (tJ v6), none, some (tI 0)]) [false, false, false, false, false, false, false, false, true, false, true, false, true, false, true, false, true] rfl ?_
  obtain ⟨n, hm⟩ := hm
  refine s_X12_isLess_17 hd ?_ ?_ hm
  · exact (fun _ _ _ _ hm => s_X12_isLess_39 hd hm)
  · exact (fun _ _ _ _ hm => s_X12_isLess_102 hd hm)
theorem dX12_outOf_0 : decode cX12_outOf 0 = .ok (.lconst 0, 1) := rfl
theorem dX12_outOf_1 : decode cX12_outOf 1 = .ok (.lstore_n 2, 1) := rfl
theorem dX12_outOf_2 : decode cX12_outOf 2 = .ok (.lconst 0, 1) := rfl
theorem dX12_outOf_3 : decode cX12_outOf 3 = .ok (.lstore 4, 2) := rfl
theorem dX12_outOf_5 : decode cX12_outOf 5 = .ok (.iconst 0, 1) := rfl
theorem dX12_outOf_6 : decode cX12_outOf 6 = .ok (.istore 6, 2) := rfl
theorem dX12_outOf_8 : decode cX12_outOf 8 = .ok (.iload 6, 2) := rfl
theorem dX12_outOf_10 : decode cX12_outOf 10 = .ok (.aload_n 0, 1) := rfl
theorem dX12_outOf_11 : decode cX12_outOf 11 = .ok (.getfield 477, 3) := rfl
theorem dX12_outOf_14 : decode cX12_outOf 14 = .ok (.if_icmp .ge 67, 3) := by decide +kernel
theorem dX12_outOf_17 : decode cX12_outOf 17 = .ok (.lload_n 2, 1) := rfl
theorem dX12_outOf_18 : decode cX12_outOf 18 = .ok (.aload_n 0, 1) := rfl
theorem dX12_outOf_19 : decode cX12_outOf 19 = .ok (.iload_n 1, 1) := rfl
theorem dX12_outOf_20 : decode cX12_outOf 20 = .ok (.iconst 0, 1) := rfl
theorem dX12_outOf_21 : decode cX12_outOf 21 = .ok (.aload_n 0, 1) := rfl
theorem dX12_outOf_22 : decode cX12_outOf 22 = .ok (.getfield 119, 3) := rfl
theorem dX12_outOf_25 : decode cX12_outOf 25 = .ok (.iload 6, 2) := rfl
theorem dX12_outOf_27 : decode cX12_outOf 27 = .ok (.iaload, 1) := rfl
theorem dX12_outOf_28 : decode cX12_outOf 28 = .ok (.invokevirtual 471, 3) := rfl
theorem dX12_outOf_31 : decode cX12_outOf 31 = .ok (.ladd, 1) := rfl
theorem dX12_outOf_32 : decode cX12_outOf 32 = .ok (.lstore_n 2, 1) := rfl
theorem dX12_outOf_33 : decode cX12_outOf 33 = .ok (.lload_n 2, 1) := rfl
theorem dX12_outOf_34 : decode cX12_outOf 34 = .ok (.lconst 0, 1) := rfl
theorem dX12_outOf_35 : decode cX12_outOf 35 = .ok (.lcmp, 1) := rfl
theorem dX12_outOf_36 : decode cX12_outOf 36 = .ok (.ifCond .ge 39, 3) := by decide +kernel
theorem dX12_outOf_39 : decode cX12_outOf 39 = .ok (.iload 6, 2) := rfl
theorem dX12_outOf_41 : decode cX12_outOf 41 = .ok (.iconst 1, 1) := rfl
theorem dX12_outOf_42 : decode cX12_outOf 42 = .ok (.iadd, 1) := rfl
theorem dX12_outOf_43 : decode cX12_outOf 43 = .ok (.aload_n 0, 1) := rfl
theorem dX12_outOf_44 : decode cX12_outOf 44 = .ok (.getfield 477, 3) := rfl
theorem dX12_outOf_47 : decode cX12_outOf 47 = .ok (.if_icmp .ge 28, 3) := by decide +kernel
theorem dX12_outOf_50 : decode cX12_outOf 50 = .ok (.lload 4, 2) := rfl
theorem dX12_outOf_52 : decode cX12_outOf 52 = .ok (.lload_n 2, 1) := rfl
theorem dX12_outOf_53 : decode cX12_outOf 53 = .ok (.aload_n 0, 1) := rfl
theorem dX12_outOf_54 : decode cX12_outOf 54 = .ok (.getfield 119, 3) := rfl
theorem dX12_outOf_57 : decode cX12_outOf 57 = .ok (.iload 6, 2) := rfl
theorem dX12_outOf_59 : decode cX12_outOf 59 = .ok (.iconst 1, 1) := rfl
theorem dX12_outOf_60 : decode cX12_outOf 60 = .ok (.iadd, 1) := rfl
theorem dX12_outOf_61 : decode cX12_outOf 61 = .ok (.iaload, 1) := rfl
theorem dX12_outOf_62 : decode cX12_outOf 62 = .ok (.aload_n 0, 1) := rfl
theorem dX12_outOf_63 : decode cX12_outOf 63 = .ok (.getfield 119, 3) := rfl
theorem dX12_outOf_66 : decode cX12_outOf 66 = .ok (.iload 6, 2) := rfl
theorem dX12_outOf_68 : decode cX12_outOf 68 = .ok (.iaload, 1) := rfl
theorem dX12_outOf_69 : decode cX12_outOf 69 = .ok (.isub, 1) := rfl
theorem dX12_outOf_70 : decode cX12_outOf 70 = .ok (.i2l, 1) := rfl
theorem dX12_outOf_71 : decode cX12_outOf 71 = .ok (.lmul, 1) := rfl
theorem dX12_outOf_72 : decode cX12_outOf 72 = .ok (.lsub, 1) := rfl
theorem dX12_outOf_73 : decode cX12_outOf 73 = .ok (.lstore 4, 2) := rfl
theorem dX12_outOf_75 : decode cX12_outOf 75 = .ok (.iinc 6 1, 3) := by decide +kernel
theorem dX12_outOf_78 : decode cX12_outOf 78 = .ok (.goto (-70), 3) := by decide +kernel
theorem dX12_outOf_81 : decode cX12_outOf 81 = .ok (.lload 4, 2) := rfl
theorem dX12_outOf_83 : decode cX12_outOf 83 = .ok (.lreturn, 1) := rfl
def m_X12_outOf_75 (k8 : Int32 → Int64 → Int64 → Int32 → Hp → Prop) (Q : Int64 → Hp → Prop) (v1 : Int32) (v2 : Int64) (v4 : Int64) (v6 : Int32) (h : Hp) : Prop := ∀ x1 : Int32, x1 = v6 + 1 → k8 v1 v2 v4 x1 h
set_option maxHeartbeats 4000000 in
set_option maxRecDepth 100000 in
theorem s_X12_outOf_75 {l : Launch} {G : Cx} {d : Nat} {h0 : Hp} (hd : 4 ≤ d) {k8 : Int32 → Int64 → Int64 → Int32 → Hp → Prop} {Q : Int64 → Hp → Prop} (hk8 : ∀ (v1 : Int32) (v2 : Int64) (v4 : Int64) (v6 : Int32) (hh : Hp), k8 v1 v2 v4 v6 hh → Rn l G d 0 0 MX12_outOf h0 (qJ Q) 8 [some (tR 12 0 (some 51)), some (tI v1), some (tJ v2), none, some (tJ v4), none, some (tI v6)] [] hh 0 0) {v1 : Int32} {v2 : Int64} {v4 : Int64} {v6 : Int32} {h : Hp} (hm : m_X12_outOf_75 k8 Q v1 v2 v4 v6 h) : Rn l G d 0 0 MX12_outOf h0 (qJ Q) 75 [some (tR 12 0 (some 51)), some (tI v1), some (tJ v2), none, some (tJ v4), none, some (tI v6)] [] h 0 0 := by
  unfold m_X12_outOf_75 at hm
  obtain ⟨x1, e_x1⟩ : ∃ y : Int32, y = v6 + 1 := ⟨_, rfl⟩
  replace hm := hm x1 e_x1
  refine r_iinc (L' := [some (tR 12 0 (some 51)), some (tI v1), some (tJ v2), none, some (tJ v4), none, some (tI x1)]) dX12_outOf_75 rfl (by rw [e_x1]; rfl) (by decide) rfl ?_
  refine r_goto (tgt := 8) dX12_outOf_78 rfl ?_
  refine r_keep (L' := [some (tR 12 0 (some 51)), some (tI v1), some (tJ v2), none, some (tJ v4), none, some (tI x1)]) [true, true, true, false, true, false, true] rfl ?_
  exact hk8 _ _ _ _ _ hm
def m_X12_outOf_8 : Nat → (Int64 → Hp → Prop) → Int32 → Int64 → Int64 → Int32 → Hp → Prop
  | 0, _, _, _, _, _, _ => False
  | n + 1, Q, v1, v2, v4, v6, h => ((hI h 51 61) ≤ v6 → Q v4 h) ∧ (¬ (hI h 51 61) ≤ v6 → vp_in v6 256 ∧ (m_X12_netOf v1 0 (hI h 86 (ix v6)) h (fun (x2 : Int64) (h3 : Hp) => ∀ x4 : Int64, x4 = (v2 + x2) → (0 ≤ (lg_cmp x4 0) → m_X12_outOf_75 (fun (v1 : Int32) (v2 : Int64) (v4 : Int64) (v6 : Int32) (hh : Hp) => m_X12_outOf_8 n Q v1 v2 v4 v6 hh) Q v1 x4 v4 v6 h3) ∧ (¬ 0 ≤ (lg_cmp x4 0) → ((hI h3 51 61) ≤ (v6 + 1) → m_X12_outOf_75 (fun (v1 : Int32) (v2 : Int64) (v4 : Int64) (v6 : Int32) (hh : Hp) => m_X12_outOf_8 n Q v1 v2 v4 v6 hh) Q v1 x4 v4 v6 h3) ∧ (¬ (hI h3 51 61) ≤ (v6 + 1) → vp_in (v6 + 1) 256 ∧ (vp_in v6 256 ∧ (∀ x5 : Int64, x5 = (v4 - (x4 * (((hI h3 86 (ix (v6 + 1))) - (hI h3 86 (ix v6))).toInt64))) → m_X12_outOf_75 (fun (v1 : Int32) (v2 : Int64) (v4 : Int64) (v6 : Int32) (hh : Hp) => m_X12_outOf_8 n Q v1 v2 v4 v6 hh) Q v1 x4 x5 v6 h3)))))))
set_option maxHeartbeats 4000000 in
set_option maxRecDepth 100000 in
theorem s_X12_outOf_8 {l : Launch} {G : Cx} {d : Nat} {h0 : Hp} (hd : 4 ≤ d) {Q : Int64 → Hp → Prop} : ∀ {n : Nat} {v1 : Int32} {v2 : Int64} {v4 : Int64} {v6 : Int32} {h : Hp}, m_X12_outOf_8 n Q v1 v2 v4 v6 h → Rn l G d 0 0 MX12_outOf h0 (qJ Q) 8 [some (tR 12 0 (some 51)), some (tI v1), some (tJ v2), none, some (tJ v4), none, some (tI v6)] [] h 0 0 := by
  intro n
  induction n with
  | zero => intro v1 v2 v4 v6 h hm; exact hm.elim
  | succ n ih =>
    intro v1 v2 v4 v6 h hm
    have hk8 := fun (v1 : Int32) (v2 : Int64) (v4 : Int64) (v6 : Int32) (hh : Hp) (hm : m_X12_outOf_8 n Q v1 v2 v4 v6 hh) => ih hm
    rw [m_X12_outOf_8] at hm
    refine r_iload dX12_outOf_8 rfl ?_
    refine r_aload_n dX12_outOf_10 rfl rfl ?_
    refine r_getI (k := 61) cl_12 dX12_outOf_11 t_1333 (Or.inl rfl) gf_12_61 ?_
    refine r_icmp_ge (tgt := 81) dX12_outOf_14 rfl (fun hc => ?_) (fun hc => ?_)
    · replace hm := hm.1 hc
      refine r_lload dX12_outOf_81 rfl ?_
      exact r_lreturn dX12_outOf_83 rfl ⟨by decide, by decide⟩ ⟨_, rfl, hm⟩
    · replace hm := hm.2 hc
      refine r_lload_n dX12_outOf_17 rfl rfl ?_
      refine r_aload_n dX12_outOf_18 rfl rfl ?_
      refine r_iload_n dX12_outOf_19 rfl rfl ?_
      refine r_iconst (v := 0) dX12_outOf_20 rfl ?_
      refine r_aload_n dX12_outOf_21 rfl rfl ?_
      refine r_getC (k := 62) cl_12 dX12_outOf_22 t_1334 gf_12_62.1 gf_12_62.2 (gc_12_62 _) ?_
      refine r_iload dX12_outOf_25 rfl ?_
      refine r_iald dX12_outOf_27 hm.1 ?_
      replace hm := hm.2
      refine r_callVJ (d' := d - 1) (as := [tI v1, tI 0, tI (hI h 86 (ix v6))]) (st := [tJ v2]) cl_12 dX12_outOf_28 mi_X12_netOf t_1794 t_1796 ts_97 rfl rfl (Nat.le_of_ble_eq_true rfl) (by omega) ⟨by decide, by decide⟩ ⟨rfl, rfl⟩ (s_X12_netOf (by omega) hm) (fun x2 h3 hm => ?_)
      refine r_ladd dX12_outOf_31 ?_
      refine r_nmJ (fun x4 e_x4 => ?_)
      replace hm := hm x4 e_x4
      refine r_lstore_n (L' := [some (tR 12 0 (some 51)), some (tI v1), some (tJ x4), none, some (tJ v4), none, some (tI v6)]) dX12_outOf_32 rfl (by decide) rfl ?_
      refine r_lload_n dX12_outOf_33 rfl rfl ?_
      refine r_lconst (v := 0) dX12_outOf_34 rfl ?_
      refine r_lcmp dX12_outOf_35 ?_
      refine r_if_ge (tgt := 75) dX12_outOf_36 rfl (fun hc => ?_) (fun hc => ?_)
      · replace hm := hm.1 hc
        refine r_keep (L' := [some (tR 12 0 (some 51)), some (tI v1), some (tJ x4), none, some (tJ v4), none, some (tI v6)]) [true, true, true, false, true, false, true] rfl ?_
        exact s_X12_outOf_75 hd hk8 hm
      · replace hm := hm.2 hc
        refine r_iload dX12_outOf_39 rfl ?_
        refine r_iconst (v := 1) dX12_outOf_41 rfl ?_
        refine r_iadd dX12_outOf_42 ?_
        refine r_aload_n dX12_outOf_43 rfl rfl ?_
        refine r_getI (k := 61) cl_12 dX12_outOf_44 t_1333 (Or.inl rfl) gf_12_61 ?_
        refine r_icmp_ge (tgt := 75) dX12_outOf_47 rfl (fun hc => ?_) (fun hc => ?_)
        · replace hm := hm.1 hc
          refine r_keep (L' := [some (tR 12 0 (some 51)), some (tI v1), some (tJ x4), none, some (tJ v4), none, some (tI v6)]) [true, true, true, false, true, false, true] rfl ?_
          exact s_X12_outOf_75 hd hk8 hm
        · replace hm := hm.2 hc
          refine r_lload dX12_outOf_50 rfl ?_
          refine r_lload_n dX12_outOf_52 rfl rfl ?_
          refine r_aload_n dX12_outOf_53 rfl rfl ?_
          refine r_getC (k := 62) cl_12 dX12_outOf_54 t_1334 gf_12_62.1 gf_12_62.2 (gc_12_62 _) ?_
          refine r_iload dX12_outOf_57 rfl ?_
          refine r_iconst (v := 1) dX12_outOf_59 rfl ?_
          refine r_iadd dX12_outOf_60 ?_
          refine r_iald dX12_outOf_61 hm.1 ?_
          replace hm := hm.2
          refine r_aload_n dX12_outOf_62 rfl rfl ?_
          refine r_getC (k := 62) cl_12 dX12_outOf_63 t_1334 gf_12_62.1 gf_12_62.2 (gc_12_62 _) ?_
          refine r_iload dX12_outOf_66 rfl ?_
          refine r_iald dX12_outOf_68 hm.1 ?_
          replace hm := hm.2
          refine r_isub dX12_outOf_69 ?_
          refine r_i2l dX12_outOf_70 ?_
          refine r_lmul dX12_outOf_71 ?_
          refine r_lsub dX12_outOf_72 ?_
          refine r_nmJ (fun x5 e_x5 => ?_)
          replace hm := hm x5 e_x5
          refine r_lstore (L' := [some (tR 12 0 (some 51)), some (tI v1), some (tJ x4), none, some (tJ x5), none, some (tI v6)]) dX12_outOf_73 (by decide) rfl ?_
          refine r_keep (L' := [some (tR 12 0 (some 51)), some (tI v1), some (tJ x4), none, some (tJ x5), none, some (tI v6)]) [true, true, true, false, true, false, true] rfl ?_
          exact s_X12_outOf_75 hd hk8 hm
def m_X12_outOf (v1 : Int32) (h : Hp) (Q : Int64 → Hp → Prop) : Prop := ∃ n8, m_X12_outOf_8 n8 Q v1 0 0 0 h
set_option maxHeartbeats 4000000 in
set_option maxRecDepth 100000 in
theorem s_X12_outOf {l : Launch} {G : Cx} {d : Nat} (hd : 4 ≤ d) {v1 : Int32} {h : Hp} {Q : Int64 → Hp → Prop} (hm : m_X12_outOf v1 h Q) : Ct l G d 0 0 yX12_outOf MX12_outOf [tR 12 0 (some 51), tI v1] h (qJ Q) := by
  unfold m_X12_outOf at hm
  refine Ct.of (L := [some (tR 12 0 (some 51)), some (tI v1)]) (by decide) rfl rfl (Nat.le_of_ble_eq_true rfl) rfl ?_
  refine r_lconst (v := 0) dX12_outOf_0 rfl ?_
  refine r_lstore_n (L' := [some (tR 12 0 (some 51)), some (tI v1), some (tJ 0), none]) dX12_outOf_1 rfl (by decide) rfl ?_
  refine r_lconst (v := 0) dX12_outOf_2 rfl ?_
  refine r_lstore (L' := [some (tR 12 0 (some 51)), some (tI v1), some (tJ 0), none, some (tJ 0), none]) dX12_outOf_3 (by decide) rfl ?_
  refine r_iconst (v := 0) dX12_outOf_5 rfl ?_
  refine r_istore (L' := [some (tR 12 0 (some 51)), some (tI v1), some (tJ 0), none, some (tJ 0), none, some (tI 0)]) dX12_outOf_6 (by decide) rfl ?_
  refine r_keep (L' := [some (tR 12 0 (some 51)), some (tI v1), some (tJ 0), none, some (tJ 0), none, some (tI 0)]) [true, true, true, false, true, false, true] rfl ?_
  obtain ⟨n, hm⟩ := hm
  refine s_X12_outOf_8 hd hm
theorem dX12_price_0 : decode cX12_price 0 = .ok (.aload_n 0, 1) := by decide +kernel
theorem dX12_price_1 : decode cX12_price 1 = .ok (.invokevirtual 452, 3) := by decide +kernel
theorem dX12_price_4 : decode cX12_price 4 = .ok (.iload_n 1, 1) := by decide +kernel
theorem dX12_price_5 : decode cX12_price 5 = .ok (.iload_n 2, 1) := by decide +kernel
theorem dX12_price_6 : decode cX12_price 6 = .ok (.invokestatic 486, 3) := by decide +kernel
theorem dX12_price_9 : decode cX12_price 9 = .ok (.ifCond .eq 19, 3) := by decide +kernel
theorem dX12_price_12 : decode cX12_price 12 = .ok (.iload_n 3, 1) := by decide +kernel
theorem dX12_price_13 : decode cX12_price 13 = .ok (.iconst 0, 1) := by decide +kernel
theorem dX12_price_14 : decode cX12_price 14 = .ok (.iconst 3, 1) := by decide +kernel
theorem dX12_price_15 : decode cX12_price 15 = .ok (.invokestatic 185, 3) := by decide +kernel
theorem dX12_price_18 : decode cX12_price 18 = .ok (.ifCond .eq 10, 3) := by decide +kernel
theorem dX12_price_21 : decode cX12_price 21 = .ok (.aload_n 0, 1) := by decide +kernel
theorem dX12_price_22 : decode cX12_price 22 = .ok (.invokevirtual 474, 3) := by decide +kernel
theorem dX12_price_25 : decode cX12_price 25 = .ok (.ifCond .ne 7, 3) := by decide +kernel
theorem dX12_price_28 : decode cX12_price 28 = .ok (.ldc2_w 205, 3) := by decide +kernel
theorem dX12_price_31 : decode cX12_price 31 = .ok (.lreturn, 1) := by decide +kernel
theorem dX12_price_32 : decode cX12_price 32 = .ok (.ldc2_w 205, 3) := by decide +kernel
theorem dX12_price_35 : decode cX12_price 35 = .ok (.lstore 4, 2) := by decide +kernel
theorem dX12_price_37 : decode cX12_price 37 = .ok (.lconst 1, 1) := by decide +kernel
theorem dX12_price_38 : decode cX12_price 38 = .ok (.lstore 6, 2) := by decide +kernel
theorem dX12_price_40 : decode cX12_price 40 = .ok (.aload_n 0, 1) := by decide +kernel
theorem dX12_price_41 : decode cX12_price 41 = .ok (.iconst 0, 1) := by decide +kernel
theorem dX12_price_42 : decode cX12_price 42 = .ok (.invokevirtual 489, 3) := by decide +kernel
theorem dX12_price_45 : decode cX12_price 45 = .ok (.istore 8, 2) := by decide +kernel
theorem dX12_price_47 : decode cX12_price 47 = .ok (.iload 8, 2) := by decide +kernel
theorem dX12_price_49 : decode cX12_price 49 = .ok (.ifCond .lt 119, 3) := by decide +kernel
theorem dX12_price_52 : decode cX12_price 52 = .ok (.aload_n 0, 1) := by decide +kernel
theorem dX12_price_53 : decode cX12_price 53 = .ok (.iload 8, 2) := by decide +kernel
theorem dX12_price_55 : decode cX12_price 55 = .ok (.invokevirtual 492, 3) := by decide +kernel
theorem dX12_price_58 : decode cX12_price 58 = .ok (.aload_n 0, 1) := by decide +kernel
theorem dX12_price_59 : decode cX12_price 59 = .ok (.getfield 128, 3) := by decide +kernel
theorem dX12_price_62 : decode cX12_price 62 = .ok (.iload_n 1, 1) := by decide +kernel
theorem dX12_price_63 : decode cX12_price 63 = .ok (.iaload, 1) := by decide +kernel
theorem dX12_price_64 : decode cX12_price 64 = .ok (.iload_n 2, 1) := by decide +kernel
theorem dX12_price_65 : decode cX12_price 65 = .ok (.ishr, 1) := by decide +kernel
theorem dX12_price_66 : decode cX12_price 66 = .ok (.iconst 1, 1) := by decide +kernel
theorem dX12_price_67 : decode cX12_price 67 = .ok (.iand, 1) := by decide +kernel
theorem dX12_price_68 : decode cX12_price 68 = .ok (.ifCond .ne 6, 3) := by decide +kernel
theorem dX12_price_71 : decode cX12_price 71 = .ok (.goto 84, 3) := by decide +kernel
theorem dX12_price_74 : decode cX12_price 74 = .ok (.aload_n 0, 1) := by decide +kernel
theorem dX12_price_75 : decode cX12_price 75 = .ok (.getfield 125, 3) := by decide +kernel
theorem dX12_price_78 : decode cX12_price 78 = .ok (.iload_n 1, 1) := by decide +kernel
theorem dX12_price_79 : decode cX12_price 79 = .ok (.laload, 1) := by decide +kernel
theorem dX12_price_80 : decode cX12_price 80 = .ok (.lstore 9, 2) := by decide +kernel
theorem dX12_price_82 : decode cX12_price 82 = .ok (.aload_n 0, 1) := by decide +kernel
theorem dX12_price_83 : decode cX12_price 83 = .ok (.iload_n 1, 1) := by decide +kernel
theorem dX12_price_84 : decode cX12_price 84 = .ok (.invokevirtual 495, 3) := by decide +kernel
theorem dX12_price_87 : decode cX12_price 87 = .ok (.lstore 11, 2) := by decide +kernel
theorem dX12_price_89 : decode cX12_price 89 = .ok (.lload 4, 2) := by decide +kernel
theorem dX12_price_91 : decode cX12_price 91 = .ok (.lconst 0, 1) := by decide +kernel
theorem dX12_price_92 : decode cX12_price 92 = .ok (.lcmp, 1) := by decide +kernel
theorem dX12_price_93 : decode cX12_price 93 = .ok (.ifCond .lt 39, 3) := by decide +kernel
theorem dX12_price_96 : decode cX12_price 96 = .ok (.iload_n 3, 1) := by decide +kernel
theorem dX12_price_97 : decode cX12_price 97 = .ok (.iconst 2, 1) := by decide +kernel
theorem dX12_price_98 : decode cX12_price 98 = .ok (.if_icmp .ge 20, 3) := by decide +kernel
theorem dX12_price_101 : decode cX12_price 101 = .ok (.lload 9, 2) := by decide +kernel
theorem dX12_price_103 : decode cX12_price 103 = .ok (.lload 11, 2) := by decide +kernel
theorem dX12_price_105 : decode cX12_price 105 = .ok (.lload 4, 2) := by decide +kernel
theorem dX12_price_107 : decode cX12_price 107 = .ok (.lload 6, 2) := by decide +kernel
theorem dX12_price_109 : decode cX12_price 109 = .ok (.invokestatic 498, 3) := by decide +kernel
theorem dX12_price_112 : decode cX12_price 112 = .ok (.ifCond .eq 24, 3) := by decide +kernel
theorem dX12_price_115 : decode cX12_price 115 = .ok (.goto 17, 3) := by decide +kernel
theorem dX12_price_118 : decode cX12_price 118 = .ok (.lload 4, 2) := by decide +kernel
theorem dX12_price_120 : decode cX12_price 120 = .ok (.lload 6, 2) := by decide +kernel
theorem dX12_price_122 : decode cX12_price 122 = .ok (.lload 9, 2) := by decide +kernel
theorem dX12_price_124 : decode cX12_price 124 = .ok (.lload 11, 2) := by decide +kernel
theorem dX12_price_126 : decode cX12_price 126 = .ok (.invokestatic 498, 3) := by decide +kernel
theorem dX12_price_129 : decode cX12_price 129 = .ok (.ifCond .eq 7, 3) := by decide +kernel
theorem dX12_price_132 : decode cX12_price 132 = .ok (.iconst 1, 1) := by decide +kernel
theorem dX12_price_133 : decode cX12_price 133 = .ok (.goto 4, 3) := by decide +kernel
theorem dX12_price_136 : decode cX12_price 136 = .ok (.iconst 0, 1) := by decide +kernel
theorem dX12_price_137 : decode cX12_price 137 = .ok (.istore 13, 2) := by decide +kernel
theorem dX12_price_139 : decode cX12_price 139 = .ok (.iload 13, 2) := by decide +kernel
theorem dX12_price_141 : decode cX12_price 141 = .ok (.ifCond .ne 6, 3) := by decide +kernel
theorem dX12_price_144 : decode cX12_price 144 = .ok (.goto 11, 3) := by decide +kernel
theorem dX12_price_147 : decode cX12_price 147 = .ok (.lload 9, 2) := by decide +kernel
theorem dX12_price_149 : decode cX12_price 149 = .ok (.lstore 4, 2) := by decide +kernel
theorem dX12_price_151 : decode cX12_price 151 = .ok (.lload 11, 2) := by decide +kernel
theorem dX12_price_153 : decode cX12_price 153 = .ok (.lstore 6, 2) := by decide +kernel
theorem dX12_price_155 : decode cX12_price 155 = .ok (.aload_n 0, 1) := by decide +kernel
theorem dX12_price_156 : decode cX12_price 156 = .ok (.iload 8, 2) := by decide +kernel
theorem dX12_price_158 : decode cX12_price 158 = .ok (.iconst 1, 1) := by decide +kernel
theorem dX12_price_159 : decode cX12_price 159 = .ok (.iadd, 1) := by decide +kernel
theorem dX12_price_160 : decode cX12_price 160 = .ok (.invokevirtual 489, 3) := by decide +kernel
theorem dX12_price_163 : decode cX12_price 163 = .ok (.istore 8, 2) := by decide +kernel
theorem dX12_price_165 : decode cX12_price 165 = .ok (.goto (-118), 3) := by decide +kernel
theorem dX12_price_168 : decode cX12_price 168 = .ok (.lload 4, 2) := by decide +kernel
theorem dX12_price_170 : decode cX12_price 170 = .ok (.lconst 0, 1) := by decide +kernel
theorem dX12_price_171 : decode cX12_price 171 = .ok (.lcmp, 1) := by decide +kernel
theorem dX12_price_172 : decode cX12_price 172 = .ok (.ifCond .ge 7, 3) := by decide +kernel
theorem dX12_price_175 : decode cX12_price 175 = .ok (.ldc2_w 205, 3) := by decide +kernel
theorem dX12_price_178 : decode cX12_price 178 = .ok (.lreturn, 1) := by decide +kernel
theorem dX12_price_179 : decode cX12_price 179 = .ok (.lload 4, 2) := by decide +kernel
theorem dX12_price_181 : decode cX12_price 181 = .ok (.lload 6, 2) := by decide +kernel
theorem dX12_price_183 : decode cX12_price 183 = .ok (.invokestatic 502, 3) := by decide +kernel
theorem dX12_price_186 : decode cX12_price 186 = .ok (.lstore 8, 2) := by decide +kernel
theorem dX12_price_188 : decode cX12_price 188 = .ok (.iload_n 3, 1) := by decide +kernel
theorem dX12_price_189 : decode cX12_price 189 = .ok (.iconst 2, 1) := by decide +kernel
theorem dX12_price_190 : decode cX12_price 190 = .ok (.irem, 1) := by decide +kernel
theorem dX12_price_191 : decode cX12_price 191 = .ok (.ifCond .ne 11, 3) := by decide +kernel
theorem dX12_price_194 : decode cX12_price 194 = .ok (.lload 4, 2) := by decide +kernel
theorem dX12_price_196 : decode cX12_price 196 = .ok (.lload 8, 2) := by decide +kernel
theorem dX12_price_198 : decode cX12_price 198 = .ok (.ldiv, 1) := by decide +kernel
theorem dX12_price_199 : decode cX12_price 199 = .ok (.goto 8, 3) := by decide +kernel
theorem dX12_price_202 : decode cX12_price 202 = .ok (.lload 6, 2) := by decide +kernel
theorem dX12_price_204 : decode cX12_price 204 = .ok (.lload 8, 2) := by decide +kernel
theorem dX12_price_206 : decode cX12_price 206 = .ok (.ldiv, 1) := by decide +kernel
theorem dX12_price_207 : decode cX12_price 207 = .ok (.lreturn, 1) := by decide +kernel
def m_X12_price_168  (Q : Int64 → Hp → Prop) (v3 : Int32) (v4 : Int64) (v6 : Int64) (h : Hp) : Prop := (0 ≤ (lg_cmp v4 0) → m_X12_divisor v4 v6 h (fun (x1 : Int64) (h2 : Hp) => (¬ (v3 - v3 / 2 * 2) = 0 → ¬ x1 = 0 ∧ (Q (v6 / x1) h2)) ∧ ((v3 - v3 / 2 * 2) = 0 → ¬ x1 = 0 ∧ (Q (v4 / x1) h2)))) ∧ (¬ 0 ≤ (lg_cmp v4 0) → Q (-1) h)
set_option maxHeartbeats 4000000 in
set_option maxRecDepth 100000 in
theorem s_X12_price_168 {l : Launch} {G : Cx} {d : Nat} {h0 : Hp} (hd : 10 ≤ d) {Q : Int64 → Hp → Prop} {v3 : Int32} {v4 : Int64} {v6 : Int64} {h : Hp} (hm : m_X12_price_168 Q v3 v4 v6 h) : Rn l G d 0 0 MX12_price h0 (qJ Q) 168 [none, none, none, some (tI v3), some (tJ v4), none, some (tJ v6)] [] h 0 0 := by
  unfold m_X12_price_168 at hm
  refine r_lload dX12_price_168 rfl ?_
  refine r_lconst (v := 0) dX12_price_170 rfl ?_
  refine r_lcmp dX12_price_171 ?_
  refine r_if_ge (tgt := 179) dX12_price_172 rfl (fun hc => ?_) (fun hc => ?_)
  · replace hm := hm.1 hc
    refine r_lload dX12_price_179 rfl ?_
    refine r_lload dX12_price_181 rfl ?_
    refine r_callSJ (d' := d - 1) (as := [tJ v4, tJ v6]) (st := []) dX12_price_183 mi_X12_divisor t_1847 t_1848 rfl rfl (Nat.le_of_ble_eq_true rfl) (by omega) ⟨by decide, by decide⟩ ⟨rfl, rfl⟩ (s_X12_divisor (by omega) hm) (fun x1 h2 hm => ?_)
    refine r_lstore (L' := [none, none, none, some (tI v3), some (tJ v4), none, some (tJ v6), none, some (tJ x1), none]) dX12_price_186 (by decide) rfl ?_
    refine r_iload_n dX12_price_188 rfl rfl ?_
    refine r_iconst (v := 2) dX12_price_189 rfl ?_
    refine r_irem dX12_price_190 (by decide) ?_
    refine r_if_ne (tgt := 202) dX12_price_191 rfl (fun hc => ?_) (fun hc => ?_)
    · replace hm := hm.1 hc
      refine r_lload dX12_price_202 rfl ?_
      refine r_lload dX12_price_204 rfl ?_
      refine r_ldiv dX12_price_206 hm.1 ?_
      replace hm := hm.2
      exact r_lreturn dX12_price_207 rfl ⟨by decide, by decide⟩ ⟨_, rfl, hm⟩
    · replace hm := hm.2 hc
      refine r_lload dX12_price_194 rfl ?_
      refine r_lload dX12_price_196 rfl ?_
      refine r_ldiv dX12_price_198 hm.1 ?_
      replace hm := hm.2
      refine r_goto (tgt := 207) dX12_price_199 rfl ?_
      exact r_lreturn dX12_price_207 rfl ⟨by decide, by decide⟩ ⟨_, rfl, hm⟩
  · replace hm := hm.2 hc
    refine r_ldc2_w dX12_price_175 t_1580 ?_
    exact r_lreturn dX12_price_178 rfl ⟨by decide, by decide⟩ ⟨_, rfl, hm⟩
def m_X12_price_155 (k47 : Int32 → Int32 → Int32 → Int64 → Int64 → Int32 → Hp → Prop) (k168 : Int32 → Int64 → Int64 → Hp → Prop) (Q : Int64 → Hp → Prop) (v1 : Int32) (v2 : Int32) (v3 : Int32) (v4 : Int64) (v6 : Int64) (v8 : Int32) (h : Hp) : Prop := m_X12_codeFrom (v8 + 1) h (fun (x3 : Int32) (h4 : Hp) => k47 v1 v2 v3 v4 v6 x3 h4)
set_option maxHeartbeats 4000000 in
set_option maxRecDepth 100000 in
theorem s_X12_price_155 {l : Launch} {G : Cx} {d : Nat} {h0 : Hp} (hd : 10 ≤ d) {k47 : Int32 → Int32 → Int32 → Int64 → Int64 → Int32 → Hp → Prop} {k168 : Int32 → Int64 → Int64 → Hp → Prop} {Q : Int64 → Hp → Prop} (hk47 : ∀ (v1 : Int32) (v2 : Int32) (v3 : Int32) (v4 : Int64) (v6 : Int64) (v8 : Int32) (hh : Hp), k47 v1 v2 v3 v4 v6 v8 hh → Rn l G d 0 0 MX12_price h0 (qJ Q) 47 [some (tR 12 0 (some 51)), some (tI v1), some (tI v2), some (tI v3), some (tJ v4), none, some (tJ v6), none, some (tI v8)] [] hh 0 0) (hk168 : ∀ (v3 : Int32) (v4 : Int64) (v6 : Int64) (hh : Hp), k168 v3 v4 v6 hh → Rn l G d 0 0 MX12_price h0 (qJ Q) 168 [none, none, none, some (tI v3), some (tJ v4), none, some (tJ v6)] [] hh 0 0) {v1 : Int32} {v2 : Int32} {v3 : Int32} {v4 : Int64} {v6 : Int64} {v8 : Int32} {h : Hp} (hm : m_X12_price_155 k47 k168 Q v1 v2 v3 v4 v6 v8 h) : Rn l G d 0 0 MX12_price h0 (qJ Q) 155 [some (tR 12 0 (some 51)), some (tI v1), some (tI v2), some (tI v3), some (tJ v4), none, some (tJ v6), none, some (tI v8)] [] h 0 0 := by
  unfold m_X12_price_155 at hm
  refine r_aload_n dX12_price_155 rfl rfl ?_
  refine r_iload dX12_price_156 rfl ?_
  refine r_iconst (v := 1) dX12_price_158 rfl ?_
  refine r_iadd dX12_price_159 ?_
  refine r_callVI (d' := d - 1) (as := [tI (v8 + 1)]) (st := []) cl_12 dX12_price_160 mi_X12_codeFrom t_1820 t_1822 ts_100 rfl rfl (Nat.le_of_ble_eq_true rfl) (by omega) ⟨by decide, by decide⟩ ⟨rfl, rfl⟩ (s_X12_codeFrom (by omega) hm) (fun x3 h4 hm => ?_)
  refine r_istore (L' := [some (tR 12 0 (some 51)), some (tI v1), some (tI v2), some (tI v3), some (tJ v4), none, some (tJ v6), none, some (tI x3)]) dX12_price_163 (by decide) rfl ?_
  refine r_goto (tgt := 47) dX12_price_165 rfl ?_
  refine r_keep (L' := [some (tR 12 0 (some 51)), some (tI v1), some (tI v2), some (tI v3), some (tJ v4), none, some (tJ v6), none, some (tI x3)]) [true, true, true, true, true, false, true, false, true] rfl ?_
  exact hk47 _ _ _ _ _ _ _ hm
def m_X12_price_137 (k47 : Int32 → Int32 → Int32 → Int64 → Int64 → Int32 → Hp → Prop) (k168 : Int32 → Int64 → Int64 → Hp → Prop) (Q : Int64 → Hp → Prop) (v1 : Int32) (v2 : Int32) (v3 : Int32) (v4 : Int64) (v6 : Int64) (v8 : Int32) (v9 : Int64) (v11 : Int64) (s0 : Int32) (h : Hp) : Prop := (¬ s0 = 0 → m_X12_price_155 k47 k168 Q v1 v2 v3 v9 v11 v8 h) ∧ (s0 = 0 → m_X12_price_155 k47 k168 Q v1 v2 v3 v4 v6 v8 h)
set_option maxHeartbeats 4000000 in
set_option maxRecDepth 100000 in
theorem s_X12_price_137 {l : Launch} {G : Cx} {d : Nat} {h0 : Hp} (hd : 10 ≤ d) {k47 : Int32 → Int32 → Int32 → Int64 → Int64 → Int32 → Hp → Prop} {k168 : Int32 → Int64 → Int64 → Hp → Prop} {Q : Int64 → Hp → Prop} (hk47 : ∀ (v1 : Int32) (v2 : Int32) (v3 : Int32) (v4 : Int64) (v6 : Int64) (v8 : Int32) (hh : Hp), k47 v1 v2 v3 v4 v6 v8 hh → Rn l G d 0 0 MX12_price h0 (qJ Q) 47 [some (tR 12 0 (some 51)), some (tI v1), some (tI v2), some (tI v3), some (tJ v4), none, some (tJ v6), none, some (tI v8)] [] hh 0 0) (hk168 : ∀ (v3 : Int32) (v4 : Int64) (v6 : Int64) (hh : Hp), k168 v3 v4 v6 hh → Rn l G d 0 0 MX12_price h0 (qJ Q) 168 [none, none, none, some (tI v3), some (tJ v4), none, some (tJ v6)] [] hh 0 0) {v1 : Int32} {v2 : Int32} {v3 : Int32} {v4 : Int64} {v6 : Int64} {v8 : Int32} {v9 : Int64} {v11 : Int64} {s0 : Int32} {h : Hp} (hm : m_X12_price_137 k47 k168 Q v1 v2 v3 v4 v6 v8 v9 v11 s0 h) : Rn l G d 0 0 MX12_price h0 (qJ Q) 137 [some (tR 12 0 (some 51)), some (tI v1), some (tI v2), some (tI v3), some (tJ v4), none, some (tJ v6), none, some (tI v8), some (tJ v9), none, some (tJ v11)] [tI s0] h 0 0 := by
  unfold m_X12_price_137 at hm
  refine r_istore (L' := [some (tR 12 0 (some 51)), some (tI v1), some (tI v2), some (tI v3), some (tJ v4), none, some (tJ v6), none, some (tI v8), some (tJ v9), none, some (tJ v11), none, some (tI s0)]) dX12_price_137 (by decide) rfl ?_
  refine r_iload dX12_price_139 rfl ?_
  refine r_if_ne (tgt := 147) dX12_price_141 rfl (fun hc => ?_) (fun hc => ?_)
  · replace hm := hm.1 hc
    refine r_lload dX12_price_147 rfl ?_
    refine r_lstore (L' := [some (tR 12 0 (some 51)), some (tI v1), some (tI v2), some (tI v3), some (tJ v9), none, some (tJ v6), none, some (tI v8), some (tJ v9), none, some (tJ v11), none, some (tI s0)]) dX12_price_149 (by decide) rfl ?_
    refine r_lload dX12_price_151 rfl ?_
    refine r_lstore (L' := [some (tR 12 0 (some 51)), some (tI v1), some (tI v2), some (tI v3), some (tJ v9), none, some (tJ v11), none, some (tI v8), some (tJ v9), none, some (tJ v11), none, some (tI s0)]) dX12_price_153 (by decide) rfl ?_
    refine r_keep (L' := [some (tR 12 0 (some 51)), some (tI v1), some (tI v2), some (tI v3), some (tJ v9), none, some (tJ v11), none, some (tI v8)]) [true, true, true, true, true, false, true, false, true] rfl ?_
    exact s_X12_price_155 hd hk47 hk168 hm
  · replace hm := hm.2 hc
    refine r_goto (tgt := 155) dX12_price_144 rfl ?_
    refine r_keep (L' := [some (tR 12 0 (some 51)), some (tI v1), some (tI v2), some (tI v3), some (tJ v4), none, some (tJ v6), none, some (tI v8)]) [true, true, true, true, true, false, true, false, true] rfl ?_
    exact s_X12_price_155 hd hk47 hk168 hm
def m_X12_price_136 (k47 : Int32 → Int32 → Int32 → Int64 → Int64 → Int32 → Hp → Prop) (k168 : Int32 → Int64 → Int64 → Hp → Prop) (Q : Int64 → Hp → Prop) (v1 : Int32) (v2 : Int32) (v3 : Int32) (v4 : Int64) (v6 : Int64) (v8 : Int32) (v9 : Int64) (v11 : Int64) (h : Hp) : Prop := m_X12_price_137 k47 k168 Q v1 v2 v3 v4 v6 v8 v9 v11 0 h
set_option maxHeartbeats 4000000 in
set_option maxRecDepth 100000 in
theorem s_X12_price_136 {l : Launch} {G : Cx} {d : Nat} {h0 : Hp} (hd : 10 ≤ d) {k47 : Int32 → Int32 → Int32 → Int64 → Int64 → Int32 → Hp → Prop} {k168 : Int32 → Int64 → Int64 → Hp → Prop} {Q : Int64 → Hp → Prop} (hk47 : ∀ (v1 : Int32) (v2 : Int32) (v3 : Int32) (v4 : Int64) (v6 : Int64) (v8 : Int32) (hh : Hp), k47 v1 v2 v3 v4 v6 v8 hh → Rn l G d 0 0 MX12_price h0 (qJ Q) 47 [some (tR 12 0 (some 51)), some (tI v1), some (tI v2), some (tI v3), some (tJ v4), none, some (tJ v6), none, some (tI v8)] [] hh 0 0) (hk168 : ∀ (v3 : Int32) (v4 : Int64) (v6 : Int64) (hh : Hp), k168 v3 v4 v6 hh → Rn l G d 0 0 MX12_price h0 (qJ Q) 168 [none, none, none, some (tI v3), some (tJ v4), none, some (tJ v6)] [] hh 0 0) {v1 : Int32} {v2 : Int32} {v3 : Int32} {v4 : Int64} {v6 : Int64} {v8 : Int32} {v9 : Int64} {v11 : Int64} {h : Hp} (hm : m_X12_price_136 k47 k168 Q v1 v2 v3 v4 v6 v8 v9 v11 h) : Rn l G d 0 0 MX12_price h0 (qJ Q) 136 [some (tR 12 0 (some 51)), some (tI v1), some (tI v2), some (tI v3), some (tJ v4), none, some (tJ v6), none, some (tI v8), some (tJ v9), none, some (tJ v11)] [] h 0 0 := by
  unfold m_X12_price_136 at hm
  refine r_iconst (v := 0) dX12_price_136 rfl ?_
  refine r_keep (L' := [some (tR 12 0 (some 51)), some (tI v1), some (tI v2), some (tI v3), some (tJ v4), none, some (tJ v6), none, some (tI v8), some (tJ v9), none, some (tJ v11)]) [true, true, true, true, true, false, true, false, true, true, false, true] rfl ?_
  exact s_X12_price_137 hd hk47 hk168 hm
def m_X12_price_132 (k47 : Int32 → Int32 → Int32 → Int64 → Int64 → Int32 → Hp → Prop) (k168 : Int32 → Int64 → Int64 → Hp → Prop) (Q : Int64 → Hp → Prop) (v1 : Int32) (v2 : Int32) (v3 : Int32) (v4 : Int64) (v6 : Int64) (v8 : Int32) (v9 : Int64) (v11 : Int64) (h : Hp) : Prop := m_X12_price_137 k47 k168 Q v1 v2 v3 v4 v6 v8 v9 v11 1 h
set_option maxHeartbeats 4000000 in
set_option maxRecDepth 100000 in
theorem s_X12_price_132 {l : Launch} {G : Cx} {d : Nat} {h0 : Hp} (hd : 10 ≤ d) {k47 : Int32 → Int32 → Int32 → Int64 → Int64 → Int32 → Hp → Prop} {k168 : Int32 → Int64 → Int64 → Hp → Prop} {Q : Int64 → Hp → Prop} (hk47 : ∀ (v1 : Int32) (v2 : Int32) (v3 : Int32) (v4 : Int64) (v6 : Int64) (v8 : Int32) (hh : Hp), k47 v1 v2 v3 v4 v6 v8 hh → Rn l G d 0 0 MX12_price h0 (qJ Q) 47 [some (tR 12 0 (some 51)), some (tI v1), some (tI v2), some (tI v3), some (tJ v4), none, some (tJ v6), none, some (tI v8)] [] hh 0 0) (hk168 : ∀ (v3 : Int32) (v4 : Int64) (v6 : Int64) (hh : Hp), k168 v3 v4 v6 hh → Rn l G d 0 0 MX12_price h0 (qJ Q) 168 [none, none, none, some (tI v3), some (tJ v4), none, some (tJ v6)] [] hh 0 0) {v1 : Int32} {v2 : Int32} {v3 : Int32} {v4 : Int64} {v6 : Int64} {v8 : Int32} {v9 : Int64} {v11 : Int64} {h : Hp} (hm : m_X12_price_132 k47 k168 Q v1 v2 v3 v4 v6 v8 v9 v11 h) : Rn l G d 0 0 MX12_price h0 (qJ Q) 132 [some (tR 12 0 (some 51)), some (tI v1), some (tI v2), some (tI v3), some (tJ v4), none, some (tJ v6), none, some (tI v8), some (tJ v9), none, some (tJ v11)] [] h 0 0 := by
  unfold m_X12_price_132 at hm
  refine r_iconst (v := 1) dX12_price_132 rfl ?_
  refine r_goto (tgt := 137) dX12_price_133 rfl ?_
  refine r_keep (L' := [some (tR 12 0 (some 51)), some (tI v1), some (tI v2), some (tI v3), some (tJ v4), none, some (tJ v6), none, some (tI v8), some (tJ v9), none, some (tJ v11)]) [true, true, true, true, true, false, true, false, true, true, false, true] rfl ?_
  exact s_X12_price_137 hd hk47 hk168 hm
def m_X12_price_47 : Nat → (Int32 → Int64 → Int64 → Hp → Prop) → (Int64 → Hp → Prop) → Int32 → Int32 → Int32 → Int64 → Int64 → Int32 → Hp → Prop
  | 0, _, _, _, _, _, _, _, _, _ => False
  | n + 1, k168, Q, v1, v2, v3, v4, v6, v8, h => (v8 < 0 → k168 v3 v4 v6 h) ∧ (¬ v8 < 0 → m_X12_findLending v8 h (fun (h6 : Hp) => vp_in v1 8 ∧ ((¬ (((hI h6 89 (ix v1)) >>> (v2 &&& 31)) &&& 1) = 0 → vp_in v1 8 ∧ (∀ x7 : Int64, x7 = (hJ h6 88 (ix v1)) → m_X12_outOf v1 h6 (fun (x8 : Int64) (h9 : Hp) => ((lg_cmp v4 0) < 0 → m_X12_price_132 (fun (v1 : Int32) (v2 : Int32) (v3 : Int32) (v4 : Int64) (v6 : Int64) (v8 : Int32) (hh : Hp) => m_X12_price_47 n k168 Q v1 v2 v3 v4 v6 v8 hh) k168 Q v1 v2 v3 v4 v6 v8 x7 x8 h9) ∧ (¬ (lg_cmp v4 0) < 0 → (2 ≤ v3 → m_X12_isLess v4 v6 x7 x8 h9 (fun (x10 : Int32) (h11 : Hp) => (x10 = 0 → m_X12_price_136 (fun (v1 : Int32) (v2 : Int32) (v3 : Int32) (v4 : Int64) (v6 : Int64) (v8 : Int32) (hh : Hp) => m_X12_price_47 n k168 Q v1 v2 v3 v4 v6 v8 hh) k168 Q v1 v2 v3 v4 v6 v8 x7 x8 h11) ∧ (¬ x10 = 0 → m_X12_price_132 (fun (v1 : Int32) (v2 : Int32) (v3 : Int32) (v4 : Int64) (v6 : Int64) (v8 : Int32) (hh : Hp) => m_X12_price_47 n k168 Q v1 v2 v3 v4 v6 v8 hh) k168 Q v1 v2 v3 v4 v6 v8 x7 x8 h11))) ∧ (¬ 2 ≤ v3 → m_X12_isLess x7 x8 v4 v6 h9 (fun (x12 : Int32) (h13 : Hp) => (x12 = 0 → m_X12_price_136 (fun (v1 : Int32) (v2 : Int32) (v3 : Int32) (v4 : Int64) (v6 : Int64) (v8 : Int32) (hh : Hp) => m_X12_price_47 n k168 Q v1 v2 v3 v4 v6 v8 hh) k168 Q v1 v2 v3 v4 v6 v8 x7 x8 h13) ∧ (¬ x12 = 0 → m_X12_price_132 (fun (v1 : Int32) (v2 : Int32) (v3 : Int32) (v4 : Int64) (v6 : Int64) (v8 : Int32) (hh : Hp) => m_X12_price_47 n k168 Q v1 v2 v3 v4 v6 v8 hh) k168 Q v1 v2 v3 v4 v6 v8 x7 x8 h13))))))) ∧ ((((hI h6 89 (ix v1)) >>> (v2 &&& 31)) &&& 1) = 0 → m_X12_price_155 (fun (v1 : Int32) (v2 : Int32) (v3 : Int32) (v4 : Int64) (v6 : Int64) (v8 : Int32) (hh : Hp) => m_X12_price_47 n k168 Q v1 v2 v3 v4 v6 v8 hh) k168 Q v1 v2 v3 v4 v6 v8 h6))))
set_option maxHeartbeats 4000000 in
set_option maxRecDepth 100000 in
theorem s_X12_price_47 {l : Launch} {G : Cx} {d : Nat} {h0 : Hp} (hd : 10 ≤ d) {k168 : Int32 → Int64 → Int64 → Hp → Prop} {Q : Int64 → Hp → Prop} (hk168 : ∀ (v3 : Int32) (v4 : Int64) (v6 : Int64) (hh : Hp), k168 v3 v4 v6 hh → Rn l G d 0 0 MX12_price h0 (qJ Q) 168 [none, none, none, some (tI v3), some (tJ v4), none, some (tJ v6)] [] hh 0 0) : ∀ {n : Nat} {v1 : Int32} {v2 : Int32} {v3 : Int32} {v4 : Int64} {v6 : Int64} {v8 : Int32} {h : Hp}, m_X12_price_47 n k168 Q v1 v2 v3 v4 v6 v8 h → Rn l G d 0 0 MX12_price h0 (qJ Q) 47 [some (tR 12 0 (some 51)), some (tI v1), some (tI v2), some (tI v3), some (tJ v4), none, some (tJ v6), none, some (tI v8)] [] h 0 0 := by
  intro n
  induction n with
  | zero => intro v1 v2 v3 v4 v6 v8 h hm; exact hm.elim
  | succ n ih =>
    intro v1 v2 v3 v4 v6 v8 h hm
    have hk47 := fun (v1 : Int32) (v2 : Int32) (v3 : Int32) (v4 : Int64) (v6 : Int64) (v8 : Int32) (hh : Hp) (hm : m_X12_price_47 n k168 Q v1 v2 v3 v4 v6 v8 hh) => ih hm
    rw [m_X12_price_47] at hm
    refine r_iload dX12_price_47 rfl ?_
    refine r_if_lt (tgt := 168) dX12_price_49 rfl (fun hc => ?_) (fun hc => ?_)
    · replace hm := hm.1 hc
      refine r_keep (L' := [none, none, none, some (tI v3), some (tJ v4), none, some (tJ v6)]) [false, false, false, true, true, false, true] rfl ?_
      exact hk168 _ _ _ _ hm
    · replace hm := hm.2 hc
      refine r_aload_n dX12_price_52 rfl rfl ?_
      refine r_iload dX12_price_53 rfl ?_
      refine r_callVU (d' := d - 1) (as := [tI v8]) (st := []) cl_12 dX12_price_55 mi_X12_findLending t_1824 t_1826 ts_101 rfl rfl (Nat.le_of_ble_eq_true rfl) (by omega) ⟨by decide, by decide⟩ ⟨rfl, rfl⟩ (s_X12_findLending (by omega) hm) (fun h6 hm => ?_)
      refine r_aload_n dX12_price_58 rfl rfl ?_
      refine r_getC (k := 65) cl_12 dX12_price_59 t_1337 gf_12_65.1 gf_12_65.2 (gc_12_65 _) ?_
      refine r_iload_n dX12_price_62 rfl rfl ?_
      refine r_iald dX12_price_63 hm.1 ?_
      replace hm := hm.2
      refine r_iload_n dX12_price_64 rfl rfl ?_
      refine r_ishr dX12_price_65 ?_
      refine r_iconst (v := 1) dX12_price_66 rfl ?_
      refine r_iand dX12_price_67 ?_
      refine r_if_ne (tgt := 74) dX12_price_68 rfl (fun hc => ?_) (fun hc => ?_)
      · replace hm := hm.1 hc
        refine r_aload_n dX12_price_74 rfl rfl ?_
        refine r_getC (k := 64) cl_12 dX12_price_75 t_1336 gf_12_64.1 gf_12_64.2 (gc_12_64 _) ?_
        refine r_iload_n dX12_price_78 rfl rfl ?_
        refine r_lald dX12_price_79 hm.1 ?_
        replace hm := hm.2
        refine r_nmJ (fun x7 e_x7 => ?_)
        replace hm := hm x7 e_x7
        refine r_lstore (L' := [some (tR 12 0 (some 51)), some (tI v1), some (tI v2), some (tI v3), some (tJ v4), none, some (tJ v6), none, some (tI v8), some (tJ x7), none]) dX12_price_80 (by decide) rfl ?_
        refine r_aload_n dX12_price_82 rfl rfl ?_
        refine r_iload_n dX12_price_83 rfl rfl ?_
        refine r_callVJ (d' := d - 1) (as := [tI v1]) (st := []) cl_12 dX12_price_84 mi_X12_outOf t_1840 t_1842 ts_104 rfl rfl (Nat.le_of_ble_eq_true rfl) (by omega) ⟨by decide, by decide⟩ ⟨rfl, rfl⟩ (s_X12_outOf (by omega) hm) (fun x8 h9 hm => ?_)
        refine r_lstore (L' := [some (tR 12 0 (some 51)), some (tI v1), some (tI v2), some (tI v3), some (tJ v4), none, some (tJ v6), none, some (tI v8), some (tJ x7), none, some (tJ x8), none]) dX12_price_87 (by decide) rfl ?_
        refine r_lload dX12_price_89 rfl ?_
        refine r_lconst (v := 0) dX12_price_91 rfl ?_
        refine r_lcmp dX12_price_92 ?_
        refine r_if_lt (tgt := 132) dX12_price_93 rfl (fun hc => ?_) (fun hc => ?_)
        · replace hm := hm.1 hc
          refine r_keep (L' := [some (tR 12 0 (some 51)), some (tI v1), some (tI v2), some (tI v3), some (tJ v4), none, some (tJ v6), none, some (tI v8), some (tJ x7), none, some (tJ x8)]) [true, true, true, true, true, false, true, false, true, true, false, true] rfl ?_
          exact s_X12_price_132 hd hk47 hk168 hm
        · replace hm := hm.2 hc
          refine r_iload_n dX12_price_96 rfl rfl ?_
          refine r_iconst (v := 2) dX12_price_97 rfl ?_
          refine r_icmp_ge (tgt := 118) dX12_price_98 rfl (fun hc => ?_) (fun hc => ?_)
          · replace hm := hm.1 hc
            refine r_lload dX12_price_118 rfl ?_
            refine r_lload dX12_price_120 rfl ?_
            refine r_lload dX12_price_122 rfl ?_
            refine r_lload dX12_price_124 rfl ?_
            refine r_callSI (d' := d - 1) (as := [tJ v4, tJ v6, tJ x7, tJ x8]) (st := []) dX12_price_126 mi_X12_isLess t_1844 t_1845 rfl rfl (Nat.le_of_ble_eq_true rfl) (by omega) ⟨by decide, by decide⟩ ⟨rfl, rfl⟩ (s_X12_isLess (by omega) hm) (fun x10 h11 hm => ?_)
            refine r_if_eq (tgt := 136) dX12_price_129 rfl (fun hc => ?_) (fun hc => ?_)
            · replace hm := hm.1 hc
              refine r_keep (L' := [some (tR 12 0 (some 51)), some (tI v1), some (tI v2), some (tI v3), some (tJ v4), none, some (tJ v6), none, some (tI v8), some (tJ x7), none, some (tJ x8)]) [true, true, true, true, true, false, true, false, true, true, false, true] rfl ?_
              exact s_X12_price_136 hd hk47 hk168 hm
            · replace hm := hm.2 hc
              refine r_keep (L' := [some (tR 12 0 (some 51)), some (tI v1), some (tI v2), some (tI v3), some (tJ v4), none, some (tJ v6), none, some (tI v8), some (tJ x7), none, some (tJ x8)]) [true, true, true, true, true, false, true, false, true, true, false, true] rfl ?_
              exact s_X12_price_132 hd hk47 hk168 hm
          · replace hm := hm.2 hc
            refine r_lload dX12_price_101 rfl ?_
            refine r_lload dX12_price_103 rfl ?_
            refine r_lload dX12_price_105 rfl ?_
            refine r_lload dX12_price_107 rfl ?_
            refine r_callSI (d' := d - 1) (as := [tJ x7, tJ x8, tJ v4, tJ v6]) (st := []) dX12_price_109 mi_X12_isLess t_1844 t_1845 rfl rfl (Nat.le_of_ble_eq_true rfl) (by omega) ⟨by decide, by decide⟩ ⟨rfl, rfl⟩ (s_X12_isLess (by omega) hm) (fun x12 h13 hm => ?_)
            refine r_if_eq (tgt := 136) dX12_price_112 rfl (fun hc => ?_) (fun hc => ?_)
            · replace hm := hm.1 hc
              refine r_keep (L' := [some (tR 12 0 (some 51)), some (tI v1), some (tI v2), some (tI v3), some (tJ v4), none, some (tJ v6), none, some (tI v8), some (tJ x7), none, some (tJ x8)]) [true, true, true, true, true, false, true, false, true, true, false, true] rfl ?_
              exact s_X12_price_136 hd hk47 hk168 hm
            · replace hm := hm.2 hc
              refine r_goto (tgt := 132) dX12_price_115 rfl ?_
              refine r_keep (L' := [some (tR 12 0 (some 51)), some (tI v1), some (tI v2), some (tI v3), some (tJ v4), none, some (tJ v6), none, some (tI v8), some (tJ x7), none, some (tJ x8)]) [true, true, true, true, true, false, true, false, true, true, false, true] rfl ?_
              exact s_X12_price_132 hd hk47 hk168 hm
      · replace hm := hm.2 hc
        refine r_goto (tgt := 155) dX12_price_71 rfl ?_
        refine r_keep (L' := [some (tR 12 0 (some 51)), some (tI v1), some (tI v2), some (tI v3), some (tJ v4), none, some (tJ v6), none, some (tI v8)]) [true, true, true, true, true, false, true, false, true] rfl ?_
        exact s_X12_price_155 hd hk47 hk168 hm
def m_X12_price (v1 : Int32) (v2 : Int32) (v3 : Int32) (h : Hp) (Q : Int64 → Hp → Prop) : Prop := m_X12_bundleAtHand h (fun (h15 : Hp) => m_X12_areTwo v1 v2 h15 (fun (x16 : Int32) (h17 : Hp) => (x16 = 0 → Q (-1) h17) ∧ (¬ x16 = 0 → m_X12_within v3 0 3 h17 (fun (x18 : Int32) (h19 : Hp) => (x18 = 0 → Q (-1) h19) ∧ (¬ x18 = 0 → m_X12_isLookedAt h19 (fun (x20 : Int32) (h21 : Hp) => (¬ x20 = 0 → m_X12_codeFrom 0 h21 (fun (x22 : Int32) (h23 : Hp) => ∃ n47, m_X12_price_47 n47 (m_X12_price_168 Q) Q v1 v2 v3 (-1) 1 x22 h23)) ∧ (x20 = 0 → Q (-1) h21)))))))
set_option maxHeartbeats 4000000 in
set_option maxRecDepth 100000 in
theorem s_X12_price {l : Launch} {G : Cx} {d : Nat} (hd : 10 ≤ d) {v1 : Int32} {v2 : Int32} {v3 : Int32} {h : Hp} {Q : Int64 → Hp → Prop} (hm : m_X12_price v1 v2 v3 h Q) : Ct l G d 0 0 yX12_price MX12_price [tR 12 0 (some 51), tI v1, tI v2, tI v3] h (qJ Q) := by
  unfold m_X12_price at hm
  refine Ct.of (L := [some (tR 12 0 (some 51)), some (tI v1), some (tI v2), some (tI v3)]) (by decide) rfl rfl (Nat.le_of_ble_eq_true rfl) rfl ?_
  refine r_aload_n dX12_price_0 rfl rfl ?_
  refine r_callVU (d' := d - 1) (as := []) (st := []) cl_12 dX12_price_1 mi_X12_bundleAtHand t_1757 t_1759 ts_89 rfl rfl (Nat.le_of_ble_eq_true rfl) (by omega) ⟨by decide, by decide⟩ ⟨rfl, rfl⟩ (s_X12_bundleAtHand (by omega) hm) (fun h15 hm => ?_)
  refine r_iload_n dX12_price_4 rfl rfl ?_
  refine r_iload_n dX12_price_5 rfl rfl ?_
  refine r_callSI (d' := d - 1) (as := [tI v1, tI v2]) (st := []) dX12_price_6 mi_X12_areTwo t_1817 t_1818 rfl rfl (Nat.le_of_ble_eq_true rfl) (by omega) ⟨by decide, by decide⟩ ⟨rfl, rfl⟩ (s_X12_areTwo (by omega) hm) (fun x16 h17 hm => ?_)
  refine r_if_eq (tgt := 28) dX12_price_9 rfl (fun hc => ?_) (fun hc => ?_)
  · replace hm := hm.1 hc
    refine r_ldc2_w dX12_price_28 t_1580 ?_
    exact r_lreturn dX12_price_31 rfl ⟨by decide, by decide⟩ ⟨_, rfl, hm⟩
  · replace hm := hm.2 hc
    refine r_iload_n dX12_price_12 rfl rfl ?_
    refine r_iconst (v := 0) dX12_price_13 rfl ?_
    refine r_iconst (v := 3) dX12_price_14 rfl ?_
    refine r_callSI (d' := d - 1) (as := [tI v3, tI 0, tI 3]) (st := []) dX12_price_15 mi_X12_within t_1557 t_1558 rfl rfl (Nat.le_of_ble_eq_true rfl) (by omega) ⟨by decide, by decide⟩ ⟨rfl, rfl⟩ (s_X12_within (by omega) hm) (fun x18 h19 hm => ?_)
    refine r_if_eq (tgt := 28) dX12_price_18 rfl (fun hc => ?_) (fun hc => ?_)
    · replace hm := hm.1 hc
      refine r_ldc2_w dX12_price_28 t_1580 ?_
      exact r_lreturn dX12_price_31 rfl ⟨by decide, by decide⟩ ⟨_, rfl, hm⟩
    · replace hm := hm.2 hc
      refine r_aload_n dX12_price_21 rfl rfl ?_
      refine r_callVI (d' := d - 1) (as := []) (st := []) cl_12 dX12_price_22 mi_X12_isLookedAt t_1802 t_1804 ts_98 rfl rfl (Nat.le_of_ble_eq_true rfl) (by omega) ⟨by decide, by decide⟩ ⟨rfl, rfl⟩ (s_X12_isLookedAt (by omega) hm) (fun x20 h21 hm => ?_)
      refine r_if_ne (tgt := 32) dX12_price_25 rfl (fun hc => ?_) (fun hc => ?_)
      · replace hm := hm.1 hc
        refine r_ldc2_w dX12_price_32 t_1580 ?_
        refine r_lstore (L' := [some (tR 12 0 (some 51)), some (tI v1), some (tI v2), some (tI v3), some (tJ (-1)), none]) dX12_price_35 (by decide) rfl ?_
        refine r_lconst (v := 1) dX12_price_37 rfl ?_
        refine r_lstore (L' := [some (tR 12 0 (some 51)), some (tI v1), some (tI v2), some (tI v3), some (tJ (-1)), none, some (tJ 1), none]) dX12_price_38 (by decide) rfl ?_
        refine r_aload_n dX12_price_40 rfl rfl ?_
        refine r_iconst (v := 0) dX12_price_41 rfl ?_
        refine r_callVI (d' := d - 1) (as := [tI 0]) (st := []) cl_12 dX12_price_42 mi_X12_codeFrom t_1820 t_1822 ts_100 rfl rfl (Nat.le_of_ble_eq_true rfl) (by omega) ⟨by decide, by decide⟩ ⟨rfl, rfl⟩ (s_X12_codeFrom (by omega) hm) (fun x22 h23 hm => ?_)
        refine r_istore (L' := [some (tR 12 0 (some 51)), some (tI v1), some (tI v2), some (tI v3), some (tJ (-1)), none, some (tJ 1), none, some (tI x22)]) dX12_price_45 (by decide) rfl ?_
        refine r_keep (L' := [some (tR 12 0 (some 51)), some (tI v1), some (tI v2), some (tI v3), some (tJ (-1)), none, some (tJ 1), none, some (tI x22)]) [true, true, true, true, true, false, true, false, true] rfl ?_
        obtain ⟨n, hm⟩ := hm
        refine s_X12_price_47 hd ?_ hm
        · exact (fun _ _ _ _ hm => s_X12_price_168 hd hm)
      · replace hm := hm.2 hc
        refine r_ldc2_w dX12_price_28 t_1580 ?_
        exact r_lreturn dX12_price_31 rfl ⟨by decide, by decide⟩ ⟨_, rfl, hm⟩
theorem dX12_loanAtHand_0 : decode cX12_loanAtHand 0 = .ok (.aload_n 0, 1) := by decide +kernel
theorem dX12_loanAtHand_1 : decode cX12_loanAtHand 1 = .ok (.invokevirtual 474, 3) := by decide +kernel
theorem dX12_loanAtHand_4 : decode cX12_loanAtHand 4 = .ok (.ifCond .ne 5, 3) := by decide +kernel
theorem dX12_loanAtHand_7 : decode cX12_loanAtHand 7 = .ok (.iconst (-1), 1) := by decide +kernel
theorem dX12_loanAtHand_8 : decode cX12_loanAtHand 8 = .ok (.ireturn, 1) := by decide +kernel
theorem dX12_loanAtHand_9 : decode cX12_loanAtHand 9 = .ok (.iconst 0, 1) := by decide +kernel
theorem dX12_loanAtHand_10 : decode cX12_loanAtHand 10 = .ok (.istore_n 1, 1) := by decide +kernel
theorem dX12_loanAtHand_11 : decode cX12_loanAtHand 11 = .ok (.iload_n 1, 1) := by decide +kernel
theorem dX12_loanAtHand_12 : decode cX12_loanAtHand 12 = .ok (.bipush 8, 2) := by decide +kernel
theorem dX12_loanAtHand_14 : decode cX12_loanAtHand 14 = .ok (.if_icmp .ge 18, 3) := by decide +kernel
theorem dX12_loanAtHand_17 : decode cX12_loanAtHand 17 = .ok (.aload_n 0, 1) := by decide +kernel
theorem dX12_loanAtHand_18 : decode cX12_loanAtHand 18 = .ok (.getfield 131, 3) := by decide +kernel
theorem dX12_loanAtHand_21 : decode cX12_loanAtHand 21 = .ok (.iload_n 1, 1) := by decide +kernel
theorem dX12_loanAtHand_22 : decode cX12_loanAtHand 22 = .ok (.sipush 255, 3) := by decide +kernel
theorem dX12_loanAtHand_25 : decode cX12_loanAtHand 25 = .ok (.iastore, 1) := by decide +kernel
theorem dX12_loanAtHand_26 : decode cX12_loanAtHand 26 = .ok (.iinc 1 1, 3) := by decide +kernel
theorem dX12_loanAtHand_29 : decode cX12_loanAtHand 29 = .ok (.goto (-18), 3) := by decide +kernel
theorem dX12_loanAtHand_32 : decode cX12_loanAtHand 32 = .ok (.aload_n 0, 1) := by decide +kernel
theorem dX12_loanAtHand_33 : decode cX12_loanAtHand 33 = .ok (.iconst 0, 1) := by decide +kernel
theorem dX12_loanAtHand_34 : decode cX12_loanAtHand 34 = .ok (.invokevirtual 489, 3) := by decide +kernel
theorem dX12_loanAtHand_37 : decode cX12_loanAtHand 37 = .ok (.istore_n 1, 1) := by decide +kernel
theorem dX12_loanAtHand_38 : decode cX12_loanAtHand 38 = .ok (.iload_n 1, 1) := by decide +kernel
theorem dX12_loanAtHand_39 : decode cX12_loanAtHand 39 = .ok (.ifCond .lt 79, 3) := by decide +kernel
theorem dX12_loanAtHand_42 : decode cX12_loanAtHand 42 = .ok (.aload_n 0, 1) := by decide +kernel
theorem dX12_loanAtHand_43 : decode cX12_loanAtHand 43 = .ok (.iload_n 1, 1) := by decide +kernel
theorem dX12_loanAtHand_44 : decode cX12_loanAtHand 44 = .ok (.invokevirtual 492, 3) := by decide +kernel
theorem dX12_loanAtHand_47 : decode cX12_loanAtHand 47 = .ok (.iconst 0, 1) := by decide +kernel
theorem dX12_loanAtHand_48 : decode cX12_loanAtHand 48 = .ok (.istore_n 2, 1) := by decide +kernel
theorem dX12_loanAtHand_49 : decode cX12_loanAtHand 49 = .ok (.iconst 0, 1) := by decide +kernel
theorem dX12_loanAtHand_50 : decode cX12_loanAtHand 50 = .ok (.istore_n 3, 1) := by decide +kernel
theorem dX12_loanAtHand_51 : decode cX12_loanAtHand 51 = .ok (.iload_n 3, 1) := by decide +kernel
theorem dX12_loanAtHand_52 : decode cX12_loanAtHand 52 = .ok (.bipush 8, 2) := by decide +kernel
theorem dX12_loanAtHand_54 : decode cX12_loanAtHand 54 = .ok (.if_icmp .ge 47, 3) := by decide +kernel
theorem dX12_loanAtHand_57 : decode cX12_loanAtHand 57 = .ok (.aload_n 0, 1) := by decide +kernel
theorem dX12_loanAtHand_58 : decode cX12_loanAtHand 58 = .ok (.getfield 131, 3) := by decide +kernel
theorem dX12_loanAtHand_61 : decode cX12_loanAtHand 61 = .ok (.iload_n 3, 1) := by decide +kernel
theorem dX12_loanAtHand_62 : decode cX12_loanAtHand 62 = .ok (.aload_n 0, 1) := by decide +kernel
theorem dX12_loanAtHand_63 : decode cX12_loanAtHand 63 = .ok (.getfield 131, 3) := by decide +kernel
theorem dX12_loanAtHand_66 : decode cX12_loanAtHand 66 = .ok (.iload_n 3, 1) := by decide +kernel
theorem dX12_loanAtHand_67 : decode cX12_loanAtHand 67 = .ok (.iaload, 1) := by decide +kernel
theorem dX12_loanAtHand_68 : decode cX12_loanAtHand 68 = .ok (.aload_n 0, 1) := by decide +kernel
theorem dX12_loanAtHand_69 : decode cX12_loanAtHand 69 = .ok (.getfield 128, 3) := by decide +kernel
theorem dX12_loanAtHand_72 : decode cX12_loanAtHand 72 = .ok (.iload_n 3, 1) := by decide +kernel
theorem dX12_loanAtHand_73 : decode cX12_loanAtHand 73 = .ok (.iaload, 1) := by decide +kernel
theorem dX12_loanAtHand_74 : decode cX12_loanAtHand 74 = .ok (.iand, 1) := by decide +kernel
theorem dX12_loanAtHand_75 : decode cX12_loanAtHand 75 = .ok (.iastore, 1) := by decide +kernel
theorem dX12_loanAtHand_76 : decode cX12_loanAtHand 76 = .ok (.iload_n 2, 1) := by decide +kernel
theorem dX12_loanAtHand_77 : decode cX12_loanAtHand 77 = .ok (.ifCond .ne 12, 3) := by decide +kernel
theorem dX12_loanAtHand_80 : decode cX12_loanAtHand 80 = .ok (.aload_n 0, 1) := by decide +kernel
theorem dX12_loanAtHand_81 : decode cX12_loanAtHand 81 = .ok (.getfield 131, 3) := by decide +kernel
theorem dX12_loanAtHand_84 : decode cX12_loanAtHand 84 = .ok (.iload_n 3, 1) := by decide +kernel
theorem dX12_loanAtHand_85 : decode cX12_loanAtHand 85 = .ok (.iaload, 1) := by decide +kernel
theorem dX12_loanAtHand_86 : decode cX12_loanAtHand 86 = .ok (.ifCond .eq 7, 3) := by decide +kernel
theorem dX12_loanAtHand_89 : decode cX12_loanAtHand 89 = .ok (.iconst 1, 1) := by decide +kernel
theorem dX12_loanAtHand_90 : decode cX12_loanAtHand 90 = .ok (.goto 4, 3) := by decide +kernel
theorem dX12_loanAtHand_93 : decode cX12_loanAtHand 93 = .ok (.iconst 0, 1) := by decide +kernel
theorem dX12_loanAtHand_94 : decode cX12_loanAtHand 94 = .ok (.istore_n 2, 1) := by decide +kernel
theorem dX12_loanAtHand_95 : decode cX12_loanAtHand 95 = .ok (.iinc 3 1, 3) := by decide +kernel
theorem dX12_loanAtHand_98 : decode cX12_loanAtHand 98 = .ok (.goto (-47), 3) := by decide +kernel
theorem dX12_loanAtHand_101 : decode cX12_loanAtHand 101 = .ok (.iload_n 2, 1) := by decide +kernel
theorem dX12_loanAtHand_102 : decode cX12_loanAtHand 102 = .ok (.ifCond .ne 5, 3) := by decide +kernel
theorem dX12_loanAtHand_105 : decode cX12_loanAtHand 105 = .ok (.iconst (-1), 1) := by decide +kernel
theorem dX12_loanAtHand_106 : decode cX12_loanAtHand 106 = .ok (.ireturn, 1) := by decide +kernel
theorem dX12_loanAtHand_107 : decode cX12_loanAtHand 107 = .ok (.aload_n 0, 1) := by decide +kernel
theorem dX12_loanAtHand_108 : decode cX12_loanAtHand 108 = .ok (.iload_n 1, 1) := by decide +kernel
theorem dX12_loanAtHand_109 : decode cX12_loanAtHand 109 = .ok (.iconst 1, 1) := by decide +kernel
theorem dX12_loanAtHand_110 : decode cX12_loanAtHand 110 = .ok (.iadd, 1) := by decide +kernel
theorem dX12_loanAtHand_111 : decode cX12_loanAtHand 111 = .ok (.invokevirtual 489, 3) := by decide +kernel
theorem dX12_loanAtHand_114 : decode cX12_loanAtHand 114 = .ok (.istore_n 1, 1) := by decide +kernel
theorem dX12_loanAtHand_115 : decode cX12_loanAtHand 115 = .ok (.goto (-77), 3) := by decide +kernel
theorem dX12_loanAtHand_118 : decode cX12_loanAtHand 118 = .ok (.iconst 0, 1) := by decide +kernel
theorem dX12_loanAtHand_119 : decode cX12_loanAtHand 119 = .ok (.istore_n 1, 1) := by decide +kernel
theorem dX12_loanAtHand_120 : decode cX12_loanAtHand 120 = .ok (.iload_n 1, 1) := by decide +kernel
theorem dX12_loanAtHand_121 : decode cX12_loanAtHand 121 = .ok (.bipush 8, 2) := by decide +kernel
theorem dX12_loanAtHand_123 : decode cX12_loanAtHand 123 = .ok (.if_icmp .ge 44, 3) := by decide +kernel
theorem dX12_loanAtHand_126 : decode cX12_loanAtHand 126 = .ok (.iconst 0, 1) := by decide +kernel
theorem dX12_loanAtHand_127 : decode cX12_loanAtHand 127 = .ok (.istore_n 2, 1) := by decide +kernel
theorem dX12_loanAtHand_128 : decode cX12_loanAtHand 128 = .ok (.iload_n 2, 1) := by decide +kernel
theorem dX12_loanAtHand_129 : decode cX12_loanAtHand 129 = .ok (.bipush 8, 2) := by decide +kernel
theorem dX12_loanAtHand_131 : decode cX12_loanAtHand 131 = .ok (.if_icmp .ge 30, 3) := by decide +kernel
theorem dX12_loanAtHand_134 : decode cX12_loanAtHand 134 = .ok (.aload_n 0, 1) := by decide +kernel
theorem dX12_loanAtHand_135 : decode cX12_loanAtHand 135 = .ok (.getfield 131, 3) := by decide +kernel
theorem dX12_loanAtHand_138 : decode cX12_loanAtHand 138 = .ok (.iload_n 1, 1) := by decide +kernel
theorem dX12_loanAtHand_139 : decode cX12_loanAtHand 139 = .ok (.iaload, 1) := by decide +kernel
theorem dX12_loanAtHand_140 : decode cX12_loanAtHand 140 = .ok (.iload_n 2, 1) := by decide +kernel
theorem dX12_loanAtHand_141 : decode cX12_loanAtHand 141 = .ok (.ishr, 1) := by decide +kernel
theorem dX12_loanAtHand_142 : decode cX12_loanAtHand 142 = .ok (.iconst 1, 1) := by decide +kernel
theorem dX12_loanAtHand_143 : decode cX12_loanAtHand 143 = .ok (.iand, 1) := by decide +kernel
theorem dX12_loanAtHand_144 : decode cX12_loanAtHand 144 = .ok (.iconst 1, 1) := by decide +kernel
theorem dX12_loanAtHand_145 : decode cX12_loanAtHand 145 = .ok (.if_icmp .ne 10, 3) := by decide +kernel
theorem dX12_loanAtHand_148 : decode cX12_loanAtHand 148 = .ok (.bipush 10, 2) := by decide +kernel
theorem dX12_loanAtHand_150 : decode cX12_loanAtHand 150 = .ok (.iload_n 1, 1) := by decide +kernel
theorem dX12_loanAtHand_151 : decode cX12_loanAtHand 151 = .ok (.imul, 1) := by decide +kernel
theorem dX12_loanAtHand_152 : decode cX12_loanAtHand 152 = .ok (.iload_n 2, 1) := by decide +kernel
theorem dX12_loanAtHand_153 : decode cX12_loanAtHand 153 = .ok (.iadd, 1) := by decide +kernel
theorem dX12_loanAtHand_154 : decode cX12_loanAtHand 154 = .ok (.ireturn, 1) := by decide +kernel
theorem dX12_loanAtHand_155 : decode cX12_loanAtHand 155 = .ok (.iinc 2 1, 3) := by decide +kernel
theorem dX12_loanAtHand_158 : decode cX12_loanAtHand 158 = .ok (.goto (-30), 3) := by decide +kernel
theorem dX12_loanAtHand_161 : decode cX12_loanAtHand 161 = .ok (.iinc 1 1, 3) := by decide +kernel
theorem dX12_loanAtHand_164 : decode cX12_loanAtHand 164 = .ok (.goto (-44), 3) := by decide +kernel
theorem dX12_loanAtHand_167 : decode cX12_loanAtHand 167 = .ok (.iconst (-1), 1) := by decide +kernel
theorem dX12_loanAtHand_168 : decode cX12_loanAtHand 168 = .ok (.ireturn, 1) := by decide +kernel
def m_X12_loanAtHand_161 (k120 : Int32 → Hp → Prop) (Q : Int32 → Hp → Prop) (v1 : Int32) (h : Hp) : Prop := ∀ x1 : Int32, x1 = v1 + 1 → k120 x1 h
set_option maxHeartbeats 4000000 in
set_option maxRecDepth 100000 in
theorem s_X12_loanAtHand_161 {l : Launch} {G : Cx} {d : Nat} {h0 : Hp} (hd : 10 ≤ d) {k120 : Int32 → Hp → Prop} {Q : Int32 → Hp → Prop} (hk120 : ∀ (v1 : Int32) (hh : Hp), k120 v1 hh → Rn l G d 0 0 MX12_loanAtHand h0 (qI Q) 120 [some (tR 12 0 (some 51)), some (tI v1)] [] hh 0 0) {v1 : Int32} {h : Hp} (hm : m_X12_loanAtHand_161 k120 Q v1 h) : Rn l G d 0 0 MX12_loanAtHand h0 (qI Q) 161 [some (tR 12 0 (some 51)), some (tI v1)] [] h 0 0 := by
  unfold m_X12_loanAtHand_161 at hm
  obtain ⟨x1, e_x1⟩ : ∃ y : Int32, y = v1 + 1 := ⟨_, rfl⟩
  replace hm := hm x1 e_x1
  refine r_iinc (L' := [some (tR 12 0 (some 51)), some (tI x1)]) dX12_loanAtHand_161 rfl (by rw [e_x1]; rfl) (by decide) rfl ?_
  refine r_goto (tgt := 120) dX12_loanAtHand_164 rfl ?_
  refine r_keep (L' := [some (tR 12 0 (some 51)), some (tI x1)]) [true, true] rfl ?_
  exact hk120 _ _ hm
def m_X12_loanAtHand_128 : Nat → (Int32 → Hp → Prop) → (Int32 → Hp → Prop) → Int32 → Int32 → Hp → Prop
  | 0, _, _, _, _, _ => False
  | n + 1, k161, Q, v1, v2, h => (8 ≤ v2 → k161 v1 h) ∧ (¬ 8 ≤ v2 → vp_in v1 8 ∧ ((¬ (((hI h 90 (ix v1)) >>> (v2 &&& 31)) &&& 1) = 1 → ∀ x2 : Int32, x2 = v2 + 1 → m_X12_loanAtHand_128 n k161 Q v1 x2 h) ∧ ((((hI h 90 (ix v1)) >>> (v2 &&& 31)) &&& 1) = 1 → Q ((10 * v1) + v2) h)))
set_option maxHeartbeats 4000000 in
set_option maxRecDepth 100000 in
theorem s_X12_loanAtHand_128 {l : Launch} {G : Cx} {d : Nat} {h0 : Hp} (hd : 10 ≤ d) {k161 : Int32 → Hp → Prop} {Q : Int32 → Hp → Prop} (hk161 : ∀ (v1 : Int32) (hh : Hp), k161 v1 hh → Rn l G d 0 0 MX12_loanAtHand h0 (qI Q) 161 [some (tR 12 0 (some 51)), some (tI v1)] [] hh 0 0) : ∀ {n : Nat} {v1 : Int32} {v2 : Int32} {h : Hp}, m_X12_loanAtHand_128 n k161 Q v1 v2 h → Rn l G d 0 0 MX12_loanAtHand h0 (qI Q) 128 [some (tR 12 0 (some 51)), some (tI v1), some (tI v2)] [] h 0 0 := by
  intro n
  induction n with
  | zero => intro v1 v2 h hm; exact hm.elim
  | succ n ih =>
    intro v1 v2 h hm
    have hk128 := fun (v1 : Int32) (v2 : Int32) (hh : Hp) (hm : m_X12_loanAtHand_128 n k161 Q v1 v2 hh) => ih hm
    rw [m_X12_loanAtHand_128] at hm
    refine r_iload_n dX12_loanAtHand_128 rfl rfl ?_
    refine r_bipush (v := 8) dX12_loanAtHand_129 rfl ?_
    refine r_icmp_ge (tgt := 161) dX12_loanAtHand_131 rfl (fun hc => ?_) (fun hc => ?_)
    · replace hm := hm.1 hc
      refine r_keep (L' := [some (tR 12 0 (some 51)), some (tI v1)]) [true, true] rfl ?_
      exact hk161 _ _ hm
    · replace hm := hm.2 hc
      refine r_aload_n dX12_loanAtHand_134 rfl rfl ?_
      refine r_getC (k := 66) cl_12 dX12_loanAtHand_135 t_1338 gf_12_66.1 gf_12_66.2 (gc_12_66 _) ?_
      refine r_iload_n dX12_loanAtHand_138 rfl rfl ?_
      refine r_iald dX12_loanAtHand_139 hm.1 ?_
      replace hm := hm.2
      refine r_iload_n dX12_loanAtHand_140 rfl rfl ?_
      refine r_ishr dX12_loanAtHand_141 ?_
      refine r_iconst (v := 1) dX12_loanAtHand_142 rfl ?_
      refine r_iand dX12_loanAtHand_143 ?_
      refine r_iconst (v := 1) dX12_loanAtHand_144 rfl ?_
      refine r_icmp_ne (tgt := 155) dX12_loanAtHand_145 rfl (fun hc => ?_) (fun hc => ?_)
      · replace hm := hm.1 hc
        obtain ⟨x2, e_x2⟩ : ∃ y : Int32, y = v2 + 1 := ⟨_, rfl⟩
        replace hm := hm x2 e_x2
        refine r_iinc (L' := [some (tR 12 0 (some 51)), some (tI v1), some (tI x2)]) dX12_loanAtHand_155 rfl (by rw [e_x2]; rfl) (by decide) rfl ?_
        refine r_goto (tgt := 128) dX12_loanAtHand_158 rfl ?_
        refine r_keep (L' := [some (tR 12 0 (some 51)), some (tI v1), some (tI x2)]) [true, true, true] rfl ?_
        exact hk128 _ _ _ hm
      · replace hm := hm.2 hc
        refine r_bipush (v := 10) dX12_loanAtHand_148 rfl ?_
        refine r_iload_n dX12_loanAtHand_150 rfl rfl ?_
        refine r_imul dX12_loanAtHand_151 ?_
        refine r_iload_n dX12_loanAtHand_152 rfl rfl ?_
        refine r_iadd dX12_loanAtHand_153 ?_
        exact r_ireturn dX12_loanAtHand_154 rfl ⟨by decide, by decide⟩ ⟨_, rfl, hm⟩
def m_X12_loanAtHand_120 : Nat → (Int32 → Hp → Prop) → Int32 → Hp → Prop
  | 0, _, _, _ => False
  | n + 1, Q, v1, h => (8 ≤ v1 → Q (-1) h) ∧ (¬ 8 ≤ v1 → ∃ n128, m_X12_loanAtHand_128 n128 (m_X12_loanAtHand_161 (fun (v1 : Int32) (hh : Hp) => m_X12_loanAtHand_120 n Q v1 hh) Q) Q v1 0 h)
set_option maxHeartbeats 4000000 in
set_option maxRecDepth 100000 in
theorem s_X12_loanAtHand_120 {l : Launch} {G : Cx} {d : Nat} {h0 : Hp} (hd : 10 ≤ d) {Q : Int32 → Hp → Prop} : ∀ {n : Nat} {v1 : Int32} {h : Hp}, m_X12_loanAtHand_120 n Q v1 h → Rn l G d 0 0 MX12_loanAtHand h0 (qI Q) 120 [some (tR 12 0 (some 51)), some (tI v1)] [] h 0 0 := by
  intro n
  induction n with
  | zero => intro v1 h hm; exact hm.elim
  | succ n ih =>
    intro v1 h hm
    have hk120 := fun (v1 : Int32) (hh : Hp) (hm : m_X12_loanAtHand_120 n Q v1 hh) => ih hm
    rw [m_X12_loanAtHand_120] at hm
    refine r_iload_n dX12_loanAtHand_120 rfl rfl ?_
    refine r_bipush (v := 8) dX12_loanAtHand_121 rfl ?_
    refine r_icmp_ge (tgt := 167) dX12_loanAtHand_123 rfl (fun hc => ?_) (fun hc => ?_)
    · replace hm := hm.1 hc
      refine r_iconst (v := (-1)) dX12_loanAtHand_167 rfl ?_
      exact r_ireturn dX12_loanAtHand_168 rfl ⟨by decide, by decide⟩ ⟨_, rfl, hm⟩
    · replace hm := hm.2 hc
      refine r_iconst (v := 0) dX12_loanAtHand_126 rfl ?_
      refine r_istore_n (L' := [some (tR 12 0 (some 51)), some (tI v1), some (tI 0)]) dX12_loanAtHand_127 rfl (by decide) rfl ?_
      refine r_keep (L' := [some (tR 12 0 (some 51)), some (tI v1), some (tI 0)]) [true, true, true] rfl ?_
      obtain ⟨n, hm⟩ := hm
      refine s_X12_loanAtHand_128 hd ?_ hm
      · exact (fun _ _ hm => s_X12_loanAtHand_161 hd hk120 hm)
def m_X12_loanAtHand_118  (Q : Int32 → Hp → Prop) (h : Hp) : Prop := ∃ n120, m_X12_loanAtHand_120 n120 Q 0 h
set_option maxHeartbeats 4000000 in
set_option maxRecDepth 100000 in
theorem s_X12_loanAtHand_118 {l : Launch} {G : Cx} {d : Nat} {h0 : Hp} (hd : 10 ≤ d) {Q : Int32 → Hp → Prop} {h : Hp} (hm : m_X12_loanAtHand_118 Q h) : Rn l G d 0 0 MX12_loanAtHand h0 (qI Q) 118 [some (tR 12 0 (some 51))] [] h 0 0 := by
  unfold m_X12_loanAtHand_118 at hm
  refine r_iconst (v := 0) dX12_loanAtHand_118 rfl ?_
  refine r_istore_n (L' := [some (tR 12 0 (some 51)), some (tI 0)]) dX12_loanAtHand_119 rfl (by decide) rfl ?_
  refine r_keep (L' := [some (tR 12 0 (some 51)), some (tI 0)]) [true, true] rfl ?_
  obtain ⟨n, hm⟩ := hm
  refine s_X12_loanAtHand_120 hd hm
def m_X12_loanAtHand_101 (k38 : Int32 → Hp → Prop) (k118 : Hp → Prop) (Q : Int32 → Hp → Prop) (v1 : Int32) (v2 : Int32) (h : Hp) : Prop := (¬ v2 = 0 → m_X12_codeFrom (v1 + 1) h (fun (x3 : Int32) (h4 : Hp) => k38 x3 h4)) ∧ (v2 = 0 → Q (-1) h)
set_option maxHeartbeats 4000000 in
set_option maxRecDepth 100000 in
theorem s_X12_loanAtHand_101 {l : Launch} {G : Cx} {d : Nat} {h0 : Hp} (hd : 10 ≤ d) {k38 : Int32 → Hp → Prop} {k118 : Hp → Prop} {Q : Int32 → Hp → Prop} (hk38 : ∀ (v1 : Int32) (hh : Hp), k38 v1 hh → Rn l G d 0 0 MX12_loanAtHand h0 (qI Q) 38 [some (tR 12 0 (some 51)), some (tI v1)] [] hh 0 0) (hk118 : ∀ (hh : Hp), k118 hh → Rn l G d 0 0 MX12_loanAtHand h0 (qI Q) 118 [some (tR 12 0 (some 51))] [] hh 0 0) {v1 : Int32} {v2 : Int32} {h : Hp} (hm : m_X12_loanAtHand_101 k38 k118 Q v1 v2 h) : Rn l G d 0 0 MX12_loanAtHand h0 (qI Q) 101 [some (tR 12 0 (some 51)), some (tI v1), some (tI v2)] [] h 0 0 := by
  unfold m_X12_loanAtHand_101 at hm
  refine r_iload_n dX12_loanAtHand_101 rfl rfl ?_
  refine r_if_ne (tgt := 107) dX12_loanAtHand_102 rfl (fun hc => ?_) (fun hc => ?_)
  · replace hm := hm.1 hc
    refine r_aload_n dX12_loanAtHand_107 rfl rfl ?_
    refine r_iload_n dX12_loanAtHand_108 rfl rfl ?_
    refine r_iconst (v := 1) dX12_loanAtHand_109 rfl ?_
    refine r_iadd dX12_loanAtHand_110 ?_
    refine r_callVI (d' := d - 1) (as := [tI (v1 + 1)]) (st := []) cl_12 dX12_loanAtHand_111 mi_X12_codeFrom t_1820 t_1822 ts_100 rfl rfl (Nat.le_of_ble_eq_true rfl) (by omega) ⟨by decide, by decide⟩ ⟨rfl, rfl⟩ (s_X12_codeFrom (by omega) hm) (fun x3 h4 hm => ?_)
    refine r_istore_n (L' := [some (tR 12 0 (some 51)), some (tI x3), some (tI v2)]) dX12_loanAtHand_114 rfl (by decide) rfl ?_
    refine r_goto (tgt := 38) dX12_loanAtHand_115 rfl ?_
    refine r_keep (L' := [some (tR 12 0 (some 51)), some (tI x3)]) [true, true] rfl ?_
    exact hk38 _ _ hm
  · replace hm := hm.2 hc
    refine r_iconst (v := (-1)) dX12_loanAtHand_105 rfl ?_
    exact r_ireturn dX12_loanAtHand_106 rfl ⟨by decide, by decide⟩ ⟨_, rfl, hm⟩
def m_X12_loanAtHand_94 (k51 : Int32 → Int32 → Int32 → Hp → Prop) (k101 : Int32 → Int32 → Hp → Prop) (Q : Int32 → Hp → Prop) (v1 : Int32) (v3 : Int32) (s0 : Int32) (h : Hp) : Prop := ∀ x5 : Int32, x5 = v3 + 1 → k51 v1 s0 x5 h
set_option maxHeartbeats 4000000 in
set_option maxRecDepth 100000 in
theorem s_X12_loanAtHand_94 {l : Launch} {G : Cx} {d : Nat} {h0 : Hp} (hd : 10 ≤ d) {k51 : Int32 → Int32 → Int32 → Hp → Prop} {k101 : Int32 → Int32 → Hp → Prop} {Q : Int32 → Hp → Prop} (hk51 : ∀ (v1 : Int32) (v2 : Int32) (v3 : Int32) (hh : Hp), k51 v1 v2 v3 hh → Rn l G d 0 0 MX12_loanAtHand h0 (qI Q) 51 [some (tR 12 0 (some 51)), some (tI v1), some (tI v2), some (tI v3)] [] hh 0 0) (hk101 : ∀ (v1 : Int32) (v2 : Int32) (hh : Hp), k101 v1 v2 hh → Rn l G d 0 0 MX12_loanAtHand h0 (qI Q) 101 [some (tR 12 0 (some 51)), some (tI v1), some (tI v2)] [] hh 0 0) {v1 : Int32} {v3 : Int32} {s0 : Int32} {h : Hp} (hm : m_X12_loanAtHand_94 k51 k101 Q v1 v3 s0 h) : Rn l G d 0 0 MX12_loanAtHand h0 (qI Q) 94 [some (tR 12 0 (some 51)), some (tI v1), none, some (tI v3)] [tI s0] h 0 0 := by
  unfold m_X12_loanAtHand_94 at hm
  refine r_istore_n (L' := [some (tR 12 0 (some 51)), some (tI v1), some (tI s0), some (tI v3)]) dX12_loanAtHand_94 rfl (by decide) rfl ?_
  obtain ⟨x5, e_x5⟩ : ∃ y : Int32, y = v3 + 1 := ⟨_, rfl⟩
  replace hm := hm x5 e_x5
  refine r_iinc (L' := [some (tR 12 0 (some 51)), some (tI v1), some (tI s0), some (tI x5)]) dX12_loanAtHand_95 rfl (by rw [e_x5]; rfl) (by decide) rfl ?_
  refine r_goto (tgt := 51) dX12_loanAtHand_98 rfl ?_
  refine r_keep (L' := [some (tR 12 0 (some 51)), some (tI v1), some (tI s0), some (tI x5)]) [true, true, true, true] rfl ?_
  exact hk51 _ _ _ _ hm
def m_X12_loanAtHand_89 (k51 : Int32 → Int32 → Int32 → Hp → Prop) (k101 : Int32 → Int32 → Hp → Prop) (Q : Int32 → Hp → Prop) (v1 : Int32) (v3 : Int32) (h : Hp) : Prop := m_X12_loanAtHand_94 k51 k101 Q v1 v3 1 h
set_option maxHeartbeats 4000000 in
set_option maxRecDepth 100000 in
theorem s_X12_loanAtHand_89 {l : Launch} {G : Cx} {d : Nat} {h0 : Hp} (hd : 10 ≤ d) {k51 : Int32 → Int32 → Int32 → Hp → Prop} {k101 : Int32 → Int32 → Hp → Prop} {Q : Int32 → Hp → Prop} (hk51 : ∀ (v1 : Int32) (v2 : Int32) (v3 : Int32) (hh : Hp), k51 v1 v2 v3 hh → Rn l G d 0 0 MX12_loanAtHand h0 (qI Q) 51 [some (tR 12 0 (some 51)), some (tI v1), some (tI v2), some (tI v3)] [] hh 0 0) (hk101 : ∀ (v1 : Int32) (v2 : Int32) (hh : Hp), k101 v1 v2 hh → Rn l G d 0 0 MX12_loanAtHand h0 (qI Q) 101 [some (tR 12 0 (some 51)), some (tI v1), some (tI v2)] [] hh 0 0) {v1 : Int32} {v3 : Int32} {h : Hp} (hm : m_X12_loanAtHand_89 k51 k101 Q v1 v3 h) : Rn l G d 0 0 MX12_loanAtHand h0 (qI Q) 89 [some (tR 12 0 (some 51)), some (tI v1), none, some (tI v3)] [] h 0 0 := by
  unfold m_X12_loanAtHand_89 at hm
  refine r_iconst (v := 1) dX12_loanAtHand_89 rfl ?_
  refine r_goto (tgt := 94) dX12_loanAtHand_90 rfl ?_
  refine r_keep (L' := [some (tR 12 0 (some 51)), some (tI v1), none, some (tI v3)]) [true, true, false, true] rfl ?_
  exact s_X12_loanAtHand_94 hd hk51 hk101 hm
def m_X12_loanAtHand_51 : Nat → (Int32 → Int32 → Hp → Prop) → (Int32 → Hp → Prop) → Int32 → Int32 → Int32 → Hp → Prop
  | 0, _, _, _, _, _, _ => False
  | n + 1, k101, Q, v1, v2, v3, h => (8 ≤ v3 → k101 v1 v2 h) ∧ (¬ 8 ≤ v3 → vp_in v3 8 ∧ (vp_in v3 8 ∧ (vp_in v3 8 ∧ ((¬ v2 = 0 → m_X12_loanAtHand_89 (fun (v1 : Int32) (v2 : Int32) (v3 : Int32) (hh : Hp) => m_X12_loanAtHand_51 n k101 Q v1 v2 v3 hh) k101 Q v1 v3 (wI h 90 (ix v3) ((hI h 90 (ix v3)) &&& (hI h 89 (ix v3))))) ∧ (v2 = 0 → vp_in v3 8 ∧ (((hI (wI h 90 (ix v3) ((hI h 90 (ix v3)) &&& (hI h 89 (ix v3)))) 90 (ix v3)) = 0 → m_X12_loanAtHand_94 (fun (v1 : Int32) (v2 : Int32) (v3 : Int32) (hh : Hp) => m_X12_loanAtHand_51 n k101 Q v1 v2 v3 hh) k101 Q v1 v3 0 (wI h 90 (ix v3) ((hI h 90 (ix v3)) &&& (hI h 89 (ix v3))))) ∧ (¬ (hI (wI h 90 (ix v3) ((hI h 90 (ix v3)) &&& (hI h 89 (ix v3)))) 90 (ix v3)) = 0 → m_X12_loanAtHand_89 (fun (v1 : Int32) (v2 : Int32) (v3 : Int32) (hh : Hp) => m_X12_loanAtHand_51 n k101 Q v1 v2 v3 hh) k101 Q v1 v3 (wI h 90 (ix v3) ((hI h 90 (ix v3)) &&& (hI h 89 (ix v3)))))))))))
set_option maxHeartbeats 4000000 in
set_option maxRecDepth 100000 in
theorem s_X12_loanAtHand_51 {l : Launch} {G : Cx} {d : Nat} {h0 : Hp} (hd : 10 ≤ d) {k101 : Int32 → Int32 → Hp → Prop} {Q : Int32 → Hp → Prop} (hk101 : ∀ (v1 : Int32) (v2 : Int32) (hh : Hp), k101 v1 v2 hh → Rn l G d 0 0 MX12_loanAtHand h0 (qI Q) 101 [some (tR 12 0 (some 51)), some (tI v1), some (tI v2)] [] hh 0 0) : ∀ {n : Nat} {v1 : Int32} {v2 : Int32} {v3 : Int32} {h : Hp}, m_X12_loanAtHand_51 n k101 Q v1 v2 v3 h → Rn l G d 0 0 MX12_loanAtHand h0 (qI Q) 51 [some (tR 12 0 (some 51)), some (tI v1), some (tI v2), some (tI v3)] [] h 0 0 := by
  intro n
  induction n with
  | zero => intro v1 v2 v3 h hm; exact hm.elim
  | succ n ih =>
    intro v1 v2 v3 h hm
    have hk51 := fun (v1 : Int32) (v2 : Int32) (v3 : Int32) (hh : Hp) (hm : m_X12_loanAtHand_51 n k101 Q v1 v2 v3 hh) => ih hm
    rw [m_X12_loanAtHand_51] at hm
    refine r_iload_n dX12_loanAtHand_51 rfl rfl ?_
    refine r_bipush (v := 8) dX12_loanAtHand_52 rfl ?_
    refine r_icmp_ge (tgt := 101) dX12_loanAtHand_54 rfl (fun hc => ?_) (fun hc => ?_)
    · replace hm := hm.1 hc
      refine r_keep (L' := [some (tR 12 0 (some 51)), some (tI v1), some (tI v2)]) [true, true, true] rfl ?_
      exact hk101 _ _ _ hm
    · replace hm := hm.2 hc
      refine r_aload_n dX12_loanAtHand_57 rfl rfl ?_
      refine r_getC (k := 66) cl_12 dX12_loanAtHand_58 t_1338 gf_12_66.1 gf_12_66.2 (gc_12_66 _) ?_
      refine r_iload_n dX12_loanAtHand_61 rfl rfl ?_
      refine r_aload_n dX12_loanAtHand_62 rfl rfl ?_
      refine r_getC (k := 66) cl_12 dX12_loanAtHand_63 t_1338 gf_12_66.1 gf_12_66.2 (gc_12_66 _) ?_
      refine r_iload_n dX12_loanAtHand_66 rfl rfl ?_
      refine r_iald dX12_loanAtHand_67 hm.1 ?_
      replace hm := hm.2
      refine r_aload_n dX12_loanAtHand_68 rfl rfl ?_
      refine r_getC (k := 65) cl_12 dX12_loanAtHand_69 t_1337 gf_12_65.1 gf_12_65.2 (gc_12_65 _) ?_
      refine r_iload_n dX12_loanAtHand_72 rfl rfl ?_
      refine r_iald dX12_loanAtHand_73 hm.1 ?_
      replace hm := hm.2
      refine r_iand dX12_loanAtHand_74 ?_
      refine r_iast dX12_loanAtHand_75 hm.1 ?_
      replace hm := hm.2
      refine r_iload_n dX12_loanAtHand_76 rfl rfl ?_
      refine r_if_ne (tgt := 89) dX12_loanAtHand_77 rfl (fun hc => ?_) (fun hc => ?_)
      · replace hm := hm.1 hc
        refine r_keep (L' := [some (tR 12 0 (some 51)), some (tI v1), none, some (tI v3)]) [true, true, false, true] rfl ?_
        exact s_X12_loanAtHand_89 hd hk51 hk101 hm
      · replace hm := hm.2 hc
        refine r_aload_n dX12_loanAtHand_80 rfl rfl ?_
        refine r_getC (k := 66) cl_12 dX12_loanAtHand_81 t_1338 gf_12_66.1 gf_12_66.2 (gc_12_66 _) ?_
        refine r_iload_n dX12_loanAtHand_84 rfl rfl ?_
        refine r_iald dX12_loanAtHand_85 hm.1 ?_
        replace hm := hm.2
        refine r_if_eq (tgt := 93) dX12_loanAtHand_86 rfl (fun hc => ?_) (fun hc => ?_)
        · replace hm := hm.1 hc
          refine r_iconst (v := 0) dX12_loanAtHand_93 rfl ?_
          refine r_keep (L' := [some (tR 12 0 (some 51)), some (tI v1), none, some (tI v3)]) [true, true, false, true] rfl ?_
          exact s_X12_loanAtHand_94 hd hk51 hk101 hm
        · replace hm := hm.2 hc
          refine r_keep (L' := [some (tR 12 0 (some 51)), some (tI v1), none, some (tI v3)]) [true, true, false, true] rfl ?_
          exact s_X12_loanAtHand_89 hd hk51 hk101 hm
def m_X12_loanAtHand_38 : Nat → (Hp → Prop) → (Int32 → Hp → Prop) → Int32 → Hp → Prop
  | 0, _, _, _, _ => False
  | n + 1, k118, Q, v1, h => (v1 < 0 → k118 h) ∧ (¬ v1 < 0 → m_X12_findLending v1 h (fun (h7 : Hp) => ∃ n51, m_X12_loanAtHand_51 n51 (m_X12_loanAtHand_101 (fun (v1 : Int32) (hh : Hp) => m_X12_loanAtHand_38 n k118 Q v1 hh) k118 Q) Q v1 0 0 h7))
set_option maxHeartbeats 4000000 in
set_option maxRecDepth 100000 in
theorem s_X12_loanAtHand_38 {l : Launch} {G : Cx} {d : Nat} {h0 : Hp} (hd : 10 ≤ d) {k118 : Hp → Prop} {Q : Int32 → Hp → Prop} (hk118 : ∀ (hh : Hp), k118 hh → Rn l G d 0 0 MX12_loanAtHand h0 (qI Q) 118 [some (tR 12 0 (some 51))] [] hh 0 0) : ∀ {n : Nat} {v1 : Int32} {h : Hp}, m_X12_loanAtHand_38 n k118 Q v1 h → Rn l G d 0 0 MX12_loanAtHand h0 (qI Q) 38 [some (tR 12 0 (some 51)), some (tI v1)] [] h 0 0 := by
  intro n
  induction n with
  | zero => intro v1 h hm; exact hm.elim
  | succ n ih =>
    intro v1 h hm
    have hk38 := fun (v1 : Int32) (hh : Hp) (hm : m_X12_loanAtHand_38 n k118 Q v1 hh) => ih hm
    rw [m_X12_loanAtHand_38] at hm
    refine r_iload_n dX12_loanAtHand_38 rfl rfl ?_
    refine r_if_lt (tgt := 118) dX12_loanAtHand_39 rfl (fun hc => ?_) (fun hc => ?_)
    · replace hm := hm.1 hc
      refine r_keep (L' := [some (tR 12 0 (some 51))]) [true] rfl ?_
      exact hk118 _ hm
    · replace hm := hm.2 hc
      refine r_aload_n dX12_loanAtHand_42 rfl rfl ?_
      refine r_iload_n dX12_loanAtHand_43 rfl rfl ?_
      refine r_callVU (d' := d - 1) (as := [tI v1]) (st := []) cl_12 dX12_loanAtHand_44 mi_X12_findLending t_1824 t_1826 ts_101 rfl rfl (Nat.le_of_ble_eq_true rfl) (by omega) ⟨by decide, by decide⟩ ⟨rfl, rfl⟩ (s_X12_findLending (by omega) hm) (fun h7 hm => ?_)
      refine r_iconst (v := 0) dX12_loanAtHand_47 rfl ?_
      refine r_istore_n (L' := [some (tR 12 0 (some 51)), some (tI v1), some (tI 0)]) dX12_loanAtHand_48 rfl (by decide) rfl ?_
      refine r_iconst (v := 0) dX12_loanAtHand_49 rfl ?_
      refine r_istore_n (L' := [some (tR 12 0 (some 51)), some (tI v1), some (tI 0), some (tI 0)]) dX12_loanAtHand_50 rfl (by decide) rfl ?_
      refine r_keep (L' := [some (tR 12 0 (some 51)), some (tI v1), some (tI 0), some (tI 0)]) [true, true, true, true] rfl ?_
      obtain ⟨n, hm⟩ := hm
      refine s_X12_loanAtHand_51 hd ?_ hm
      · exact (fun _ _ _ hm => s_X12_loanAtHand_101 hd hk38 hk118 hm)
def m_X12_loanAtHand_32  (Q : Int32 → Hp → Prop) (h : Hp) : Prop := m_X12_codeFrom 0 h (fun (x8 : Int32) (h9 : Hp) => ∃ n38, m_X12_loanAtHand_38 n38 (m_X12_loanAtHand_118 Q) Q x8 h9)
set_option maxHeartbeats 4000000 in
set_option maxRecDepth 100000 in
theorem s_X12_loanAtHand_32 {l : Launch} {G : Cx} {d : Nat} {h0 : Hp} (hd : 10 ≤ d) {Q : Int32 → Hp → Prop} {h : Hp} (hm : m_X12_loanAtHand_32 Q h) : Rn l G d 0 0 MX12_loanAtHand h0 (qI Q) 32 [some (tR 12 0 (some 51))] [] h 0 0 := by
  unfold m_X12_loanAtHand_32 at hm
  refine r_aload_n dX12_loanAtHand_32 rfl rfl ?_
  refine r_iconst (v := 0) dX12_loanAtHand_33 rfl ?_
  refine r_callVI (d' := d - 1) (as := [tI 0]) (st := []) cl_12 dX12_loanAtHand_34 mi_X12_codeFrom t_1820 t_1822 ts_100 rfl rfl (Nat.le_of_ble_eq_true rfl) (by omega) ⟨by decide, by decide⟩ ⟨rfl, rfl⟩ (s_X12_codeFrom (by omega) hm) (fun x8 h9 hm => ?_)
  refine r_istore_n (L' := [some (tR 12 0 (some 51)), some (tI x8)]) dX12_loanAtHand_37 rfl (by decide) rfl ?_
  refine r_keep (L' := [some (tR 12 0 (some 51)), some (tI x8)]) [true, true] rfl ?_
  obtain ⟨n, hm⟩ := hm
  refine s_X12_loanAtHand_38 hd ?_ hm
  · exact (fun _ hm => s_X12_loanAtHand_118 hd hm)
def m_X12_loanAtHand_11 : Nat → (Hp → Prop) → (Int32 → Hp → Prop) → Int32 → Hp → Prop
  | 0, _, _, _, _ => False
  | n + 1, k32, Q, v1, h => (8 ≤ v1 → k32 h) ∧ (¬ 8 ≤ v1 → vp_in v1 8 ∧ (∀ x10 : Int32, x10 = v1 + 1 → m_X12_loanAtHand_11 n k32 Q x10 (wI h 90 (ix v1) 255)))
set_option maxHeartbeats 4000000 in
set_option maxRecDepth 100000 in
theorem s_X12_loanAtHand_11 {l : Launch} {G : Cx} {d : Nat} {h0 : Hp} (hd : 10 ≤ d) {k32 : Hp → Prop} {Q : Int32 → Hp → Prop} (hk32 : ∀ (hh : Hp), k32 hh → Rn l G d 0 0 MX12_loanAtHand h0 (qI Q) 32 [some (tR 12 0 (some 51))] [] hh 0 0) : ∀ {n : Nat} {v1 : Int32} {h : Hp}, m_X12_loanAtHand_11 n k32 Q v1 h → Rn l G d 0 0 MX12_loanAtHand h0 (qI Q) 11 [some (tR 12 0 (some 51)), some (tI v1)] [] h 0 0 := by
  intro n
  induction n with
  | zero => intro v1 h hm; exact hm.elim
  | succ n ih =>
    intro v1 h hm
    have hk11 := fun (v1 : Int32) (hh : Hp) (hm : m_X12_loanAtHand_11 n k32 Q v1 hh) => ih hm
    rw [m_X12_loanAtHand_11] at hm
    refine r_iload_n dX12_loanAtHand_11 rfl rfl ?_
    refine r_bipush (v := 8) dX12_loanAtHand_12 rfl ?_
    refine r_icmp_ge (tgt := 32) dX12_loanAtHand_14 rfl (fun hc => ?_) (fun hc => ?_)
    · replace hm := hm.1 hc
      refine r_keep (L' := [some (tR 12 0 (some 51))]) [true] rfl ?_
      exact hk32 _ hm
    · replace hm := hm.2 hc
      refine r_aload_n dX12_loanAtHand_17 rfl rfl ?_
      refine r_getC (k := 66) cl_12 dX12_loanAtHand_18 t_1338 gf_12_66.1 gf_12_66.2 (gc_12_66 _) ?_
      refine r_iload_n dX12_loanAtHand_21 rfl rfl ?_
      refine r_sipush (v := 255) dX12_loanAtHand_22 rfl ?_
      refine r_iast dX12_loanAtHand_25 hm.1 ?_
      replace hm := hm.2
      obtain ⟨x10, e_x10⟩ : ∃ y : Int32, y = v1 + 1 := ⟨_, rfl⟩
      replace hm := hm x10 e_x10
      refine r_iinc (L' := [some (tR 12 0 (some 51)), some (tI x10)]) dX12_loanAtHand_26 rfl (by rw [e_x10]; rfl) (by decide) rfl ?_
      refine r_goto (tgt := 11) dX12_loanAtHand_29 rfl ?_
      refine r_keep (L' := [some (tR 12 0 (some 51)), some (tI x10)]) [true, true] rfl ?_
      exact hk11 _ _ hm
def m_X12_loanAtHand  (h : Hp) (Q : Int32 → Hp → Prop) : Prop := m_X12_isLookedAt h (fun (x11 : Int32) (h12 : Hp) => (¬ x11 = 0 → ∃ n11, m_X12_loanAtHand_11 n11 (m_X12_loanAtHand_32 Q) Q 0 h12) ∧ (x11 = 0 → Q (-1) h12))
set_option maxHeartbeats 4000000 in
set_option maxRecDepth 100000 in
theorem s_X12_loanAtHand {l : Launch} {G : Cx} {d : Nat} (hd : 10 ≤ d) {h : Hp} {Q : Int32 → Hp → Prop} (hm : m_X12_loanAtHand h Q) : Ct l G d 0 0 yX12_loanAtHand MX12_loanAtHand [tR 12 0 (some 51)] h (qI Q) := by
  unfold m_X12_loanAtHand at hm
  refine Ct.of (L := [some (tR 12 0 (some 51))]) (by decide) rfl rfl (Nat.le_of_ble_eq_true rfl) rfl ?_
  refine r_aload_n dX12_loanAtHand_0 rfl rfl ?_
  refine r_callVI (d' := d - 1) (as := []) (st := []) cl_12 dX12_loanAtHand_1 mi_X12_isLookedAt t_1802 t_1804 ts_98 rfl rfl (Nat.le_of_ble_eq_true rfl) (by omega) ⟨by decide, by decide⟩ ⟨rfl, rfl⟩ (s_X12_isLookedAt (by omega) hm) (fun x11 h12 hm => ?_)
  refine r_if_ne (tgt := 9) dX12_loanAtHand_4 rfl (fun hc => ?_) (fun hc => ?_)
  · replace hm := hm.1 hc
    refine r_iconst (v := 0) dX12_loanAtHand_9 rfl ?_
    refine r_istore_n (L' := [some (tR 12 0 (some 51)), some (tI 0)]) dX12_loanAtHand_10 rfl (by decide) rfl ?_
    refine r_keep (L' := [some (tR 12 0 (some 51)), some (tI 0)]) [true, true] rfl ?_
    obtain ⟨n, hm⟩ := hm
    refine s_X12_loanAtHand_11 hd ?_ hm
    · exact (fun _ hm => s_X12_loanAtHand_32 hd hm)
  · replace hm := hm.2 hc
    refine r_iconst (v := (-1)) dX12_loanAtHand_7 rfl ?_
    exact r_ireturn dX12_loanAtHand_8 rfl ⟨by decide, by decide⟩ ⟨_, rfl, hm⟩
theorem dX12_loan_0 : decode cX12_loan 0 = .ok (.aload_n 0, 1) := rfl
theorem dX12_loan_1 : decode cX12_loan 1 = .ok (.invokevirtual 452, 3) := rfl
theorem dX12_loan_4 : decode cX12_loan 4 = .ok (.aload_n 0, 1) := rfl
theorem dX12_loan_5 : decode cX12_loan 5 = .ok (.invokevirtual 506, 3) := rfl
theorem dX12_loan_8 : decode cX12_loan 8 = .ok (.ireturn, 1) := rfl
def m_X12_loan  (h : Hp) (Q : Int32 → Hp → Prop) : Prop := m_X12_bundleAtHand h (fun (h2 : Hp) => m_X12_loanAtHand h2 (fun (x3 : Int32) (h4 : Hp) => Q x3 h4))
set_option maxHeartbeats 4000000 in
set_option maxRecDepth 100000 in
theorem s_X12_loan {l : Launch} {G : Cx} {d : Nat} (hd : 12 ≤ d) {h : Hp} {Q : Int32 → Hp → Prop} (hm : m_X12_loan h Q) : Ct l G d 0 0 yX12_loan MX12_loan [tR 12 0 (some 51)] h (qI Q) := by
  unfold m_X12_loan at hm
  refine Ct.of (L := [some (tR 12 0 (some 51))]) (by decide) rfl rfl (Nat.le_of_ble_eq_true rfl) rfl ?_
  refine r_aload_n dX12_loan_0 rfl rfl ?_
  refine r_callVU (d' := d - 1) (as := []) (st := []) cl_12 dX12_loan_1 mi_X12_bundleAtHand t_1757 t_1759 ts_89 rfl rfl (Nat.le_of_ble_eq_true rfl) (by omega) ⟨by decide, by decide⟩ ⟨rfl, rfl⟩ (s_X12_bundleAtHand (by omega) hm) (fun h2 hm => ?_)
  refine r_aload_n dX12_loan_4 rfl rfl ?_
  refine r_callVI (d' := d - 1) (as := []) (st := []) cl_12 dX12_loan_5 mi_X12_loanAtHand t_1854 t_1856 ts_105 rfl rfl (Nat.le_of_ble_eq_true rfl) (by omega) ⟨by decide, by decide⟩ ⟨rfl, rfl⟩ (s_X12_loanAtHand (by omega) hm) (fun x3 h4 hm => ?_)
  exact r_ireturn dX12_loan_8 rfl ⟨by decide, by decide⟩ ⟨_, rfl, hm⟩
