theorem dX10_takeNumber_0 : decode cX10_takeNumber 0 = .ok (.iconst (-1), 1) := rfl
theorem dX10_takeNumber_1 : decode cX10_takeNumber 1 = .ok (.istore_n 3, 1) := rfl
theorem dX10_takeNumber_2 : decode cX10_takeNumber 2 = .ok (.aload_n 0, 1) := rfl
theorem dX10_takeNumber_3 : decode cX10_takeNumber 3 = .ok (.getfield 40, 3) := rfl
theorem dX10_takeNumber_6 : decode cX10_takeNumber 6 = .ok (.iconst 2, 1) := rfl
theorem dX10_takeNumber_7 : decode cX10_takeNumber 7 = .ok (.if_icmp .ne 55, 3) := by decide +kernel
theorem dX10_takeNumber_10 : decode cX10_takeNumber 10 = .ok (.aload_n 0, 1) := rfl
theorem dX10_takeNumber_11 : decode cX10_takeNumber 11 = .ok (.getfield 31, 3) := rfl
theorem dX10_takeNumber_14 : decode cX10_takeNumber 14 = .ok (.aload_n 0, 1) := rfl
theorem dX10_takeNumber_15 : decode cX10_takeNumber 15 = .ok (.getfield 37, 3) := rfl
theorem dX10_takeNumber_18 : decode cX10_takeNumber 18 = .ok (.isub, 1) := rfl
theorem dX10_takeNumber_19 : decode cX10_takeNumber 19 = .ok (.iconst 4, 1) := rfl
theorem dX10_takeNumber_20 : decode cX10_takeNumber 20 = .ok (.if_icmp .gt 42, 3) := by decide +kernel
theorem dX10_takeNumber_23 : decode cX10_takeNumber 23 = .ok (.iconst 0, 1) := rfl
theorem dX10_takeNumber_24 : decode cX10_takeNumber 24 = .ok (.istore_n 3, 1) := rfl
theorem dX10_takeNumber_25 : decode cX10_takeNumber 25 = .ok (.aload_n 0, 1) := rfl
theorem dX10_takeNumber_26 : decode cX10_takeNumber 26 = .ok (.getfield 37, 3) := rfl
theorem dX10_takeNumber_29 : decode cX10_takeNumber 29 = .ok (.istore 4, 2) := rfl
theorem dX10_takeNumber_31 : decode cX10_takeNumber 31 = .ok (.iload 4, 2) := rfl
theorem dX10_takeNumber_33 : decode cX10_takeNumber 33 = .ok (.aload_n 0, 1) := rfl
theorem dX10_takeNumber_34 : decode cX10_takeNumber 34 = .ok (.getfield 31, 3) := rfl
theorem dX10_takeNumber_37 : decode cX10_takeNumber 37 = .ok (.if_icmp .ge 25, 3) := by decide +kernel
theorem dX10_takeNumber_40 : decode cX10_takeNumber 40 = .ok (.iload_n 3, 1) := rfl
theorem dX10_takeNumber_41 : decode cX10_takeNumber 41 = .ok (.bipush 10, 2) := by decide +kernel
theorem dX10_takeNumber_43 : decode cX10_takeNumber 43 = .ok (.imul, 1) := rfl
theorem dX10_takeNumber_44 : decode cX10_takeNumber 44 = .ok (.aload_n 0, 1) := rfl
theorem dX10_takeNumber_45 : decode cX10_takeNumber 45 = .ok (.getfield 9, 3) := rfl
theorem dX10_takeNumber_48 : decode cX10_takeNumber 48 = .ok (.iload 4, 2) := rfl
theorem dX10_takeNumber_50 : decode cX10_takeNumber 50 = .ok (.iaload, 1) := rfl
theorem dX10_takeNumber_51 : decode cX10_takeNumber 51 = .ok (.iadd, 1) := rfl
theorem dX10_takeNumber_52 : decode cX10_takeNumber 52 = .ok (.bipush 48, 2) := by decide +kernel
theorem dX10_takeNumber_54 : decode cX10_takeNumber 54 = .ok (.isub, 1) := rfl
theorem dX10_takeNumber_55 : decode cX10_takeNumber 55 = .ok (.istore_n 3, 1) := rfl
theorem dX10_takeNumber_56 : decode cX10_takeNumber 56 = .ok (.iinc 4 1, 3) := by decide +kernel
theorem dX10_takeNumber_59 : decode cX10_takeNumber 59 = .ok (.goto (-28), 3) := by decide +kernel
theorem dX10_takeNumber_62 : decode cX10_takeNumber 62 = .ok (.iload_n 3, 1) := rfl
theorem dX10_takeNumber_63 : decode cX10_takeNumber 63 = .ok (.iload_n 1, 1) := rfl
theorem dX10_takeNumber_64 : decode cX10_takeNumber 64 = .ok (.if_icmp .lt 8, 3) := by decide +kernel
theorem dX10_takeNumber_67 : decode cX10_takeNumber 67 = .ok (.iload_n 3, 1) := rfl
theorem dX10_takeNumber_68 : decode cX10_takeNumber 68 = .ok (.iload_n 2, 1) := rfl
theorem dX10_takeNumber_69 : decode cX10_takeNumber 69 = .ok (.if_icmp .le 10, 3) := by decide +kernel
theorem dX10_takeNumber_72 : decode cX10_takeNumber 72 = .ok (.aload_n 0, 1) := rfl
theorem dX10_takeNumber_73 : decode cX10_takeNumber 73 = .ok (.invokevirtual 47, 3) := rfl
theorem dX10_takeNumber_76 : decode cX10_takeNumber 76 = .ok (.pop, 1) := rfl
theorem dX10_takeNumber_77 : decode cX10_takeNumber 77 = .ok (.iconst (-1), 1) := rfl
theorem dX10_takeNumber_78 : decode cX10_takeNumber 78 = .ok (.ireturn, 1) := rfl
theorem dX10_takeNumber_79 : decode cX10_takeNumber 79 = .ok (.aload_n 0, 1) := rfl
theorem dX10_takeNumber_80 : decode cX10_takeNumber 80 = .ok (.invokevirtual 34, 3) := rfl
theorem dX10_takeNumber_83 : decode cX10_takeNumber 83 = .ok (.iload_n 3, 1) := rfl
theorem dX10_takeNumber_84 : decode cX10_takeNumber 84 = .ok (.ireturn, 1) := rfl
def m_X10_takeNumber_72  (Q : Int32 → Hp → Prop) (h : Hp) : Prop := m_X10_refuse h (fun (x1 : Int32) (h2 : Hp) => Q (-1) h2)
set_option maxHeartbeats 4000000 in
set_option maxRecDepth 100000 in
theorem s_X10_takeNumber_72 {l : Launch} {G : Cx} {d : Nat} {h0 : Hp} (hd : 4 ≤ d) {Q : Int32 → Hp → Prop} {h : Hp} (hm : m_X10_takeNumber_72 Q h) : Rn l G d 0 0 MX10_takeNumber h0 (qI Q) 72 [some (tR 10 0 (some 2))] [] h 0 0 := by
  unfold m_X10_takeNumber_72 at hm
  refine r_aload_n dX10_takeNumber_72 rfl rfl ?_
  refine r_callVI (d' := d - 1) (as := []) (st := []) cl_10 dX10_takeNumber_73 mi_X10_refuse t_611 t_597 t_598 rfl rfl (Nat.le_of_ble_eq_true rfl) (by omega) ⟨by decide, by decide⟩ ⟨rfl, rfl⟩ (s_X10_refuse (by omega) hm) (fun x1 h2 hm => ?_)
  refine r_pop dX10_takeNumber_76 rfl ?_
  refine r_iconst (v := (-1)) dX10_takeNumber_77 rfl ?_
  exact r_ireturn dX10_takeNumber_78 rfl ⟨by decide, by decide⟩ ⟨_, rfl, hm⟩
def m_X10_takeNumber_62  (Q : Int32 → Hp → Prop) (v1 : Int32) (v2 : Int32) (v3 : Int32) (h : Hp) : Prop := (v3 < v1 → m_X10_takeNumber_72 Q h) ∧ (¬ v3 < v1 → (v3 ≤ v2 → m_X10_advance h (fun (h4 : Hp) => Q v3 h4)) ∧ (¬ v3 ≤ v2 → m_X10_takeNumber_72 Q h))
set_option maxHeartbeats 4000000 in
set_option maxRecDepth 100000 in
theorem s_X10_takeNumber_62 {l : Launch} {G : Cx} {d : Nat} {h0 : Hp} (hd : 4 ≤ d) {Q : Int32 → Hp → Prop} {v1 : Int32} {v2 : Int32} {v3 : Int32} {h : Hp} (hm : m_X10_takeNumber_62 Q v1 v2 v3 h) : Rn l G d 0 0 MX10_takeNumber h0 (qI Q) 62 [some (tR 10 0 (some 2)), some (tI v1), some (tI v2), some (tI v3)] [] h 0 0 := by
  unfold m_X10_takeNumber_62 at hm
  refine r_iload_n dX10_takeNumber_62 rfl rfl ?_
  refine r_iload_n dX10_takeNumber_63 rfl rfl ?_
  refine r_icmp_lt (tgt := 72) dX10_takeNumber_64 rfl (fun hc => ?_) (fun hc => ?_)
  · replace hm := hm.1 hc
    refine r_keep (L' := [some (tR 10 0 (some 2))]) [true] rfl ?_
    exact s_X10_takeNumber_72 hd hm
  · replace hm := hm.2 hc
    refine r_iload_n dX10_takeNumber_67 rfl rfl ?_
    refine r_iload_n dX10_takeNumber_68 rfl rfl ?_
    refine r_icmp_le (tgt := 79) dX10_takeNumber_69 rfl (fun hc => ?_) (fun hc => ?_)
    · replace hm := hm.1 hc
      refine r_aload_n dX10_takeNumber_79 rfl rfl ?_
      refine r_callVU (d' := d - 1) (as := []) (st := []) cl_10 dX10_takeNumber_80 mi_X10_advance t_515 t_516 t_517 rfl rfl (Nat.le_of_ble_eq_true rfl) (by omega) ⟨by decide, by decide⟩ ⟨rfl, rfl⟩ (s_X10_advance (by omega) hm) (fun h4 hm => ?_)
      refine r_iload_n dX10_takeNumber_83 rfl rfl ?_
      exact r_ireturn dX10_takeNumber_84 rfl ⟨by decide, by decide⟩ ⟨_, rfl, hm⟩
    · replace hm := hm.2 hc
      refine r_keep (L' := [some (tR 10 0 (some 2))]) [true] rfl ?_
      exact s_X10_takeNumber_72 hd hm
def m_X10_takeNumber_31 : Nat → (Int32 → Int32 → Int32 → Hp → Prop) → (Int32 → Hp → Prop) → Int32 → Int32 → Int32 → Int32 → Hp → Prop
  | 0, _, _, _, _, _, _, _ => False
  | n + 1, k62, Q, v1, v2, v3, v4, h => ((hI h 2 6) ≤ v4 → k62 v1 v2 v3 h) ∧ (¬ (hI h 2 6) ≤ v4 → vp_in v4 600 ∧ (∀ x5 : Int32, x5 = (((v3 * 10) + (hI h 3 (ix v4))) - 48) → ∀ x6 : Int32, x6 = v4 + 1 → m_X10_takeNumber_31 n k62 Q v1 v2 x5 x6 h))
set_option maxHeartbeats 4000000 in
set_option maxRecDepth 100000 in
theorem s_X10_takeNumber_31 {l : Launch} {G : Cx} {d : Nat} {h0 : Hp} (hd : 4 ≤ d) {k62 : Int32 → Int32 → Int32 → Hp → Prop} {Q : Int32 → Hp → Prop} (hk62 : ∀ (v1 : Int32) (v2 : Int32) (v3 : Int32) (hh : Hp), k62 v1 v2 v3 hh → Rn l G d 0 0 MX10_takeNumber h0 (qI Q) 62 [some (tR 10 0 (some 2)), some (tI v1), some (tI v2), some (tI v3)] [] hh 0 0) : ∀ {n : Nat} {v1 : Int32} {v2 : Int32} {v3 : Int32} {v4 : Int32} {h : Hp}, m_X10_takeNumber_31 n k62 Q v1 v2 v3 v4 h → Rn l G d 0 0 MX10_takeNumber h0 (qI Q) 31 [some (tR 10 0 (some 2)), some (tI v1), some (tI v2), some (tI v3), some (tI v4)] [] h 0 0 := by
  intro n
  induction n with
  | zero => intro v1 v2 v3 v4 h hm; exact hm.elim
  | succ n ih =>
    intro v1 v2 v3 v4 h hm
    have hk31 := fun (v1 : Int32) (v2 : Int32) (v3 : Int32) (v4 : Int32) (hh : Hp) (hm : m_X10_takeNumber_31 n k62 Q v1 v2 v3 v4 hh) => ih hm
    rw [m_X10_takeNumber_31] at hm
    refine r_iload dX10_takeNumber_31 rfl ?_
    refine r_aload_n dX10_takeNumber_33 rfl rfl ?_
    refine r_getI (k := 6) cl_10 dX10_takeNumber_34 t_45 (Or.inl rfl) gf_10_6 ?_
    refine r_icmp_ge (tgt := 62) dX10_takeNumber_37 rfl (fun hc => ?_) (fun hc => ?_)
    · replace hm := hm.1 hc
      refine r_keep (L' := [some (tR 10 0 (some 2)), some (tI v1), some (tI v2), some (tI v3)]) [true, true, true, true] rfl ?_
      exact hk62 _ _ _ _ hm
    · replace hm := hm.2 hc
      refine r_iload_n dX10_takeNumber_40 rfl rfl ?_
      refine r_bipush (v := 10) dX10_takeNumber_41 rfl ?_
      refine r_imul dX10_takeNumber_43 ?_
      refine r_aload_n dX10_takeNumber_44 rfl rfl ?_
      refine r_getC (k := 0) cl_10 dX10_takeNumber_45 t_37 gf_10_0.1 gf_10_0.2 (gc_10_0 _) ?_
      refine r_iload dX10_takeNumber_48 rfl ?_
      refine r_iald dX10_takeNumber_50 hm.1 ?_
      replace hm := hm.2
      refine r_iadd dX10_takeNumber_51 ?_
      refine r_bipush (v := 48) dX10_takeNumber_52 rfl ?_
      refine r_isub dX10_takeNumber_54 ?_
      refine r_nmI (fun x5 e_x5 => ?_)
      replace hm := hm x5 e_x5
      refine r_istore_n (L' := [some (tR 10 0 (some 2)), some (tI v1), some (tI v2), some (tI x5), some (tI v4)]) dX10_takeNumber_55 rfl (by decide) rfl ?_
      obtain ⟨x6, e_x6⟩ : ∃ y : Int32, y = v4 + 1 := ⟨_, rfl⟩
      replace hm := hm x6 e_x6
      refine r_iinc (L' := [some (tR 10 0 (some 2)), some (tI v1), some (tI v2), some (tI x5), some (tI x6)]) dX10_takeNumber_56 rfl (by rw [e_x6]; rfl) (by decide) rfl ?_
      refine r_goto (tgt := 31) dX10_takeNumber_59 rfl ?_
      refine r_keep (L' := [some (tR 10 0 (some 2)), some (tI v1), some (tI v2), some (tI x5), some (tI x6)]) [true, true, true, true, true] rfl ?_
      exact hk31 _ _ _ _ _ hm
def m_X10_takeNumber (v1 : Int32) (v2 : Int32) (h : Hp) (Q : Int32 → Hp → Prop) : Prop := (¬ (hI h 2 4) = 2 → m_X10_takeNumber_62 Q v1 v2 (-1) h) ∧ ((hI h 2 4) = 2 → (4 < ((hI h 2 6) - (hI h 2 5)) → m_X10_takeNumber_62 Q v1 v2 (-1) h) ∧ (¬ 4 < ((hI h 2 6) - (hI h 2 5)) → ∀ x7 : Int32, x7 = (hI h 2 5) → ∃ n31, m_X10_takeNumber_31 n31 (m_X10_takeNumber_62 Q) Q v1 v2 0 x7 h))
set_option maxHeartbeats 4000000 in
set_option maxRecDepth 100000 in
theorem s_X10_takeNumber {l : Launch} {G : Cx} {d : Nat} (hd : 4 ≤ d) {v1 : Int32} {v2 : Int32} {h : Hp} {Q : Int32 → Hp → Prop} (hm : m_X10_takeNumber v1 v2 h Q) : Ct l G d 0 0 yX10_takeNumber MX10_takeNumber [tR 10 0 (some 2), tI v1, tI v2] h (qI Q) := by
  unfold m_X10_takeNumber at hm
  refine Ct.of (L := [some (tR 10 0 (some 2)), some (tI v1), some (tI v2)]) (by decide) rfl rfl (Nat.le_of_ble_eq_true rfl) rfl ?_
  refine r_iconst (v := (-1)) dX10_takeNumber_0 rfl ?_
  refine r_istore_n (L' := [some (tR 10 0 (some 2)), some (tI v1), some (tI v2), some (tI (-1))]) dX10_takeNumber_1 rfl (by decide) rfl ?_
  refine r_aload_n dX10_takeNumber_2 rfl rfl ?_
  refine r_getI (k := 4) cl_10 dX10_takeNumber_3 t_43 (Or.inl rfl) gf_10_4 ?_
  refine r_iconst (v := 2) dX10_takeNumber_6 rfl ?_
  refine r_icmp_ne (tgt := 62) dX10_takeNumber_7 rfl (fun hc => ?_) (fun hc => ?_)
  · replace hm := hm.1 hc
    refine r_keep (L' := [some (tR 10 0 (some 2)), some (tI v1), some (tI v2), some (tI (-1))]) [true, true, true, true] rfl ?_
    exact s_X10_takeNumber_62 hd hm
  · replace hm := hm.2 hc
    refine r_aload_n dX10_takeNumber_10 rfl rfl ?_
    refine r_getI (k := 6) cl_10 dX10_takeNumber_11 t_45 (Or.inl rfl) gf_10_6 ?_
    refine r_aload_n dX10_takeNumber_14 rfl rfl ?_
    refine r_getI (k := 5) cl_10 dX10_takeNumber_15 t_44 (Or.inl rfl) gf_10_5 ?_
    refine r_isub dX10_takeNumber_18 ?_
    refine r_iconst (v := 4) dX10_takeNumber_19 rfl ?_
    refine r_icmp_gt (tgt := 62) dX10_takeNumber_20 rfl (fun hc => ?_) (fun hc => ?_)
    · replace hm := hm.1 hc
      refine r_keep (L' := [some (tR 10 0 (some 2)), some (tI v1), some (tI v2), some (tI (-1))]) [true, true, true, true] rfl ?_
      exact s_X10_takeNumber_62 hd hm
    · replace hm := hm.2 hc
      refine r_iconst (v := 0) dX10_takeNumber_23 rfl ?_
      refine r_istore_n (L' := [some (tR 10 0 (some 2)), some (tI v1), some (tI v2), some (tI 0)]) dX10_takeNumber_24 rfl (by decide) rfl ?_
      refine r_aload_n dX10_takeNumber_25 rfl rfl ?_
      refine r_getI (k := 5) cl_10 dX10_takeNumber_26 t_44 (Or.inl rfl) gf_10_5 ?_
      refine r_nmI (fun x7 e_x7 => ?_)
      replace hm := hm x7 e_x7
      refine r_istore (L' := [some (tR 10 0 (some 2)), some (tI v1), some (tI v2), some (tI 0), some (tI x7)]) dX10_takeNumber_29 (by decide) rfl ?_
      refine r_keep (L' := [some (tR 10 0 (some 2)), some (tI v1), some (tI v2), some (tI 0), some (tI x7)]) [true, true, true, true, true] rfl ?_
      obtain ⟨n, hm⟩ := hm
      refine s_X10_takeNumber_31 hd ?_ hm
      · exact (fun _ _ _ _ hm => s_X10_takeNumber_62 hd hm)
theorem dX2_readSo_0 : decode cX2_readSo 0 = .ok (.aload_n 0, 1) := rfl
theorem dX2_readSo_1 : decode cX2_readSo 1 = .ok (.getfield 18, 3) := rfl
theorem dX2_readSo_4 : decode cX2_readSo 4 = .ok (.iconst 3, 1) := rfl
theorem dX2_readSo_5 : decode cX2_readSo 5 = .ok (.aload_n 0, 1) := rfl
theorem dX2_readSo_6 : decode cX2_readSo 6 = .ok (.getfield 22, 3) := rfl
theorem dX2_readSo_9 : decode cX2_readSo 9 = .ok (.ldc 140, 2) := rfl
theorem dX2_readSo_11 : decode cX2_readSo 11 = .ok (.invokevirtual 137, 3) := rfl
theorem dX2_readSo_14 : decode cX2_readSo 14 = .ok (.iastore, 1) := rfl
theorem dX2_readSo_15 : decode cX2_readSo 15 = .ok (.aload_n 0, 1) := rfl
theorem dX2_readSo_16 : decode cX2_readSo 16 = .ok (.getfield 18, 3) := rfl
theorem dX2_readSo_19 : decode cX2_readSo 19 = .ok (.iconst 3, 1) := rfl
theorem dX2_readSo_20 : decode cX2_readSo 20 = .ok (.iaload, 1) := rfl
theorem dX2_readSo_21 : decode cX2_readSo 21 = .ok (.iconst (-1), 1) := rfl
theorem dX2_readSo_22 : decode cX2_readSo 22 = .ok (.if_icmp .ne 5, 3) := by decide +kernel
theorem dX2_readSo_25 : decode cX2_readSo 25 = .ok (.iconst 0, 1) := rfl
theorem dX2_readSo_26 : decode cX2_readSo 26 = .ok (.ireturn, 1) := rfl
theorem dX2_readSo_27 : decode cX2_readSo 27 = .ok (.aload_n 0, 1) := rfl
theorem dX2_readSo_28 : decode cX2_readSo 28 = .ok (.getfield 18, 3) := rfl
theorem dX2_readSo_31 : decode cX2_readSo 31 = .ok (.iconst 4, 1) := rfl
theorem dX2_readSo_32 : decode cX2_readSo 32 = .ok (.aload_n 0, 1) := rfl
theorem dX2_readSo_33 : decode cX2_readSo 33 = .ok (.getfield 22, 3) := rfl
theorem dX2_readSo_36 : decode cX2_readSo 36 = .ok (.iconst 0, 1) := rfl
theorem dX2_readSo_37 : decode cX2_readSo 37 = .ok (.sipush 9999, 3) := by decide +kernel
theorem dX2_readSo_40 : decode cX2_readSo 40 = .ok (.invokevirtual 142, 3) := rfl
theorem dX2_readSo_43 : decode cX2_readSo 43 = .ok (.iastore, 1) := rfl
theorem dX2_readSo_44 : decode cX2_readSo 44 = .ok (.aload_n 0, 1) := rfl
theorem dX2_readSo_45 : decode cX2_readSo 45 = .ok (.getfield 18, 3) := rfl
theorem dX2_readSo_48 : decode cX2_readSo 48 = .ok (.iconst 4, 1) := rfl
theorem dX2_readSo_49 : decode cX2_readSo 49 = .ok (.iaload, 1) := rfl
theorem dX2_readSo_50 : decode cX2_readSo 50 = .ok (.iconst (-1), 1) := rfl
theorem dX2_readSo_51 : decode cX2_readSo 51 = .ok (.if_icmp .eq 7, 3) := by decide +kernel
theorem dX2_readSo_54 : decode cX2_readSo 54 = .ok (.iconst 1, 1) := rfl
theorem dX2_readSo_55 : decode cX2_readSo 55 = .ok (.goto 4, 3) := by decide +kernel
theorem dX2_readSo_58 : decode cX2_readSo 58 = .ok (.iconst 0, 1) := rfl
theorem dX2_readSo_59 : decode cX2_readSo 59 = .ok (.ireturn, 1) := rfl
def m_X2_readSo  (h : Hp) (Q : Int32 → Hp → Prop) : Prop := m_X10_takeOneOf 2 h (fun (x1 : Int32) (h2 : Hp) => vp_in 3 8 ∧ (vp_in 3 8 ∧ ((¬ (hI (wI h2 7 (ix 3) x1) 7 (ix 3)) = (-1) → m_X10_takeNumber 0 9999 (wI h2 7 (ix 3) x1) (fun (x3 : Int32) (h4 : Hp) => vp_in 4 8 ∧ (vp_in 4 8 ∧ (((hI (wI h4 7 (ix 4) x3) 7 (ix 4)) = (-1) → Q 0 (wI h4 7 (ix 4) x3)) ∧ (¬ (hI (wI h4 7 (ix 4) x3) 7 (ix 4)) = (-1) → Q 1 (wI h4 7 (ix 4) x3)))))) ∧ ((hI (wI h2 7 (ix 3) x1) 7 (ix 3)) = (-1) → Q 0 (wI h2 7 (ix 3) x1)))))
set_option maxHeartbeats 4000000 in
set_option maxRecDepth 100000 in
theorem s_X2_readSo {l : Launch} {G : Cx} {d : Nat} (hd : 14 ≤ d) {h : Hp} {Q : Int32 → Hp → Prop} (hm : m_X2_readSo h Q) : Ct l G d 0 0 yX2_readSo MX2_readSo [tR 2 0 (some 4)] h (qI Q) := by
  unfold m_X2_readSo at hm
  refine Ct.of (L := [some (tR 2 0 (some 4))]) (by decide) rfl rfl (Nat.le_of_ble_eq_true rfl) rfl ?_
  refine r_aload_n dX2_readSo_0 rfl rfl ?_
  refine r_getC (k := 2) cl_2 dX2_readSo_1 t_87 gf_2_2.1 gf_2_2.2 (gc_2_2 _) ?_
  refine r_iconst (v := 3) dX2_readSo_4 rfl ?_
  refine r_aload_n dX2_readSo_5 rfl rfl ?_
  refine r_getC (k := 0) cl_2 dX2_readSo_6 t_85 gf_2_0.1 gf_2_0.2 (gc_2_0 _) ?_
  refine r_ldcS (i := 2) (tx := "coin mule cloth house work grain ") dX2_readSo_9 (by decide) (by decide) ?_
  refine r_callVI (d' := d - 1) (as := [tS 2]) (st := [tI 3, tR 40 8 (some 7)]) cl_10 dX2_readSo_11 mi_X10_takeOneOf t_606 t_607 t_608 rfl rfl (Nat.le_of_ble_eq_true rfl) (by omega) ⟨by decide, by decide⟩ ⟨rfl, rfl⟩ (s_X10_takeOneOf (by omega) (by decide) hm) (fun x1 h2 hm => ?_)
  refine r_iast dX2_readSo_14 hm.1 ?_
  replace hm := hm.2
  refine r_aload_n dX2_readSo_15 rfl rfl ?_
  refine r_getC (k := 2) cl_2 dX2_readSo_16 t_87 gf_2_2.1 gf_2_2.2 (gc_2_2 _) ?_
  refine r_iconst (v := 3) dX2_readSo_19 rfl ?_
  refine r_iald dX2_readSo_20 hm.1 ?_
  replace hm := hm.2
  refine r_iconst (v := (-1)) dX2_readSo_21 rfl ?_
  refine r_icmp_ne (tgt := 27) dX2_readSo_22 rfl (fun hc => ?_) (fun hc => ?_)
  · replace hm := hm.1 hc
    refine r_aload_n dX2_readSo_27 rfl rfl ?_
    refine r_getC (k := 2) cl_2 dX2_readSo_28 t_87 gf_2_2.1 gf_2_2.2 (gc_2_2 _) ?_
    refine r_iconst (v := 4) dX2_readSo_31 rfl ?_
    refine r_aload_n dX2_readSo_32 rfl rfl ?_
    refine r_getC (k := 0) cl_2 dX2_readSo_33 t_85 gf_2_0.1 gf_2_0.2 (gc_2_0 _) ?_
    refine r_iconst (v := 0) dX2_readSo_36 rfl ?_
    refine r_sipush (v := 9999) dX2_readSo_37 rfl ?_
    refine r_callVI (d' := d - 1) (as := [tI 0, tI 9999]) (st := [tI 4, tR 40 8 (some 7)]) cl_10 dX2_readSo_40 mi_X10_takeNumber t_617 t_618 t_619 rfl rfl (Nat.le_of_ble_eq_true rfl) (by omega) ⟨by decide, by decide⟩ ⟨rfl, rfl⟩ (s_X10_takeNumber (by omega) hm) (fun x3 h4 hm => ?_)
    refine r_iast dX2_readSo_43 hm.1 ?_
    replace hm := hm.2
    refine r_aload_n dX2_readSo_44 rfl rfl ?_
    refine r_getC (k := 2) cl_2 dX2_readSo_45 t_87 gf_2_2.1 gf_2_2.2 (gc_2_2 _) ?_
    refine r_iconst (v := 4) dX2_readSo_48 rfl ?_
    refine r_iald dX2_readSo_49 hm.1 ?_
    replace hm := hm.2
    refine r_iconst (v := (-1)) dX2_readSo_50 rfl ?_
    refine r_icmp_eq (tgt := 58) dX2_readSo_51 rfl (fun hc => ?_) (fun hc => ?_)
    · replace hm := hm.1 hc
      refine r_iconst (v := 0) dX2_readSo_58 rfl ?_
      exact r_bret dX2_readSo_59 rfl ⟨by decide, by decide⟩ (by unfold bz; decide) ⟨_, rfl, hm⟩
    · replace hm := hm.2 hc
      refine r_iconst (v := 1) dX2_readSo_54 rfl ?_
      refine r_goto (tgt := 59) dX2_readSo_55 rfl ?_
      exact r_bret dX2_readSo_59 rfl ⟨by decide, by decide⟩ (by unfold bz; decide) ⟨_, rfl, hm⟩
  · replace hm := hm.2 hc
    refine r_iconst (v := 0) dX2_readSo_25 rfl ?_
    exact r_bret dX2_readSo_26 rfl ⟨by decide, by decide⟩ (by unfold bz; decide) ⟨_, rfl, hm⟩
theorem dX10_isWord_0 : decode cX10_isWord 0 = .ok (.aload_n 0, 1) := rfl
theorem dX10_isWord_1 : decode cX10_isWord 1 = .ok (.aload_n 1, 1) := rfl
theorem dX10_isWord_2 : decode cX10_isWord 2 = .ok (.invokevirtual 60, 3) := rfl
theorem dX10_isWord_5 : decode cX10_isWord 5 = .ok (.ifCond .ne 7, 3) := by decide +kernel
theorem dX10_isWord_8 : decode cX10_isWord 8 = .ok (.iconst 1, 1) := rfl
theorem dX10_isWord_9 : decode cX10_isWord 9 = .ok (.goto 4, 3) := by decide +kernel
theorem dX10_isWord_12 : decode cX10_isWord 12 = .ok (.iconst 0, 1) := rfl
theorem dX10_isWord_13 : decode cX10_isWord 13 = .ok (.ireturn, 1) := rfl
def m_X10_isWord (v1 : Nat) (h : Hp) (Q : Int32 → Hp → Prop) : Prop := m_X10_placeIn v1 h (fun (x1 : Int32) (h2 : Hp) => (¬ x1 = 0 → Q 0 h2) ∧ (x1 = 0 → Q 1 h2))
set_option maxHeartbeats 4000000 in
set_option maxRecDepth 100000 in
theorem s_X10_isWord {l : Launch} {G : Cx} {v1 : Nat} {d : Nat} (hd : 12 ≤ d) (hv1 : v1 < 16) {h : Hp} {Q : Int32 → Hp → Prop} (hm : m_X10_isWord v1 h Q) : Ct l G d 0 0 yX10_isWord MX10_isWord [tR 10 0 (some 2), tS v1] h (qI Q) := by
  unfold m_X10_isWord at hm
  refine Ct.of (L := [some (tR 10 0 (some 2)), some (tS v1)]) (by decide) rfl rfl (Nat.le_of_ble_eq_true rfl) rfl ?_
  refine r_aload_n dX10_isWord_0 rfl rfl ?_
  refine r_aload_nS dX10_isWord_1 rfl rfl ?_
  refine r_callVI (d' := d - 1) (as := [tS v1]) (st := []) cl_10 dX10_isWord_2 mi_X10_placeIn t_610 t_541 t_542 rfl rfl (Nat.le_of_ble_eq_true rfl) (by omega) ⟨by decide, by decide⟩ ⟨rfl, rfl⟩ (s_X10_placeIn (by omega) hv1 hm) (fun x1 h2 hm => ?_)
  refine r_if_ne (tgt := 12) dX10_isWord_5 rfl (fun hc => ?_) (fun hc => ?_)
  · replace hm := hm.1 hc
    refine r_iconst (v := 0) dX10_isWord_12 rfl ?_
    exact r_bret dX10_isWord_13 rfl ⟨by decide, by decide⟩ (by unfold bz; decide) ⟨_, rfl, hm⟩
  · replace hm := hm.2 hc
    refine r_iconst (v := 1) dX10_isWord_8 rfl ?_
    refine r_goto (tgt := 13) dX10_isWord_9 rfl ?_
    exact r_bret dX10_isWord_13 rfl ⟨by decide, by decide⟩ (by unfold bz; decide) ⟨_, rfl, hm⟩
theorem dX10_takeWord_0 : decode cX10_takeWord 0 = .ok (.aload_n 0, 1) := rfl
theorem dX10_takeWord_1 : decode cX10_takeWord 1 = .ok (.aload_n 1, 1) := rfl
theorem dX10_takeWord_2 : decode cX10_takeWord 2 = .ok (.invokevirtual 64, 3) := rfl
theorem dX10_takeWord_5 : decode cX10_takeWord 5 = .ok (.ifCond .ne 8, 3) := by decide +kernel
theorem dX10_takeWord_8 : decode cX10_takeWord 8 = .ok (.aload_n 0, 1) := rfl
theorem dX10_takeWord_9 : decode cX10_takeWord 9 = .ok (.invokevirtual 47, 3) := rfl
theorem dX10_takeWord_12 : decode cX10_takeWord 12 = .ok (.ireturn, 1) := rfl
theorem dX10_takeWord_13 : decode cX10_takeWord 13 = .ok (.aload_n 0, 1) := rfl
theorem dX10_takeWord_14 : decode cX10_takeWord 14 = .ok (.invokevirtual 34, 3) := rfl
theorem dX10_takeWord_17 : decode cX10_takeWord 17 = .ok (.iconst 1, 1) := rfl
theorem dX10_takeWord_18 : decode cX10_takeWord 18 = .ok (.ireturn, 1) := rfl
def m_X10_takeWord (v1 : Nat) (h : Hp) (Q : Int32 → Hp → Prop) : Prop := m_X10_isWord v1 h (fun (x1 : Int32) (h2 : Hp) => (¬ x1 = 0 → m_X10_advance h2 (fun (h4 : Hp) => Q 1 h4)) ∧ (x1 = 0 → m_X10_refuse h2 (fun (x5 : Int32) (h6 : Hp) => bz x5 ∧ Q x5 h6)))
set_option maxHeartbeats 4000000 in
set_option maxRecDepth 100000 in
theorem s_X10_takeWord {l : Launch} {G : Cx} {v1 : Nat} {d : Nat} (hd : 14 ≤ d) (hv1 : v1 < 16) {h : Hp} {Q : Int32 → Hp → Prop} (hm : m_X10_takeWord v1 h Q) : Ct l G d 0 0 yX10_takeWord MX10_takeWord [tR 10 0 (some 2), tS v1] h (qI Q) := by
  unfold m_X10_takeWord at hm
  refine Ct.of (L := [some (tR 10 0 (some 2)), some (tS v1)]) (by decide) rfl rfl (Nat.le_of_ble_eq_true rfl) rfl ?_
  refine r_aload_n dX10_takeWord_0 rfl rfl ?_
  refine r_aload_nS dX10_takeWord_1 rfl rfl ?_
  refine r_callVI (d' := d - 1) (as := [tS v1]) (st := []) cl_10 dX10_takeWord_2 mi_X10_isWord t_630 t_631 t_632 rfl rfl (Nat.le_of_ble_eq_true rfl) (by omega) ⟨by decide, by decide⟩ ⟨rfl, rfl⟩ (s_X10_isWord (by omega) hv1 hm) (fun x1 h2 hm => ?_)
  refine r_if_ne (tgt := 13) dX10_takeWord_5 rfl (fun hc => ?_) (fun hc => ?_)
  · replace hm := hm.1 hc
    refine r_aload_n dX10_takeWord_13 rfl rfl ?_
    refine r_callVU (d' := d - 1) (as := []) (st := []) cl_10 dX10_takeWord_14 mi_X10_advance t_515 t_516 t_517 rfl rfl (Nat.le_of_ble_eq_true rfl) (by omega) ⟨by decide, by decide⟩ ⟨rfl, rfl⟩ (s_X10_advance (by omega) hm) (fun h4 hm => ?_)
    refine r_iconst (v := 1) dX10_takeWord_17 rfl ?_
    exact r_bret dX10_takeWord_18 rfl ⟨by decide, by decide⟩ (by unfold bz; decide) ⟨_, rfl, hm⟩
  · replace hm := hm.2 hc
    refine r_aload_n dX10_takeWord_8 rfl rfl ?_
    refine r_callVI (d' := d - 1) (as := []) (st := []) cl_10 dX10_takeWord_9 mi_X10_refuse t_611 t_597 t_598 rfl rfl (Nat.le_of_ble_eq_true rfl) (by omega) ⟨by decide, by decide⟩ ⟨rfl, rfl⟩ (s_X10_refuse (by omega) hm) (fun x5 h6 hm => ?_)
    exact r_bret dX10_takeWord_12 rfl ⟨by decide, by decide⟩ hm.1 ⟨_, rfl, hm.2⟩
theorem dX2_readPay_0 : decode cX2_readPay 0 = .ok (.aload_n 0, 1) := rfl
theorem dX2_readPay_1 : decode cX2_readPay 1 = .ok (.getfield 18, 3) := rfl
theorem dX2_readPay_4 : decode cX2_readPay 4 = .ok (.iconst 5, 1) := rfl
theorem dX2_readPay_5 : decode cX2_readPay 5 = .ok (.iconst 0, 1) := rfl
theorem dX2_readPay_6 : decode cX2_readPay 6 = .ok (.iastore, 1) := rfl
theorem dX2_readPay_7 : decode cX2_readPay 7 = .ok (.iload_n 1, 1) := rfl
theorem dX2_readPay_8 : decode cX2_readPay 8 = .ok (.iconst 2, 1) := rfl
theorem dX2_readPay_9 : decode cX2_readPay 9 = .ok (.if_icmp .eq 10, 3) := by decide +kernel
theorem dX2_readPay_12 : decode cX2_readPay 12 = .ok (.iload_n 1, 1) := rfl
theorem dX2_readPay_13 : decode cX2_readPay 13 = .ok (.iconst 3, 1) := rfl
theorem dX2_readPay_14 : decode cX2_readPay 14 = .ok (.if_icmp .eq 5, 3) := by decide +kernel
theorem dX2_readPay_17 : decode cX2_readPay 17 = .ok (.iconst 1, 1) := rfl
theorem dX2_readPay_18 : decode cX2_readPay 18 = .ok (.ireturn, 1) := rfl
theorem dX2_readPay_19 : decode cX2_readPay 19 = .ok (.aload_n 0, 1) := rfl
theorem dX2_readPay_20 : decode cX2_readPay 20 = .ok (.getfield 22, 3) := rfl
theorem dX2_readPay_23 : decode cX2_readPay 23 = .ok (.ldc 146, 2) := rfl
theorem dX2_readPay_25 : decode cX2_readPay 25 = .ok (.invokevirtual 148, 3) := rfl
theorem dX2_readPay_28 : decode cX2_readPay 28 = .ok (.ifCond .ne 5, 3) := by decide +kernel
theorem dX2_readPay_31 : decode cX2_readPay 31 = .ok (.iconst 0, 1) := rfl
theorem dX2_readPay_32 : decode cX2_readPay 32 = .ok (.ireturn, 1) := rfl
theorem dX2_readPay_33 : decode cX2_readPay 33 = .ok (.aload_n 0, 1) := rfl
theorem dX2_readPay_34 : decode cX2_readPay 34 = .ok (.getfield 18, 3) := rfl
theorem dX2_readPay_37 : decode cX2_readPay 37 = .ok (.iconst 5, 1) := rfl
theorem dX2_readPay_38 : decode cX2_readPay 38 = .ok (.aload_n 0, 1) := rfl
theorem dX2_readPay_39 : decode cX2_readPay 39 = .ok (.getfield 22, 3) := rfl
theorem dX2_readPay_42 : decode cX2_readPay 42 = .ok (.iconst 0, 1) := rfl
theorem dX2_readPay_43 : decode cX2_readPay 43 = .ok (.sipush 9999, 3) := by decide +kernel
theorem dX2_readPay_46 : decode cX2_readPay 46 = .ok (.invokevirtual 142, 3) := rfl
theorem dX2_readPay_49 : decode cX2_readPay 49 = .ok (.iastore, 1) := rfl
theorem dX2_readPay_50 : decode cX2_readPay 50 = .ok (.aload_n 0, 1) := rfl
theorem dX2_readPay_51 : decode cX2_readPay 51 = .ok (.getfield 18, 3) := rfl
theorem dX2_readPay_54 : decode cX2_readPay 54 = .ok (.iconst 5, 1) := rfl
theorem dX2_readPay_55 : decode cX2_readPay 55 = .ok (.iaload, 1) := rfl
theorem dX2_readPay_56 : decode cX2_readPay 56 = .ok (.iconst (-1), 1) := rfl
theorem dX2_readPay_57 : decode cX2_readPay 57 = .ok (.if_icmp .eq 7, 3) := by decide +kernel
theorem dX2_readPay_60 : decode cX2_readPay 60 = .ok (.iconst 1, 1) := rfl
theorem dX2_readPay_61 : decode cX2_readPay 61 = .ok (.goto 4, 3) := by decide +kernel
theorem dX2_readPay_64 : decode cX2_readPay 64 = .ok (.iconst 0, 1) := rfl
theorem dX2_readPay_65 : decode cX2_readPay 65 = .ok (.ireturn, 1) := rfl
def m_X2_readPay_19  (Q : Int32 → Hp → Prop) (h : Hp) : Prop := m_X10_takeWord 3 h (fun (x1 : Int32) (h2 : Hp) => (¬ x1 = 0 → m_X10_takeNumber 0 9999 h2 (fun (x3 : Int32) (h4 : Hp) => vp_in 5 8 ∧ (vp_in 5 8 ∧ (((hI (wI h4 7 (ix 5) x3) 7 (ix 5)) = (-1) → Q 0 (wI h4 7 (ix 5) x3)) ∧ (¬ (hI (wI h4 7 (ix 5) x3) 7 (ix 5)) = (-1) → Q 1 (wI h4 7 (ix 5) x3)))))) ∧ (x1 = 0 → Q 0 h2))
set_option maxHeartbeats 4000000 in
set_option maxRecDepth 100000 in
theorem s_X2_readPay_19 {l : Launch} {G : Cx} {d : Nat} {h0 : Hp} (hd : 16 ≤ d) {Q : Int32 → Hp → Prop} {h : Hp} (hm : m_X2_readPay_19 Q h) : Rn l G d 0 0 MX2_readPay h0 (qI Q) 19 [some (tR 2 0 (some 4))] [] h 0 0 := by
  unfold m_X2_readPay_19 at hm
  refine r_aload_n dX2_readPay_19 rfl rfl ?_
  refine r_getC (k := 0) cl_2 dX2_readPay_20 t_85 gf_2_0.1 gf_2_0.2 (gc_2_0 _) ?_
  refine r_ldcS (i := 3) (tx := "for ") dX2_readPay_23 (by decide) (by decide) ?_
  refine r_callVI (d' := d - 1) (as := [tS 3]) (st := []) cl_10 dX2_readPay_25 mi_X10_takeWord t_626 t_627 t_628 rfl rfl (Nat.le_of_ble_eq_true rfl) (by omega) ⟨by decide, by decide⟩ ⟨rfl, rfl⟩ (s_X10_takeWord (by omega) (by decide) hm) (fun x1 h2 hm => ?_)
  refine r_if_ne (tgt := 33) dX2_readPay_28 rfl (fun hc => ?_) (fun hc => ?_)
  · replace hm := hm.1 hc
    refine r_aload_n dX2_readPay_33 rfl rfl ?_
    refine r_getC (k := 2) cl_2 dX2_readPay_34 t_87 gf_2_2.1 gf_2_2.2 (gc_2_2 _) ?_
    refine r_iconst (v := 5) dX2_readPay_37 rfl ?_
    refine r_aload_n dX2_readPay_38 rfl rfl ?_
    refine r_getC (k := 0) cl_2 dX2_readPay_39 t_85 gf_2_0.1 gf_2_0.2 (gc_2_0 _) ?_
    refine r_iconst (v := 0) dX2_readPay_42 rfl ?_
    refine r_sipush (v := 9999) dX2_readPay_43 rfl ?_
    refine r_callVI (d' := d - 1) (as := [tI 0, tI 9999]) (st := [tI 5, tR 40 8 (some 7)]) cl_10 dX2_readPay_46 mi_X10_takeNumber t_617 t_618 t_619 rfl rfl (Nat.le_of_ble_eq_true rfl) (by omega) ⟨by decide, by decide⟩ ⟨rfl, rfl⟩ (s_X10_takeNumber (by omega) hm) (fun x3 h4 hm => ?_)
    refine r_iast dX2_readPay_49 hm.1 ?_
    replace hm := hm.2
    refine r_aload_n dX2_readPay_50 rfl rfl ?_
    refine r_getC (k := 2) cl_2 dX2_readPay_51 t_87 gf_2_2.1 gf_2_2.2 (gc_2_2 _) ?_
    refine r_iconst (v := 5) dX2_readPay_54 rfl ?_
    refine r_iald dX2_readPay_55 hm.1 ?_
    replace hm := hm.2
    refine r_iconst (v := (-1)) dX2_readPay_56 rfl ?_
    refine r_icmp_eq (tgt := 64) dX2_readPay_57 rfl (fun hc => ?_) (fun hc => ?_)
    · replace hm := hm.1 hc
      refine r_iconst (v := 0) dX2_readPay_64 rfl ?_
      exact r_bret dX2_readPay_65 rfl ⟨by decide, by decide⟩ (by unfold bz; decide) ⟨_, rfl, hm⟩
    · replace hm := hm.2 hc
      refine r_iconst (v := 1) dX2_readPay_60 rfl ?_
      refine r_goto (tgt := 65) dX2_readPay_61 rfl ?_
      exact r_bret dX2_readPay_65 rfl ⟨by decide, by decide⟩ (by unfold bz; decide) ⟨_, rfl, hm⟩
  · replace hm := hm.2 hc
    refine r_iconst (v := 0) dX2_readPay_31 rfl ?_
    exact r_bret dX2_readPay_32 rfl ⟨by decide, by decide⟩ (by unfold bz; decide) ⟨_, rfl, hm⟩
def m_X2_readPay (v1 : Int32) (h : Hp) (Q : Int32 → Hp → Prop) : Prop := vp_in 5 8 ∧ ((v1 = 2 → m_X2_readPay_19 Q (wI h 7 (ix 5) 0)) ∧ (¬ v1 = 2 → (v1 = 3 → m_X2_readPay_19 Q (wI h 7 (ix 5) 0)) ∧ (¬ v1 = 3 → Q 1 (wI h 7 (ix 5) 0))))
set_option maxHeartbeats 4000000 in
set_option maxRecDepth 100000 in
theorem s_X2_readPay {l : Launch} {G : Cx} {d : Nat} (hd : 16 ≤ d) {v1 : Int32} {h : Hp} {Q : Int32 → Hp → Prop} (hm : m_X2_readPay v1 h Q) : Ct l G d 0 0 yX2_readPay MX2_readPay [tR 2 0 (some 4), tI v1] h (qI Q) := by
  unfold m_X2_readPay at hm
  refine Ct.of (L := [some (tR 2 0 (some 4)), some (tI v1)]) (by decide) rfl rfl (Nat.le_of_ble_eq_true rfl) rfl ?_
  refine r_aload_n dX2_readPay_0 rfl rfl ?_
  refine r_getC (k := 2) cl_2 dX2_readPay_1 t_87 gf_2_2.1 gf_2_2.2 (gc_2_2 _) ?_
  refine r_iconst (v := 5) dX2_readPay_4 rfl ?_
  refine r_iconst (v := 0) dX2_readPay_5 rfl ?_
  refine r_iast dX2_readPay_6 hm.1 ?_
  replace hm := hm.2
  refine r_iload_n dX2_readPay_7 rfl rfl ?_
  refine r_iconst (v := 2) dX2_readPay_8 rfl ?_
  refine r_icmp_eq (tgt := 19) dX2_readPay_9 rfl (fun hc => ?_) (fun hc => ?_)
  · replace hm := hm.1 hc
    refine r_keep (L' := [some (tR 2 0 (some 4))]) [true] rfl ?_
    exact s_X2_readPay_19 hd hm
  · replace hm := hm.2 hc
    refine r_iload_n dX2_readPay_12 rfl rfl ?_
    refine r_iconst (v := 3) dX2_readPay_13 rfl ?_
    refine r_icmp_eq (tgt := 19) dX2_readPay_14 rfl (fun hc => ?_) (fun hc => ?_)
    · replace hm := hm.1 hc
      refine r_keep (L' := [some (tR 2 0 (some 4))]) [true] rfl ?_
      exact s_X2_readPay_19 hd hm
    · replace hm := hm.2 hc
      refine r_iconst (v := 1) dX2_readPay_17 rfl ?_
      exact r_bret dX2_readPay_18 rfl ⟨by decide, by decide⟩ (by unfold bz; decide) ⟨_, rfl, hm⟩
theorem dX2_readDays_0 : decode cX2_readDays 0 = .ok (.aload_n 0, 1) := by decide +kernel
theorem dX2_readDays_1 : decode cX2_readDays 1 = .ok (.getfield 22, 3) := by decide +kernel
theorem dX2_readDays_4 : decode cX2_readDays 4 = .ok (.ldc 152, 2) := by decide +kernel
theorem dX2_readDays_6 : decode cX2_readDays 6 = .ok (.invokevirtual 148, 3) := by decide +kernel
theorem dX2_readDays_9 : decode cX2_readDays 9 = .ok (.ifCond .ne 5, 3) := by decide +kernel
theorem dX2_readDays_12 : decode cX2_readDays 12 = .ok (.iconst 0, 1) := by decide +kernel
theorem dX2_readDays_13 : decode cX2_readDays 13 = .ok (.ireturn, 1) := by decide +kernel
theorem dX2_readDays_14 : decode cX2_readDays 14 = .ok (.aload_n 0, 1) := by decide +kernel
theorem dX2_readDays_15 : decode cX2_readDays 15 = .ok (.getfield 18, 3) := by decide +kernel
theorem dX2_readDays_18 : decode cX2_readDays 18 = .ok (.bipush 6, 2) := by decide +kernel
theorem dX2_readDays_20 : decode cX2_readDays 20 = .ok (.aload_n 0, 1) := by decide +kernel
theorem dX2_readDays_21 : decode cX2_readDays 21 = .ok (.getfield 22, 3) := by decide +kernel
theorem dX2_readDays_24 : decode cX2_readDays 24 = .ok (.iconst 0, 1) := by decide +kernel
theorem dX2_readDays_25 : decode cX2_readDays 25 = .ok (.sipush 399, 3) := by decide +kernel
theorem dX2_readDays_28 : decode cX2_readDays 28 = .ok (.invokevirtual 142, 3) := by decide +kernel
theorem dX2_readDays_31 : decode cX2_readDays 31 = .ok (.iastore, 1) := by decide +kernel
theorem dX2_readDays_32 : decode cX2_readDays 32 = .ok (.aload_n 0, 1) := by decide +kernel
theorem dX2_readDays_33 : decode cX2_readDays 33 = .ok (.getfield 18, 3) := by decide +kernel
theorem dX2_readDays_36 : decode cX2_readDays 36 = .ok (.bipush 7, 2) := by decide +kernel
theorem dX2_readDays_38 : decode cX2_readDays 38 = .ok (.aload_n 0, 1) := by decide +kernel
theorem dX2_readDays_39 : decode cX2_readDays 39 = .ok (.getfield 18, 3) := by decide +kernel
theorem dX2_readDays_42 : decode cX2_readDays 42 = .ok (.bipush 6, 2) := by decide +kernel
theorem dX2_readDays_44 : decode cX2_readDays 44 = .ok (.iaload, 1) := by decide +kernel
theorem dX2_readDays_45 : decode cX2_readDays 45 = .ok (.iastore, 1) := by decide +kernel
theorem dX2_readDays_46 : decode cX2_readDays 46 = .ok (.aload_n 0, 1) := by decide +kernel
theorem dX2_readDays_47 : decode cX2_readDays 47 = .ok (.getfield 18, 3) := by decide +kernel
theorem dX2_readDays_50 : decode cX2_readDays 50 = .ok (.bipush 6, 2) := by decide +kernel
theorem dX2_readDays_52 : decode cX2_readDays 52 = .ok (.iaload, 1) := by decide +kernel
theorem dX2_readDays_53 : decode cX2_readDays 53 = .ok (.iconst (-1), 1) := by decide +kernel
theorem dX2_readDays_54 : decode cX2_readDays 54 = .ok (.if_icmp .ne 5, 3) := by decide +kernel
theorem dX2_readDays_57 : decode cX2_readDays 57 = .ok (.iconst 0, 1) := by decide +kernel
theorem dX2_readDays_58 : decode cX2_readDays 58 = .ok (.ireturn, 1) := by decide +kernel
theorem dX2_readDays_59 : decode cX2_readDays 59 = .ok (.iload_n 1, 1) := by decide +kernel
theorem dX2_readDays_60 : decode cX2_readDays 60 = .ok (.iconst 2, 1) := by decide +kernel
theorem dX2_readDays_61 : decode cX2_readDays 61 = .ok (.if_icmp .ne 19, 3) := by decide +kernel
theorem dX2_readDays_64 : decode cX2_readDays 64 = .ok (.aload_n 0, 1) := by decide +kernel
theorem dX2_readDays_65 : decode cX2_readDays 65 = .ok (.getfield 22, 3) := by decide +kernel
theorem dX2_readDays_68 : decode cX2_readDays 68 = .ok (.ldc 154, 2) := by decide +kernel
theorem dX2_readDays_70 : decode cX2_readDays 70 = .ok (.invokevirtual 156, 3) := by decide +kernel
theorem dX2_readDays_73 : decode cX2_readDays 73 = .ok (.ifCond .eq 7, 3) := by decide +kernel
theorem dX2_readDays_76 : decode cX2_readDays 76 = .ok (.iconst 1, 1) := by decide +kernel
theorem dX2_readDays_77 : decode cX2_readDays 77 = .ok (.goto 4, 3) := by decide +kernel
theorem dX2_readDays_80 : decode cX2_readDays 80 = .ok (.iconst 0, 1) := by decide +kernel
theorem dX2_readDays_81 : decode cX2_readDays 81 = .ok (.istore_n 2, 1) := by decide +kernel
theorem dX2_readDays_82 : decode cX2_readDays 82 = .ok (.iload_n 1, 1) := by decide +kernel
theorem dX2_readDays_83 : decode cX2_readDays 83 = .ok (.iconst 3, 1) := by decide +kernel
theorem dX2_readDays_84 : decode cX2_readDays 84 = .ok (.if_icmp .eq 9, 3) := by decide +kernel
theorem dX2_readDays_87 : decode cX2_readDays 87 = .ok (.iload_n 2, 1) := by decide +kernel
theorem dX2_readDays_88 : decode cX2_readDays 88 = .ok (.ifCond .ne 5, 3) := by decide +kernel
theorem dX2_readDays_91 : decode cX2_readDays 91 = .ok (.iconst 1, 1) := by decide +kernel
theorem dX2_readDays_92 : decode cX2_readDays 92 = .ok (.ireturn, 1) := by decide +kernel
theorem dX2_readDays_93 : decode cX2_readDays 93 = .ok (.aload_n 0, 1) := by decide +kernel
theorem dX2_readDays_94 : decode cX2_readDays 94 = .ok (.getfield 22, 3) := by decide +kernel
theorem dX2_readDays_97 : decode cX2_readDays 97 = .ok (.iload_n 2, 1) := by decide +kernel
theorem dX2_readDays_98 : decode cX2_readDays 98 = .ok (.ifCond .eq 8, 3) := by decide +kernel
theorem dX2_readDays_101 : decode cX2_readDays 101 = .ok (.ldc 154, 2) := by decide +kernel
theorem dX2_readDays_103 : decode cX2_readDays 103 = .ok (.goto 5, 3) := by decide +kernel
theorem dX2_readDays_106 : decode cX2_readDays 106 = .ok (.ldc 159, 2) := by decide +kernel
theorem dX2_readDays_108 : decode cX2_readDays 108 = .ok (.invokevirtual 148, 3) := by decide +kernel
theorem dX2_readDays_111 : decode cX2_readDays 111 = .ok (.ifCond .ne 5, 3) := by decide +kernel
theorem dX2_readDays_114 : decode cX2_readDays 114 = .ok (.iconst 0, 1) := by decide +kernel
theorem dX2_readDays_115 : decode cX2_readDays 115 = .ok (.ireturn, 1) := by decide +kernel
theorem dX2_readDays_116 : decode cX2_readDays 116 = .ok (.aload_n 0, 1) := by decide +kernel
theorem dX2_readDays_117 : decode cX2_readDays 117 = .ok (.getfield 18, 3) := by decide +kernel
theorem dX2_readDays_120 : decode cX2_readDays 120 = .ok (.bipush 7, 2) := by decide +kernel
theorem dX2_readDays_122 : decode cX2_readDays 122 = .ok (.aload_n 0, 1) := by decide +kernel
theorem dX2_readDays_123 : decode cX2_readDays 123 = .ok (.getfield 22, 3) := by decide +kernel
theorem dX2_readDays_126 : decode cX2_readDays 126 = .ok (.aload_n 0, 1) := by decide +kernel
theorem dX2_readDays_127 : decode cX2_readDays 127 = .ok (.getfield 18, 3) := by decide +kernel
theorem dX2_readDays_130 : decode cX2_readDays 130 = .ok (.bipush 6, 2) := by decide +kernel
theorem dX2_readDays_132 : decode cX2_readDays 132 = .ok (.iaload, 1) := by decide +kernel
theorem dX2_readDays_133 : decode cX2_readDays 133 = .ok (.sipush 399, 3) := by decide +kernel
theorem dX2_readDays_136 : decode cX2_readDays 136 = .ok (.invokevirtual 142, 3) := by decide +kernel
theorem dX2_readDays_139 : decode cX2_readDays 139 = .ok (.iastore, 1) := by decide +kernel
theorem dX2_readDays_140 : decode cX2_readDays 140 = .ok (.aload_n 0, 1) := by decide +kernel
theorem dX2_readDays_141 : decode cX2_readDays 141 = .ok (.getfield 18, 3) := by decide +kernel
theorem dX2_readDays_144 : decode cX2_readDays 144 = .ok (.bipush 7, 2) := by decide +kernel
theorem dX2_readDays_146 : decode cX2_readDays 146 = .ok (.iaload, 1) := by decide +kernel
theorem dX2_readDays_147 : decode cX2_readDays 147 = .ok (.iconst (-1), 1) := by decide +kernel
theorem dX2_readDays_148 : decode cX2_readDays 148 = .ok (.if_icmp .eq 7, 3) := by decide +kernel
theorem dX2_readDays_151 : decode cX2_readDays 151 = .ok (.iconst 1, 1) := by decide +kernel
theorem dX2_readDays_152 : decode cX2_readDays 152 = .ok (.goto 4, 3) := by decide +kernel
theorem dX2_readDays_155 : decode cX2_readDays 155 = .ok (.iconst 0, 1) := by decide +kernel
theorem dX2_readDays_156 : decode cX2_readDays 156 = .ok (.ireturn, 1) := by decide +kernel
def m_X2_readDays_93  (Q : Int32 → Hp → Prop) (v2 : Int32) (h : Hp) : Prop := (v2 = 0 → m_X10_takeWord 6 h (fun (x1 : Int32) (h2 : Hp) => (¬ x1 = 0 → vp_in 6 8 ∧ (m_X10_takeNumber (hI h2 7 (ix 6)) 399 h2 (fun (x3 : Int32) (h4 : Hp) => vp_in 7 8 ∧ (vp_in 7 8 ∧ (((hI (wI h4 7 (ix 7) x3) 7 (ix 7)) = (-1) → Q 0 (wI h4 7 (ix 7) x3)) ∧ (¬ (hI (wI h4 7 (ix 7) x3) 7 (ix 7)) = (-1) → Q 1 (wI h4 7 (ix 7) x3))))))) ∧ (x1 = 0 → Q 0 h2))) ∧ (¬ v2 = 0 → m_X10_takeWord 5 h (fun (x5 : Int32) (h6 : Hp) => (¬ x5 = 0 → vp_in 6 8 ∧ (m_X10_takeNumber (hI h6 7 (ix 6)) 399 h6 (fun (x7 : Int32) (h8 : Hp) => vp_in 7 8 ∧ (vp_in 7 8 ∧ (((hI (wI h8 7 (ix 7) x7) 7 (ix 7)) = (-1) → Q 0 (wI h8 7 (ix 7) x7)) ∧ (¬ (hI (wI h8 7 (ix 7) x7) 7 (ix 7)) = (-1) → Q 1 (wI h8 7 (ix 7) x7))))))) ∧ (x5 = 0 → Q 0 h6)))
set_option maxHeartbeats 4000000 in
set_option maxRecDepth 100000 in
theorem s_X2_readDays_93 {l : Launch} {G : Cx} {d : Nat} {h0 : Hp} (hd : 16 ≤ d) {Q : Int32 → Hp → Prop} {v2 : Int32} {h : Hp} (hm : m_X2_readDays_93 Q v2 h) : Rn l G d 0 0 MX2_readDays h0 (qI Q) 93 [some (tR 2 0 (some 4)), none, some (tI v2)] [] h 0 0 := by
  unfold m_X2_readDays_93 at hm
  refine r_aload_n dX2_readDays_93 rfl rfl ?_
  refine r_getC (k := 0) cl_2 dX2_readDays_94 t_85 gf_2_0.1 gf_2_0.2 (gc_2_0 _) ?_
  refine r_iload_n dX2_readDays_97 rfl rfl ?_
  refine r_if_eq (tgt := 106) dX2_readDays_98 rfl (fun hc => ?_) (fun hc => ?_)
  · replace hm := hm.1 hc
    refine r_ldcS (i := 6) (tx := "back ") dX2_readDays_106 (by decide) (by decide) ?_
    refine r_callVI (d' := d - 1) (as := [tS 6]) (st := []) cl_10 dX2_readDays_108 mi_X10_takeWord t_626 t_627 t_628 rfl rfl (Nat.le_of_ble_eq_true rfl) (by omega) ⟨by decide, by decide⟩ ⟨rfl, rfl⟩ (s_X10_takeWord (by omega) (by decide) hm) (fun x1 h2 hm => ?_)
    refine r_if_ne (tgt := 116) dX2_readDays_111 rfl (fun hc => ?_) (fun hc => ?_)
    · replace hm := hm.1 hc
      refine r_aload_n dX2_readDays_116 rfl rfl ?_
      refine r_getC (k := 2) cl_2 dX2_readDays_117 t_87 gf_2_2.1 gf_2_2.2 (gc_2_2 _) ?_
      refine r_bipush (v := 7) dX2_readDays_120 rfl ?_
      refine r_aload_n dX2_readDays_122 rfl rfl ?_
      refine r_getC (k := 0) cl_2 dX2_readDays_123 t_85 gf_2_0.1 gf_2_0.2 (gc_2_0 _) ?_
      refine r_aload_n dX2_readDays_126 rfl rfl ?_
      refine r_getC (k := 2) cl_2 dX2_readDays_127 t_87 gf_2_2.1 gf_2_2.2 (gc_2_2 _) ?_
      refine r_bipush (v := 6) dX2_readDays_130 rfl ?_
      refine r_iald dX2_readDays_132 hm.1 ?_
      replace hm := hm.2
      refine r_sipush (v := 399) dX2_readDays_133 rfl ?_
      refine r_callVI (d' := d - 1) (as := [tI (hI h2 7 (ix 6)), tI 399]) (st := [tI 7, tR 40 8 (some 7)]) cl_10 dX2_readDays_136 mi_X10_takeNumber t_617 t_618 t_619 rfl rfl (Nat.le_of_ble_eq_true rfl) (by omega) ⟨by decide, by decide⟩ ⟨rfl, rfl⟩ (s_X10_takeNumber (by omega) hm) (fun x3 h4 hm => ?_)
      refine r_iast dX2_readDays_139 hm.1 ?_
      replace hm := hm.2
      refine r_aload_n dX2_readDays_140 rfl rfl ?_
      refine r_getC (k := 2) cl_2 dX2_readDays_141 t_87 gf_2_2.1 gf_2_2.2 (gc_2_2 _) ?_
      refine r_bipush (v := 7) dX2_readDays_144 rfl ?_
      refine r_iald dX2_readDays_146 hm.1 ?_
      replace hm := hm.2
      refine r_iconst (v := (-1)) dX2_readDays_147 rfl ?_
      refine r_icmp_eq (tgt := 155) dX2_readDays_148 rfl (fun hc => ?_) (fun hc => ?_)
      · replace hm := hm.1 hc
        refine r_iconst (v := 0) dX2_readDays_155 rfl ?_
        exact r_bret dX2_readDays_156 rfl ⟨by decide, by decide⟩ (by unfold bz; decide) ⟨_, rfl, hm⟩
      · replace hm := hm.2 hc
        refine r_iconst (v := 1) dX2_readDays_151 rfl ?_
        refine r_goto (tgt := 156) dX2_readDays_152 rfl ?_
        exact r_bret dX2_readDays_156 rfl ⟨by decide, by decide⟩ (by unfold bz; decide) ⟨_, rfl, hm⟩
    · replace hm := hm.2 hc
      refine r_iconst (v := 0) dX2_readDays_114 rfl ?_
      exact r_bret dX2_readDays_115 rfl ⟨by decide, by decide⟩ (by unfold bz; decide) ⟨_, rfl, hm⟩
  · replace hm := hm.2 hc
    refine r_ldcS (i := 5) (tx := "paid ") dX2_readDays_101 (by decide) (by decide) ?_
    refine r_goto (tgt := 108) dX2_readDays_103 rfl ?_
    refine r_callVI (d' := d - 1) (as := [tS 5]) (st := []) cl_10 dX2_readDays_108 mi_X10_takeWord t_626 t_627 t_628 rfl rfl (Nat.le_of_ble_eq_true rfl) (by omega) ⟨by decide, by decide⟩ ⟨rfl, rfl⟩ (s_X10_takeWord (by omega) (by decide) hm) (fun x5 h6 hm => ?_)
    refine r_if_ne (tgt := 116) dX2_readDays_111 rfl (fun hc => ?_) (fun hc => ?_)
    · replace hm := hm.1 hc
      refine r_aload_n dX2_readDays_116 rfl rfl ?_
      refine r_getC (k := 2) cl_2 dX2_readDays_117 t_87 gf_2_2.1 gf_2_2.2 (gc_2_2 _) ?_
      refine r_bipush (v := 7) dX2_readDays_120 rfl ?_
      refine r_aload_n dX2_readDays_122 rfl rfl ?_
      refine r_getC (k := 0) cl_2 dX2_readDays_123 t_85 gf_2_0.1 gf_2_0.2 (gc_2_0 _) ?_
      refine r_aload_n dX2_readDays_126 rfl rfl ?_
      refine r_getC (k := 2) cl_2 dX2_readDays_127 t_87 gf_2_2.1 gf_2_2.2 (gc_2_2 _) ?_
      refine r_bipush (v := 6) dX2_readDays_130 rfl ?_
      refine r_iald dX2_readDays_132 hm.1 ?_
      replace hm := hm.2
      refine r_sipush (v := 399) dX2_readDays_133 rfl ?_
      refine r_callVI (d' := d - 1) (as := [tI (hI h6 7 (ix 6)), tI 399]) (st := [tI 7, tR 40 8 (some 7)]) cl_10 dX2_readDays_136 mi_X10_takeNumber t_617 t_618 t_619 rfl rfl (Nat.le_of_ble_eq_true rfl) (by omega) ⟨by decide, by decide⟩ ⟨rfl, rfl⟩ (s_X10_takeNumber (by omega) hm) (fun x7 h8 hm => ?_)
      refine r_iast dX2_readDays_139 hm.1 ?_
      replace hm := hm.2
      refine r_aload_n dX2_readDays_140 rfl rfl ?_
      refine r_getC (k := 2) cl_2 dX2_readDays_141 t_87 gf_2_2.1 gf_2_2.2 (gc_2_2 _) ?_
      refine r_bipush (v := 7) dX2_readDays_144 rfl ?_
      refine r_iald dX2_readDays_146 hm.1 ?_
      replace hm := hm.2
      refine r_iconst (v := (-1)) dX2_readDays_147 rfl ?_
      refine r_icmp_eq (tgt := 155) dX2_readDays_148 rfl (fun hc => ?_) (fun hc => ?_)
      · replace hm := hm.1 hc
        refine r_iconst (v := 0) dX2_readDays_155 rfl ?_
        exact r_bret dX2_readDays_156 rfl ⟨by decide, by decide⟩ (by unfold bz; decide) ⟨_, rfl, hm⟩
      · replace hm := hm.2 hc
        refine r_iconst (v := 1) dX2_readDays_151 rfl ?_
        refine r_goto (tgt := 156) dX2_readDays_152 rfl ?_
        exact r_bret dX2_readDays_156 rfl ⟨by decide, by decide⟩ (by unfold bz; decide) ⟨_, rfl, hm⟩
    · replace hm := hm.2 hc
      refine r_iconst (v := 0) dX2_readDays_114 rfl ?_
      exact r_bret dX2_readDays_115 rfl ⟨by decide, by decide⟩ (by unfold bz; decide) ⟨_, rfl, hm⟩
def m_X2_readDays_81  (Q : Int32 → Hp → Prop) (v1 : Int32) (s0 : Int32) (h : Hp) : Prop := (v1 = 3 → m_X2_readDays_93 Q s0 h) ∧ (¬ v1 = 3 → (¬ s0 = 0 → m_X2_readDays_93 Q s0 h) ∧ (s0 = 0 → Q 1 h))
set_option maxHeartbeats 4000000 in
set_option maxRecDepth 100000 in
theorem s_X2_readDays_81 {l : Launch} {G : Cx} {d : Nat} {h0 : Hp} (hd : 16 ≤ d) {Q : Int32 → Hp → Prop} {v1 : Int32} {s0 : Int32} {h : Hp} (hm : m_X2_readDays_81 Q v1 s0 h) : Rn l G d 0 0 MX2_readDays h0 (qI Q) 81 [some (tR 2 0 (some 4)), some (tI v1)] [tI s0] h 0 0 := by
  unfold m_X2_readDays_81 at hm
  refine r_istore_n (L' := [some (tR 2 0 (some 4)), some (tI v1), some (tI s0)]) dX2_readDays_81 rfl (by decide) rfl ?_
  refine r_iload_n dX2_readDays_82 rfl rfl ?_
  refine r_iconst (v := 3) dX2_readDays_83 rfl ?_
  refine r_icmp_eq (tgt := 93) dX2_readDays_84 rfl (fun hc => ?_) (fun hc => ?_)
  · replace hm := hm.1 hc
    refine r_keep (L' := [some (tR 2 0 (some 4)), none, some (tI s0)]) [true, false, true] rfl ?_
    exact s_X2_readDays_93 hd hm
  · replace hm := hm.2 hc
    refine r_iload_n dX2_readDays_87 rfl rfl ?_
    refine r_if_ne (tgt := 93) dX2_readDays_88 rfl (fun hc => ?_) (fun hc => ?_)
    · replace hm := hm.1 hc
      refine r_keep (L' := [some (tR 2 0 (some 4)), none, some (tI s0)]) [true, false, true] rfl ?_
      exact s_X2_readDays_93 hd hm
    · replace hm := hm.2 hc
      refine r_iconst (v := 1) dX2_readDays_91 rfl ?_
      exact r_bret dX2_readDays_92 rfl ⟨by decide, by decide⟩ (by unfold bz; decide) ⟨_, rfl, hm⟩
def m_X2_readDays_80  (Q : Int32 → Hp → Prop) (v1 : Int32) (h : Hp) : Prop := m_X2_readDays_81 Q v1 0 h
set_option maxHeartbeats 4000000 in
set_option maxRecDepth 100000 in
theorem s_X2_readDays_80 {l : Launch} {G : Cx} {d : Nat} {h0 : Hp} (hd : 16 ≤ d) {Q : Int32 → Hp → Prop} {v1 : Int32} {h : Hp} (hm : m_X2_readDays_80 Q v1 h) : Rn l G d 0 0 MX2_readDays h0 (qI Q) 80 [some (tR 2 0 (some 4)), some (tI v1)] [] h 0 0 := by
  unfold m_X2_readDays_80 at hm
  refine r_iconst (v := 0) dX2_readDays_80 rfl ?_
  refine r_keep (L' := [some (tR 2 0 (some 4)), some (tI v1)]) [true, true] rfl ?_
  exact s_X2_readDays_81 hd hm
def m_X2_readDays (v1 : Int32) (h : Hp) (Q : Int32 → Hp → Prop) : Prop := m_X10_takeWord 4 h (fun (x9 : Int32) (h10 : Hp) => (¬ x9 = 0 → m_X10_takeNumber 0 399 h10 (fun (x11 : Int32) (h12 : Hp) => vp_in 6 8 ∧ (vp_in 6 8 ∧ (vp_in 7 8 ∧ (vp_in 6 8 ∧ ((¬ (hI (wI (wI h12 7 (ix 6) x11) 7 (ix 7) (hI (wI h12 7 (ix 6) x11) 7 (ix 6))) 7 (ix 6)) = (-1) → (¬ v1 = 2 → m_X2_readDays_80 Q v1 (wI (wI h12 7 (ix 6) x11) 7 (ix 7) (hI (wI h12 7 (ix 6) x11) 7 (ix 6)))) ∧ (v1 = 2 → m_X10_isWord 5 (wI (wI h12 7 (ix 6) x11) 7 (ix 7) (hI (wI h12 7 (ix 6) x11) 7 (ix 6))) (fun (x13 : Int32) (h14 : Hp) => (x13 = 0 → m_X2_readDays_80 Q v1 h14) ∧ (¬ x13 = 0 → m_X2_readDays_81 Q v1 1 h14)))) ∧ ((hI (wI (wI h12 7 (ix 6) x11) 7 (ix 7) (hI (wI h12 7 (ix 6) x11) 7 (ix 6))) 7 (ix 6)) = (-1) → Q 0 (wI (wI h12 7 (ix 6) x11) 7 (ix 7) (hI (wI h12 7 (ix 6) x11) 7 (ix 6)))))))))) ∧ (x9 = 0 → Q 0 h10))
set_option maxHeartbeats 4000000 in
set_option maxRecDepth 100000 in
theorem s_X2_readDays {l : Launch} {G : Cx} {d : Nat} (hd : 16 ≤ d) {v1 : Int32} {h : Hp} {Q : Int32 → Hp → Prop} (hm : m_X2_readDays v1 h Q) : Ct l G d 0 0 yX2_readDays MX2_readDays [tR 2 0 (some 4), tI v1] h (qI Q) := by
  unfold m_X2_readDays at hm
  refine Ct.of (L := [some (tR 2 0 (some 4)), some (tI v1)]) (by decide) rfl rfl (Nat.le_of_ble_eq_true rfl) rfl ?_
  refine r_aload_n dX2_readDays_0 rfl rfl ?_
  refine r_getC (k := 0) cl_2 dX2_readDays_1 t_85 gf_2_0.1 gf_2_0.2 (gc_2_0 _) ?_
  refine r_ldcS (i := 4) (tx := "at ") dX2_readDays_4 (by decide) (by decide) ?_
  refine r_callVI (d' := d - 1) (as := [tS 4]) (st := []) cl_10 dX2_readDays_6 mi_X10_takeWord t_626 t_627 t_628 rfl rfl (Nat.le_of_ble_eq_true rfl) (by omega) ⟨by decide, by decide⟩ ⟨rfl, rfl⟩ (s_X10_takeWord (by omega) (by decide) hm) (fun x9 h10 hm => ?_)
  refine r_if_ne (tgt := 14) dX2_readDays_9 rfl (fun hc => ?_) (fun hc => ?_)
  · replace hm := hm.1 hc
    refine r_aload_n dX2_readDays_14 rfl rfl ?_
    refine r_getC (k := 2) cl_2 dX2_readDays_15 t_87 gf_2_2.1 gf_2_2.2 (gc_2_2 _) ?_
    refine r_bipush (v := 6) dX2_readDays_18 rfl ?_
    refine r_aload_n dX2_readDays_20 rfl rfl ?_
    refine r_getC (k := 0) cl_2 dX2_readDays_21 t_85 gf_2_0.1 gf_2_0.2 (gc_2_0 _) ?_
    refine r_iconst (v := 0) dX2_readDays_24 rfl ?_
    refine r_sipush (v := 399) dX2_readDays_25 rfl ?_
    refine r_callVI (d' := d - 1) (as := [tI 0, tI 399]) (st := [tI 6, tR 40 8 (some 7)]) cl_10 dX2_readDays_28 mi_X10_takeNumber t_617 t_618 t_619 rfl rfl (Nat.le_of_ble_eq_true rfl) (by omega) ⟨by decide, by decide⟩ ⟨rfl, rfl⟩ (s_X10_takeNumber (by omega) hm) (fun x11 h12 hm => ?_)
    refine r_iast dX2_readDays_31 hm.1 ?_
    replace hm := hm.2
    refine r_aload_n dX2_readDays_32 rfl rfl ?_
    refine r_getC (k := 2) cl_2 dX2_readDays_33 t_87 gf_2_2.1 gf_2_2.2 (gc_2_2 _) ?_
    refine r_bipush (v := 7) dX2_readDays_36 rfl ?_
    refine r_aload_n dX2_readDays_38 rfl rfl ?_
    refine r_getC (k := 2) cl_2 dX2_readDays_39 t_87 gf_2_2.1 gf_2_2.2 (gc_2_2 _) ?_
    refine r_bipush (v := 6) dX2_readDays_42 rfl ?_
    refine r_iald dX2_readDays_44 hm.1 ?_
    replace hm := hm.2
    refine r_iast dX2_readDays_45 hm.1 ?_
    replace hm := hm.2
    refine r_aload_n dX2_readDays_46 rfl rfl ?_
    refine r_getC (k := 2) cl_2 dX2_readDays_47 t_87 gf_2_2.1 gf_2_2.2 (gc_2_2 _) ?_
    refine r_bipush (v := 6) dX2_readDays_50 rfl ?_
    refine r_iald dX2_readDays_52 hm.1 ?_
    replace hm := hm.2
    refine r_iconst (v := (-1)) dX2_readDays_53 rfl ?_
    refine r_icmp_ne (tgt := 59) dX2_readDays_54 rfl (fun hc => ?_) (fun hc => ?_)
    · replace hm := hm.1 hc
      refine r_iload_n dX2_readDays_59 rfl rfl ?_
      refine r_iconst (v := 2) dX2_readDays_60 rfl ?_
      refine r_icmp_ne (tgt := 80) dX2_readDays_61 rfl (fun hc => ?_) (fun hc => ?_)
      · replace hm := hm.1 hc
        refine r_keep (L' := [some (tR 2 0 (some 4)), some (tI v1)]) [true, true] rfl ?_
        exact s_X2_readDays_80 hd hm
      · replace hm := hm.2 hc
        refine r_aload_n dX2_readDays_64 rfl rfl ?_
        refine r_getC (k := 0) cl_2 dX2_readDays_65 t_85 gf_2_0.1 gf_2_0.2 (gc_2_0 _) ?_
        refine r_ldcS (i := 5) (tx := "paid ") dX2_readDays_68 (by decide) (by decide) ?_
        refine r_callVI (d' := d - 1) (as := [tS 5]) (st := []) cl_10 dX2_readDays_70 mi_X10_isWord t_640 t_631 t_632 rfl rfl (Nat.le_of_ble_eq_true rfl) (by omega) ⟨by decide, by decide⟩ ⟨rfl, rfl⟩ (s_X10_isWord (by omega) (by decide) hm) (fun x13 h14 hm => ?_)
        refine r_if_eq (tgt := 80) dX2_readDays_73 rfl (fun hc => ?_) (fun hc => ?_)
        · replace hm := hm.1 hc
          refine r_keep (L' := [some (tR 2 0 (some 4)), some (tI v1)]) [true, true] rfl ?_
          exact s_X2_readDays_80 hd hm
        · replace hm := hm.2 hc
          refine r_iconst (v := 1) dX2_readDays_76 rfl ?_
          refine r_goto (tgt := 81) dX2_readDays_77 rfl ?_
          refine r_keep (L' := [some (tR 2 0 (some 4)), some (tI v1)]) [true, true] rfl ?_
          exact s_X2_readDays_81 hd hm
    · replace hm := hm.2 hc
      refine r_iconst (v := 0) dX2_readDays_57 rfl ?_
      exact r_bret dX2_readDays_58 rfl ⟨by decide, by decide⟩ (by unfold bz; decide) ⟨_, rfl, hm⟩
  · replace hm := hm.2 hc
    refine r_iconst (v := 0) dX2_readDays_12 rfl ?_
    exact r_bret dX2_readDays_13 rfl ⟨by decide, by decide⟩ (by unfold bz; decide) ⟨_, rfl, hm⟩
theorem dX8_hasRoom_0 : decode cX8_hasRoom 0 = .ok (.aload_n 0, 1) := rfl
theorem dX8_hasRoom_1 : decode cX8_hasRoom 1 = .ok (.getfield 19, 3) := rfl
theorem dX8_hasRoom_4 : decode cX8_hasRoom 4 = .ok (.iload_n 1, 1) := rfl
theorem dX8_hasRoom_5 : decode cX8_hasRoom 5 = .ok (.iadd, 1) := rfl
theorem dX8_hasRoom_6 : decode cX8_hasRoom 6 = .ok (.sipush 512, 3) := by decide +kernel
theorem dX8_hasRoom_9 : decode cX8_hasRoom 9 = .ok (.if_icmp .gt 7, 3) := by decide +kernel
theorem dX8_hasRoom_12 : decode cX8_hasRoom 12 = .ok (.iconst 1, 1) := rfl
theorem dX8_hasRoom_13 : decode cX8_hasRoom 13 = .ok (.goto 4, 3) := by decide +kernel
theorem dX8_hasRoom_16 : decode cX8_hasRoom 16 = .ok (.iconst 0, 1) := rfl
theorem dX8_hasRoom_17 : decode cX8_hasRoom 17 = .ok (.ireturn, 1) := rfl
def m_X8_hasRoom (v1 : Int32) (h : Hp) (Q : Int32 → Hp → Prop) : Prop := (512 < ((hI h 5 2) + v1) → Q 0 h) ∧ (¬ 512 < ((hI h 5 2) + v1) → Q 1 h)
set_option maxHeartbeats 4000000 in
set_option maxRecDepth 100000 in
theorem s_X8_hasRoom {l : Launch} {G : Cx} {d : Nat} (hd : 2 ≤ d) {v1 : Int32} {h : Hp} {Q : Int32 → Hp → Prop} (hm : m_X8_hasRoom v1 h Q) : Ct l G d 0 0 yX8_hasRoom MX8_hasRoom [tR 8 0 (some 5), tI v1] h (qI Q) := by
  unfold m_X8_hasRoom at hm
  refine Ct.of (L := [some (tR 8 0 (some 5)), some (tI v1)]) (by decide) rfl rfl (Nat.le_of_ble_eq_true rfl) rfl ?_
  refine r_aload_n dX8_hasRoom_0 rfl rfl ?_
  refine r_getI (k := 2) cl_8 dX8_hasRoom_1 t_77 (Or.inl rfl) gf_8_2 ?_
  refine r_iload_n dX8_hasRoom_4 rfl rfl ?_
  refine r_iadd dX8_hasRoom_5 ?_
  refine r_sipush (v := 512) dX8_hasRoom_6 rfl ?_
  refine r_icmp_gt (tgt := 16) dX8_hasRoom_9 rfl (fun hc => ?_) (fun hc => ?_)
  · replace hm := hm.1 hc
    refine r_iconst (v := 0) dX8_hasRoom_16 rfl ?_
    exact r_bret dX8_hasRoom_17 rfl ⟨by decide, by decide⟩ (by unfold bz; decide) ⟨_, rfl, hm⟩
  · replace hm := hm.2 hc
    refine r_iconst (v := 1) dX8_hasRoom_12 rfl ?_
    refine r_goto (tgt := 17) dX8_hasRoom_13 rfl ?_
    exact r_bret dX8_hasRoom_17 rfl ⟨by decide, by decide⟩ (by unfold bz; decide) ⟨_, rfl, hm⟩
theorem dX8_putLeaf_0 : decode cX8_putLeaf 0 = .ok (.aload_n 0, 1) := rfl
theorem dX8_putLeaf_1 : decode cX8_putLeaf 1 = .ok (.bipush 9, 2) := by decide +kernel
theorem dX8_putLeaf_3 : decode cX8_putLeaf 3 = .ok (.invokevirtual 22, 3) := rfl
theorem dX8_putLeaf_6 : decode cX8_putLeaf 6 = .ok (.ifCond .eq 42, 3) := by decide +kernel
theorem dX8_putLeaf_9 : decode cX8_putLeaf 9 = .ok (.aload_n 0, 1) := rfl
theorem dX8_putLeaf_10 : decode cX8_putLeaf 10 = .ok (.getfield 11, 3) := rfl
theorem dX8_putLeaf_13 : decode cX8_putLeaf 13 = .ok (.aload_n 0, 1) := rfl
theorem dX8_putLeaf_14 : decode cX8_putLeaf 14 = .ok (.getfield 19, 3) := rfl
theorem dX8_putLeaf_17 : decode cX8_putLeaf 17 = .ok (.bipush (-2), 2) := by decide +kernel
theorem dX8_putLeaf_19 : decode cX8_putLeaf 19 = .ok (.iastore, 1) := rfl
theorem dX8_putLeaf_20 : decode cX8_putLeaf 20 = .ok (.aload_n 1, 1) := rfl
theorem dX8_putLeaf_21 : decode cX8_putLeaf 21 = .ok (.iconst 0, 1) := rfl
theorem dX8_putLeaf_22 : decode cX8_putLeaf 22 = .ok (.aload_n 0, 1) := rfl
theorem dX8_putLeaf_23 : decode cX8_putLeaf 23 = .ok (.getfield 11, 3) := rfl
theorem dX8_putLeaf_26 : decode cX8_putLeaf 26 = .ok (.aload_n 0, 1) := rfl
theorem dX8_putLeaf_27 : decode cX8_putLeaf 27 = .ok (.getfield 19, 3) := rfl
theorem dX8_putLeaf_30 : decode cX8_putLeaf 30 = .ok (.iconst 1, 1) := rfl
theorem dX8_putLeaf_31 : decode cX8_putLeaf 31 = .ok (.iadd, 1) := rfl
theorem dX8_putLeaf_32 : decode cX8_putLeaf 32 = .ok (.bipush 8, 2) := by decide +kernel
theorem dX8_putLeaf_34 : decode cX8_putLeaf 34 = .ok (.invokestatic 26, 3) := rfl
theorem dX8_putLeaf_37 : decode cX8_putLeaf 37 = .ok (.aload_n 0, 1) := rfl
theorem dX8_putLeaf_38 : decode cX8_putLeaf 38 = .ok (.dup, 1) := rfl
theorem dX8_putLeaf_39 : decode cX8_putLeaf 39 = .ok (.getfield 19, 3) := rfl
theorem dX8_putLeaf_42 : decode cX8_putLeaf 42 = .ok (.bipush 9, 2) := by decide +kernel
theorem dX8_putLeaf_44 : decode cX8_putLeaf 44 = .ok (.iadd, 1) := rfl
theorem dX8_putLeaf_45 : decode cX8_putLeaf 45 = .ok (.putfield 19, 3) := rfl
theorem dX8_putLeaf_48 : decode cX8_putLeaf 48 = .ok (.return_, 1) := rfl
def m_X8_putLeaf (v1 : Nat) (v1n : Nat) (h : Hp) (Q : Hp → Prop) : Prop := m_X8_hasRoom 9 h (fun (x1 : Int32) (h2 : Hp) => (x1 = 0 → Q h2) ∧ (¬ x1 = 0 → vp_in (hI h2 5 2) 512 ∧ (¬ (0 : Int32) < 0 ∧ ¬ ((hI (wI h2 6 (ix (hI h2 5 2)) (-2)) 5 2) + 1) < 0 ∧ ¬ (8 : Int32) < 0 ∧ ix (0 : Int32) + ix (8 : Int32) ≤ v1n ∧ ix ((hI (wI h2 6 (ix (hI h2 5 2)) (-2)) 5 2) + 1) + ix (8 : Int32) ≤ 512 ∧ (Q (wI (cpI (wI h2 6 (ix (hI h2 5 2)) (-2)) v1 (ix (0 : Int32)) 6 (ix ((hI (wI h2 6 (ix (hI h2 5 2)) (-2)) 5 2) + 1)) (ix (8 : Int32))) 5 2 ((hI (cpI (wI h2 6 (ix (hI h2 5 2)) (-2)) v1 (ix (0 : Int32)) 6 (ix ((hI (wI h2 6 (ix (hI h2 5 2)) (-2)) 5 2) + 1)) (ix (8 : Int32))) 5 2) + 9))))))
set_option maxHeartbeats 4000000 in
set_option maxRecDepth 100000 in
theorem s_X8_putLeaf {l : Launch} {G : Cx} {d : Nat} (hd : 4 ≤ d) {v1 : Nat} {v1n : Nat} {h : Hp} {Q : Hp → Prop} (hm : m_X8_putLeaf v1 v1n h Q) : Ct l G d 0 0 yX8_putLeaf MX8_putLeaf [tR 8 0 (some 5), tR 40 v1n (some v1)] h (qV Q) := by
  unfold m_X8_putLeaf at hm
  refine Ct.of (L := [some (tR 8 0 (some 5)), some (tR 40 v1n (some v1))]) (by decide) rfl rfl (Nat.le_of_ble_eq_true rfl) rfl ?_
  refine r_aload_n dX8_putLeaf_0 rfl rfl ?_
  refine r_bipush (v := 9) dX8_putLeaf_1 rfl ?_
  refine r_callVI (d' := d - 1) (as := [tI 9]) (st := []) cl_8 dX8_putLeaf_3 mi_X8_hasRoom t_646 t_648 ts_8 rfl rfl (Nat.le_of_ble_eq_true rfl) (by omega) ⟨by decide, by decide⟩ ⟨rfl, rfl⟩ (s_X8_hasRoom (by omega) hm) (fun x1 h2 hm => ?_)
  refine r_if_eq (tgt := 48) dX8_putLeaf_6 rfl (fun hc => ?_) (fun hc => ?_)
  · replace hm := hm.1 hc
    exact r_return dX8_putLeaf_48 rfl ⟨by decide, by decide⟩ ⟨rfl, hm⟩
  · replace hm := hm.2 hc
    refine r_aload_n dX8_putLeaf_9 rfl rfl ?_
    refine r_getC (k := 1) cl_8 dX8_putLeaf_10 t_76 gf_8_1.1 gf_8_1.2 (gc_8_1 _) ?_
    refine r_aload_n dX8_putLeaf_13 rfl rfl ?_
    refine r_getI (k := 2) cl_8 dX8_putLeaf_14 t_77 (Or.inl rfl) gf_8_2 ?_
    refine r_bipush (v := (-2)) dX8_putLeaf_17 rfl ?_
    refine r_iast dX8_putLeaf_19 hm.1 ?_
    replace hm := hm.2
    refine r_aload_n dX8_putLeaf_20 rfl rfl ?_
    refine r_iconst (v := 0) dX8_putLeaf_21 rfl ?_
    refine r_aload_n dX8_putLeaf_22 rfl rfl ?_
    refine r_getC (k := 1) cl_8 dX8_putLeaf_23 t_76 gf_8_1.1 gf_8_1.2 (gc_8_1 _) ?_
    refine r_aload_n dX8_putLeaf_26 rfl rfl ?_
    refine r_getI (k := 2) cl_8 dX8_putLeaf_27 t_77 (Or.inl rfl) gf_8_2 ?_
    refine r_iconst (v := 1) dX8_putLeaf_30 rfl ?_
    refine r_iadd dX8_putLeaf_31 ?_
    refine r_bipush (v := 8) dX8_putLeaf_32 rfl ?_
    obtain ⟨g1, g2, g3, g4, g5, hm⟩ := hm
    refine r_copy dX8_putLeaf_34 t_650 t_652 t_651 t_19 g1 g2 g3 g4 g5 (by omega) (Nat.le_of_ble_eq_true rfl) ?_
    refine r_aload_n dX8_putLeaf_37 rfl rfl ?_
    refine r_dup dX8_putLeaf_38 cv_cat1R ?_
    refine r_getI (k := 2) cl_8 dX8_putLeaf_39 t_77 (Or.inl rfl) gf_8_2 ?_
    refine r_bipush (v := 9) dX8_putLeaf_42 rfl ?_
    refine r_iadd dX8_putLeaf_44 ?_
    refine r_putI0 (k := 2) cl_8 dX8_putLeaf_45 t_77 (Or.inl rfl) gf_8_2 pf_8_2.1 (Or.inl pf_8_2.2) ?_
    exact r_return dX8_putLeaf_48 rfl ⟨by decide, by decide⟩ ⟨rfl, hm⟩
theorem dX2_readLeaf_0 : decode cX2_readLeaf 0 = .ok (.aload_n 0, 1) := by decide +kernel
theorem dX2_readLeaf_1 : decode cX2_readLeaf 1 = .ok (.getfield 26, 3) := by decide +kernel
theorem dX2_readLeaf_4 : decode cX2_readLeaf 4 = .ok (.getfield 109, 3) := by decide +kernel
theorem dX2_readLeaf_7 : decode cX2_readLeaf 7 = .ok (.bipush 12, 2) := by decide +kernel
theorem dX2_readLeaf_9 : decode cX2_readLeaf 9 = .ok (.if_icmp .lt 11, 3) := by decide +kernel
theorem dX2_readLeaf_12 : decode cX2_readLeaf 12 = .ok (.aload_n 0, 1) := by decide +kernel
theorem dX2_readLeaf_13 : decode cX2_readLeaf 13 = .ok (.getfield 22, 3) := by decide +kernel
theorem dX2_readLeaf_16 : decode cX2_readLeaf 16 = .ok (.invokevirtual 59, 3) := by decide +kernel
theorem dX2_readLeaf_19 : decode cX2_readLeaf 19 = .ok (.ireturn, 1) := by decide +kernel
theorem dX2_readLeaf_20 : decode cX2_readLeaf 20 = .ok (.aload_n 0, 1) := by decide +kernel
theorem dX2_readLeaf_21 : decode cX2_readLeaf 21 = .ok (.getfield 22, 3) := by decide +kernel
theorem dX2_readLeaf_24 : decode cX2_readLeaf 24 = .ok (.invokevirtual 85, 3) := by decide +kernel
theorem dX2_readLeaf_27 : decode cX2_readLeaf 27 = .ok (.aload_n 0, 1) := by decide +kernel
theorem dX2_readLeaf_28 : decode cX2_readLeaf 28 = .ok (.getfield 18, 3) := by decide +kernel
theorem dX2_readLeaf_31 : decode cX2_readLeaf 31 = .ok (.iconst 0, 1) := by decide +kernel
theorem dX2_readLeaf_32 : decode cX2_readLeaf 32 = .ok (.iload_n 1, 1) := by decide +kernel
theorem dX2_readLeaf_33 : decode cX2_readLeaf 33 = .ok (.iastore, 1) := by decide +kernel
theorem dX2_readLeaf_34 : decode cX2_readLeaf 34 = .ok (.aload_n 0, 1) := by decide +kernel
theorem dX2_readLeaf_35 : decode cX2_readLeaf 35 = .ok (.invokevirtual 112, 3) := by decide +kernel
theorem dX2_readLeaf_38 : decode cX2_readLeaf 38 = .ok (.ifCond .eq 26, 3) := by decide +kernel
theorem dX2_readLeaf_41 : decode cX2_readLeaf 41 = .ok (.aload_n 0, 1) := by decide +kernel
theorem dX2_readLeaf_42 : decode cX2_readLeaf 42 = .ok (.invokevirtual 115, 3) := by decide +kernel
theorem dX2_readLeaf_45 : decode cX2_readLeaf 45 = .ok (.ifCond .eq 19, 3) := by decide +kernel
theorem dX2_readLeaf_48 : decode cX2_readLeaf 48 = .ok (.aload_n 0, 1) := by decide +kernel
theorem dX2_readLeaf_49 : decode cX2_readLeaf 49 = .ok (.iload_n 1, 1) := by decide +kernel
theorem dX2_readLeaf_50 : decode cX2_readLeaf 50 = .ok (.invokevirtual 118, 3) := by decide +kernel
theorem dX2_readLeaf_53 : decode cX2_readLeaf 53 = .ok (.ifCond .eq 11, 3) := by decide +kernel
theorem dX2_readLeaf_56 : decode cX2_readLeaf 56 = .ok (.aload_n 0, 1) := by decide +kernel
theorem dX2_readLeaf_57 : decode cX2_readLeaf 57 = .ok (.iload_n 1, 1) := by decide +kernel
theorem dX2_readLeaf_58 : decode cX2_readLeaf 58 = .ok (.invokevirtual 121, 3) := by decide +kernel
theorem dX2_readLeaf_61 : decode cX2_readLeaf 61 = .ok (.ifCond .ne 5, 3) := by decide +kernel
theorem dX2_readLeaf_64 : decode cX2_readLeaf 64 = .ok (.iconst 0, 1) := by decide +kernel
theorem dX2_readLeaf_65 : decode cX2_readLeaf 65 = .ok (.ireturn, 1) := by decide +kernel
theorem dX2_readLeaf_66 : decode cX2_readLeaf 66 = .ok (.aload_n 0, 1) := by decide +kernel
theorem dX2_readLeaf_67 : decode cX2_readLeaf 67 = .ok (.getfield 12, 3) := by decide +kernel
theorem dX2_readLeaf_70 : decode cX2_readLeaf 70 = .ok (.aload_n 0, 1) := by decide +kernel
theorem dX2_readLeaf_71 : decode cX2_readLeaf 71 = .ok (.getfield 18, 3) := by decide +kernel
theorem dX2_readLeaf_74 : decode cX2_readLeaf 74 = .ok (.invokevirtual 124, 3) := by decide +kernel
theorem dX2_readLeaf_77 : decode cX2_readLeaf 77 = .ok (.aload_n 0, 1) := by decide +kernel
theorem dX2_readLeaf_78 : decode cX2_readLeaf 78 = .ok (.getfield 26, 3) := by decide +kernel
theorem dX2_readLeaf_81 : decode cX2_readLeaf 81 = .ok (.aload_n 0, 1) := by decide +kernel
theorem dX2_readLeaf_82 : decode cX2_readLeaf 82 = .ok (.getfield 18, 3) := by decide +kernel
theorem dX2_readLeaf_85 : decode cX2_readLeaf 85 = .ok (.aload_n 0, 1) := by decide +kernel
theorem dX2_readLeaf_86 : decode cX2_readLeaf 86 = .ok (.getfield 36, 3) := by decide +kernel
theorem dX2_readLeaf_89 : decode cX2_readLeaf 89 = .ok (.invokevirtual 128, 3) := by decide +kernel
theorem dX2_readLeaf_92 : decode cX2_readLeaf 92 = .ok (.aload_n 0, 1) := by decide +kernel
theorem dX2_readLeaf_93 : decode cX2_readLeaf 93 = .ok (.getfield 26, 3) := by decide +kernel
theorem dX2_readLeaf_96 : decode cX2_readLeaf 96 = .ok (.aload_n 0, 1) := by decide +kernel
theorem dX2_readLeaf_97 : decode cX2_readLeaf 97 = .ok (.getfield 40, 3) := by decide +kernel
theorem dX2_readLeaf_100 : decode cX2_readLeaf 100 = .ok (.aload_n 0, 1) := by decide +kernel
theorem dX2_readLeaf_101 : decode cX2_readLeaf 101 = .ok (.getfield 43, 3) := by decide +kernel
theorem dX2_readLeaf_104 : decode cX2_readLeaf 104 = .ok (.aload_n 0, 1) := by decide +kernel
theorem dX2_readLeaf_105 : decode cX2_readLeaf 105 = .ok (.getfield 46, 3) := by decide +kernel
theorem dX2_readLeaf_108 : decode cX2_readLeaf 108 = .ok (.invokevirtual 131, 3) := by decide +kernel
theorem dX2_readLeaf_111 : decode cX2_readLeaf 111 = .ok (.iconst 1, 1) := by decide +kernel
theorem dX2_readLeaf_112 : decode cX2_readLeaf 112 = .ok (.ireturn, 1) := by decide +kernel
def m_X2_readLeaf (v1 : Int32) (h : Hp) (Q : Int32 → Hp → Prop) : Prop := ∃ b1 : Nat, hR h 4 3 = some b1 ∧ (((hI h b1 2) < 12 → m_X10_advance h (fun (h3 : Hp) => vp_in 0 8 ∧ (m_X2_readTwo (wI h3 7 (ix 0) v1) (fun (x4 : Int32) (h5 : Hp) => (x4 = 0 → Q 0 h5) ∧ (¬ x4 = 0 → m_X2_readSo h5 (fun (x6 : Int32) (h7 : Hp) => (x6 = 0 → Q 0 h7) ∧ (¬ x6 = 0 → m_X2_readPay v1 h7 (fun (x8 : Int32) (h9 : Hp) => (x8 = 0 → Q 0 h9) ∧ (¬ x8 = 0 → m_X2_readDays v1 h9 (fun (x10 : Int32) (h11 : Hp) => (¬ x10 = 0 → m_X8_putLeaf 7 8 h11 (fun (h13 : Hp) => ∃ b14 : Nat, hR h13 4 3 = some b14 ∧ (m_X1_putLeaf b14 7 8 (hI h13 4 4) h13 (fun (h16 : Hp) => ∃ b17 : Nat, hR h16 4 3 = some b17 ∧ (m_X1_putRows b17 (hI h16 4 5) (hI h16 4 6) (hI h16 4 7) h16 (fun (h19 : Hp) => Q 1 h19)))))) ∧ (x10 = 0 → Q 0 h11))))))))))) ∧ (¬ (hI h b1 2) < 12 → m_X10_refuse h (fun (x20 : Int32) (h21 : Hp) => bz x20 ∧ Q x20 h21)))
set_option maxHeartbeats 4000000 in
set_option maxRecDepth 100000 in
theorem s_X2_readLeaf {l : Launch} {G : Cx} {d : Nat} (hd : 18 ≤ d) {v1 : Int32} {h : Hp} {Q : Int32 → Hp → Prop} (hm : m_X2_readLeaf v1 h Q) : Ct l G d 0 0 yX2_readLeaf MX2_readLeaf [tR 2 0 (some 4), tI v1] h (qI Q) := by
  unfold m_X2_readLeaf at hm
  refine Ct.of (L := [some (tR 2 0 (some 4)), some (tI v1)]) (by decide) rfl rfl (Nat.le_of_ble_eq_true rfl) rfl ?_
  refine r_aload_n dX2_readLeaf_0 rfl rfl ?_
  obtain ⟨b1, hb_b1, hm⟩ := hm
  refine r_getRS (k := 3) cl_2 dX2_readLeaf_1 t_88 (Or.inl rfl) gf_2_3.1 gf_2_3.2 (by decide) hb_b1 ?_
  refine r_getI (k := 2) cl_1 dX2_readLeaf_4 t_443 (Or.inl rfl) gf_1_2 ?_
  refine r_bipush (v := 12) dX2_readLeaf_7 rfl ?_
  refine r_icmp_lt (tgt := 20) dX2_readLeaf_9 rfl (fun hc => ?_) (fun hc => ?_)
  · replace hm := hm.1 hc
    refine r_aload_n dX2_readLeaf_20 rfl rfl ?_
    refine r_getC (k := 0) cl_2 dX2_readLeaf_21 t_85 gf_2_0.1 gf_2_0.2 (gc_2_0 _) ?_
    refine r_callVU (d' := d - 1) (as := []) (st := []) cl_10 dX2_readLeaf_24 mi_X10_advance t_600 t_516 t_517 rfl rfl (Nat.le_of_ble_eq_true rfl) (by omega) ⟨by decide, by decide⟩ ⟨rfl, rfl⟩ (s_X10_advance (by omega) hm) (fun h3 hm => ?_)
    refine r_aload_n dX2_readLeaf_27 rfl rfl ?_
    refine r_getC (k := 2) cl_2 dX2_readLeaf_28 t_87 gf_2_2.1 gf_2_2.2 (gc_2_2 _) ?_
    refine r_iconst (v := 0) dX2_readLeaf_31 rfl ?_
    refine r_iload_n dX2_readLeaf_32 rfl rfl ?_
    refine r_iast dX2_readLeaf_33 hm.1 ?_
    replace hm := hm.2
    refine r_aload_n dX2_readLeaf_34 rfl rfl ?_
    refine r_callVI (d' := d - 1) (as := []) (st := []) cl_2 dX2_readLeaf_35 mi_X2_readTwo t_601 t_603 ts_4 rfl rfl (Nat.le_of_ble_eq_true rfl) (by omega) ⟨by decide, by decide⟩ ⟨rfl, rfl⟩ (s_X2_readTwo (by omega) hm) (fun x4 h5 hm => ?_)
    refine r_if_eq (tgt := 64) dX2_readLeaf_38 rfl (fun hc => ?_) (fun hc => ?_)
    · replace hm := hm.1 hc
      refine r_iconst (v := 0) dX2_readLeaf_64 rfl ?_
      exact r_bret dX2_readLeaf_65 rfl ⟨by decide, by decide⟩ (by unfold bz; decide) ⟨_, rfl, hm⟩
    · replace hm := hm.2 hc
      refine r_aload_n dX2_readLeaf_41 rfl rfl ?_
      refine r_callVI (d' := d - 1) (as := []) (st := []) cl_2 dX2_readLeaf_42 mi_X2_readSo t_612 t_614 ts_5 rfl rfl (Nat.le_of_ble_eq_true rfl) (by omega) ⟨by decide, by decide⟩ ⟨rfl, rfl⟩ (s_X2_readSo (by omega) hm) (fun x6 h7 hm => ?_)
      refine r_if_eq (tgt := 64) dX2_readLeaf_45 rfl (fun hc => ?_) (fun hc => ?_)
      · replace hm := hm.1 hc
        refine r_iconst (v := 0) dX2_readLeaf_64 rfl ?_
        exact r_bret dX2_readLeaf_65 rfl ⟨by decide, by decide⟩ (by unfold bz; decide) ⟨_, rfl, hm⟩
      · replace hm := hm.2 hc
        refine r_aload_n dX2_readLeaf_48 rfl rfl ?_
        refine r_iload_n dX2_readLeaf_49 rfl rfl ?_
        refine r_callVI (d' := d - 1) (as := [tI v1]) (st := []) cl_2 dX2_readLeaf_50 mi_X2_readPay t_621 t_623 ts_6 rfl rfl (Nat.le_of_ble_eq_true rfl) (by omega) ⟨by decide, by decide⟩ ⟨rfl, rfl⟩ (s_X2_readPay (by omega) hm) (fun x8 h9 hm => ?_)
        refine r_if_eq (tgt := 64) dX2_readLeaf_53 rfl (fun hc => ?_) (fun hc => ?_)
        · replace hm := hm.1 hc
          refine r_iconst (v := 0) dX2_readLeaf_64 rfl ?_
          exact r_bret dX2_readLeaf_65 rfl ⟨by decide, by decide⟩ (by unfold bz; decide) ⟨_, rfl, hm⟩
        · replace hm := hm.2 hc
          refine r_aload_n dX2_readLeaf_56 rfl rfl ?_
          refine r_iload_n dX2_readLeaf_57 rfl rfl ?_
          refine r_callVI (d' := d - 1) (as := [tI v1]) (st := []) cl_2 dX2_readLeaf_58 mi_X2_readDays t_634 t_636 ts_7 rfl rfl (Nat.le_of_ble_eq_true rfl) (by omega) ⟨by decide, by decide⟩ ⟨rfl, rfl⟩ (s_X2_readDays (by omega) hm) (fun x10 h11 hm => ?_)
          refine r_if_ne (tgt := 66) dX2_readLeaf_61 rfl (fun hc => ?_) (fun hc => ?_)
          · replace hm := hm.1 hc
            refine r_aload_n dX2_readLeaf_66 rfl rfl ?_
            refine r_getC (k := 1) cl_2 dX2_readLeaf_67 t_86 gf_2_1.1 gf_2_1.2 (gc_2_1 _) ?_
            refine r_aload_n dX2_readLeaf_70 rfl rfl ?_
            refine r_getC (k := 2) cl_2 dX2_readLeaf_71 t_87 gf_2_2.1 gf_2_2.2 (gc_2_2 _) ?_
            refine r_callVU (d' := d - 1) (as := [tR 40 8 (some 7)]) (st := []) cl_8 dX2_readLeaf_74 mi_X8_putLeaf t_642 t_643 t_644 rfl rfl (Nat.le_of_ble_eq_true rfl) (by omega) ⟨by decide, by decide⟩ ⟨rfl, rfl⟩ (s_X8_putLeaf (by omega) hm) (fun h13 hm => ?_)
            refine r_aload_n dX2_readLeaf_77 rfl rfl ?_
            obtain ⟨b14, hb_b14, hm⟩ := hm
            refine r_getRS (k := 3) cl_2 dX2_readLeaf_78 t_88 (Or.inl rfl) gf_2_3.1 gf_2_3.2 (by decide) hb_b14 ?_
            refine r_aload_n dX2_readLeaf_81 rfl rfl ?_
            refine r_getC (k := 2) cl_2 dX2_readLeaf_82 t_87 gf_2_2.1 gf_2_2.2 (gc_2_2 _) ?_
            refine r_aload_n dX2_readLeaf_85 rfl rfl ?_
            refine r_getI (k := 4) cl_2 dX2_readLeaf_86 t_89 (Or.inl rfl) gf_2_4 ?_
            refine r_callVU (d' := d - 1) (as := [tR 40 8 (some 7), tI (hI h13 4 4)]) (st := []) cl_1 dX2_readLeaf_89 mi_X1_putLeaf t_653 t_654 t_655 rfl rfl (Nat.le_of_ble_eq_true rfl) (by omega) ⟨by decide, by decide⟩ ⟨rfl, rfl⟩ (s_X1_putLeaf (by omega) hm) (fun h16 hm => ?_)
            refine r_aload_n dX2_readLeaf_92 rfl rfl ?_
            obtain ⟨b17, hb_b17, hm⟩ := hm
            refine r_getRS (k := 3) cl_2 dX2_readLeaf_93 t_88 (Or.inl rfl) gf_2_3.1 gf_2_3.2 (by decide) hb_b17 ?_
            refine r_aload_n dX2_readLeaf_96 rfl rfl ?_
            refine r_getI (k := 5) cl_2 dX2_readLeaf_97 t_90 (Or.inl rfl) gf_2_5 ?_
            refine r_aload_n dX2_readLeaf_100 rfl rfl ?_
            refine r_getI (k := 6) cl_2 dX2_readLeaf_101 t_91 (Or.inl rfl) gf_2_6 ?_
            refine r_aload_n dX2_readLeaf_104 rfl rfl ?_
            refine r_getI (k := 7) cl_2 dX2_readLeaf_105 t_92 (Or.inl rfl) gf_2_7 ?_
            refine r_callVU (d' := d - 1) (as := [tI (hI h16 4 5), tI (hI h16 4 6), tI (hI h16 4 7)]) (st := []) cl_1 dX2_readLeaf_108 mi_X1_putRows t_658 t_659 t_660 rfl rfl (Nat.le_of_ble_eq_true rfl) (by omega) ⟨by decide, by decide⟩ ⟨rfl, rfl⟩ (s_X1_putRows (by omega) hm) (fun h19 hm => ?_)
            refine r_iconst (v := 1) dX2_readLeaf_111 rfl ?_
            exact r_bret dX2_readLeaf_112 rfl ⟨by decide, by decide⟩ (by unfold bz; decide) ⟨_, rfl, hm⟩
          · replace hm := hm.2 hc
            refine r_iconst (v := 0) dX2_readLeaf_64 rfl ?_
            exact r_bret dX2_readLeaf_65 rfl ⟨by decide, by decide⟩ (by unfold bz; decide) ⟨_, rfl, hm⟩
  · replace hm := hm.2 hc
    refine r_aload_n dX2_readLeaf_12 rfl rfl ?_
    refine r_getC (k := 0) cl_2 dX2_readLeaf_13 t_85 gf_2_0.1 gf_2_0.2 (gc_2_0 _) ?_
    refine r_callVI (d' := d - 1) (as := []) (st := []) cl_10 dX2_readLeaf_16 mi_X10_refuse t_596 t_597 t_598 rfl rfl (Nat.le_of_ble_eq_true rfl) (by omega) ⟨by decide, by decide⟩ ⟨rfl, rfl⟩ (s_X10_refuse (by omega) hm) (fun x20 h21 hm => ?_)
    exact r_bret dX2_readLeaf_19 rfl ⟨by decide, by decide⟩ hm.1 ⟨_, rfl, hm.2⟩
theorem dX8_begin_0 : decode cX8_begin 0 = .ok (.aload_n 0, 1) := rfl
theorem dX8_begin_1 : decode cX8_begin 1 = .ok (.iconst 3, 1) := rfl
theorem dX8_begin_2 : decode cX8_begin 2 = .ok (.invokevirtual 22, 3) := rfl
theorem dX8_begin_5 : decode cX8_begin 5 = .ok (.ifCond .ne 5, 3) := by decide +kernel
theorem dX8_begin_8 : decode cX8_begin 8 = .ok (.iconst (-1), 1) := rfl
theorem dX8_begin_9 : decode cX8_begin 9 = .ok (.ireturn, 1) := rfl
theorem dX8_begin_10 : decode cX8_begin 10 = .ok (.aload_n 0, 1) := rfl
theorem dX8_begin_11 : decode cX8_begin 11 = .ok (.getfield 19, 3) := rfl
theorem dX8_begin_14 : decode cX8_begin 14 = .ok (.istore_n 3, 1) := rfl
theorem dX8_begin_15 : decode cX8_begin 15 = .ok (.aload_n 0, 1) := rfl
theorem dX8_begin_16 : decode cX8_begin 16 = .ok (.getfield 11, 3) := rfl
theorem dX8_begin_19 : decode cX8_begin 19 = .ok (.iload_n 3, 1) := rfl
theorem dX8_begin_20 : decode cX8_begin 20 = .ok (.iload_n 1, 1) := rfl
theorem dX8_begin_21 : decode cX8_begin 21 = .ok (.iastore, 1) := rfl
theorem dX8_begin_22 : decode cX8_begin 22 = .ok (.aload_n 0, 1) := rfl
theorem dX8_begin_23 : decode cX8_begin 23 = .ok (.getfield 11, 3) := rfl
theorem dX8_begin_26 : decode cX8_begin 26 = .ok (.iload_n 3, 1) := rfl
theorem dX8_begin_27 : decode cX8_begin 27 = .ok (.iconst 1, 1) := rfl
theorem dX8_begin_28 : decode cX8_begin 28 = .ok (.iadd, 1) := rfl
theorem dX8_begin_29 : decode cX8_begin 29 = .ok (.iload_n 2, 1) := rfl
theorem dX8_begin_30 : decode cX8_begin 30 = .ok (.iastore, 1) := rfl
theorem dX8_begin_31 : decode cX8_begin 31 = .ok (.aload_n 0, 1) := rfl
theorem dX8_begin_32 : decode cX8_begin 32 = .ok (.getfield 11, 3) := rfl
theorem dX8_begin_35 : decode cX8_begin 35 = .ok (.iload_n 3, 1) := rfl
theorem dX8_begin_36 : decode cX8_begin 36 = .ok (.iconst 2, 1) := rfl
theorem dX8_begin_37 : decode cX8_begin 37 = .ok (.iadd, 1) := rfl
theorem dX8_begin_38 : decode cX8_begin 38 = .ok (.iconst 0, 1) := rfl
theorem dX8_begin_39 : decode cX8_begin 39 = .ok (.iastore, 1) := rfl
theorem dX8_begin_40 : decode cX8_begin 40 = .ok (.aload_n 0, 1) := rfl
theorem dX8_begin_41 : decode cX8_begin 41 = .ok (.dup, 1) := rfl
theorem dX8_begin_42 : decode cX8_begin 42 = .ok (.getfield 19, 3) := rfl
theorem dX8_begin_45 : decode cX8_begin 45 = .ok (.iconst 3, 1) := rfl
theorem dX8_begin_46 : decode cX8_begin 46 = .ok (.iadd, 1) := rfl
theorem dX8_begin_47 : decode cX8_begin 47 = .ok (.putfield 19, 3) := rfl
theorem dX8_begin_50 : decode cX8_begin 50 = .ok (.iload_n 3, 1) := rfl
theorem dX8_begin_51 : decode cX8_begin 51 = .ok (.ireturn, 1) := rfl
def m_X8_begin (v1 : Int32) (v2 : Int32) (h : Hp) (Q : Int32 → Hp → Prop) : Prop := m_X8_hasRoom 3 h (fun (x1 : Int32) (h2 : Hp) => (¬ x1 = 0 → ∀ x3 : Int32, x3 = (hI h2 5 2) → vp_in x3 512 ∧ (vp_in (x3 + 1) 512 ∧ (vp_in (x3 + 2) 512 ∧ (Q x3 (wI (wI (wI (wI h2 6 (ix x3) v1) 6 (ix (x3 + 1)) v2) 6 (ix (x3 + 2)) 0) 5 2 ((hI (wI (wI (wI h2 6 (ix x3) v1) 6 (ix (x3 + 1)) v2) 6 (ix (x3 + 2)) 0) 5 2) + 3)))))) ∧ (x1 = 0 → Q (-1) h2))
set_option maxHeartbeats 4000000 in
set_option maxRecDepth 100000 in
theorem s_X8_begin {l : Launch} {G : Cx} {d : Nat} (hd : 4 ≤ d) {v1 : Int32} {v2 : Int32} {h : Hp} {Q : Int32 → Hp → Prop} (hm : m_X8_begin v1 v2 h Q) : Ct l G d 0 0 yX8_begin MX8_begin [tR 8 0 (some 5), tI v1, tI v2] h (qI Q) := by
  unfold m_X8_begin at hm
  refine Ct.of (L := [some (tR 8 0 (some 5)), some (tI v1), some (tI v2)]) (by decide) rfl rfl (Nat.le_of_ble_eq_true rfl) rfl ?_
  refine r_aload_n dX8_begin_0 rfl rfl ?_
  refine r_iconst (v := 3) dX8_begin_1 rfl ?_
  refine r_callVI (d' := d - 1) (as := [tI 3]) (st := []) cl_8 dX8_begin_2 mi_X8_hasRoom t_646 t_648 ts_8 rfl rfl (Nat.le_of_ble_eq_true rfl) (by omega) ⟨by decide, by decide⟩ ⟨rfl, rfl⟩ (s_X8_hasRoom (by omega) hm) (fun x1 h2 hm => ?_)
  refine r_if_ne (tgt := 10) dX8_begin_5 rfl (fun hc => ?_) (fun hc => ?_)
  · replace hm := hm.1 hc
    refine r_aload_n dX8_begin_10 rfl rfl ?_
    refine r_getI (k := 2) cl_8 dX8_begin_11 t_77 (Or.inl rfl) gf_8_2 ?_
    refine r_nmI (fun x3 e_x3 => ?_)
    replace hm := hm x3 e_x3
    refine r_istore_n (L' := [some (tR 8 0 (some 5)), some (tI v1), some (tI v2), some (tI x3)]) dX8_begin_14 rfl (by decide) rfl ?_
    refine r_aload_n dX8_begin_15 rfl rfl ?_
    refine r_getC (k := 1) cl_8 dX8_begin_16 t_76 gf_8_1.1 gf_8_1.2 (gc_8_1 _) ?_
    refine r_iload_n dX8_begin_19 rfl rfl ?_
    refine r_iload_n dX8_begin_20 rfl rfl ?_
    refine r_iast dX8_begin_21 hm.1 ?_
    replace hm := hm.2
    refine r_aload_n dX8_begin_22 rfl rfl ?_
    refine r_getC (k := 1) cl_8 dX8_begin_23 t_76 gf_8_1.1 gf_8_1.2 (gc_8_1 _) ?_
    refine r_iload_n dX8_begin_26 rfl rfl ?_
    refine r_iconst (v := 1) dX8_begin_27 rfl ?_
    refine r_iadd dX8_begin_28 ?_
    refine r_iload_n dX8_begin_29 rfl rfl ?_
    refine r_iast dX8_begin_30 hm.1 ?_
    replace hm := hm.2
    refine r_aload_n dX8_begin_31 rfl rfl ?_
    refine r_getC (k := 1) cl_8 dX8_begin_32 t_76 gf_8_1.1 gf_8_1.2 (gc_8_1 _) ?_
    refine r_iload_n dX8_begin_35 rfl rfl ?_
    refine r_iconst (v := 2) dX8_begin_36 rfl ?_
    refine r_iadd dX8_begin_37 ?_
    refine r_iconst (v := 0) dX8_begin_38 rfl ?_
    refine r_iast dX8_begin_39 hm.1 ?_
    replace hm := hm.2
    refine r_aload_n dX8_begin_40 rfl rfl ?_
    refine r_dup dX8_begin_41 cv_cat1R ?_
    refine r_getI (k := 2) cl_8 dX8_begin_42 t_77 (Or.inl rfl) gf_8_2 ?_
    refine r_iconst (v := 3) dX8_begin_45 rfl ?_
    refine r_iadd dX8_begin_46 ?_
    refine r_putI0 (k := 2) cl_8 dX8_begin_47 t_77 (Or.inl rfl) gf_8_2 pf_8_2.1 (Or.inl pf_8_2.2) ?_
    refine r_iload_n dX8_begin_50 rfl rfl ?_
    exact r_ireturn dX8_begin_51 rfl ⟨by decide, by decide⟩ ⟨_, rfl, hm⟩
  · replace hm := hm.2 hc
    refine r_iconst (v := (-1)) dX8_begin_8 rfl ?_
    exact r_ireturn dX8_begin_9 rfl ⟨by decide, by decide⟩ ⟨_, rfl, hm⟩
theorem dX10_isSign_0 : decode cX10_isSign 0 = .ok (.aload_n 0, 1) := rfl
theorem dX10_isSign_1 : decode cX10_isSign 1 = .ok (.getfield 40, 3) := rfl
theorem dX10_isSign_4 : decode cX10_isSign 4 = .ok (.iconst 3, 1) := rfl
theorem dX10_isSign_5 : decode cX10_isSign 5 = .ok (.if_icmp .ne 20, 3) := by decide +kernel
theorem dX10_isSign_8 : decode cX10_isSign 8 = .ok (.aload_n 0, 1) := rfl
theorem dX10_isSign_9 : decode cX10_isSign 9 = .ok (.getfield 9, 3) := rfl
theorem dX10_isSign_12 : decode cX10_isSign 12 = .ok (.aload_n 0, 1) := rfl
theorem dX10_isSign_13 : decode cX10_isSign 13 = .ok (.getfield 37, 3) := rfl
theorem dX10_isSign_16 : decode cX10_isSign 16 = .ok (.iaload, 1) := rfl
theorem dX10_isSign_17 : decode cX10_isSign 17 = .ok (.iload_n 1, 1) := rfl
theorem dX10_isSign_18 : decode cX10_isSign 18 = .ok (.if_icmp .ne 7, 3) := by decide +kernel
theorem dX10_isSign_21 : decode cX10_isSign 21 = .ok (.iconst 1, 1) := rfl
theorem dX10_isSign_22 : decode cX10_isSign 22 = .ok (.goto 4, 3) := by decide +kernel
theorem dX10_isSign_25 : decode cX10_isSign 25 = .ok (.iconst 0, 1) := rfl
theorem dX10_isSign_26 : decode cX10_isSign 26 = .ok (.ireturn, 1) := rfl
def m_X10_isSign (v1 : Int32) (h : Hp) (Q : Int32 → Hp → Prop) : Prop := (¬ (hI h 2 4) = 3 → Q 0 h) ∧ ((hI h 2 4) = 3 → vp_in (hI h 2 5) 600 ∧ ((¬ (hI h 3 (ix (hI h 2 5))) = v1 → Q 0 h) ∧ ((hI h 3 (ix (hI h 2 5))) = v1 → Q 1 h)))
set_option maxHeartbeats 4000000 in
set_option maxRecDepth 100000 in
theorem s_X10_isSign {l : Launch} {G : Cx} {d : Nat} (hd : 2 ≤ d) {v1 : Int32} {h : Hp} {Q : Int32 → Hp → Prop} (hm : m_X10_isSign v1 h Q) : Ct l G d 0 0 yX10_isSign MX10_isSign [tR 10 0 (some 2), tI v1] h (qI Q) := by
  unfold m_X10_isSign at hm
  refine Ct.of (L := [some (tR 10 0 (some 2)), some (tI v1)]) (by decide) rfl rfl (Nat.le_of_ble_eq_true rfl) rfl ?_
  refine r_aload_n dX10_isSign_0 rfl rfl ?_
  refine r_getI (k := 4) cl_10 dX10_isSign_1 t_43 (Or.inl rfl) gf_10_4 ?_
  refine r_iconst (v := 3) dX10_isSign_4 rfl ?_
  refine r_icmp_ne (tgt := 25) dX10_isSign_5 rfl (fun hc => ?_) (fun hc => ?_)
  · replace hm := hm.1 hc
    refine r_iconst (v := 0) dX10_isSign_25 rfl ?_
    exact r_bret dX10_isSign_26 rfl ⟨by decide, by decide⟩ (by unfold bz; decide) ⟨_, rfl, hm⟩
  · replace hm := hm.2 hc
    refine r_aload_n dX10_isSign_8 rfl rfl ?_
    refine r_getC (k := 0) cl_10 dX10_isSign_9 t_37 gf_10_0.1 gf_10_0.2 (gc_10_0 _) ?_
    refine r_aload_n dX10_isSign_12 rfl rfl ?_
    refine r_getI (k := 5) cl_10 dX10_isSign_13 t_44 (Or.inl rfl) gf_10_5 ?_
    refine r_iald dX10_isSign_16 hm.1 ?_
    replace hm := hm.2
    refine r_iload_n dX10_isSign_17 rfl rfl ?_
    refine r_icmp_ne (tgt := 25) dX10_isSign_18 rfl (fun hc => ?_) (fun hc => ?_)
    · replace hm := hm.1 hc
      refine r_iconst (v := 0) dX10_isSign_25 rfl ?_
      exact r_bret dX10_isSign_26 rfl ⟨by decide, by decide⟩ (by unfold bz; decide) ⟨_, rfl, hm⟩
    · replace hm := hm.2 hc
      refine r_iconst (v := 1) dX10_isSign_21 rfl ?_
      refine r_goto (tgt := 26) dX10_isSign_22 rfl ?_
      exact r_bret dX10_isSign_26 rfl ⟨by decide, by decide⟩ (by unfold bz; decide) ⟨_, rfl, hm⟩
theorem dX10_takeSign_0 : decode cX10_takeSign 0 = .ok (.aload_n 0, 1) := rfl
theorem dX10_takeSign_1 : decode cX10_takeSign 1 = .ok (.iload_n 1, 1) := rfl
theorem dX10_takeSign_2 : decode cX10_takeSign 2 = .ok (.invokevirtual 43, 3) := rfl
theorem dX10_takeSign_5 : decode cX10_takeSign 5 = .ok (.ifCond .ne 8, 3) := by decide +kernel
theorem dX10_takeSign_8 : decode cX10_takeSign 8 = .ok (.aload_n 0, 1) := rfl
theorem dX10_takeSign_9 : decode cX10_takeSign 9 = .ok (.invokevirtual 47, 3) := rfl
theorem dX10_takeSign_12 : decode cX10_takeSign 12 = .ok (.ireturn, 1) := rfl
theorem dX10_takeSign_13 : decode cX10_takeSign 13 = .ok (.aload_n 0, 1) := rfl
theorem dX10_takeSign_14 : decode cX10_takeSign 14 = .ok (.invokevirtual 34, 3) := rfl
theorem dX10_takeSign_17 : decode cX10_takeSign 17 = .ok (.iconst 1, 1) := rfl
theorem dX10_takeSign_18 : decode cX10_takeSign 18 = .ok (.ireturn, 1) := rfl
def m_X10_takeSign (v1 : Int32) (h : Hp) (Q : Int32 → Hp → Prop) : Prop := m_X10_isSign v1 h (fun (x1 : Int32) (h2 : Hp) => (¬ x1 = 0 → m_X10_advance h2 (fun (h4 : Hp) => Q 1 h4)) ∧ (x1 = 0 → m_X10_refuse h2 (fun (x5 : Int32) (h6 : Hp) => bz x5 ∧ Q x5 h6)))
set_option maxHeartbeats 4000000 in
set_option maxRecDepth 100000 in
theorem s_X10_takeSign {l : Launch} {G : Cx} {d : Nat} (hd : 4 ≤ d) {v1 : Int32} {h : Hp} {Q : Int32 → Hp → Prop} (hm : m_X10_takeSign v1 h Q) : Ct l G d 0 0 yX10_takeSign MX10_takeSign [tR 10 0 (some 2), tI v1] h (qI Q) := by
  unfold m_X10_takeSign at hm
  refine Ct.of (L := [some (tR 10 0 (some 2)), some (tI v1)]) (by decide) rfl rfl (Nat.le_of_ble_eq_true rfl) rfl ?_
  refine r_aload_n dX10_takeSign_0 rfl rfl ?_
  refine r_iload_n dX10_takeSign_1 rfl rfl ?_
  refine r_callVI (d' := d - 1) (as := [tI v1]) (st := []) cl_10 dX10_takeSign_2 mi_X10_isSign t_682 t_683 t_684 rfl rfl (Nat.le_of_ble_eq_true rfl) (by omega) ⟨by decide, by decide⟩ ⟨rfl, rfl⟩ (s_X10_isSign (by omega) hm) (fun x1 h2 hm => ?_)
  refine r_if_ne (tgt := 13) dX10_takeSign_5 rfl (fun hc => ?_) (fun hc => ?_)
  · replace hm := hm.1 hc
    refine r_aload_n dX10_takeSign_13 rfl rfl ?_
    refine r_callVU (d' := d - 1) (as := []) (st := []) cl_10 dX10_takeSign_14 mi_X10_advance t_515 t_516 t_517 rfl rfl (Nat.le_of_ble_eq_true rfl) (by omega) ⟨by decide, by decide⟩ ⟨rfl, rfl⟩ (s_X10_advance (by omega) hm) (fun h4 hm => ?_)
    refine r_iconst (v := 1) dX10_takeSign_17 rfl ?_
    exact r_bret dX10_takeSign_18 rfl ⟨by decide, by decide⟩ (by unfold bz; decide) ⟨_, rfl, hm⟩
  · replace hm := hm.2 hc
    refine r_aload_n dX10_takeSign_8 rfl rfl ?_
    refine r_callVI (d' := d - 1) (as := []) (st := []) cl_10 dX10_takeSign_9 mi_X10_refuse t_611 t_597 t_598 rfl rfl (Nat.le_of_ble_eq_true rfl) (by omega) ⟨by decide, by decide⟩ ⟨rfl, rfl⟩ (s_X10_refuse (by omega) hm) (fun x5 h6 hm => ?_)
    exact r_bret dX10_takeSign_12 rfl ⟨by decide, by decide⟩ hm.1 ⟨_, rfl, hm.2⟩
theorem dX2_readBlock_0 : decode cX2_readBlock 0 = .ok (.iload_n 1, 1) := rfl
theorem dX2_readBlock_1 : decode cX2_readBlock 1 = .ok (.bipush 6, 2) := by decide +kernel
theorem dX2_readBlock_3 : decode cX2_readBlock 3 = .ok (.if_icmp .lt 11, 3) := by decide +kernel
theorem dX2_readBlock_6 : decode cX2_readBlock 6 = .ok (.aload_n 0, 1) := rfl
theorem dX2_readBlock_7 : decode cX2_readBlock 7 = .ok (.getfield 22, 3) := rfl
theorem dX2_readBlock_10 : decode cX2_readBlock 10 = .ok (.invokevirtual 59, 3) := rfl
theorem dX2_readBlock_13 : decode cX2_readBlock 13 = .ok (.ireturn, 1) := rfl
theorem dX2_readBlock_14 : decode cX2_readBlock 14 = .ok (.aload_n 0, 1) := rfl
theorem dX2_readBlock_15 : decode cX2_readBlock 15 = .ok (.getfield 22, 3) := rfl
theorem dX2_readBlock_18 : decode cX2_readBlock 18 = .ok (.bipush 123, 2) := by decide +kernel
theorem dX2_readBlock_20 : decode cX2_readBlock 20 = .ok (.invokevirtual 197, 3) := rfl
theorem dX2_readBlock_23 : decode cX2_readBlock 23 = .ok (.ifCond .eq 29, 3) := by decide +kernel
theorem dX2_readBlock_26 : decode cX2_readBlock 26 = .ok (.aload_n 0, 1) := rfl
theorem dX2_readBlock_27 : decode cX2_readBlock 27 = .ok (.iload_n 1, 1) := rfl
theorem dX2_readBlock_28 : decode cX2_readBlock 28 = .ok (.iconst 1, 1) := rfl
theorem dX2_readBlock_29 : decode cX2_readBlock 29 = .ok (.iadd, 1) := rfl
theorem dX2_readBlock_30 : decode cX2_readBlock 30 = .ok (.invokevirtual 49, 3) := rfl
theorem dX2_readBlock_33 : decode cX2_readBlock 33 = .ok (.ifCond .eq 19, 3) := by decide +kernel
theorem dX2_readBlock_36 : decode cX2_readBlock 36 = .ok (.aload_n 0, 1) := rfl
theorem dX2_readBlock_37 : decode cX2_readBlock 37 = .ok (.getfield 22, 3) := rfl
theorem dX2_readBlock_40 : decode cX2_readBlock 40 = .ok (.bipush 125, 2) := by decide +kernel
theorem dX2_readBlock_42 : decode cX2_readBlock 42 = .ok (.invokevirtual 197, 3) := rfl
theorem dX2_readBlock_45 : decode cX2_readBlock 45 = .ok (.ifCond .eq 7, 3) := by decide +kernel
theorem dX2_readBlock_48 : decode cX2_readBlock 48 = .ok (.iconst 1, 1) := rfl
theorem dX2_readBlock_49 : decode cX2_readBlock 49 = .ok (.goto 4, 3) := by decide +kernel
theorem dX2_readBlock_52 : decode cX2_readBlock 52 = .ok (.iconst 0, 1) := rfl
theorem dX2_readBlock_53 : decode cX2_readBlock 53 = .ok (.ireturn, 1) := rfl
def m_X2_readBlock (RA : Int32 → Hp → (Int32 → Hp → Prop) → Prop) (v1 : Int32) (h : Hp) (Q : Int32 → Hp → Prop) : Prop := (v1 < 6 → m_X10_takeSign 123 h (fun (x1 : Int32) (h2 : Hp) => (x1 = 0 → Q 0 h2) ∧ (¬ x1 = 0 → RA (v1 + 1) h2 (fun (x3 : Int32) (h4 : Hp) => (x3 = 0 → Q 0 h4) ∧ (¬ x3 = 0 → m_X10_takeSign 125 h4 (fun (x5 : Int32) (h6 : Hp) => (x5 = 0 → Q 0 h6) ∧ (¬ x5 = 0 → Q 1 h6))))))) ∧ (¬ v1 < 6 → m_X10_refuse h (fun (x7 : Int32) (h8 : Hp) => bz x7 ∧ Q x7 h8))
set_option maxHeartbeats 4000000 in
set_option maxRecDepth 100000 in
theorem s_X2_readBlock {l : Launch} {G : Cx} {RA : Int32 → Hp → (Int32 → Hp → Prop) → Prop} {d dR : Nat} (hd : dR + 6 ≤ d) (hR : ∀ (d : Nat), dR ≤ d → ∀ {o : Int32} {h : Hp} {Q : Int32 → Hp → Prop}, RA o h Q → Ct l G d 0 0 yX2_readAll MX2_readAll [tR 2 0 (some 4), tI o] h (qI Q)) {v1 : Int32} {h : Hp} {Q : Int32 → Hp → Prop} (hm : m_X2_readBlock RA v1 h Q) : Ct l G d 0 0 yX2_readBlock MX2_readBlock [tR 2 0 (some 4), tI v1] h (qI Q) := by
  unfold m_X2_readBlock at hm
  refine Ct.of (L := [some (tR 2 0 (some 4)), some (tI v1)]) (by decide) rfl rfl (Nat.le_of_ble_eq_true rfl) rfl ?_
  refine r_iload_n dX2_readBlock_0 rfl rfl ?_
  refine r_bipush (v := 6) dX2_readBlock_1 rfl ?_
  refine r_icmp_lt (tgt := 14) dX2_readBlock_3 rfl (fun hc => ?_) (fun hc => ?_)
  · replace hm := hm.1 hc
    refine r_aload_n dX2_readBlock_14 rfl rfl ?_
    refine r_getC (k := 0) cl_2 dX2_readBlock_15 t_85 gf_2_0.1 gf_2_0.2 (gc_2_0 _) ?_
    refine r_bipush (v := 123) dX2_readBlock_18 rfl ?_
    refine r_callVI (d' := d - 1) (as := [tI 123]) (st := []) cl_10 dX2_readBlock_20 mi_X10_takeSign t_678 t_679 t_680 rfl rfl (Nat.le_of_ble_eq_true rfl) (by omega) ⟨by decide, by decide⟩ ⟨rfl, rfl⟩ (s_X10_takeSign (by omega) hm) (fun x1 h2 hm => ?_)
    refine r_if_eq (tgt := 52) dX2_readBlock_23 rfl (fun hc => ?_) (fun hc => ?_)
    · replace hm := hm.1 hc
      refine r_iconst (v := 0) dX2_readBlock_52 rfl ?_
      exact r_bret dX2_readBlock_53 rfl ⟨by decide, by decide⟩ (by unfold bz; decide) ⟨_, rfl, hm⟩
    · replace hm := hm.2 hc
      refine r_aload_n dX2_readBlock_26 rfl rfl ?_
      refine r_iload_n dX2_readBlock_27 rfl rfl ?_
      refine r_iconst (v := 1) dX2_readBlock_28 rfl ?_
      refine r_iadd dX2_readBlock_29 ?_
      refine r_callVI (d' := d - 1) (as := [tI (v1 + 1)]) (st := []) cl_2 dX2_readBlock_30 mi_X2_readAll t_531 t_533 ts_1 rfl rfl (Nat.le_of_ble_eq_true rfl) (by omega) ⟨by decide, by decide⟩ ⟨rfl, rfl⟩ (hR (d - 1) (by omega) hm) (fun x3 h4 hm => ?_)
      refine r_if_eq (tgt := 52) dX2_readBlock_33 rfl (fun hc => ?_) (fun hc => ?_)
      · replace hm := hm.1 hc
        refine r_iconst (v := 0) dX2_readBlock_52 rfl ?_
        exact r_bret dX2_readBlock_53 rfl ⟨by decide, by decide⟩ (by unfold bz; decide) ⟨_, rfl, hm⟩
      · replace hm := hm.2 hc
        refine r_aload_n dX2_readBlock_36 rfl rfl ?_
        refine r_getC (k := 0) cl_2 dX2_readBlock_37 t_85 gf_2_0.1 gf_2_0.2 (gc_2_0 _) ?_
        refine r_bipush (v := 125) dX2_readBlock_40 rfl ?_
        refine r_callVI (d' := d - 1) (as := [tI 125]) (st := []) cl_10 dX2_readBlock_42 mi_X10_takeSign t_678 t_679 t_680 rfl rfl (Nat.le_of_ble_eq_true rfl) (by omega) ⟨by decide, by decide⟩ ⟨rfl, rfl⟩ (s_X10_takeSign (by omega) hm) (fun x5 h6 hm => ?_)
        refine r_if_eq (tgt := 52) dX2_readBlock_45 rfl (fun hc => ?_) (fun hc => ?_)
        · replace hm := hm.1 hc
          refine r_iconst (v := 0) dX2_readBlock_52 rfl ?_
          exact r_bret dX2_readBlock_53 rfl ⟨by decide, by decide⟩ (by unfold bz; decide) ⟨_, rfl, hm⟩
        · replace hm := hm.2 hc
          refine r_iconst (v := 1) dX2_readBlock_48 rfl ?_
          refine r_goto (tgt := 53) dX2_readBlock_49 rfl ?_
          exact r_bret dX2_readBlock_53 rfl ⟨by decide, by decide⟩ (by unfold bz; decide) ⟨_, rfl, hm⟩
  · replace hm := hm.2 hc
    refine r_aload_n dX2_readBlock_6 rfl rfl ?_
    refine r_getC (k := 0) cl_2 dX2_readBlock_7 t_85 gf_2_0.1 gf_2_0.2 (gc_2_0 _) ?_
    refine r_callVI (d' := d - 1) (as := []) (st := []) cl_10 dX2_readBlock_10 mi_X10_refuse t_596 t_597 t_598 rfl rfl (Nat.le_of_ble_eq_true rfl) (by omega) ⟨by decide, by decide⟩ ⟨rfl, rfl⟩ (s_X10_refuse (by omega) hm) (fun x7 h8 hm => ?_)
    exact r_bret dX2_readBlock_13 rfl ⟨by decide, by decide⟩ hm.1 ⟨_, rfl, hm.2⟩
theorem dX8_isBegun_0 : decode cX8_isBegun 0 = .ok (.iload_n 1, 1) := rfl
theorem dX8_isBegun_1 : decode cX8_isBegun 1 = .ok (.ifCond .lt 17, 3) := by decide +kernel
theorem dX8_isBegun_4 : decode cX8_isBegun 4 = .ok (.iload_n 1, 1) := rfl
theorem dX8_isBegun_5 : decode cX8_isBegun 5 = .ok (.iconst 3, 1) := rfl
theorem dX8_isBegun_6 : decode cX8_isBegun 6 = .ok (.iadd, 1) := rfl
theorem dX8_isBegun_7 : decode cX8_isBegun 7 = .ok (.aload_n 0, 1) := rfl
theorem dX8_isBegun_8 : decode cX8_isBegun 8 = .ok (.getfield 19, 3) := rfl
theorem dX8_isBegun_11 : decode cX8_isBegun 11 = .ok (.if_icmp .gt 7, 3) := by decide +kernel
theorem dX8_isBegun_14 : decode cX8_isBegun 14 = .ok (.iconst 1, 1) := rfl
theorem dX8_isBegun_15 : decode cX8_isBegun 15 = .ok (.goto 4, 3) := by decide +kernel
theorem dX8_isBegun_18 : decode cX8_isBegun 18 = .ok (.iconst 0, 1) := rfl
theorem dX8_isBegun_19 : decode cX8_isBegun 19 = .ok (.ireturn, 1) := rfl
def m_X8_isBegun (v1 : Int32) (h : Hp) (Q : Int32 → Hp → Prop) : Prop := (v1 < 0 → Q 0 h) ∧ (¬ v1 < 0 → ((hI h 5 2) < (v1 + 3) → Q 0 h) ∧ (¬ (hI h 5 2) < (v1 + 3) → Q 1 h))
set_option maxHeartbeats 4000000 in
set_option maxRecDepth 100000 in
theorem s_X8_isBegun {l : Launch} {G : Cx} {d : Nat} (hd : 2 ≤ d) {v1 : Int32} {h : Hp} {Q : Int32 → Hp → Prop} (hm : m_X8_isBegun v1 h Q) : Ct l G d 0 0 yX8_isBegun MX8_isBegun [tR 8 0 (some 5), tI v1] h (qI Q) := by
  unfold m_X8_isBegun at hm
  refine Ct.of (L := [some (tR 8 0 (some 5)), some (tI v1)]) (by decide) rfl rfl (Nat.le_of_ble_eq_true rfl) rfl ?_
  refine r_iload_n dX8_isBegun_0 rfl rfl ?_
  refine r_if_lt (tgt := 18) dX8_isBegun_1 rfl (fun hc => ?_) (fun hc => ?_)
  · replace hm := hm.1 hc
    refine r_iconst (v := 0) dX8_isBegun_18 rfl ?_
    exact r_bret dX8_isBegun_19 rfl ⟨by decide, by decide⟩ (by unfold bz; decide) ⟨_, rfl, hm⟩
  · replace hm := hm.2 hc
    refine r_iload_n dX8_isBegun_4 rfl rfl ?_
    refine r_iconst (v := 3) dX8_isBegun_5 rfl ?_
    refine r_iadd dX8_isBegun_6 ?_
    refine r_aload_n dX8_isBegun_7 rfl rfl ?_
    refine r_getI (k := 2) cl_8 dX8_isBegun_8 t_77 (Or.inl rfl) gf_8_2 ?_
    refine r_icmp_gt (tgt := 18) dX8_isBegun_11 rfl (fun hc => ?_) (fun hc => ?_)
    · replace hm := hm.1 hc
      refine r_iconst (v := 0) dX8_isBegun_18 rfl ?_
      exact r_bret dX8_isBegun_19 rfl ⟨by decide, by decide⟩ (by unfold bz; decide) ⟨_, rfl, hm⟩
    · replace hm := hm.2 hc
      refine r_iconst (v := 1) dX8_isBegun_14 rfl ?_
      refine r_goto (tgt := 19) dX8_isBegun_15 rfl ?_
      exact r_bret dX8_isBegun_19 rfl ⟨by decide, by decide⟩ (by unfold bz; decide) ⟨_, rfl, hm⟩
theorem dX8_lift_0 : decode cX8_lift 0 = .ok (.aload_n 0, 1) := rfl
theorem dX8_lift_1 : decode cX8_lift 1 = .ok (.getfield 11, 3) := rfl
theorem dX8_lift_4 : decode cX8_lift 4 = .ok (.iload_n 2, 1) := rfl
theorem dX8_lift_5 : decode cX8_lift 5 = .ok (.aload_n 0, 1) := rfl
theorem dX8_lift_6 : decode cX8_lift 6 = .ok (.getfield 11, 3) := rfl
theorem dX8_lift_9 : decode cX8_lift 9 = .ok (.iload_n 1, 1) := rfl
theorem dX8_lift_10 : decode cX8_lift 10 = .ok (.iload_n 3, 1) := rfl
theorem dX8_lift_11 : decode cX8_lift 11 = .ok (.invokestatic 26, 3) := rfl
theorem dX8_lift_14 : decode cX8_lift 14 = .ok (.aload_n 0, 1) := rfl
theorem dX8_lift_15 : decode cX8_lift 15 = .ok (.iload_n 1, 1) := rfl
theorem dX8_lift_16 : decode cX8_lift 16 = .ok (.iload_n 3, 1) := rfl
theorem dX8_lift_17 : decode cX8_lift 17 = .ok (.iadd, 1) := rfl
theorem dX8_lift_18 : decode cX8_lift 18 = .ok (.putfield 19, 3) := rfl
theorem dX8_lift_21 : decode cX8_lift 21 = .ok (.return_, 1) := rfl
def m_X8_lift (v1 : Int32) (v2 : Int32) (v3 : Int32) (h : Hp) (Q : Hp → Prop) : Prop := ¬ v2 < 0 ∧ ¬ v1 < 0 ∧ ¬ v3 < 0 ∧ ix v2 + ix v3 ≤ 512 ∧ ix v1 + ix v3 ≤ 512 ∧ (Q (wI (cpI h 6 (ix v2) 6 (ix v1) (ix v3)) 5 2 (v1 + v3)))
set_option maxHeartbeats 4000000 in
set_option maxRecDepth 100000 in
theorem s_X8_lift {l : Launch} {G : Cx} {d : Nat} (hd : 2 ≤ d) {v1 : Int32} {v2 : Int32} {v3 : Int32} {h : Hp} {Q : Hp → Prop} (hm : m_X8_lift v1 v2 v3 h Q) : Ct l G d 0 0 yX8_lift MX8_lift [tR 8 0 (some 5), tI v1, tI v2, tI v3] h (qV Q) := by
  unfold m_X8_lift at hm
  refine Ct.of (L := [some (tR 8 0 (some 5)), some (tI v1), some (tI v2), some (tI v3)]) (by decide) rfl rfl (Nat.le_of_ble_eq_true rfl) rfl ?_
  refine r_aload_n dX8_lift_0 rfl rfl ?_
  refine r_getC (k := 1) cl_8 dX8_lift_1 t_76 gf_8_1.1 gf_8_1.2 (gc_8_1 _) ?_
  refine r_iload_n dX8_lift_4 rfl rfl ?_
  refine r_aload_n dX8_lift_5 rfl rfl ?_
  refine r_getC (k := 1) cl_8 dX8_lift_6 t_76 gf_8_1.1 gf_8_1.2 (gc_8_1 _) ?_
  refine r_iload_n dX8_lift_9 rfl rfl ?_
  refine r_iload_n dX8_lift_10 rfl rfl ?_
  obtain ⟨g1, g2, g3, g4, g5, hm⟩ := hm
  refine r_copy dX8_lift_11 t_650 t_652 t_651 t_19 g1 g2 g3 g4 g5 (by omega) (Nat.le_of_ble_eq_true rfl) ?_
  refine r_aload_n dX8_lift_14 rfl rfl ?_
  refine r_iload_n dX8_lift_15 rfl rfl ?_
  refine r_iload_n dX8_lift_16 rfl rfl ?_
  refine r_iadd dX8_lift_17 ?_
  refine r_putI0 (k := 2) cl_8 dX8_lift_18 t_77 (Or.inl rfl) gf_8_2 pf_8_2.1 (Or.inl pf_8_2.2) ?_
  exact r_return dX8_lift_21 rfl ⟨by decide, by decide⟩ ⟨rfl, hm⟩
theorem dX8_isJustAfter_0 : decode cX8_isJustAfter 0 = .ok (.iload_n 2, 1) := rfl
theorem dX8_isJustAfter_1 : decode cX8_isJustAfter 1 = .ok (.iconst 3, 1) := rfl
theorem dX8_isJustAfter_2 : decode cX8_isJustAfter 2 = .ok (.if_icmp .lt 32, 3) := by decide +kernel
theorem dX8_isJustAfter_5 : decode cX8_isJustAfter 5 = .ok (.aload_n 0, 1) := rfl
theorem dX8_isJustAfter_6 : decode cX8_isJustAfter 6 = .ok (.getfield 11, 3) := rfl
theorem dX8_isJustAfter_9 : decode cX8_isJustAfter 9 = .ok (.iload_n 1, 1) := rfl
theorem dX8_isJustAfter_10 : decode cX8_isJustAfter 10 = .ok (.iaload, 1) := rfl
theorem dX8_isJustAfter_11 : decode cX8_isJustAfter 11 = .ok (.bipush (-3), 2) := by decide +kernel
theorem dX8_isJustAfter_13 : decode cX8_isJustAfter 13 = .ok (.if_icmp .ne 21, 3) := by decide +kernel
theorem dX8_isJustAfter_16 : decode cX8_isJustAfter 16 = .ok (.aload_n 0, 1) := rfl
theorem dX8_isJustAfter_17 : decode cX8_isJustAfter 17 = .ok (.getfield 11, 3) := rfl
theorem dX8_isJustAfter_20 : decode cX8_isJustAfter 20 = .ok (.iload_n 1, 1) := rfl
theorem dX8_isJustAfter_21 : decode cX8_isJustAfter 21 = .ok (.iconst 2, 1) := rfl
theorem dX8_isJustAfter_22 : decode cX8_isJustAfter 22 = .ok (.iadd, 1) := rfl
theorem dX8_isJustAfter_23 : decode cX8_isJustAfter 23 = .ok (.iaload, 1) := rfl
theorem dX8_isJustAfter_24 : decode cX8_isJustAfter 24 = .ok (.iconst 3, 1) := rfl
theorem dX8_isJustAfter_25 : decode cX8_isJustAfter 25 = .ok (.iadd, 1) := rfl
theorem dX8_isJustAfter_26 : decode cX8_isJustAfter 26 = .ok (.iload_n 2, 1) := rfl
theorem dX8_isJustAfter_27 : decode cX8_isJustAfter 27 = .ok (.if_icmp .ne 7, 3) := by decide +kernel
theorem dX8_isJustAfter_30 : decode cX8_isJustAfter 30 = .ok (.iconst 1, 1) := rfl
theorem dX8_isJustAfter_31 : decode cX8_isJustAfter 31 = .ok (.goto 4, 3) := by decide +kernel
theorem dX8_isJustAfter_34 : decode cX8_isJustAfter 34 = .ok (.iconst 0, 1) := rfl
theorem dX8_isJustAfter_35 : decode cX8_isJustAfter 35 = .ok (.ireturn, 1) := rfl
def m_X8_isJustAfter (v1 : Int32) (v2 : Int32) (h : Hp) (Q : Int32 → Hp → Prop) : Prop := (v2 < 3 → Q 0 h) ∧ (¬ v2 < 3 → vp_in v1 512 ∧ ((¬ (hI h 6 (ix v1)) = (-3) → Q 0 h) ∧ ((hI h 6 (ix v1)) = (-3) → vp_in (v1 + 2) 512 ∧ ((¬ ((hI h 6 (ix (v1 + 2))) + 3) = v2 → Q 0 h) ∧ (((hI h 6 (ix (v1 + 2))) + 3) = v2 → Q 1 h)))))
set_option maxHeartbeats 4000000 in
set_option maxRecDepth 100000 in
theorem s_X8_isJustAfter {l : Launch} {G : Cx} {d : Nat} (hd : 2 ≤ d) {v1 : Int32} {v2 : Int32} {h : Hp} {Q : Int32 → Hp → Prop} (hm : m_X8_isJustAfter v1 v2 h Q) : Ct l G d 0 0 yX8_isJustAfter MX8_isJustAfter [tR 8 0 (some 5), tI v1, tI v2] h (qI Q) := by
  unfold m_X8_isJustAfter at hm
  refine Ct.of (L := [some (tR 8 0 (some 5)), some (tI v1), some (tI v2)]) (by decide) rfl rfl (Nat.le_of_ble_eq_true rfl) rfl ?_
  refine r_iload_n dX8_isJustAfter_0 rfl rfl ?_
  refine r_iconst (v := 3) dX8_isJustAfter_1 rfl ?_
  refine r_icmp_lt (tgt := 34) dX8_isJustAfter_2 rfl (fun hc => ?_) (fun hc => ?_)
  · replace hm := hm.1 hc
    refine r_iconst (v := 0) dX8_isJustAfter_34 rfl ?_
    exact r_bret dX8_isJustAfter_35 rfl ⟨by decide, by decide⟩ (by unfold bz; decide) ⟨_, rfl, hm⟩
  · replace hm := hm.2 hc
    refine r_aload_n dX8_isJustAfter_5 rfl rfl ?_
    refine r_getC (k := 1) cl_8 dX8_isJustAfter_6 t_76 gf_8_1.1 gf_8_1.2 (gc_8_1 _) ?_
    refine r_iload_n dX8_isJustAfter_9 rfl rfl ?_
    refine r_iald dX8_isJustAfter_10 hm.1 ?_
    replace hm := hm.2
    refine r_bipush (v := (-3)) dX8_isJustAfter_11 rfl ?_
    refine r_icmp_ne (tgt := 34) dX8_isJustAfter_13 rfl (fun hc => ?_) (fun hc => ?_)
    · replace hm := hm.1 hc
      refine r_iconst (v := 0) dX8_isJustAfter_34 rfl ?_
      exact r_bret dX8_isJustAfter_35 rfl ⟨by decide, by decide⟩ (by unfold bz; decide) ⟨_, rfl, hm⟩
    · replace hm := hm.2 hc
      refine r_aload_n dX8_isJustAfter_16 rfl rfl ?_
      refine r_getC (k := 1) cl_8 dX8_isJustAfter_17 t_76 gf_8_1.1 gf_8_1.2 (gc_8_1 _) ?_
      refine r_iload_n dX8_isJustAfter_20 rfl rfl ?_
      refine r_iconst (v := 2) dX8_isJustAfter_21 rfl ?_
      refine r_iadd dX8_isJustAfter_22 ?_
      refine r_iald dX8_isJustAfter_23 hm.1 ?_
      replace hm := hm.2
      refine r_iconst (v := 3) dX8_isJustAfter_24 rfl ?_
      refine r_iadd dX8_isJustAfter_25 ?_
      refine r_iload_n dX8_isJustAfter_26 rfl rfl ?_
      refine r_icmp_ne (tgt := 34) dX8_isJustAfter_27 rfl (fun hc => ?_) (fun hc => ?_)
      · replace hm := hm.1 hc
        refine r_iconst (v := 0) dX8_isJustAfter_34 rfl ?_
        exact r_bret dX8_isJustAfter_35 rfl ⟨by decide, by decide⟩ (by unfold bz; decide) ⟨_, rfl, hm⟩
      · replace hm := hm.2 hc
        refine r_iconst (v := 1) dX8_isJustAfter_30 rfl ?_
        refine r_goto (tgt := 35) dX8_isJustAfter_31 rfl ?_
        exact r_bret dX8_isJustAfter_35 rfl ⟨by decide, by decide⟩ (by unfold bz; decide) ⟨_, rfl, hm⟩
theorem dX8_endOne_0 : decode cX8_endOne 0 = .ok (.aload_n 0, 1) := by decide +kernel
theorem dX8_endOne_1 : decode cX8_endOne 1 = .ok (.iload_n 1, 1) := by decide +kernel
theorem dX8_endOne_2 : decode cX8_endOne 2 = .ok (.invokevirtual 32, 3) := by decide +kernel
theorem dX8_endOne_5 : decode cX8_endOne 5 = .ok (.ifCond .ne 4, 3) := by decide +kernel
theorem dX8_endOne_8 : decode cX8_endOne 8 = .ok (.return_, 1) := by decide +kernel
theorem dX8_endOne_9 : decode cX8_endOne 9 = .ok (.aload_n 0, 1) := by decide +kernel
theorem dX8_endOne_10 : decode cX8_endOne 10 = .ok (.getfield 11, 3) := by decide +kernel
theorem dX8_endOne_13 : decode cX8_endOne 13 = .ok (.iload_n 1, 1) := by decide +kernel
theorem dX8_endOne_14 : decode cX8_endOne 14 = .ok (.iconst 1, 1) := by decide +kernel
theorem dX8_endOne_15 : decode cX8_endOne 15 = .ok (.iadd, 1) := by decide +kernel
theorem dX8_endOne_16 : decode cX8_endOne 16 = .ok (.iaload, 1) := by decide +kernel
theorem dX8_endOne_17 : decode cX8_endOne 17 = .ok (.istore_n 2, 1) := by decide +kernel
theorem dX8_endOne_18 : decode cX8_endOne 18 = .ok (.iload_n 1, 1) := by decide +kernel
theorem dX8_endOne_19 : decode cX8_endOne 19 = .ok (.iconst 3, 1) := by decide +kernel
theorem dX8_endOne_20 : decode cX8_endOne 20 = .ok (.iadd, 1) := by decide +kernel
theorem dX8_endOne_21 : decode cX8_endOne 21 = .ok (.istore_n 3, 1) := by decide +kernel
theorem dX8_endOne_22 : decode cX8_endOne 22 = .ok (.aload_n 0, 1) := by decide +kernel
theorem dX8_endOne_23 : decode cX8_endOne 23 = .ok (.getfield 19, 3) := by decide +kernel
theorem dX8_endOne_26 : decode cX8_endOne 26 = .ok (.iload_n 3, 1) := by decide +kernel
theorem dX8_endOne_27 : decode cX8_endOne 27 = .ok (.isub, 1) := by decide +kernel
theorem dX8_endOne_28 : decode cX8_endOne 28 = .ok (.istore 4, 2) := by decide +kernel
theorem dX8_endOne_30 : decode cX8_endOne 30 = .ok (.aload_n 0, 1) := by decide +kernel
theorem dX8_endOne_31 : decode cX8_endOne 31 = .ok (.getfield 11, 3) := by decide +kernel
theorem dX8_endOne_34 : decode cX8_endOne 34 = .ok (.iload_n 1, 1) := by decide +kernel
theorem dX8_endOne_35 : decode cX8_endOne 35 = .ok (.iaload, 1) := by decide +kernel
theorem dX8_endOne_36 : decode cX8_endOne 36 = .ok (.bipush (-3), 2) := by decide +kernel
theorem dX8_endOne_38 : decode cX8_endOne 38 = .ok (.if_icmp .ne 7, 3) := by decide +kernel
theorem dX8_endOne_41 : decode cX8_endOne 41 = .ok (.iconst 1, 1) := by decide +kernel
theorem dX8_endOne_42 : decode cX8_endOne 42 = .ok (.goto 4, 3) := by decide +kernel
theorem dX8_endOne_45 : decode cX8_endOne 45 = .ok (.iconst 0, 1) := by decide +kernel
theorem dX8_endOne_46 : decode cX8_endOne 46 = .ok (.istore 5, 2) := by decide +kernel
theorem dX8_endOne_48 : decode cX8_endOne 48 = .ok (.aload_n 0, 1) := by decide +kernel
theorem dX8_endOne_49 : decode cX8_endOne 49 = .ok (.getfield 11, 3) := by decide +kernel
theorem dX8_endOne_52 : decode cX8_endOne 52 = .ok (.iload_n 1, 1) := by decide +kernel
theorem dX8_endOne_53 : decode cX8_endOne 53 = .ok (.iconst 2, 1) := by decide +kernel
theorem dX8_endOne_54 : decode cX8_endOne 54 = .ok (.iadd, 1) := by decide +kernel
theorem dX8_endOne_55 : decode cX8_endOne 55 = .ok (.iload 4, 2) := by decide +kernel
theorem dX8_endOne_57 : decode cX8_endOne 57 = .ok (.iastore, 1) := by decide +kernel
theorem dX8_endOne_58 : decode cX8_endOne 58 = .ok (.iload 4, 2) := by decide +kernel
theorem dX8_endOne_60 : decode cX8_endOne 60 = .ok (.ifCond .eq 12, 3) := by decide +kernel
theorem dX8_endOne_63 : decode cX8_endOne 63 = .ok (.iload 5, 2) := by decide +kernel
theorem dX8_endOne_65 : decode cX8_endOne 65 = .ok (.ifCond .ne 25, 3) := by decide +kernel
theorem dX8_endOne_68 : decode cX8_endOne 68 = .ok (.iload_n 2, 1) := by decide +kernel
theorem dX8_endOne_69 : decode cX8_endOne 69 = .ok (.ifCond .ne 21, 3) := by decide +kernel
theorem dX8_endOne_72 : decode cX8_endOne 72 = .ok (.aload_n 0, 1) := by decide +kernel
theorem dX8_endOne_73 : decode cX8_endOne 73 = .ok (.iload_n 1, 1) := by decide +kernel
theorem dX8_endOne_74 : decode cX8_endOne 74 = .ok (.putfield 19, 3) := by decide +kernel
theorem dX8_endOne_77 : decode cX8_endOne 77 = .ok (.aload_n 0, 1) := by decide +kernel
theorem dX8_endOne_78 : decode cX8_endOne 78 = .ok (.dup, 1) := by decide +kernel
theorem dX8_endOne_79 : decode cX8_endOne 79 = .ok (.getfield 15, 3) := by decide +kernel
theorem dX8_endOne_82 : decode cX8_endOne 82 = .ok (.iconst 1, 1) := by decide +kernel
theorem dX8_endOne_83 : decode cX8_endOne 83 = .ok (.iadd, 1) := by decide +kernel
theorem dX8_endOne_84 : decode cX8_endOne 84 = .ok (.putfield 15, 3) := by decide +kernel
theorem dX8_endOne_87 : decode cX8_endOne 87 = .ok (.goto 83, 3) := by decide +kernel
theorem dX8_endOne_90 : decode cX8_endOne 90 = .ok (.iload_n 2, 1) := by decide +kernel
theorem dX8_endOne_91 : decode cX8_endOne 91 = .ok (.iload 5, 2) := by decide +kernel
theorem dX8_endOne_93 : decode cX8_endOne 93 = .ok (.ifCond .eq 7, 3) := by decide +kernel
theorem dX8_endOne_96 : decode cX8_endOne 96 = .ok (.iconst 0, 1) := by decide +kernel
theorem dX8_endOne_97 : decode cX8_endOne 97 = .ok (.goto 4, 3) := by decide +kernel
theorem dX8_endOne_100 : decode cX8_endOne 100 = .ok (.iconst 1, 1) := by decide +kernel
theorem dX8_endOne_101 : decode cX8_endOne 101 = .ok (.if_icmp .ne 24, 3) := by decide +kernel
theorem dX8_endOne_104 : decode cX8_endOne 104 = .ok (.aload_n 0, 1) := by decide +kernel
theorem dX8_endOne_105 : decode cX8_endOne 105 = .ok (.iload_n 1, 1) := by decide +kernel
theorem dX8_endOne_106 : decode cX8_endOne 106 = .ok (.iload_n 3, 1) := by decide +kernel
theorem dX8_endOne_107 : decode cX8_endOne 107 = .ok (.iload 4, 2) := by decide +kernel
theorem dX8_endOne_109 : decode cX8_endOne 109 = .ok (.invokevirtual 35, 3) := by decide +kernel
theorem dX8_endOne_112 : decode cX8_endOne 112 = .ok (.aload_n 0, 1) := by decide +kernel
theorem dX8_endOne_113 : decode cX8_endOne 113 = .ok (.dup, 1) := by decide +kernel
theorem dX8_endOne_114 : decode cX8_endOne 114 = .ok (.getfield 15, 3) := by decide +kernel
theorem dX8_endOne_117 : decode cX8_endOne 117 = .ok (.iconst 1, 1) := by decide +kernel
theorem dX8_endOne_118 : decode cX8_endOne 118 = .ok (.iadd, 1) := by decide +kernel
theorem dX8_endOne_119 : decode cX8_endOne 119 = .ok (.putfield 15, 3) := by decide +kernel
theorem dX8_endOne_122 : decode cX8_endOne 122 = .ok (.goto 48, 3) := by decide +kernel
theorem dX8_endOne_125 : decode cX8_endOne 125 = .ok (.iload 5, 2) := by decide +kernel
theorem dX8_endOne_127 : decode cX8_endOne 127 = .ok (.ifCond .eq 43, 3) := by decide +kernel
theorem dX8_endOne_130 : decode cX8_endOne 130 = .ok (.aload_n 0, 1) := by decide +kernel
theorem dX8_endOne_131 : decode cX8_endOne 131 = .ok (.iload_n 3, 1) := by decide +kernel
theorem dX8_endOne_132 : decode cX8_endOne 132 = .ok (.iload 4, 2) := by decide +kernel
theorem dX8_endOne_134 : decode cX8_endOne 134 = .ok (.invokevirtual 39, 3) := by decide +kernel
theorem dX8_endOne_137 : decode cX8_endOne 137 = .ok (.ifCond .eq 33, 3) := by decide +kernel
theorem dX8_endOne_140 : decode cX8_endOne 140 = .ok (.aload_n 0, 1) := by decide +kernel
theorem dX8_endOne_141 : decode cX8_endOne 141 = .ok (.iload_n 1, 1) := by decide +kernel
theorem dX8_endOne_142 : decode cX8_endOne 142 = .ok (.iload_n 3, 1) := by decide +kernel
theorem dX8_endOne_143 : decode cX8_endOne 143 = .ok (.iload 4, 2) := by decide +kernel
theorem dX8_endOne_145 : decode cX8_endOne 145 = .ok (.invokevirtual 35, 3) := by decide +kernel
theorem dX8_endOne_148 : decode cX8_endOne 148 = .ok (.aload_n 0, 1) := by decide +kernel
theorem dX8_endOne_149 : decode cX8_endOne 149 = .ok (.getfield 11, 3) := by decide +kernel
theorem dX8_endOne_152 : decode cX8_endOne 152 = .ok (.iload_n 1, 1) := by decide +kernel
theorem dX8_endOne_153 : decode cX8_endOne 153 = .ok (.iconst 1, 1) := by decide +kernel
theorem dX8_endOne_154 : decode cX8_endOne 154 = .ok (.iadd, 1) := by decide +kernel
theorem dX8_endOne_155 : decode cX8_endOne 155 = .ok (.dup2, 1) := by decide +kernel
theorem dX8_endOne_156 : decode cX8_endOne 156 = .ok (.iaload, 1) := by decide +kernel
theorem dX8_endOne_157 : decode cX8_endOne 157 = .ok (.iload_n 2, 1) := by decide +kernel
theorem dX8_endOne_158 : decode cX8_endOne 158 = .ok (.iadd, 1) := by decide +kernel
theorem dX8_endOne_159 : decode cX8_endOne 159 = .ok (.iastore, 1) := by decide +kernel
theorem dX8_endOne_160 : decode cX8_endOne 160 = .ok (.aload_n 0, 1) := by decide +kernel
theorem dX8_endOne_161 : decode cX8_endOne 161 = .ok (.dup, 1) := by decide +kernel
theorem dX8_endOne_162 : decode cX8_endOne 162 = .ok (.getfield 15, 3) := by decide +kernel
theorem dX8_endOne_165 : decode cX8_endOne 165 = .ok (.iconst 1, 1) := by decide +kernel
theorem dX8_endOne_166 : decode cX8_endOne 166 = .ok (.iadd, 1) := by decide +kernel
theorem dX8_endOne_167 : decode cX8_endOne 167 = .ok (.putfield 15, 3) := by decide +kernel
theorem dX8_endOne_170 : decode cX8_endOne 170 = .ok (.return_, 1) := by decide +kernel
def m_X8_endOne_101  (Q : Hp → Prop) (v1 : Int32) (v2 : Int32) (v3 : Int32) (v4 : Int32) (v5 : Int32) (s0 : Int32) (s1 : Int32) (h : Hp) : Prop := (¬ s0 = s1 → (v5 = 0 → Q h) ∧ (¬ v5 = 0 → m_X8_isJustAfter v3 v4 h (fun (x1 : Int32) (h2 : Hp) => (x1 = 0 → Q h2) ∧ (¬ x1 = 0 → m_X8_lift v1 v3 v4 h2 (fun (h4 : Hp) => vp_in (v1 + 1) 512 ∧ (vp_in (v1 + 1) 512 ∧ (Q (wI (wI h4 6 (ix (v1 + 1)) ((hI h4 6 (ix (v1 + 1))) + v2)) 5 0 ((hI (wI h4 6 (ix (v1 + 1)) ((hI h4 6 (ix (v1 + 1))) + v2)) 5 0) + 1))))))))) ∧ (s0 = s1 → m_X8_lift v1 v3 v4 h (fun (h6 : Hp) => Q (wI h6 5 0 ((hI h6 5 0) + 1))))
set_option maxHeartbeats 4000000 in
set_option maxRecDepth 100000 in
theorem s_X8_endOne_101 {l : Launch} {G : Cx} {d : Nat} {h0 : Hp} (hd : 4 ≤ d) {Q : Hp → Prop} {v1 : Int32} {v2 : Int32} {v3 : Int32} {v4 : Int32} {v5 : Int32} {s0 : Int32} {s1 : Int32} {h : Hp} (hm : m_X8_endOne_101 Q v1 v2 v3 v4 v5 s0 s1 h) : Rn l G d 0 0 MX8_endOne h0 (qV Q) 101 [some (tR 8 0 (some 5)), some (tI v1), some (tI v2), some (tI v3), some (tI v4), some (tI v5)] [tI s1, tI s0] h 0 0 := by
  unfold m_X8_endOne_101 at hm
  refine r_icmp_ne (tgt := 125) dX8_endOne_101 rfl (fun hc => ?_) (fun hc => ?_)
  · replace hm := hm.1 hc
    refine r_iload dX8_endOne_125 rfl ?_
    refine r_if_eq (tgt := 170) dX8_endOne_127 rfl (fun hc => ?_) (fun hc => ?_)
    · replace hm := hm.1 hc
      exact r_return dX8_endOne_170 rfl ⟨by decide, by decide⟩ ⟨rfl, hm⟩
    · replace hm := hm.2 hc
      refine r_aload_n dX8_endOne_130 rfl rfl ?_
      refine r_iload_n dX8_endOne_131 rfl rfl ?_
      refine r_iload dX8_endOne_132 rfl ?_
      refine r_callVI (d' := d - 1) (as := [tI v3, tI v4]) (st := []) cl_8 dX8_endOne_134 mi_X8_isJustAfter t_698 t_700 ts_14 rfl rfl (Nat.le_of_ble_eq_true rfl) (by omega) ⟨by decide, by decide⟩ ⟨rfl, rfl⟩ (s_X8_isJustAfter (by omega) hm) (fun x1 h2 hm => ?_)
      refine r_if_eq (tgt := 170) dX8_endOne_137 rfl (fun hc => ?_) (fun hc => ?_)
      · replace hm := hm.1 hc
        exact r_return dX8_endOne_170 rfl ⟨by decide, by decide⟩ ⟨rfl, hm⟩
      · replace hm := hm.2 hc
        refine r_aload_n dX8_endOne_140 rfl rfl ?_
        refine r_iload_n dX8_endOne_141 rfl rfl ?_
        refine r_iload_n dX8_endOne_142 rfl rfl ?_
        refine r_iload dX8_endOne_143 rfl ?_
        refine r_callVU (d' := d - 1) (as := [tI v1, tI v3, tI v4]) (st := []) cl_8 dX8_endOne_145 mi_X8_lift t_694 t_696 ts_13 rfl rfl (Nat.le_of_ble_eq_true rfl) (by omega) ⟨by decide, by decide⟩ ⟨rfl, rfl⟩ (s_X8_lift (by omega) hm) (fun h4 hm => ?_)
        refine r_aload_n dX8_endOne_148 rfl rfl ?_
        refine r_getC (k := 1) cl_8 dX8_endOne_149 t_76 gf_8_1.1 gf_8_1.2 (gc_8_1 _) ?_
        refine r_iload_n dX8_endOne_152 rfl rfl ?_
        refine r_iconst (v := 1) dX8_endOne_153 rfl ?_
        refine r_iadd dX8_endOne_154 ?_
        refine r_dup2 dX8_endOne_155 rfl cv_cat1R ?_
        refine r_iald dX8_endOne_156 hm.1 ?_
        replace hm := hm.2
        refine r_iload_n dX8_endOne_157 rfl rfl ?_
        refine r_iadd dX8_endOne_158 ?_
        refine r_iast dX8_endOne_159 hm.1 ?_
        replace hm := hm.2
        refine r_aload_n dX8_endOne_160 rfl rfl ?_
        refine r_dup dX8_endOne_161 cv_cat1R ?_
        refine r_getI (k := 0) cl_8 dX8_endOne_162 t_74 (Or.inl rfl) gf_8_0 ?_
        refine r_iconst (v := 1) dX8_endOne_165 rfl ?_
        refine r_iadd dX8_endOne_166 ?_
        refine r_putI0 (k := 0) cl_8 dX8_endOne_167 t_74 (Or.inl rfl) gf_8_0 pf_8_0.1 (Or.inl pf_8_0.2) ?_
        exact r_return dX8_endOne_170 rfl ⟨by decide, by decide⟩ ⟨rfl, hm⟩
  · replace hm := hm.2 hc
    refine r_aload_n dX8_endOne_104 rfl rfl ?_
    refine r_iload_n dX8_endOne_105 rfl rfl ?_
    refine r_iload_n dX8_endOne_106 rfl rfl ?_
    refine r_iload dX8_endOne_107 rfl ?_
    refine r_callVU (d' := d - 1) (as := [tI v1, tI v3, tI v4]) (st := []) cl_8 dX8_endOne_109 mi_X8_lift t_694 t_696 ts_13 rfl rfl (Nat.le_of_ble_eq_true rfl) (by omega) ⟨by decide, by decide⟩ ⟨rfl, rfl⟩ (s_X8_lift (by omega) hm) (fun h6 hm => ?_)
    refine r_aload_n dX8_endOne_112 rfl rfl ?_
    refine r_dup dX8_endOne_113 cv_cat1R ?_
    refine r_getI (k := 0) cl_8 dX8_endOne_114 t_74 (Or.inl rfl) gf_8_0 ?_
    refine r_iconst (v := 1) dX8_endOne_117 rfl ?_
    refine r_iadd dX8_endOne_118 ?_
    refine r_putI0 (k := 0) cl_8 dX8_endOne_119 t_74 (Or.inl rfl) gf_8_0 pf_8_0.1 (Or.inl pf_8_0.2) ?_
    refine r_goto (tgt := 170) dX8_endOne_122 rfl ?_
    exact r_return dX8_endOne_170 rfl ⟨by decide, by decide⟩ ⟨rfl, hm⟩
def m_X8_endOne_90  (Q : Hp → Prop) (v1 : Int32) (v2 : Int32) (v3 : Int32) (v4 : Int32) (v5 : Int32) (h : Hp) : Prop := (v5 = 0 → m_X8_endOne_101 Q v1 v2 v3 v4 v5 v2 1 h) ∧ (¬ v5 = 0 → m_X8_endOne_101 Q v1 v2 v3 v4 v5 v2 0 h)
set_option maxHeartbeats 4000000 in
set_option maxRecDepth 100000 in
theorem s_X8_endOne_90 {l : Launch} {G : Cx} {d : Nat} {h0 : Hp} (hd : 4 ≤ d) {Q : Hp → Prop} {v1 : Int32} {v2 : Int32} {v3 : Int32} {v4 : Int32} {v5 : Int32} {h : Hp} (hm : m_X8_endOne_90 Q v1 v2 v3 v4 v5 h) : Rn l G d 0 0 MX8_endOne h0 (qV Q) 90 [some (tR 8 0 (some 5)), some (tI v1), some (tI v2), some (tI v3), some (tI v4), some (tI v5)] [] h 0 0 := by
  unfold m_X8_endOne_90 at hm
  refine r_iload_n dX8_endOne_90 rfl rfl ?_
  refine r_iload dX8_endOne_91 rfl ?_
  refine r_if_eq (tgt := 100) dX8_endOne_93 rfl (fun hc => ?_) (fun hc => ?_)
  · replace hm := hm.1 hc
    refine r_iconst (v := 1) dX8_endOne_100 rfl ?_
    refine r_keep (L' := [some (tR 8 0 (some 5)), some (tI v1), some (tI v2), some (tI v3), some (tI v4), some (tI v5)]) [true, true, true, true, true, true] rfl ?_
    exact s_X8_endOne_101 hd hm
  · replace hm := hm.2 hc
    refine r_iconst (v := 0) dX8_endOne_96 rfl ?_
    refine r_goto (tgt := 101) dX8_endOne_97 rfl ?_
    refine r_keep (L' := [some (tR 8 0 (some 5)), some (tI v1), some (tI v2), some (tI v3), some (tI v4), some (tI v5)]) [true, true, true, true, true, true] rfl ?_
    exact s_X8_endOne_101 hd hm
def m_X8_endOne_72  (Q : Hp → Prop) (v1 : Int32) (h : Hp) : Prop := Q (wI (wI h 5 2 v1) 5 0 ((hI (wI h 5 2 v1) 5 0) + 1))
set_option maxHeartbeats 4000000 in
set_option maxRecDepth 100000 in
theorem s_X8_endOne_72 {l : Launch} {G : Cx} {d : Nat} {h0 : Hp} (hd : 4 ≤ d) {Q : Hp → Prop} {v1 : Int32} {h : Hp} (hm : m_X8_endOne_72 Q v1 h) : Rn l G d 0 0 MX8_endOne h0 (qV Q) 72 [some (tR 8 0 (some 5)), some (tI v1)] [] h 0 0 := by
  unfold m_X8_endOne_72 at hm
  refine r_aload_n dX8_endOne_72 rfl rfl ?_
  refine r_iload_n dX8_endOne_73 rfl rfl ?_
  refine r_putI0 (k := 2) cl_8 dX8_endOne_74 t_77 (Or.inl rfl) gf_8_2 pf_8_2.1 (Or.inl pf_8_2.2) ?_
  refine r_aload_n dX8_endOne_77 rfl rfl ?_
  refine r_dup dX8_endOne_78 cv_cat1R ?_
  refine r_getI (k := 0) cl_8 dX8_endOne_79 t_74 (Or.inl rfl) gf_8_0 ?_
  refine r_iconst (v := 1) dX8_endOne_82 rfl ?_
  refine r_iadd dX8_endOne_83 ?_
  refine r_putI0 (k := 0) cl_8 dX8_endOne_84 t_74 (Or.inl rfl) gf_8_0 pf_8_0.1 (Or.inl pf_8_0.2) ?_
  refine r_goto (tgt := 170) dX8_endOne_87 rfl ?_
  exact r_return dX8_endOne_170 rfl ⟨by decide, by decide⟩ ⟨rfl, hm⟩
def m_X8_endOne_46  (Q : Hp → Prop) (v1 : Int32) (v2 : Int32) (v3 : Int32) (v4 : Int32) (s0 : Int32) (h : Hp) : Prop := vp_in (v1 + 2) 512 ∧ ((v4 = 0 → m_X8_endOne_72 Q v1 (wI h 6 (ix (v1 + 2)) v4)) ∧ (¬ v4 = 0 → (¬ s0 = 0 → m_X8_endOne_90 Q v1 v2 v3 v4 s0 (wI h 6 (ix (v1 + 2)) v4)) ∧ (s0 = 0 → (¬ v2 = 0 → m_X8_endOne_90 Q v1 v2 v3 v4 s0 (wI h 6 (ix (v1 + 2)) v4)) ∧ (v2 = 0 → m_X8_endOne_72 Q v1 (wI h 6 (ix (v1 + 2)) v4)))))
set_option maxHeartbeats 4000000 in
set_option maxRecDepth 100000 in
theorem s_X8_endOne_46 {l : Launch} {G : Cx} {d : Nat} {h0 : Hp} (hd : 4 ≤ d) {Q : Hp → Prop} {v1 : Int32} {v2 : Int32} {v3 : Int32} {v4 : Int32} {s0 : Int32} {h : Hp} (hm : m_X8_endOne_46 Q v1 v2 v3 v4 s0 h) : Rn l G d 0 0 MX8_endOne h0 (qV Q) 46 [some (tR 8 0 (some 5)), some (tI v1), some (tI v2), some (tI v3), some (tI v4)] [tI s0] h 0 0 := by
  unfold m_X8_endOne_46 at hm
  refine r_istore (L' := [some (tR 8 0 (some 5)), some (tI v1), some (tI v2), some (tI v3), some (tI v4), some (tI s0)]) dX8_endOne_46 (by decide) rfl ?_
  refine r_aload_n dX8_endOne_48 rfl rfl ?_
  refine r_getC (k := 1) cl_8 dX8_endOne_49 t_76 gf_8_1.1 gf_8_1.2 (gc_8_1 _) ?_
  refine r_iload_n dX8_endOne_52 rfl rfl ?_
  refine r_iconst (v := 2) dX8_endOne_53 rfl ?_
  refine r_iadd dX8_endOne_54 ?_
  refine r_iload dX8_endOne_55 rfl ?_
  refine r_iast dX8_endOne_57 hm.1 ?_
  replace hm := hm.2
  refine r_iload dX8_endOne_58 rfl ?_
  refine r_if_eq (tgt := 72) dX8_endOne_60 rfl (fun hc => ?_) (fun hc => ?_)
  · replace hm := hm.1 hc
    refine r_keep (L' := [some (tR 8 0 (some 5)), some (tI v1)]) [true, true] rfl ?_
    exact s_X8_endOne_72 hd hm
  · replace hm := hm.2 hc
    refine r_iload dX8_endOne_63 rfl ?_
    refine r_if_ne (tgt := 90) dX8_endOne_65 rfl (fun hc => ?_) (fun hc => ?_)
    · replace hm := hm.1 hc
      refine r_keep (L' := [some (tR 8 0 (some 5)), some (tI v1), some (tI v2), some (tI v3), some (tI v4), some (tI s0)]) [true, true, true, true, true, true] rfl ?_
      exact s_X8_endOne_90 hd hm
    · replace hm := hm.2 hc
      refine r_iload_n dX8_endOne_68 rfl rfl ?_
      refine r_if_ne (tgt := 90) dX8_endOne_69 rfl (fun hc => ?_) (fun hc => ?_)
      · replace hm := hm.1 hc
        refine r_keep (L' := [some (tR 8 0 (some 5)), some (tI v1), some (tI v2), some (tI v3), some (tI v4), some (tI s0)]) [true, true, true, true, true, true] rfl ?_
        exact s_X8_endOne_90 hd hm
      · replace hm := hm.2 hc
        refine r_keep (L' := [some (tR 8 0 (some 5)), some (tI v1)]) [true, true] rfl ?_
        exact s_X8_endOne_72 hd hm
def m_X8_endOne (v1 : Int32) (h : Hp) (Q : Hp → Prop) : Prop := m_X8_isBegun v1 h (fun (x7 : Int32) (h8 : Hp) => (¬ x7 = 0 → vp_in (v1 + 1) 512 ∧ (∀ x9 : Int32, x9 = (hI h8 6 (ix (v1 + 1))) → ∀ x10 : Int32, x10 = (v1 + 3) → ∀ x11 : Int32, x11 = ((hI h8 5 2) - x10) → vp_in v1 512 ∧ ((¬ (hI h8 6 (ix v1)) = (-3) → m_X8_endOne_46 Q v1 x9 x10 x11 0 h8) ∧ ((hI h8 6 (ix v1)) = (-3) → m_X8_endOne_46 Q v1 x9 x10 x11 1 h8)))) ∧ (x7 = 0 → Q h8))
set_option maxHeartbeats 4000000 in
set_option maxRecDepth 100000 in
theorem s_X8_endOne {l : Launch} {G : Cx} {d : Nat} (hd : 4 ≤ d) {v1 : Int32} {h : Hp} {Q : Hp → Prop} (hm : m_X8_endOne v1 h Q) : Ct l G d 0 0 yX8_endOne MX8_endOne [tR 8 0 (some 5), tI v1] h (qV Q) := by
  unfold m_X8_endOne at hm
  refine Ct.of (L := [some (tR 8 0 (some 5)), some (tI v1)]) (by decide) rfl rfl (Nat.le_of_ble_eq_true rfl) rfl ?_
  refine r_aload_n dX8_endOne_0 rfl rfl ?_
  refine r_iload_n dX8_endOne_1 rfl rfl ?_
  refine r_callVI (d' := d - 1) (as := [tI v1]) (st := []) cl_8 dX8_endOne_2 mi_X8_isBegun t_690 t_692 ts_12 rfl rfl (Nat.le_of_ble_eq_true rfl) (by omega) ⟨by decide, by decide⟩ ⟨rfl, rfl⟩ (s_X8_isBegun (by omega) hm) (fun x7 h8 hm => ?_)
  refine r_if_ne (tgt := 9) dX8_endOne_5 rfl (fun hc => ?_) (fun hc => ?_)
  · replace hm := hm.1 hc
    refine r_aload_n dX8_endOne_9 rfl rfl ?_
    refine r_getC (k := 1) cl_8 dX8_endOne_10 t_76 gf_8_1.1 gf_8_1.2 (gc_8_1 _) ?_
    refine r_iload_n dX8_endOne_13 rfl rfl ?_
    refine r_iconst (v := 1) dX8_endOne_14 rfl ?_
    refine r_iadd dX8_endOne_15 ?_
    refine r_iald dX8_endOne_16 hm.1 ?_
    replace hm := hm.2
    refine r_nmI (fun x9 e_x9 => ?_)
    replace hm := hm x9 e_x9
    refine r_istore_n (L' := [some (tR 8 0 (some 5)), some (tI v1), some (tI x9)]) dX8_endOne_17 rfl (by decide) rfl ?_
    refine r_iload_n dX8_endOne_18 rfl rfl ?_
    refine r_iconst (v := 3) dX8_endOne_19 rfl ?_
    refine r_iadd dX8_endOne_20 ?_
    refine r_nmI (fun x10 e_x10 => ?_)
    replace hm := hm x10 e_x10
    refine r_istore_n (L' := [some (tR 8 0 (some 5)), some (tI v1), some (tI x9), some (tI x10)]) dX8_endOne_21 rfl (by decide) rfl ?_
    refine r_aload_n dX8_endOne_22 rfl rfl ?_
    refine r_getI (k := 2) cl_8 dX8_endOne_23 t_77 (Or.inl rfl) gf_8_2 ?_
    refine r_iload_n dX8_endOne_26 rfl rfl ?_
    refine r_isub dX8_endOne_27 ?_
    refine r_nmI (fun x11 e_x11 => ?_)
    replace hm := hm x11 e_x11
    refine r_istore (L' := [some (tR 8 0 (some 5)), some (tI v1), some (tI x9), some (tI x10), some (tI x11)]) dX8_endOne_28 (by decide) rfl ?_
    refine r_aload_n dX8_endOne_30 rfl rfl ?_
    refine r_getC (k := 1) cl_8 dX8_endOne_31 t_76 gf_8_1.1 gf_8_1.2 (gc_8_1 _) ?_
    refine r_iload_n dX8_endOne_34 rfl rfl ?_
    refine r_iald dX8_endOne_35 hm.1 ?_
    replace hm := hm.2
    refine r_bipush (v := (-3)) dX8_endOne_36 rfl ?_
    refine r_icmp_ne (tgt := 45) dX8_endOne_38 rfl (fun hc => ?_) (fun hc => ?_)
    · replace hm := hm.1 hc
      refine r_iconst (v := 0) dX8_endOne_45 rfl ?_
      refine r_keep (L' := [some (tR 8 0 (some 5)), some (tI v1), some (tI x9), some (tI x10), some (tI x11)]) [true, true, true, true, true] rfl ?_
      exact s_X8_endOne_46 hd hm
    · replace hm := hm.2 hc
      refine r_iconst (v := 1) dX8_endOne_41 rfl ?_
      refine r_goto (tgt := 46) dX8_endOne_42 rfl ?_
      refine r_keep (L' := [some (tR 8 0 (some 5)), some (tI v1), some (tI x9), some (tI x10), some (tI x11)]) [true, true, true, true, true] rfl ?_
      exact s_X8_endOne_46 hd hm
  · replace hm := hm.2 hc
    exact r_return dX8_endOne_8 rfl ⟨by decide, by decide⟩ ⟨rfl, hm⟩
theorem dX2_readAfter_0 : decode cX2_readAfter 0 = .ok (.aload_n 0, 1) := rfl
theorem dX2_readAfter_1 : decode cX2_readAfter 1 = .ok (.getfield 22, 3) := rfl
theorem dX2_readAfter_4 : decode cX2_readAfter 4 = .ok (.invokevirtual 85, 3) := rfl
theorem dX2_readAfter_7 : decode cX2_readAfter 7 = .ok (.aload_n 0, 1) := rfl
theorem dX2_readAfter_8 : decode cX2_readAfter 8 = .ok (.getfield 22, 3) := rfl
theorem dX2_readAfter_11 : decode cX2_readAfter 11 = .ok (.iconst 0, 1) := rfl
theorem dX2_readAfter_12 : decode cX2_readAfter 12 = .ok (.sipush 399, 3) := by decide +kernel
theorem dX2_readAfter_15 : decode cX2_readAfter 15 = .ok (.invokevirtual 142, 3) := rfl
theorem dX2_readAfter_18 : decode cX2_readAfter 18 = .ok (.istore_n 2, 1) := rfl
theorem dX2_readAfter_19 : decode cX2_readAfter 19 = .ok (.iload_n 2, 1) := rfl
theorem dX2_readAfter_20 : decode cX2_readAfter 20 = .ok (.iconst (-1), 1) := rfl
theorem dX2_readAfter_21 : decode cX2_readAfter 21 = .ok (.if_icmp .ne 5, 3) := by decide +kernel
theorem dX2_readAfter_24 : decode cX2_readAfter 24 = .ok (.iconst 0, 1) := rfl
theorem dX2_readAfter_25 : decode cX2_readAfter 25 = .ok (.ireturn, 1) := rfl
theorem dX2_readAfter_26 : decode cX2_readAfter 26 = .ok (.aload_n 0, 1) := rfl
theorem dX2_readAfter_27 : decode cX2_readAfter 27 = .ok (.getfield 12, 3) := rfl
theorem dX2_readAfter_30 : decode cX2_readAfter 30 = .ok (.bipush (-3), 2) := by decide +kernel
theorem dX2_readAfter_32 : decode cX2_readAfter 32 = .ok (.iload_n 2, 1) := rfl
theorem dX2_readAfter_33 : decode cX2_readAfter 33 = .ok (.invokevirtual 161, 3) := rfl
theorem dX2_readAfter_36 : decode cX2_readAfter 36 = .ok (.istore_n 3, 1) := rfl
theorem dX2_readAfter_37 : decode cX2_readAfter 37 = .ok (.aload_n 0, 1) := rfl
theorem dX2_readAfter_38 : decode cX2_readAfter 38 = .ok (.dup, 1) := rfl
theorem dX2_readAfter_39 : decode cX2_readAfter 39 = .ok (.getfield 36, 3) := rfl
theorem dX2_readAfter_42 : decode cX2_readAfter 42 = .ok (.iload_n 2, 1) := rfl
theorem dX2_readAfter_43 : decode cX2_readAfter 43 = .ok (.iadd, 1) := rfl
theorem dX2_readAfter_44 : decode cX2_readAfter 44 = .ok (.putfield 36, 3) := rfl
theorem dX2_readAfter_47 : decode cX2_readAfter 47 = .ok (.aload_n 0, 1) := rfl
theorem dX2_readAfter_48 : decode cX2_readAfter 48 = .ok (.iload_n 1, 1) := rfl
theorem dX2_readAfter_49 : decode cX2_readAfter 49 = .ok (.invokevirtual 164, 3) := rfl
theorem dX2_readAfter_52 : decode cX2_readAfter 52 = .ok (.istore 4, 2) := rfl
theorem dX2_readAfter_54 : decode cX2_readAfter 54 = .ok (.aload_n 0, 1) := rfl
theorem dX2_readAfter_55 : decode cX2_readAfter 55 = .ok (.dup, 1) := rfl
theorem dX2_readAfter_56 : decode cX2_readAfter 56 = .ok (.getfield 36, 3) := rfl
theorem dX2_readAfter_59 : decode cX2_readAfter 59 = .ok (.iload_n 2, 1) := rfl
theorem dX2_readAfter_60 : decode cX2_readAfter 60 = .ok (.isub, 1) := rfl
theorem dX2_readAfter_61 : decode cX2_readAfter 61 = .ok (.putfield 36, 3) := rfl
theorem dX2_readAfter_64 : decode cX2_readAfter 64 = .ok (.aload_n 0, 1) := rfl
theorem dX2_readAfter_65 : decode cX2_readAfter 65 = .ok (.getfield 12, 3) := rfl
theorem dX2_readAfter_68 : decode cX2_readAfter 68 = .ok (.iload_n 3, 1) := rfl
theorem dX2_readAfter_69 : decode cX2_readAfter 69 = .ok (.invokevirtual 167, 3) := rfl
theorem dX2_readAfter_72 : decode cX2_readAfter 72 = .ok (.iload 4, 2) := rfl
theorem dX2_readAfter_74 : decode cX2_readAfter 74 = .ok (.ireturn, 1) := rfl
def m_X2_readAfter (RA : Int32 → Hp → (Int32 → Hp → Prop) → Prop) (v1 : Int32) (h : Hp) (Q : Int32 → Hp → Prop) : Prop := m_X10_advance h (fun (h2 : Hp) => m_X10_takeNumber 0 399 h2 (fun (x3 : Int32) (h4 : Hp) => (¬ x3 = (-1) → m_X8_begin (-3) x3 h4 (fun (x5 : Int32) (h6 : Hp) => m_X2_readBlock RA v1 (wI h6 4 4 ((hI h6 4 4) + x3)) (fun (x7 : Int32) (h8 : Hp) => m_X8_endOne x5 (wI h8 4 4 ((hI h8 4 4) - x3)) (fun (h10 : Hp) => bz x7 ∧ Q x7 h10)))) ∧ (x3 = (-1) → Q 0 h4)))
set_option maxHeartbeats 4000000 in
set_option maxRecDepth 100000 in
theorem s_X2_readAfter {l : Launch} {G : Cx} {RA : Int32 → Hp → (Int32 → Hp → Prop) → Prop} {d dR : Nat} (hd : dR + 8 ≤ d) (hR : ∀ (d : Nat), dR ≤ d → ∀ {o : Int32} {h : Hp} {Q : Int32 → Hp → Prop}, RA o h Q → Ct l G d 0 0 yX2_readAll MX2_readAll [tR 2 0 (some 4), tI o] h (qI Q)) {v1 : Int32} {h : Hp} {Q : Int32 → Hp → Prop} (hm : m_X2_readAfter RA v1 h Q) : Ct l G d 0 0 yX2_readAfter MX2_readAfter [tR 2 0 (some 4), tI v1] h (qI Q) := by
  unfold m_X2_readAfter at hm
  refine Ct.of (L := [some (tR 2 0 (some 4)), some (tI v1)]) (by decide) rfl rfl (Nat.le_of_ble_eq_true rfl) rfl ?_
  refine r_aload_n dX2_readAfter_0 rfl rfl ?_
  refine r_getC (k := 0) cl_2 dX2_readAfter_1 t_85 gf_2_0.1 gf_2_0.2 (gc_2_0 _) ?_
  refine r_callVU (d' := d - 1) (as := []) (st := []) cl_10 dX2_readAfter_4 mi_X10_advance t_600 t_516 t_517 rfl rfl (Nat.le_of_ble_eq_true rfl) (by omega) ⟨by decide, by decide⟩ ⟨rfl, rfl⟩ (s_X10_advance (by omega) hm) (fun h2 hm => ?_)
  refine r_aload_n dX2_readAfter_7 rfl rfl ?_
  refine r_getC (k := 0) cl_2 dX2_readAfter_8 t_85 gf_2_0.1 gf_2_0.2 (gc_2_0 _) ?_
  refine r_iconst (v := 0) dX2_readAfter_11 rfl ?_
  refine r_sipush (v := 399) dX2_readAfter_12 rfl ?_
  refine r_callVI (d' := d - 1) (as := [tI 0, tI 399]) (st := []) cl_10 dX2_readAfter_15 mi_X10_takeNumber t_617 t_618 t_619 rfl rfl (Nat.le_of_ble_eq_true rfl) (by omega) ⟨by decide, by decide⟩ ⟨rfl, rfl⟩ (s_X10_takeNumber (by omega) hm) (fun x3 h4 hm => ?_)
  refine r_istore_n (L' := [some (tR 2 0 (some 4)), some (tI v1), some (tI x3)]) dX2_readAfter_18 rfl (by decide) rfl ?_
  refine r_iload_n dX2_readAfter_19 rfl rfl ?_
  refine r_iconst (v := (-1)) dX2_readAfter_20 rfl ?_
  refine r_icmp_ne (tgt := 26) dX2_readAfter_21 rfl (fun hc => ?_) (fun hc => ?_)
  · replace hm := hm.1 hc
    refine r_aload_n dX2_readAfter_26 rfl rfl ?_
    refine r_getC (k := 1) cl_2 dX2_readAfter_27 t_86 gf_2_1.1 gf_2_1.2 (gc_2_1 _) ?_
    refine r_bipush (v := (-3)) dX2_readAfter_30 rfl ?_
    refine r_iload_n dX2_readAfter_32 rfl rfl ?_
    refine r_callVI (d' := d - 1) (as := [tI (-3), tI x3]) (st := []) cl_8 dX2_readAfter_33 mi_X8_begin t_670 t_671 t_672 rfl rfl (Nat.le_of_ble_eq_true rfl) (by omega) ⟨by decide, by decide⟩ ⟨rfl, rfl⟩ (s_X8_begin (by omega) hm) (fun x5 h6 hm => ?_)
    refine r_istore_n (L' := [some (tR 2 0 (some 4)), some (tI v1), some (tI x3), some (tI x5)]) dX2_readAfter_36 rfl (by decide) rfl ?_
    refine r_aload_n dX2_readAfter_37 rfl rfl ?_
    refine r_dup dX2_readAfter_38 cv_cat1R ?_
    refine r_getI (k := 4) cl_2 dX2_readAfter_39 t_89 (Or.inl rfl) gf_2_4 ?_
    refine r_iload_n dX2_readAfter_42 rfl rfl ?_
    refine r_iadd dX2_readAfter_43 ?_
    refine r_putI0 (k := 4) cl_2 dX2_readAfter_44 t_89 (Or.inl rfl) gf_2_4 pf_2_4.1 (Or.inl pf_2_4.2) ?_
    refine r_aload_n dX2_readAfter_47 rfl rfl ?_
    refine r_iload_n dX2_readAfter_48 rfl rfl ?_
    refine r_callVI (d' := d - 1) (as := [tI v1]) (st := []) cl_2 dX2_readAfter_49 mi_X2_readBlock t_674 t_676 ts_11 rfl rfl (Nat.le_of_ble_eq_true rfl) (by omega) ⟨by decide, by decide⟩ ⟨rfl, rfl⟩ (s_X2_readBlock (by omega) hR hm) (fun x7 h8 hm => ?_)
    refine r_istore (L' := [some (tR 2 0 (some 4)), some (tI v1), some (tI x3), some (tI x5), some (tI x7)]) dX2_readAfter_52 (by decide) rfl ?_
    refine r_aload_n dX2_readAfter_54 rfl rfl ?_
    refine r_dup dX2_readAfter_55 cv_cat1R ?_
    refine r_getI (k := 4) cl_2 dX2_readAfter_56 t_89 (Or.inl rfl) gf_2_4 ?_
    refine r_iload_n dX2_readAfter_59 rfl rfl ?_
    refine r_isub dX2_readAfter_60 ?_
    refine r_putI0 (k := 4) cl_2 dX2_readAfter_61 t_89 (Or.inl rfl) gf_2_4 pf_2_4.1 (Or.inl pf_2_4.2) ?_
    refine r_aload_n dX2_readAfter_64 rfl rfl ?_
    refine r_getC (k := 1) cl_2 dX2_readAfter_65 t_86 gf_2_1.1 gf_2_1.2 (gc_2_1 _) ?_
    refine r_iload_n dX2_readAfter_68 rfl rfl ?_
    refine r_callVU (d' := d - 1) (as := [tI x5]) (st := []) cl_8 dX2_readAfter_69 mi_X8_endOne t_686 t_687 t_688 rfl rfl (Nat.le_of_ble_eq_true rfl) (by omega) ⟨by decide, by decide⟩ ⟨rfl, rfl⟩ (s_X8_endOne (by omega) hm) (fun h10 hm => ?_)
    refine r_iload dX2_readAfter_72 rfl ?_
    exact r_bret dX2_readAfter_74 rfl ⟨by decide, by decide⟩ hm.1 ⟨_, rfl, hm.2⟩
  · replace hm := hm.2 hc
    refine r_iconst (v := 0) dX2_readAfter_24 rfl ?_
    exact r_bret dX2_readAfter_25 rfl ⟨by decide, by decide⟩ (by unfold bz; decide) ⟨_, rfl, hm⟩
theorem dX2_readTimes_0 : decode cX2_readTimes 0 = .ok (.aload_n 0, 1) := rfl
theorem dX2_readTimes_1 : decode cX2_readTimes 1 = .ok (.getfield 22, 3) := rfl
theorem dX2_readTimes_4 : decode cX2_readTimes 4 = .ok (.invokevirtual 85, 3) := rfl
theorem dX2_readTimes_7 : decode cX2_readTimes 7 = .ok (.aload_n 0, 1) := rfl
theorem dX2_readTimes_8 : decode cX2_readTimes 8 = .ok (.getfield 22, 3) := rfl
theorem dX2_readTimes_11 : decode cX2_readTimes 11 = .ok (.iconst 0, 1) := rfl
theorem dX2_readTimes_12 : decode cX2_readTimes 12 = .ok (.bipush 9, 2) := by decide +kernel
theorem dX2_readTimes_14 : decode cX2_readTimes 14 = .ok (.invokevirtual 142, 3) := rfl
theorem dX2_readTimes_17 : decode cX2_readTimes 17 = .ok (.istore_n 2, 1) := rfl
theorem dX2_readTimes_18 : decode cX2_readTimes 18 = .ok (.iload_n 2, 1) := rfl
theorem dX2_readTimes_19 : decode cX2_readTimes 19 = .ok (.iconst (-1), 1) := rfl
theorem dX2_readTimes_20 : decode cX2_readTimes 20 = .ok (.if_icmp .ne 5, 3) := by decide +kernel
theorem dX2_readTimes_23 : decode cX2_readTimes 23 = .ok (.iconst 0, 1) := rfl
theorem dX2_readTimes_24 : decode cX2_readTimes 24 = .ok (.ireturn, 1) := rfl
theorem dX2_readTimes_25 : decode cX2_readTimes 25 = .ok (.aload_n 0, 1) := rfl
theorem dX2_readTimes_26 : decode cX2_readTimes 26 = .ok (.getfield 12, 3) := rfl
theorem dX2_readTimes_29 : decode cX2_readTimes 29 = .ok (.bipush (-4), 2) := by decide +kernel
theorem dX2_readTimes_31 : decode cX2_readTimes 31 = .ok (.iload_n 2, 1) := rfl
theorem dX2_readTimes_32 : decode cX2_readTimes 32 = .ok (.invokevirtual 161, 3) := rfl
theorem dX2_readTimes_35 : decode cX2_readTimes 35 = .ok (.istore_n 3, 1) := rfl
theorem dX2_readTimes_36 : decode cX2_readTimes 36 = .ok (.aload_n 0, 1) := rfl
theorem dX2_readTimes_37 : decode cX2_readTimes 37 = .ok (.getfield 40, 3) := rfl
theorem dX2_readTimes_40 : decode cX2_readTimes 40 = .ok (.istore 4, 2) := rfl
theorem dX2_readTimes_42 : decode cX2_readTimes 42 = .ok (.aload_n 0, 1) := rfl
theorem dX2_readTimes_43 : decode cX2_readTimes 43 = .ok (.dup, 1) := rfl
theorem dX2_readTimes_44 : decode cX2_readTimes 44 = .ok (.getfield 40, 3) := rfl
theorem dX2_readTimes_47 : decode cX2_readTimes 47 = .ok (.iload_n 2, 1) := rfl
theorem dX2_readTimes_48 : decode cX2_readTimes 48 = .ok (.imul, 1) := rfl
theorem dX2_readTimes_49 : decode cX2_readTimes 49 = .ok (.putfield 40, 3) := rfl
theorem dX2_readTimes_52 : decode cX2_readTimes 52 = .ok (.aload_n 0, 1) := rfl
theorem dX2_readTimes_53 : decode cX2_readTimes 53 = .ok (.iload_n 1, 1) := rfl
theorem dX2_readTimes_54 : decode cX2_readTimes 54 = .ok (.invokevirtual 164, 3) := rfl
theorem dX2_readTimes_57 : decode cX2_readTimes 57 = .ok (.istore 5, 2) := rfl
theorem dX2_readTimes_59 : decode cX2_readTimes 59 = .ok (.aload_n 0, 1) := rfl
theorem dX2_readTimes_60 : decode cX2_readTimes 60 = .ok (.iload 4, 2) := rfl
theorem dX2_readTimes_62 : decode cX2_readTimes 62 = .ok (.putfield 40, 3) := rfl
theorem dX2_readTimes_65 : decode cX2_readTimes 65 = .ok (.aload_n 0, 1) := rfl
theorem dX2_readTimes_66 : decode cX2_readTimes 66 = .ok (.getfield 12, 3) := rfl
theorem dX2_readTimes_69 : decode cX2_readTimes 69 = .ok (.iload_n 3, 1) := rfl
theorem dX2_readTimes_70 : decode cX2_readTimes 70 = .ok (.invokevirtual 167, 3) := rfl
theorem dX2_readTimes_73 : decode cX2_readTimes 73 = .ok (.iload 5, 2) := rfl
theorem dX2_readTimes_75 : decode cX2_readTimes 75 = .ok (.ireturn, 1) := rfl
def m_X2_readTimes (RA : Int32 → Hp → (Int32 → Hp → Prop) → Prop) (v1 : Int32) (h : Hp) (Q : Int32 → Hp → Prop) : Prop := m_X10_advance h (fun (h2 : Hp) => m_X10_takeNumber 0 9 h2 (fun (x3 : Int32) (h4 : Hp) => (¬ x3 = (-1) → m_X8_begin (-4) x3 h4 (fun (x5 : Int32) (h6 : Hp) => ∀ x7 : Int32, x7 = (hI h6 4 5) → m_X2_readBlock RA v1 (wI h6 4 5 ((hI h6 4 5) * x3)) (fun (x8 : Int32) (h9 : Hp) => m_X8_endOne x5 (wI h9 4 5 x7) (fun (h11 : Hp) => bz x8 ∧ Q x8 h11)))) ∧ (x3 = (-1) → Q 0 h4)))
set_option maxHeartbeats 4000000 in
set_option maxRecDepth 100000 in
theorem s_X2_readTimes {l : Launch} {G : Cx} {RA : Int32 → Hp → (Int32 → Hp → Prop) → Prop} {d dR : Nat} (hd : dR + 8 ≤ d) (hR : ∀ (d : Nat), dR ≤ d → ∀ {o : Int32} {h : Hp} {Q : Int32 → Hp → Prop}, RA o h Q → Ct l G d 0 0 yX2_readAll MX2_readAll [tR 2 0 (some 4), tI o] h (qI Q)) {v1 : Int32} {h : Hp} {Q : Int32 → Hp → Prop} (hm : m_X2_readTimes RA v1 h Q) : Ct l G d 0 0 yX2_readTimes MX2_readTimes [tR 2 0 (some 4), tI v1] h (qI Q) := by
  unfold m_X2_readTimes at hm
  refine Ct.of (L := [some (tR 2 0 (some 4)), some (tI v1)]) (by decide) rfl rfl (Nat.le_of_ble_eq_true rfl) rfl ?_
  refine r_aload_n dX2_readTimes_0 rfl rfl ?_
  refine r_getC (k := 0) cl_2 dX2_readTimes_1 t_85 gf_2_0.1 gf_2_0.2 (gc_2_0 _) ?_
  refine r_callVU (d' := d - 1) (as := []) (st := []) cl_10 dX2_readTimes_4 mi_X10_advance t_600 t_516 t_517 rfl rfl (Nat.le_of_ble_eq_true rfl) (by omega) ⟨by decide, by decide⟩ ⟨rfl, rfl⟩ (s_X10_advance (by omega) hm) (fun h2 hm => ?_)
  refine r_aload_n dX2_readTimes_7 rfl rfl ?_
  refine r_getC (k := 0) cl_2 dX2_readTimes_8 t_85 gf_2_0.1 gf_2_0.2 (gc_2_0 _) ?_
  refine r_iconst (v := 0) dX2_readTimes_11 rfl ?_
  refine r_bipush (v := 9) dX2_readTimes_12 rfl ?_
  refine r_callVI (d' := d - 1) (as := [tI 0, tI 9]) (st := []) cl_10 dX2_readTimes_14 mi_X10_takeNumber t_617 t_618 t_619 rfl rfl (Nat.le_of_ble_eq_true rfl) (by omega) ⟨by decide, by decide⟩ ⟨rfl, rfl⟩ (s_X10_takeNumber (by omega) hm) (fun x3 h4 hm => ?_)
  refine r_istore_n (L' := [some (tR 2 0 (some 4)), some (tI v1), some (tI x3)]) dX2_readTimes_17 rfl (by decide) rfl ?_
  refine r_iload_n dX2_readTimes_18 rfl rfl ?_
  refine r_iconst (v := (-1)) dX2_readTimes_19 rfl ?_
  refine r_icmp_ne (tgt := 25) dX2_readTimes_20 rfl (fun hc => ?_) (fun hc => ?_)
  · replace hm := hm.1 hc
    refine r_aload_n dX2_readTimes_25 rfl rfl ?_
    refine r_getC (k := 1) cl_2 dX2_readTimes_26 t_86 gf_2_1.1 gf_2_1.2 (gc_2_1 _) ?_
    refine r_bipush (v := (-4)) dX2_readTimes_29 rfl ?_
    refine r_iload_n dX2_readTimes_31 rfl rfl ?_
    refine r_callVI (d' := d - 1) (as := [tI (-4), tI x3]) (st := []) cl_8 dX2_readTimes_32 mi_X8_begin t_670 t_671 t_672 rfl rfl (Nat.le_of_ble_eq_true rfl) (by omega) ⟨by decide, by decide⟩ ⟨rfl, rfl⟩ (s_X8_begin (by omega) hm) (fun x5 h6 hm => ?_)
    refine r_istore_n (L' := [some (tR 2 0 (some 4)), some (tI v1), some (tI x3), some (tI x5)]) dX2_readTimes_35 rfl (by decide) rfl ?_
    refine r_aload_n dX2_readTimes_36 rfl rfl ?_
    refine r_getI (k := 5) cl_2 dX2_readTimes_37 t_90 (Or.inl rfl) gf_2_5 ?_
    refine r_nmI (fun x7 e_x7 => ?_)
    replace hm := hm x7 e_x7
    refine r_istore (L' := [some (tR 2 0 (some 4)), some (tI v1), some (tI x3), some (tI x5), some (tI x7)]) dX2_readTimes_40 (by decide) rfl ?_
    refine r_aload_n dX2_readTimes_42 rfl rfl ?_
    refine r_dup dX2_readTimes_43 cv_cat1R ?_
    refine r_getI (k := 5) cl_2 dX2_readTimes_44 t_90 (Or.inl rfl) gf_2_5 ?_
    refine r_iload_n dX2_readTimes_47 rfl rfl ?_
    refine r_imul dX2_readTimes_48 ?_
    refine r_putI0 (k := 5) cl_2 dX2_readTimes_49 t_90 (Or.inl rfl) gf_2_5 pf_2_5.1 (Or.inl pf_2_5.2) ?_
    refine r_aload_n dX2_readTimes_52 rfl rfl ?_
    refine r_iload_n dX2_readTimes_53 rfl rfl ?_
    refine r_callVI (d' := d - 1) (as := [tI v1]) (st := []) cl_2 dX2_readTimes_54 mi_X2_readBlock t_674 t_676 ts_11 rfl rfl (Nat.le_of_ble_eq_true rfl) (by omega) ⟨by decide, by decide⟩ ⟨rfl, rfl⟩ (s_X2_readBlock (by omega) hR hm) (fun x8 h9 hm => ?_)
    refine r_istore (L' := [some (tR 2 0 (some 4)), some (tI v1), some (tI x3), some (tI x5), some (tI x7), some (tI x8)]) dX2_readTimes_57 (by decide) rfl ?_
    refine r_aload_n dX2_readTimes_59 rfl rfl ?_
    refine r_iload dX2_readTimes_60 rfl ?_
    refine r_putI0 (k := 5) cl_2 dX2_readTimes_62 t_90 (Or.inl rfl) gf_2_5 pf_2_5.1 (Or.inl pf_2_5.2) ?_
    refine r_aload_n dX2_readTimes_65 rfl rfl ?_
    refine r_getC (k := 1) cl_2 dX2_readTimes_66 t_86 gf_2_1.1 gf_2_1.2 (gc_2_1 _) ?_
    refine r_iload_n dX2_readTimes_69 rfl rfl ?_
    refine r_callVU (d' := d - 1) (as := [tI x5]) (st := []) cl_8 dX2_readTimes_70 mi_X8_endOne t_686 t_687 t_688 rfl rfl (Nat.le_of_ble_eq_true rfl) (by omega) ⟨by decide, by decide⟩ ⟨rfl, rfl⟩ (s_X8_endOne (by omega) hm) (fun h11 hm => ?_)
    refine r_iload dX2_readTimes_73 rfl ?_
    exact r_bret dX2_readTimes_75 rfl ⟨by decide, by decide⟩ hm.1 ⟨_, rfl, hm.2⟩
  · replace hm := hm.2 hc
    refine r_iconst (v := 0) dX2_readTimes_23 rfl ?_
    exact r_bret dX2_readTimes_24 rfl ⟨by decide, by decide⟩ (by unfold bz; decide) ⟨_, rfl, hm⟩
theorem dX2_readBranch_0 : decode cX2_readBranch 0 = .ok (.aload_n 0, 1) := by decide +kernel
theorem dX2_readBranch_1 : decode cX2_readBranch 1 = .ok (.getfield 43, 3) := by decide +kernel
theorem dX2_readBranch_4 : decode cX2_readBranch 4 = .ok (.istore 4, 2) := by decide +kernel
theorem dX2_readBranch_6 : decode cX2_readBranch 6 = .ok (.aload_n 0, 1) := by decide +kernel
theorem dX2_readBranch_7 : decode cX2_readBranch 7 = .ok (.getfield 46, 3) := by decide +kernel
theorem dX2_readBranch_10 : decode cX2_readBranch 10 = .ok (.istore 5, 2) := by decide +kernel
theorem dX2_readBranch_12 : decode cX2_readBranch 12 = .ok (.aload_n 0, 1) := by decide +kernel
theorem dX2_readBranch_13 : decode cX2_readBranch 13 = .ok (.getfield 40, 3) := by decide +kernel
theorem dX2_readBranch_16 : decode cX2_readBranch 16 = .ok (.istore 6, 2) := by decide +kernel
theorem dX2_readBranch_18 : decode cX2_readBranch 18 = .ok (.aload_n 0, 1) := by decide +kernel
theorem dX2_readBranch_19 : decode cX2_readBranch 19 = .ok (.getfield 43, 3) := by decide +kernel
theorem dX2_readBranch_22 : decode cX2_readBranch 22 = .ok (.iload_n 2, 1) := by decide +kernel
theorem dX2_readBranch_23 : decode cX2_readBranch 23 = .ok (.ishr, 1) := by decide +kernel
theorem dX2_readBranch_24 : decode cX2_readBranch 24 = .ok (.iconst 1, 1) := by decide +kernel
theorem dX2_readBranch_25 : decode cX2_readBranch 25 = .ok (.iand, 1) := by decide +kernel
theorem dX2_readBranch_26 : decode cX2_readBranch 26 = .ok (.iconst 1, 1) := by decide +kernel
theorem dX2_readBranch_27 : decode cX2_readBranch 27 = .ok (.if_icmp .ne 20, 3) := by decide +kernel
theorem dX2_readBranch_30 : decode cX2_readBranch 30 = .ok (.aload_n 0, 1) := by decide +kernel
theorem dX2_readBranch_31 : decode cX2_readBranch 31 = .ok (.getfield 46, 3) := by decide +kernel
theorem dX2_readBranch_34 : decode cX2_readBranch 34 = .ok (.iload_n 2, 1) := by decide +kernel
theorem dX2_readBranch_35 : decode cX2_readBranch 35 = .ok (.ishr, 1) := by decide +kernel
theorem dX2_readBranch_36 : decode cX2_readBranch 36 = .ok (.iconst 1, 1) := by decide +kernel
theorem dX2_readBranch_37 : decode cX2_readBranch 37 = .ok (.iand, 1) := by decide +kernel
theorem dX2_readBranch_38 : decode cX2_readBranch 38 = .ok (.iload_n 3, 1) := by decide +kernel
theorem dX2_readBranch_39 : decode cX2_readBranch 39 = .ok (.if_icmp .eq 8, 3) := by decide +kernel
theorem dX2_readBranch_42 : decode cX2_readBranch 42 = .ok (.aload_n 0, 1) := by decide +kernel
theorem dX2_readBranch_43 : decode cX2_readBranch 43 = .ok (.iconst 0, 1) := by decide +kernel
theorem dX2_readBranch_44 : decode cX2_readBranch 44 = .ok (.putfield 40, 3) := by decide +kernel
theorem dX2_readBranch_47 : decode cX2_readBranch 47 = .ok (.aload_n 0, 1) := by decide +kernel
theorem dX2_readBranch_48 : decode cX2_readBranch 48 = .ok (.dup, 1) := by decide +kernel
theorem dX2_readBranch_49 : decode cX2_readBranch 49 = .ok (.getfield 43, 3) := by decide +kernel
theorem dX2_readBranch_52 : decode cX2_readBranch 52 = .ok (.iconst 1, 1) := by decide +kernel
theorem dX2_readBranch_53 : decode cX2_readBranch 53 = .ok (.iload_n 2, 1) := by decide +kernel
theorem dX2_readBranch_54 : decode cX2_readBranch 54 = .ok (.ishl, 1) := by decide +kernel
theorem dX2_readBranch_55 : decode cX2_readBranch 55 = .ok (.ior, 1) := by decide +kernel
theorem dX2_readBranch_56 : decode cX2_readBranch 56 = .ok (.putfield 43, 3) := by decide +kernel
theorem dX2_readBranch_59 : decode cX2_readBranch 59 = .ok (.aload_n 0, 1) := by decide +kernel
theorem dX2_readBranch_60 : decode cX2_readBranch 60 = .ok (.aload_n 0, 1) := by decide +kernel
theorem dX2_readBranch_61 : decode cX2_readBranch 61 = .ok (.getfield 46, 3) := by decide +kernel
theorem dX2_readBranch_64 : decode cX2_readBranch 64 = .ok (.iconst 1, 1) := by decide +kernel
theorem dX2_readBranch_65 : decode cX2_readBranch 65 = .ok (.iload_n 2, 1) := by decide +kernel
theorem dX2_readBranch_66 : decode cX2_readBranch 66 = .ok (.ishl, 1) := by decide +kernel
theorem dX2_readBranch_67 : decode cX2_readBranch 67 = .ok (.iconst (-1), 1) := by decide +kernel
theorem dX2_readBranch_68 : decode cX2_readBranch 68 = .ok (.ixor, 1) := by decide +kernel
theorem dX2_readBranch_69 : decode cX2_readBranch 69 = .ok (.iand, 1) := by decide +kernel
theorem dX2_readBranch_70 : decode cX2_readBranch 70 = .ok (.iload_n 3, 1) := by decide +kernel
theorem dX2_readBranch_71 : decode cX2_readBranch 71 = .ok (.iload_n 2, 1) := by decide +kernel
theorem dX2_readBranch_72 : decode cX2_readBranch 72 = .ok (.ishl, 1) := by decide +kernel
theorem dX2_readBranch_73 : decode cX2_readBranch 73 = .ok (.ior, 1) := by decide +kernel
theorem dX2_readBranch_74 : decode cX2_readBranch 74 = .ok (.putfield 46, 3) := by decide +kernel
theorem dX2_readBranch_77 : decode cX2_readBranch 77 = .ok (.aload_n 0, 1) := by decide +kernel
theorem dX2_readBranch_78 : decode cX2_readBranch 78 = .ok (.iload_n 1, 1) := by decide +kernel
theorem dX2_readBranch_79 : decode cX2_readBranch 79 = .ok (.invokevirtual 164, 3) := by decide +kernel
theorem dX2_readBranch_82 : decode cX2_readBranch 82 = .ok (.istore 7, 2) := by decide +kernel
theorem dX2_readBranch_84 : decode cX2_readBranch 84 = .ok (.aload_n 0, 1) := by decide +kernel
theorem dX2_readBranch_85 : decode cX2_readBranch 85 = .ok (.iload 4, 2) := by decide +kernel
theorem dX2_readBranch_87 : decode cX2_readBranch 87 = .ok (.putfield 43, 3) := by decide +kernel
theorem dX2_readBranch_90 : decode cX2_readBranch 90 = .ok (.aload_n 0, 1) := by decide +kernel
theorem dX2_readBranch_91 : decode cX2_readBranch 91 = .ok (.iload 5, 2) := by decide +kernel
theorem dX2_readBranch_93 : decode cX2_readBranch 93 = .ok (.putfield 46, 3) := by decide +kernel
theorem dX2_readBranch_96 : decode cX2_readBranch 96 = .ok (.aload_n 0, 1) := by decide +kernel
theorem dX2_readBranch_97 : decode cX2_readBranch 97 = .ok (.iload 6, 2) := by decide +kernel
theorem dX2_readBranch_99 : decode cX2_readBranch 99 = .ok (.putfield 40, 3) := by decide +kernel
theorem dX2_readBranch_102 : decode cX2_readBranch 102 = .ok (.iload 7, 2) := by decide +kernel
theorem dX2_readBranch_104 : decode cX2_readBranch 104 = .ok (.ireturn, 1) := by decide +kernel
def m_X2_readBranch_47 (RA : Int32 → Hp → (Int32 → Hp → Prop) → Prop)  (Q : Int32 → Hp → Prop) (v1 : Int32) (v2 : Int32) (v3 : Int32) (v4 : Int32) (v5 : Int32) (v6 : Int32) (h : Hp) : Prop := m_X2_readBlock RA v1 (wI (wI h 4 6 ((hI h 4 6) ||| (1 <<< (v2 &&& 31)))) 4 7 (((hI (wI h 4 6 ((hI h 4 6) ||| (1 <<< (v2 &&& 31)))) 4 7) &&& ((1 <<< (v2 &&& 31)) ^^^ (-1))) ||| (v3 <<< (v2 &&& 31)))) (fun (x1 : Int32) (h2 : Hp) => bz x1 ∧ Q x1 (wI (wI (wI h2 4 6 v4) 4 7 v5) 4 5 v6))
set_option maxHeartbeats 4000000 in
set_option maxRecDepth 100000 in
theorem s_X2_readBranch_47 {l : Launch} {G : Cx} {RA : Int32 → Hp → (Int32 → Hp → Prop) → Prop} {d dR : Nat} {h0 : Hp} (hd : dR + 8 ≤ d) (hR : ∀ (d : Nat), dR ≤ d → ∀ {o : Int32} {h : Hp} {Q : Int32 → Hp → Prop}, RA o h Q → Ct l G d 0 0 yX2_readAll MX2_readAll [tR 2 0 (some 4), tI o] h (qI Q)) {Q : Int32 → Hp → Prop} {v1 : Int32} {v2 : Int32} {v3 : Int32} {v4 : Int32} {v5 : Int32} {v6 : Int32} {h : Hp} (hm : m_X2_readBranch_47 RA Q v1 v2 v3 v4 v5 v6 h) : Rn l G d 0 0 MX2_readBranch h0 (qI Q) 47 [some (tR 2 0 (some 4)), some (tI v1), some (tI v2), some (tI v3), some (tI v4), some (tI v5), some (tI v6)] [] h 0 0 := by
  unfold m_X2_readBranch_47 at hm
  refine r_aload_n dX2_readBranch_47 rfl rfl ?_
  refine r_dup dX2_readBranch_48 cv_cat1R ?_
  refine r_getI (k := 6) cl_2 dX2_readBranch_49 t_91 (Or.inl rfl) gf_2_6 ?_
  refine r_iconst (v := 1) dX2_readBranch_52 rfl ?_
  refine r_iload_n dX2_readBranch_53 rfl rfl ?_
  refine r_ishl dX2_readBranch_54 ?_
  refine r_ior dX2_readBranch_55 ?_
  refine r_putI0 (k := 6) cl_2 dX2_readBranch_56 t_91 (Or.inl rfl) gf_2_6 pf_2_6.1 (Or.inl pf_2_6.2) ?_
  refine r_aload_n dX2_readBranch_59 rfl rfl ?_
  refine r_aload_n dX2_readBranch_60 rfl rfl ?_
  refine r_getI (k := 7) cl_2 dX2_readBranch_61 t_92 (Or.inl rfl) gf_2_7 ?_
  refine r_iconst (v := 1) dX2_readBranch_64 rfl ?_
  refine r_iload_n dX2_readBranch_65 rfl rfl ?_
  refine r_ishl dX2_readBranch_66 ?_
  refine r_iconst (v := (-1)) dX2_readBranch_67 rfl ?_
  refine r_ixor dX2_readBranch_68 ?_
  refine r_iand dX2_readBranch_69 ?_
  refine r_iload_n dX2_readBranch_70 rfl rfl ?_
  refine r_iload_n dX2_readBranch_71 rfl rfl ?_
  refine r_ishl dX2_readBranch_72 ?_
  refine r_ior dX2_readBranch_73 ?_
  refine r_putI0 (k := 7) cl_2 dX2_readBranch_74 t_92 (Or.inl rfl) gf_2_7 pf_2_7.1 (Or.inl pf_2_7.2) ?_
  refine r_aload_n dX2_readBranch_77 rfl rfl ?_
  refine r_iload_n dX2_readBranch_78 rfl rfl ?_
  refine r_callVI (d' := d - 1) (as := [tI v1]) (st := []) cl_2 dX2_readBranch_79 mi_X2_readBlock t_674 t_676 ts_11 rfl rfl (Nat.le_of_ble_eq_true rfl) (by omega) ⟨by decide, by decide⟩ ⟨rfl, rfl⟩ (s_X2_readBlock (by omega) hR hm) (fun x1 h2 hm => ?_)
  refine r_istore (L' := [some (tR 2 0 (some 4)), some (tI v1), some (tI v2), some (tI v3), some (tI v4), some (tI v5), some (tI v6), some (tI x1)]) dX2_readBranch_82 (by decide) rfl ?_
  refine r_aload_n dX2_readBranch_84 rfl rfl ?_
  refine r_iload dX2_readBranch_85 rfl ?_
  refine r_putI0 (k := 6) cl_2 dX2_readBranch_87 t_91 (Or.inl rfl) gf_2_6 pf_2_6.1 (Or.inl pf_2_6.2) ?_
  refine r_aload_n dX2_readBranch_90 rfl rfl ?_
  refine r_iload dX2_readBranch_91 rfl ?_
  refine r_putI0 (k := 7) cl_2 dX2_readBranch_93 t_92 (Or.inl rfl) gf_2_7 pf_2_7.1 (Or.inl pf_2_7.2) ?_
  refine r_aload_n dX2_readBranch_96 rfl rfl ?_
  refine r_iload dX2_readBranch_97 rfl ?_
  refine r_putI0 (k := 5) cl_2 dX2_readBranch_99 t_90 (Or.inl rfl) gf_2_5 pf_2_5.1 (Or.inl pf_2_5.2) ?_
  refine r_iload dX2_readBranch_102 rfl ?_
  exact r_bret dX2_readBranch_104 rfl ⟨by decide, by decide⟩ hm.1 ⟨_, rfl, hm.2⟩
def m_X2_readBranch (RA : Int32 → Hp → (Int32 → Hp → Prop) → Prop) (v1 : Int32) (v2 : Int32) (v3 : Int32) (h : Hp) (Q : Int32 → Hp → Prop) : Prop := ∀ x3 : Int32, x3 = (hI h 4 6) → ∀ x4 : Int32, x4 = (hI h 4 7) → ∀ x5 : Int32, x5 = (hI h 4 5) → (¬ (((hI h 4 6) >>> (v2 &&& 31)) &&& 1) = 1 → m_X2_readBranch_47 RA Q v1 v2 v3 x3 x4 x5 h) ∧ ((((hI h 4 6) >>> (v2 &&& 31)) &&& 1) = 1 → ((((hI h 4 7) >>> (v2 &&& 31)) &&& 1) = v3 → m_X2_readBranch_47 RA Q v1 v2 v3 x3 x4 x5 h) ∧ (¬ (((hI h 4 7) >>> (v2 &&& 31)) &&& 1) = v3 → m_X2_readBranch_47 RA Q v1 v2 v3 x3 x4 x5 (wI h 4 5 0)))
set_option maxHeartbeats 4000000 in
set_option maxRecDepth 100000 in
theorem s_X2_readBranch {l : Launch} {G : Cx} {RA : Int32 → Hp → (Int32 → Hp → Prop) → Prop} {d dR : Nat} (hd : dR + 8 ≤ d) (hR : ∀ (d : Nat), dR ≤ d → ∀ {o : Int32} {h : Hp} {Q : Int32 → Hp → Prop}, RA o h Q → Ct l G d 0 0 yX2_readAll MX2_readAll [tR 2 0 (some 4), tI o] h (qI Q)) {v1 : Int32} {v2 : Int32} {v3 : Int32} {h : Hp} {Q : Int32 → Hp → Prop} (hm : m_X2_readBranch RA v1 v2 v3 h Q) : Ct l G d 0 0 yX2_readBranch MX2_readBranch [tR 2 0 (some 4), tI v1, tI v2, tI v3] h (qI Q) := by
  unfold m_X2_readBranch at hm
  refine Ct.of (L := [some (tR 2 0 (some 4)), some (tI v1), some (tI v2), some (tI v3)]) (by decide) rfl rfl (Nat.le_of_ble_eq_true rfl) rfl ?_
  refine r_aload_n dX2_readBranch_0 rfl rfl ?_
  refine r_getI (k := 6) cl_2 dX2_readBranch_1 t_91 (Or.inl rfl) gf_2_6 ?_
  refine r_nmI (fun x3 e_x3 => ?_)
  replace hm := hm x3 e_x3
  refine r_istore (L' := [some (tR 2 0 (some 4)), some (tI v1), some (tI v2), some (tI v3), some (tI x3)]) dX2_readBranch_4 (by decide) rfl ?_
  refine r_aload_n dX2_readBranch_6 rfl rfl ?_
  refine r_getI (k := 7) cl_2 dX2_readBranch_7 t_92 (Or.inl rfl) gf_2_7 ?_
  refine r_nmI (fun x4 e_x4 => ?_)
  replace hm := hm x4 e_x4
  refine r_istore (L' := [some (tR 2 0 (some 4)), some (tI v1), some (tI v2), some (tI v3), some (tI x3), some (tI x4)]) dX2_readBranch_10 (by decide) rfl ?_
  refine r_aload_n dX2_readBranch_12 rfl rfl ?_
  refine r_getI (k := 5) cl_2 dX2_readBranch_13 t_90 (Or.inl rfl) gf_2_5 ?_
  refine r_nmI (fun x5 e_x5 => ?_)
  replace hm := hm x5 e_x5
  refine r_istore (L' := [some (tR 2 0 (some 4)), some (tI v1), some (tI v2), some (tI v3), some (tI x3), some (tI x4), some (tI x5)]) dX2_readBranch_16 (by decide) rfl ?_
  refine r_aload_n dX2_readBranch_18 rfl rfl ?_
  refine r_getI (k := 6) cl_2 dX2_readBranch_19 t_91 (Or.inl rfl) gf_2_6 ?_
  refine r_iload_n dX2_readBranch_22 rfl rfl ?_
  refine r_ishr dX2_readBranch_23 ?_
  refine r_iconst (v := 1) dX2_readBranch_24 rfl ?_
  refine r_iand dX2_readBranch_25 ?_
  refine r_iconst (v := 1) dX2_readBranch_26 rfl ?_
  refine r_icmp_ne (tgt := 47) dX2_readBranch_27 rfl (fun hc => ?_) (fun hc => ?_)
  · replace hm := hm.1 hc
    refine r_keep (L' := [some (tR 2 0 (some 4)), some (tI v1), some (tI v2), some (tI v3), some (tI x3), some (tI x4), some (tI x5)]) [true, true, true, true, true, true, true] rfl ?_
    exact s_X2_readBranch_47 hd hR hm
  · replace hm := hm.2 hc
    refine r_aload_n dX2_readBranch_30 rfl rfl ?_
    refine r_getI (k := 7) cl_2 dX2_readBranch_31 t_92 (Or.inl rfl) gf_2_7 ?_
    refine r_iload_n dX2_readBranch_34 rfl rfl ?_
    refine r_ishr dX2_readBranch_35 ?_
    refine r_iconst (v := 1) dX2_readBranch_36 rfl ?_
    refine r_iand dX2_readBranch_37 ?_
    refine r_iload_n dX2_readBranch_38 rfl rfl ?_
    refine r_icmp_eq (tgt := 47) dX2_readBranch_39 rfl (fun hc => ?_) (fun hc => ?_)
    · replace hm := hm.1 hc
      refine r_keep (L' := [some (tR 2 0 (some 4)), some (tI v1), some (tI v2), some (tI v3), some (tI x3), some (tI x4), some (tI x5)]) [true, true, true, true, true, true, true] rfl ?_
      exact s_X2_readBranch_47 hd hR hm
    · replace hm := hm.2 hc
      refine r_aload_n dX2_readBranch_42 rfl rfl ?_
      refine r_iconst (v := 0) dX2_readBranch_43 rfl ?_
      refine r_putI0 (k := 5) cl_2 dX2_readBranch_44 t_90 (Or.inl rfl) gf_2_5 pf_2_5.1 (Or.inl pf_2_5.2) ?_
      refine r_keep (L' := [some (tR 2 0 (some 4)), some (tI v1), some (tI v2), some (tI v3), some (tI x3), some (tI x4), some (tI x5)]) [true, true, true, true, true, true, true] rfl ?_
      exact s_X2_readBranch_47 hd hR hm
theorem dX8_turn_0 : decode cX8_turn 0 = .ok (.aload_n 0, 1) := rfl
theorem dX8_turn_1 : decode cX8_turn 1 = .ok (.iload_n 1, 1) := rfl
theorem dX8_turn_2 : decode cX8_turn 2 = .ok (.invokevirtual 32, 3) := rfl
theorem dX8_turn_5 : decode cX8_turn 5 = .ok (.ifCond .eq 47, 3) := by decide +kernel
theorem dX8_turn_8 : decode cX8_turn 8 = .ok (.aload_n 0, 1) := rfl
theorem dX8_turn_9 : decode cX8_turn 9 = .ok (.iconst 1, 1) := rfl
theorem dX8_turn_10 : decode cX8_turn 10 = .ok (.invokevirtual 22, 3) := rfl
theorem dX8_turn_13 : decode cX8_turn 13 = .ok (.ifCond .eq 39, 3) := by decide +kernel
theorem dX8_turn_16 : decode cX8_turn 16 = .ok (.aload_n 0, 1) := rfl
theorem dX8_turn_17 : decode cX8_turn 17 = .ok (.getfield 11, 3) := rfl
theorem dX8_turn_20 : decode cX8_turn 20 = .ok (.iload_n 1, 1) := rfl
theorem dX8_turn_21 : decode cX8_turn 21 = .ok (.iconst 2, 1) := rfl
theorem dX8_turn_22 : decode cX8_turn 22 = .ok (.iadd, 1) := rfl
theorem dX8_turn_23 : decode cX8_turn 23 = .ok (.aload_n 0, 1) := rfl
theorem dX8_turn_24 : decode cX8_turn 24 = .ok (.getfield 19, 3) := rfl
theorem dX8_turn_27 : decode cX8_turn 27 = .ok (.iload_n 1, 1) := rfl
theorem dX8_turn_28 : decode cX8_turn 28 = .ok (.isub, 1) := rfl
theorem dX8_turn_29 : decode cX8_turn 29 = .ok (.iconst 3, 1) := rfl
theorem dX8_turn_30 : decode cX8_turn 30 = .ok (.isub, 1) := rfl
theorem dX8_turn_31 : decode cX8_turn 31 = .ok (.iastore, 1) := rfl
theorem dX8_turn_32 : decode cX8_turn 32 = .ok (.aload_n 0, 1) := rfl
theorem dX8_turn_33 : decode cX8_turn 33 = .ok (.getfield 11, 3) := rfl
theorem dX8_turn_36 : decode cX8_turn 36 = .ok (.aload_n 0, 1) := rfl
theorem dX8_turn_37 : decode cX8_turn 37 = .ok (.getfield 19, 3) := rfl
theorem dX8_turn_40 : decode cX8_turn 40 = .ok (.iconst 0, 1) := rfl
theorem dX8_turn_41 : decode cX8_turn 41 = .ok (.iastore, 1) := rfl
theorem dX8_turn_42 : decode cX8_turn 42 = .ok (.aload_n 0, 1) := rfl
theorem dX8_turn_43 : decode cX8_turn 43 = .ok (.dup, 1) := rfl
theorem dX8_turn_44 : decode cX8_turn 44 = .ok (.getfield 19, 3) := rfl
theorem dX8_turn_47 : decode cX8_turn 47 = .ok (.iconst 1, 1) := rfl
theorem dX8_turn_48 : decode cX8_turn 48 = .ok (.iadd, 1) := rfl
theorem dX8_turn_49 : decode cX8_turn 49 = .ok (.putfield 19, 3) := rfl
theorem dX8_turn_52 : decode cX8_turn 52 = .ok (.return_, 1) := rfl
def m_X8_turn (v1 : Int32) (h : Hp) (Q : Hp → Prop) : Prop := m_X8_isBegun v1 h (fun (x1 : Int32) (h2 : Hp) => (x1 = 0 → Q h2) ∧ (¬ x1 = 0 → m_X8_hasRoom 1 h2 (fun (x3 : Int32) (h4 : Hp) => (x3 = 0 → Q h4) ∧ (¬ x3 = 0 → vp_in (v1 + 2) 512 ∧ (vp_in (hI (wI h4 6 (ix (v1 + 2)) (((hI h4 5 2) - v1) - 3)) 5 2) 512 ∧ (Q (wI (wI (wI h4 6 (ix (v1 + 2)) (((hI h4 5 2) - v1) - 3)) 6 (ix (hI (wI h4 6 (ix (v1 + 2)) (((hI h4 5 2) - v1) - 3)) 5 2)) 0) 5 2 ((hI (wI (wI h4 6 (ix (v1 + 2)) (((hI h4 5 2) - v1) - 3)) 6 (ix (hI (wI h4 6 (ix (v1 + 2)) (((hI h4 5 2) - v1) - 3)) 5 2)) 0) 5 2) + 1))))))))
set_option maxHeartbeats 4000000 in
set_option maxRecDepth 100000 in
theorem s_X8_turn {l : Launch} {G : Cx} {d : Nat} (hd : 4 ≤ d) {v1 : Int32} {h : Hp} {Q : Hp → Prop} (hm : m_X8_turn v1 h Q) : Ct l G d 0 0 yX8_turn MX8_turn [tR 8 0 (some 5), tI v1] h (qV Q) := by
  unfold m_X8_turn at hm
  refine Ct.of (L := [some (tR 8 0 (some 5)), some (tI v1)]) (by decide) rfl rfl (Nat.le_of_ble_eq_true rfl) rfl ?_
  refine r_aload_n dX8_turn_0 rfl rfl ?_
  refine r_iload_n dX8_turn_1 rfl rfl ?_
  refine r_callVI (d' := d - 1) (as := [tI v1]) (st := []) cl_8 dX8_turn_2 mi_X8_isBegun t_690 t_692 ts_12 rfl rfl (Nat.le_of_ble_eq_true rfl) (by omega) ⟨by decide, by decide⟩ ⟨rfl, rfl⟩ (s_X8_isBegun (by omega) hm) (fun x1 h2 hm => ?_)
  refine r_if_eq (tgt := 52) dX8_turn_5 rfl (fun hc => ?_) (fun hc => ?_)
  · replace hm := hm.1 hc
    exact r_return dX8_turn_52 rfl ⟨by decide, by decide⟩ ⟨rfl, hm⟩
  · replace hm := hm.2 hc
    refine r_aload_n dX8_turn_8 rfl rfl ?_
    refine r_iconst (v := 1) dX8_turn_9 rfl ?_
    refine r_callVI (d' := d - 1) (as := [tI 1]) (st := []) cl_8 dX8_turn_10 mi_X8_hasRoom t_646 t_648 ts_8 rfl rfl (Nat.le_of_ble_eq_true rfl) (by omega) ⟨by decide, by decide⟩ ⟨rfl, rfl⟩ (s_X8_hasRoom (by omega) hm) (fun x3 h4 hm => ?_)
    refine r_if_eq (tgt := 52) dX8_turn_13 rfl (fun hc => ?_) (fun hc => ?_)
    · replace hm := hm.1 hc
      exact r_return dX8_turn_52 rfl ⟨by decide, by decide⟩ ⟨rfl, hm⟩
    · replace hm := hm.2 hc
      refine r_aload_n dX8_turn_16 rfl rfl ?_
      refine r_getC (k := 1) cl_8 dX8_turn_17 t_76 gf_8_1.1 gf_8_1.2 (gc_8_1 _) ?_
      refine r_iload_n dX8_turn_20 rfl rfl ?_
      refine r_iconst (v := 2) dX8_turn_21 rfl ?_
      refine r_iadd dX8_turn_22 ?_
      refine r_aload_n dX8_turn_23 rfl rfl ?_
      refine r_getI (k := 2) cl_8 dX8_turn_24 t_77 (Or.inl rfl) gf_8_2 ?_
      refine r_iload_n dX8_turn_27 rfl rfl ?_
      refine r_isub dX8_turn_28 ?_
      refine r_iconst (v := 3) dX8_turn_29 rfl ?_
      refine r_isub dX8_turn_30 ?_
      refine r_iast dX8_turn_31 hm.1 ?_
      replace hm := hm.2
      refine r_aload_n dX8_turn_32 rfl rfl ?_
      refine r_getC (k := 1) cl_8 dX8_turn_33 t_76 gf_8_1.1 gf_8_1.2 (gc_8_1 _) ?_
      refine r_aload_n dX8_turn_36 rfl rfl ?_
      refine r_getI (k := 2) cl_8 dX8_turn_37 t_77 (Or.inl rfl) gf_8_2 ?_
      refine r_iconst (v := 0) dX8_turn_40 rfl ?_
      refine r_iast dX8_turn_41 hm.1 ?_
      replace hm := hm.2
      refine r_aload_n dX8_turn_42 rfl rfl ?_
      refine r_dup dX8_turn_43 cv_cat1R ?_
      refine r_getI (k := 2) cl_8 dX8_turn_44 t_77 (Or.inl rfl) gf_8_2 ?_
      refine r_iconst (v := 1) dX8_turn_47 rfl ?_
      refine r_iadd dX8_turn_48 ?_
      refine r_putI0 (k := 2) cl_8 dX8_turn_49 t_77 (Or.inl rfl) gf_8_2 pf_8_2.1 (Or.inl pf_8_2.2) ?_
      exact r_return dX8_turn_52 rfl ⟨by decide, by decide⟩ ⟨rfl, hm⟩
theorem dX8_isAlike_0 : decode cX8_isAlike 0 = .ok (.iconst 0, 1) := rfl
theorem dX8_isAlike_1 : decode cX8_isAlike 1 = .ok (.istore 4, 2) := rfl
theorem dX8_isAlike_3 : decode cX8_isAlike 3 = .ok (.iload 4, 2) := rfl
theorem dX8_isAlike_5 : decode cX8_isAlike 5 = .ok (.iload_n 3, 1) := rfl
theorem dX8_isAlike_6 : decode cX8_isAlike 6 = .ok (.if_icmp .ge 46, 3) := by decide +kernel
theorem dX8_isAlike_9 : decode cX8_isAlike 9 = .ok (.aload_n 0, 1) := rfl
theorem dX8_isAlike_10 : decode cX8_isAlike 10 = .ok (.getfield 11, 3) := rfl
theorem dX8_isAlike_13 : decode cX8_isAlike 13 = .ok (.iload_n 1, 1) := rfl
theorem dX8_isAlike_14 : decode cX8_isAlike 14 = .ok (.iload 4, 2) := rfl
theorem dX8_isAlike_16 : decode cX8_isAlike 16 = .ok (.iadd, 1) := rfl
theorem dX8_isAlike_17 : decode cX8_isAlike 17 = .ok (.iaload, 1) := rfl
theorem dX8_isAlike_18 : decode cX8_isAlike 18 = .ok (.aload_n 0, 1) := rfl
theorem dX8_isAlike_19 : decode cX8_isAlike 19 = .ok (.getfield 11, 3) := rfl
theorem dX8_isAlike_22 : decode cX8_isAlike 22 = .ok (.iload_n 2, 1) := rfl
theorem dX8_isAlike_23 : decode cX8_isAlike 23 = .ok (.iload 4, 2) := rfl
theorem dX8_isAlike_25 : decode cX8_isAlike 25 = .ok (.iadd, 1) := rfl
theorem dX8_isAlike_26 : decode cX8_isAlike 26 = .ok (.iaload, 1) := rfl
theorem dX8_isAlike_27 : decode cX8_isAlike 27 = .ok (.if_icmp .ne 17, 3) := by decide +kernel
theorem dX8_isAlike_30 : decode cX8_isAlike 30 = .ok (.aload_n 0, 1) := rfl
theorem dX8_isAlike_31 : decode cX8_isAlike 31 = .ok (.getfield 11, 3) := rfl
theorem dX8_isAlike_34 : decode cX8_isAlike 34 = .ok (.iload_n 1, 1) := rfl
theorem dX8_isAlike_35 : decode cX8_isAlike 35 = .ok (.iload 4, 2) := rfl
theorem dX8_isAlike_37 : decode cX8_isAlike 37 = .ok (.iadd, 1) := rfl
theorem dX8_isAlike_38 : decode cX8_isAlike 38 = .ok (.iaload, 1) := rfl
theorem dX8_isAlike_39 : decode cX8_isAlike 39 = .ok (.bipush (-6), 2) := by decide +kernel
theorem dX8_isAlike_41 : decode cX8_isAlike 41 = .ok (.if_icmp .ne 5, 3) := by decide +kernel
theorem dX8_isAlike_44 : decode cX8_isAlike 44 = .ok (.iconst 0, 1) := rfl
theorem dX8_isAlike_45 : decode cX8_isAlike 45 = .ok (.ireturn, 1) := rfl
theorem dX8_isAlike_46 : decode cX8_isAlike 46 = .ok (.iinc 4 1, 3) := by decide +kernel
theorem dX8_isAlike_49 : decode cX8_isAlike 49 = .ok (.goto (-46), 3) := by decide +kernel
theorem dX8_isAlike_52 : decode cX8_isAlike 52 = .ok (.iconst 1, 1) := rfl
theorem dX8_isAlike_53 : decode cX8_isAlike 53 = .ok (.ireturn, 1) := rfl
def m_X8_isAlike_3 : Nat → (Int32 → Hp → Prop) → Int32 → Int32 → Int32 → Int32 → Hp → Prop
  | 0, _, _, _, _, _, _ => False
  | n + 1, Q, v1, v2, v3, v4, h => (v3 ≤ v4 → Q 1 h) ∧ (¬ v3 ≤ v4 → vp_in (v1 + v4) 512 ∧ (vp_in (v2 + v4) 512 ∧ ((¬ (hI h 6 (ix (v1 + v4))) = (hI h 6 (ix (v2 + v4))) → Q 0 h) ∧ ((hI h 6 (ix (v1 + v4))) = (hI h 6 (ix (v2 + v4))) → vp_in (v1 + v4) 512 ∧ ((¬ (hI h 6 (ix (v1 + v4))) = (-6) → ∀ x1 : Int32, x1 = v4 + 1 → m_X8_isAlike_3 n Q v1 v2 v3 x1 h) ∧ ((hI h 6 (ix (v1 + v4))) = (-6) → Q 0 h))))))
set_option maxHeartbeats 4000000 in
set_option maxRecDepth 100000 in
theorem s_X8_isAlike_3 {l : Launch} {G : Cx} {d : Nat} {h0 : Hp} (hd : 2 ≤ d) {Q : Int32 → Hp → Prop} : ∀ {n : Nat} {v1 : Int32} {v2 : Int32} {v3 : Int32} {v4 : Int32} {h : Hp}, m_X8_isAlike_3 n Q v1 v2 v3 v4 h → Rn l G d 0 0 MX8_isAlike h0 (qI Q) 3 [some (tR 8 0 (some 5)), some (tI v1), some (tI v2), some (tI v3), some (tI v4)] [] h 0 0 := by
  intro n
  induction n with
  | zero => intro v1 v2 v3 v4 h hm; exact hm.elim
  | succ n ih =>
    intro v1 v2 v3 v4 h hm
    have hk3 := fun (v1 : Int32) (v2 : Int32) (v3 : Int32) (v4 : Int32) (hh : Hp) (hm : m_X8_isAlike_3 n Q v1 v2 v3 v4 hh) => ih hm
    rw [m_X8_isAlike_3] at hm
    refine r_iload dX8_isAlike_3 rfl ?_
    refine r_iload_n dX8_isAlike_5 rfl rfl ?_
    refine r_icmp_ge (tgt := 52) dX8_isAlike_6 rfl (fun hc => ?_) (fun hc => ?_)
    · replace hm := hm.1 hc
      refine r_iconst (v := 1) dX8_isAlike_52 rfl ?_
      exact r_bret dX8_isAlike_53 rfl ⟨by decide, by decide⟩ (by unfold bz; decide) ⟨_, rfl, hm⟩
    · replace hm := hm.2 hc
      refine r_aload_n dX8_isAlike_9 rfl rfl ?_
      refine r_getC (k := 1) cl_8 dX8_isAlike_10 t_76 gf_8_1.1 gf_8_1.2 (gc_8_1 _) ?_
      refine r_iload_n dX8_isAlike_13 rfl rfl ?_
      refine r_iload dX8_isAlike_14 rfl ?_
      refine r_iadd dX8_isAlike_16 ?_
      refine r_iald dX8_isAlike_17 hm.1 ?_
      replace hm := hm.2
      refine r_aload_n dX8_isAlike_18 rfl rfl ?_
      refine r_getC (k := 1) cl_8 dX8_isAlike_19 t_76 gf_8_1.1 gf_8_1.2 (gc_8_1 _) ?_
      refine r_iload_n dX8_isAlike_22 rfl rfl ?_
      refine r_iload dX8_isAlike_23 rfl ?_
      refine r_iadd dX8_isAlike_25 ?_
      refine r_iald dX8_isAlike_26 hm.1 ?_
      replace hm := hm.2
      refine r_icmp_ne (tgt := 44) dX8_isAlike_27 rfl (fun hc => ?_) (fun hc => ?_)
      · replace hm := hm.1 hc
        refine r_iconst (v := 0) dX8_isAlike_44 rfl ?_
        exact r_bret dX8_isAlike_45 rfl ⟨by decide, by decide⟩ (by unfold bz; decide) ⟨_, rfl, hm⟩
      · replace hm := hm.2 hc
        refine r_aload_n dX8_isAlike_30 rfl rfl ?_
        refine r_getC (k := 1) cl_8 dX8_isAlike_31 t_76 gf_8_1.1 gf_8_1.2 (gc_8_1 _) ?_
        refine r_iload_n dX8_isAlike_34 rfl rfl ?_
        refine r_iload dX8_isAlike_35 rfl ?_
        refine r_iadd dX8_isAlike_37 ?_
        refine r_iald dX8_isAlike_38 hm.1 ?_
        replace hm := hm.2
        refine r_bipush (v := (-6)) dX8_isAlike_39 rfl ?_
        refine r_icmp_ne (tgt := 46) dX8_isAlike_41 rfl (fun hc => ?_) (fun hc => ?_)
        · replace hm := hm.1 hc
          obtain ⟨x1, e_x1⟩ : ∃ y : Int32, y = v4 + 1 := ⟨_, rfl⟩
          replace hm := hm x1 e_x1
          refine r_iinc (L' := [some (tR 8 0 (some 5)), some (tI v1), some (tI v2), some (tI v3), some (tI x1)]) dX8_isAlike_46 rfl (by rw [e_x1]; rfl) (by decide) rfl ?_
          refine r_goto (tgt := 3) dX8_isAlike_49 rfl ?_
          refine r_keep (L' := [some (tR 8 0 (some 5)), some (tI v1), some (tI v2), some (tI v3), some (tI x1)]) [true, true, true, true, true] rfl ?_
          exact hk3 _ _ _ _ _ hm
        · replace hm := hm.2 hc
          refine r_iconst (v := 0) dX8_isAlike_44 rfl ?_
          exact r_bret dX8_isAlike_45 rfl ⟨by decide, by decide⟩ (by unfold bz; decide) ⟨_, rfl, hm⟩
def m_X8_isAlike (v1 : Int32) (v2 : Int32) (v3 : Int32) (h : Hp) (Q : Int32 → Hp → Prop) : Prop := ∃ n3, m_X8_isAlike_3 n3 Q v1 v2 v3 0 h
set_option maxHeartbeats 4000000 in
set_option maxRecDepth 100000 in
theorem s_X8_isAlike {l : Launch} {G : Cx} {d : Nat} (hd : 2 ≤ d) {v1 : Int32} {v2 : Int32} {v3 : Int32} {h : Hp} {Q : Int32 → Hp → Prop} (hm : m_X8_isAlike v1 v2 v3 h Q) : Ct l G d 0 0 yX8_isAlike MX8_isAlike [tR 8 0 (some 5), tI v1, tI v2, tI v3] h (qI Q) := by
  unfold m_X8_isAlike at hm
  refine Ct.of (L := [some (tR 8 0 (some 5)), some (tI v1), some (tI v2), some (tI v3)]) (by decide) rfl rfl (Nat.le_of_ble_eq_true rfl) rfl ?_
  refine r_iconst (v := 0) dX8_isAlike_0 rfl ?_
  refine r_istore (L' := [some (tR 8 0 (some 5)), some (tI v1), some (tI v2), some (tI v3), some (tI 0)]) dX8_isAlike_1 (by decide) rfl ?_
  refine r_keep (L' := [some (tR 8 0 (some 5)), some (tI v1), some (tI v2), some (tI v3), some (tI 0)]) [true, true, true, true, true] rfl ?_
  obtain ⟨n, hm⟩ := hm
  refine s_X8_isAlike_3 hd hm
theorem dX8_endTwo_0 : decode cX8_endTwo 0 = .ok (.aload_n 0, 1) := by decide +kernel
theorem dX8_endTwo_1 : decode cX8_endTwo 1 = .ok (.iload_n 1, 1) := by decide +kernel
theorem dX8_endTwo_2 : decode cX8_endTwo 2 = .ok (.invokevirtual 32, 3) := by decide +kernel
theorem dX8_endTwo_5 : decode cX8_endTwo 5 = .ok (.ifCond .ne 4, 3) := by decide +kernel
theorem dX8_endTwo_8 : decode cX8_endTwo 8 = .ok (.return_, 1) := by decide +kernel
theorem dX8_endTwo_9 : decode cX8_endTwo 9 = .ok (.iload_n 1, 1) := by decide +kernel
theorem dX8_endTwo_10 : decode cX8_endTwo 10 = .ok (.iconst 3, 1) := by decide +kernel
theorem dX8_endTwo_11 : decode cX8_endTwo 11 = .ok (.iadd, 1) := by decide +kernel
theorem dX8_endTwo_12 : decode cX8_endTwo 12 = .ok (.istore_n 2, 1) := by decide +kernel
theorem dX8_endTwo_13 : decode cX8_endTwo 13 = .ok (.aload_n 0, 1) := by decide +kernel
theorem dX8_endTwo_14 : decode cX8_endTwo 14 = .ok (.getfield 11, 3) := by decide +kernel
theorem dX8_endTwo_17 : decode cX8_endTwo 17 = .ok (.iload_n 1, 1) := by decide +kernel
theorem dX8_endTwo_18 : decode cX8_endTwo 18 = .ok (.iconst 2, 1) := by decide +kernel
theorem dX8_endTwo_19 : decode cX8_endTwo 19 = .ok (.iadd, 1) := by decide +kernel
theorem dX8_endTwo_20 : decode cX8_endTwo 20 = .ok (.iaload, 1) := by decide +kernel
theorem dX8_endTwo_21 : decode cX8_endTwo 21 = .ok (.istore_n 3, 1) := by decide +kernel
theorem dX8_endTwo_22 : decode cX8_endTwo 22 = .ok (.iload_n 2, 1) := by decide +kernel
theorem dX8_endTwo_23 : decode cX8_endTwo 23 = .ok (.iload_n 3, 1) := by decide +kernel
theorem dX8_endTwo_24 : decode cX8_endTwo 24 = .ok (.iadd, 1) := by decide +kernel
theorem dX8_endTwo_25 : decode cX8_endTwo 25 = .ok (.iconst 1, 1) := by decide +kernel
theorem dX8_endTwo_26 : decode cX8_endTwo 26 = .ok (.iadd, 1) := by decide +kernel
theorem dX8_endTwo_27 : decode cX8_endTwo 27 = .ok (.istore 4, 2) := by decide +kernel
theorem dX8_endTwo_29 : decode cX8_endTwo 29 = .ok (.aload_n 0, 1) := by decide +kernel
theorem dX8_endTwo_30 : decode cX8_endTwo 30 = .ok (.getfield 19, 3) := by decide +kernel
theorem dX8_endTwo_33 : decode cX8_endTwo 33 = .ok (.iload 4, 2) := by decide +kernel
theorem dX8_endTwo_35 : decode cX8_endTwo 35 = .ok (.isub, 1) := by decide +kernel
theorem dX8_endTwo_36 : decode cX8_endTwo 36 = .ok (.istore 5, 2) := by decide +kernel
theorem dX8_endTwo_38 : decode cX8_endTwo 38 = .ok (.iload 5, 2) := by decide +kernel
theorem dX8_endTwo_40 : decode cX8_endTwo 40 = .ok (.ifCond .ge 4, 3) := by decide +kernel
theorem dX8_endTwo_43 : decode cX8_endTwo 43 = .ok (.return_, 1) := by decide +kernel
theorem dX8_endTwo_44 : decode cX8_endTwo 44 = .ok (.aload_n 0, 1) := by decide +kernel
theorem dX8_endTwo_45 : decode cX8_endTwo 45 = .ok (.getfield 11, 3) := by decide +kernel
theorem dX8_endTwo_48 : decode cX8_endTwo 48 = .ok (.iload 4, 2) := by decide +kernel
theorem dX8_endTwo_50 : decode cX8_endTwo 50 = .ok (.iconst 1, 1) := by decide +kernel
theorem dX8_endTwo_51 : decode cX8_endTwo 51 = .ok (.isub, 1) := by decide +kernel
theorem dX8_endTwo_52 : decode cX8_endTwo 52 = .ok (.iload 5, 2) := by decide +kernel
theorem dX8_endTwo_54 : decode cX8_endTwo 54 = .ok (.iastore, 1) := by decide +kernel
theorem dX8_endTwo_55 : decode cX8_endTwo 55 = .ok (.iload_n 3, 1) := by decide +kernel
theorem dX8_endTwo_56 : decode cX8_endTwo 56 = .ok (.ifCond .ne 26, 3) := by decide +kernel
theorem dX8_endTwo_59 : decode cX8_endTwo 59 = .ok (.iload 5, 2) := by decide +kernel
theorem dX8_endTwo_61 : decode cX8_endTwo 61 = .ok (.ifCond .ne 21, 3) := by decide +kernel
theorem dX8_endTwo_64 : decode cX8_endTwo 64 = .ok (.aload_n 0, 1) := by decide +kernel
theorem dX8_endTwo_65 : decode cX8_endTwo 65 = .ok (.iload_n 1, 1) := by decide +kernel
theorem dX8_endTwo_66 : decode cX8_endTwo 66 = .ok (.putfield 19, 3) := by decide +kernel
theorem dX8_endTwo_69 : decode cX8_endTwo 69 = .ok (.aload_n 0, 1) := by decide +kernel
theorem dX8_endTwo_70 : decode cX8_endTwo 70 = .ok (.dup, 1) := by decide +kernel
theorem dX8_endTwo_71 : decode cX8_endTwo 71 = .ok (.getfield 15, 3) := by decide +kernel
theorem dX8_endTwo_74 : decode cX8_endTwo 74 = .ok (.iconst 1, 1) := by decide +kernel
theorem dX8_endTwo_75 : decode cX8_endTwo 75 = .ok (.iadd, 1) := by decide +kernel
theorem dX8_endTwo_76 : decode cX8_endTwo 76 = .ok (.putfield 15, 3) := by decide +kernel
theorem dX8_endTwo_79 : decode cX8_endTwo 79 = .ok (.goto 37, 3) := by decide +kernel
theorem dX8_endTwo_82 : decode cX8_endTwo 82 = .ok (.iload_n 3, 1) := by decide +kernel
theorem dX8_endTwo_83 : decode cX8_endTwo 83 = .ok (.iload 5, 2) := by decide +kernel
theorem dX8_endTwo_85 : decode cX8_endTwo 85 = .ok (.if_icmp .ne 31, 3) := by decide +kernel
theorem dX8_endTwo_88 : decode cX8_endTwo 88 = .ok (.aload_n 0, 1) := by decide +kernel
theorem dX8_endTwo_89 : decode cX8_endTwo 89 = .ok (.iload_n 2, 1) := by decide +kernel
theorem dX8_endTwo_90 : decode cX8_endTwo 90 = .ok (.iload 4, 2) := by decide +kernel
theorem dX8_endTwo_92 : decode cX8_endTwo 92 = .ok (.iload_n 3, 1) := by decide +kernel
theorem dX8_endTwo_93 : decode cX8_endTwo 93 = .ok (.invokevirtual 43, 3) := by decide +kernel
theorem dX8_endTwo_96 : decode cX8_endTwo 96 = .ok (.ifCond .eq 20, 3) := by decide +kernel
theorem dX8_endTwo_99 : decode cX8_endTwo 99 = .ok (.aload_n 0, 1) := by decide +kernel
theorem dX8_endTwo_100 : decode cX8_endTwo 100 = .ok (.iload_n 1, 1) := by decide +kernel
theorem dX8_endTwo_101 : decode cX8_endTwo 101 = .ok (.iload_n 2, 1) := by decide +kernel
theorem dX8_endTwo_102 : decode cX8_endTwo 102 = .ok (.iload_n 3, 1) := by decide +kernel
theorem dX8_endTwo_103 : decode cX8_endTwo 103 = .ok (.invokevirtual 35, 3) := by decide +kernel
theorem dX8_endTwo_106 : decode cX8_endTwo 106 = .ok (.aload_n 0, 1) := by decide +kernel
theorem dX8_endTwo_107 : decode cX8_endTwo 107 = .ok (.dup, 1) := by decide +kernel
theorem dX8_endTwo_108 : decode cX8_endTwo 108 = .ok (.getfield 15, 3) := by decide +kernel
theorem dX8_endTwo_111 : decode cX8_endTwo 111 = .ok (.iconst 1, 1) := by decide +kernel
theorem dX8_endTwo_112 : decode cX8_endTwo 112 = .ok (.iadd, 1) := by decide +kernel
theorem dX8_endTwo_113 : decode cX8_endTwo 113 = .ok (.putfield 15, 3) := by decide +kernel
theorem dX8_endTwo_116 : decode cX8_endTwo 116 = .ok (.return_, 1) := by decide +kernel
def m_X8_endTwo_82  (Q : Hp → Prop) (v1 : Int32) (v2 : Int32) (v3 : Int32) (v4 : Int32) (v5 : Int32) (h : Hp) : Prop := (¬ v3 = v5 → Q h) ∧ (v3 = v5 → m_X8_isAlike v2 v4 v3 h (fun (x1 : Int32) (h2 : Hp) => (x1 = 0 → Q h2) ∧ (¬ x1 = 0 → m_X8_lift v1 v2 v3 h2 (fun (h4 : Hp) => Q (wI h4 5 0 ((hI h4 5 0) + 1))))))
set_option maxHeartbeats 4000000 in
set_option maxRecDepth 100000 in
theorem s_X8_endTwo_82 {l : Launch} {G : Cx} {d : Nat} {h0 : Hp} (hd : 4 ≤ d) {Q : Hp → Prop} {v1 : Int32} {v2 : Int32} {v3 : Int32} {v4 : Int32} {v5 : Int32} {h : Hp} (hm : m_X8_endTwo_82 Q v1 v2 v3 v4 v5 h) : Rn l G d 0 0 MX8_endTwo h0 (qV Q) 82 [some (tR 8 0 (some 5)), some (tI v1), some (tI v2), some (tI v3), some (tI v4), some (tI v5)] [] h 0 0 := by
  unfold m_X8_endTwo_82 at hm
  refine r_iload_n dX8_endTwo_82 rfl rfl ?_
  refine r_iload dX8_endTwo_83 rfl ?_
  refine r_icmp_ne (tgt := 116) dX8_endTwo_85 rfl (fun hc => ?_) (fun hc => ?_)
  · replace hm := hm.1 hc
    exact r_return dX8_endTwo_116 rfl ⟨by decide, by decide⟩ ⟨rfl, hm⟩
  · replace hm := hm.2 hc
    refine r_aload_n dX8_endTwo_88 rfl rfl ?_
    refine r_iload_n dX8_endTwo_89 rfl rfl ?_
    refine r_iload dX8_endTwo_90 rfl ?_
    refine r_iload_n dX8_endTwo_92 rfl rfl ?_
    refine r_callVI (d' := d - 1) (as := [tI v2, tI v4, tI v3]) (st := []) cl_8 dX8_endTwo_93 mi_X8_isAlike t_728 t_730 ts_19 rfl rfl (Nat.le_of_ble_eq_true rfl) (by omega) ⟨by decide, by decide⟩ ⟨rfl, rfl⟩ (s_X8_isAlike (by omega) hm) (fun x1 h2 hm => ?_)
    refine r_if_eq (tgt := 116) dX8_endTwo_96 rfl (fun hc => ?_) (fun hc => ?_)
    · replace hm := hm.1 hc
      exact r_return dX8_endTwo_116 rfl ⟨by decide, by decide⟩ ⟨rfl, hm⟩
    · replace hm := hm.2 hc
      refine r_aload_n dX8_endTwo_99 rfl rfl ?_
      refine r_iload_n dX8_endTwo_100 rfl rfl ?_
      refine r_iload_n dX8_endTwo_101 rfl rfl ?_
      refine r_iload_n dX8_endTwo_102 rfl rfl ?_
      refine r_callVU (d' := d - 1) (as := [tI v1, tI v2, tI v3]) (st := []) cl_8 dX8_endTwo_103 mi_X8_lift t_694 t_696 ts_13 rfl rfl (Nat.le_of_ble_eq_true rfl) (by omega) ⟨by decide, by decide⟩ ⟨rfl, rfl⟩ (s_X8_lift (by omega) hm) (fun h4 hm => ?_)
      refine r_aload_n dX8_endTwo_106 rfl rfl ?_
      refine r_dup dX8_endTwo_107 cv_cat1R ?_
      refine r_getI (k := 0) cl_8 dX8_endTwo_108 t_74 (Or.inl rfl) gf_8_0 ?_
      refine r_iconst (v := 1) dX8_endTwo_111 rfl ?_
      refine r_iadd dX8_endTwo_112 ?_
      refine r_putI0 (k := 0) cl_8 dX8_endTwo_113 t_74 (Or.inl rfl) gf_8_0 pf_8_0.1 (Or.inl pf_8_0.2) ?_
      exact r_return dX8_endTwo_116 rfl ⟨by decide, by decide⟩ ⟨rfl, hm⟩
def m_X8_endTwo (v1 : Int32) (h : Hp) (Q : Hp → Prop) : Prop := m_X8_isBegun v1 h (fun (x5 : Int32) (h6 : Hp) => (¬ x5 = 0 → ∀ x7 : Int32, x7 = (v1 + 3) → vp_in (v1 + 2) 512 ∧ (∀ x8 : Int32, x8 = (hI h6 6 (ix (v1 + 2))) → ∀ x9 : Int32, x9 = ((x7 + x8) + 1) → ∀ x10 : Int32, x10 = ((hI h6 5 2) - x9) → (0 ≤ x10 → vp_in (x9 - 1) 512 ∧ ((¬ x8 = 0 → m_X8_endTwo_82 Q v1 x7 x8 x9 x10 (wI h6 6 (ix (x9 - 1)) x10)) ∧ (x8 = 0 → (¬ x10 = 0 → m_X8_endTwo_82 Q v1 x7 x8 x9 x10 (wI h6 6 (ix (x9 - 1)) x10)) ∧ (x10 = 0 → Q (wI (wI (wI h6 6 (ix (x9 - 1)) x10) 5 2 v1) 5 0 ((hI (wI (wI h6 6 (ix (x9 - 1)) x10) 5 2 v1) 5 0) + 1)))))) ∧ (¬ 0 ≤ x10 → Q h6))) ∧ (x5 = 0 → Q h6))
set_option maxHeartbeats 4000000 in
set_option maxRecDepth 100000 in
theorem s_X8_endTwo {l : Launch} {G : Cx} {d : Nat} (hd : 4 ≤ d) {v1 : Int32} {h : Hp} {Q : Hp → Prop} (hm : m_X8_endTwo v1 h Q) : Ct l G d 0 0 yX8_endTwo MX8_endTwo [tR 8 0 (some 5), tI v1] h (qV Q) := by
  unfold m_X8_endTwo at hm
  refine Ct.of (L := [some (tR 8 0 (some 5)), some (tI v1)]) (by decide) rfl rfl (Nat.le_of_ble_eq_true rfl) rfl ?_
  refine r_aload_n dX8_endTwo_0 rfl rfl ?_
  refine r_iload_n dX8_endTwo_1 rfl rfl ?_
  refine r_callVI (d' := d - 1) (as := [tI v1]) (st := []) cl_8 dX8_endTwo_2 mi_X8_isBegun t_690 t_692 ts_12 rfl rfl (Nat.le_of_ble_eq_true rfl) (by omega) ⟨by decide, by decide⟩ ⟨rfl, rfl⟩ (s_X8_isBegun (by omega) hm) (fun x5 h6 hm => ?_)
  refine r_if_ne (tgt := 9) dX8_endTwo_5 rfl (fun hc => ?_) (fun hc => ?_)
  · replace hm := hm.1 hc
    refine r_iload_n dX8_endTwo_9 rfl rfl ?_
    refine r_iconst (v := 3) dX8_endTwo_10 rfl ?_
    refine r_iadd dX8_endTwo_11 ?_
    refine r_nmI (fun x7 e_x7 => ?_)
    replace hm := hm x7 e_x7
    refine r_istore_n (L' := [some (tR 8 0 (some 5)), some (tI v1), some (tI x7)]) dX8_endTwo_12 rfl (by decide) rfl ?_
    refine r_aload_n dX8_endTwo_13 rfl rfl ?_
    refine r_getC (k := 1) cl_8 dX8_endTwo_14 t_76 gf_8_1.1 gf_8_1.2 (gc_8_1 _) ?_
    refine r_iload_n dX8_endTwo_17 rfl rfl ?_
    refine r_iconst (v := 2) dX8_endTwo_18 rfl ?_
    refine r_iadd dX8_endTwo_19 ?_
    refine r_iald dX8_endTwo_20 hm.1 ?_
    replace hm := hm.2
    refine r_nmI (fun x8 e_x8 => ?_)
    replace hm := hm x8 e_x8
    refine r_istore_n (L' := [some (tR 8 0 (some 5)), some (tI v1), some (tI x7), some (tI x8)]) dX8_endTwo_21 rfl (by decide) rfl ?_
    refine r_iload_n dX8_endTwo_22 rfl rfl ?_
    refine r_iload_n dX8_endTwo_23 rfl rfl ?_
    refine r_iadd dX8_endTwo_24 ?_
    refine r_iconst (v := 1) dX8_endTwo_25 rfl ?_
    refine r_iadd dX8_endTwo_26 ?_
    refine r_nmI (fun x9 e_x9 => ?_)
    replace hm := hm x9 e_x9
    refine r_istore (L' := [some (tR 8 0 (some 5)), some (tI v1), some (tI x7), some (tI x8), some (tI x9)]) dX8_endTwo_27 (by decide) rfl ?_
    refine r_aload_n dX8_endTwo_29 rfl rfl ?_
    refine r_getI (k := 2) cl_8 dX8_endTwo_30 t_77 (Or.inl rfl) gf_8_2 ?_
    refine r_iload dX8_endTwo_33 rfl ?_
    refine r_isub dX8_endTwo_35 ?_
    refine r_nmI (fun x10 e_x10 => ?_)
    replace hm := hm x10 e_x10
    refine r_istore (L' := [some (tR 8 0 (some 5)), some (tI v1), some (tI x7), some (tI x8), some (tI x9), some (tI x10)]) dX8_endTwo_36 (by decide) rfl ?_
    refine r_iload dX8_endTwo_38 rfl ?_
    refine r_if_ge (tgt := 44) dX8_endTwo_40 rfl (fun hc => ?_) (fun hc => ?_)
    · replace hm := hm.1 hc
      refine r_aload_n dX8_endTwo_44 rfl rfl ?_
      refine r_getC (k := 1) cl_8 dX8_endTwo_45 t_76 gf_8_1.1 gf_8_1.2 (gc_8_1 _) ?_
      refine r_iload dX8_endTwo_48 rfl ?_
      refine r_iconst (v := 1) dX8_endTwo_50 rfl ?_
      refine r_isub dX8_endTwo_51 ?_
      refine r_iload dX8_endTwo_52 rfl ?_
      refine r_iast dX8_endTwo_54 hm.1 ?_
      replace hm := hm.2
      refine r_iload_n dX8_endTwo_55 rfl rfl ?_
      refine r_if_ne (tgt := 82) dX8_endTwo_56 rfl (fun hc => ?_) (fun hc => ?_)
      · replace hm := hm.1 hc
        refine r_keep (L' := [some (tR 8 0 (some 5)), some (tI v1), some (tI x7), some (tI x8), some (tI x9), some (tI x10)]) [true, true, true, true, true, true] rfl ?_
        exact s_X8_endTwo_82 hd hm
      · replace hm := hm.2 hc
        refine r_iload dX8_endTwo_59 rfl ?_
        refine r_if_ne (tgt := 82) dX8_endTwo_61 rfl (fun hc => ?_) (fun hc => ?_)
        · replace hm := hm.1 hc
          refine r_keep (L' := [some (tR 8 0 (some 5)), some (tI v1), some (tI x7), some (tI x8), some (tI x9), some (tI x10)]) [true, true, true, true, true, true] rfl ?_
          exact s_X8_endTwo_82 hd hm
        · replace hm := hm.2 hc
          refine r_aload_n dX8_endTwo_64 rfl rfl ?_
          refine r_iload_n dX8_endTwo_65 rfl rfl ?_
          refine r_putI0 (k := 2) cl_8 dX8_endTwo_66 t_77 (Or.inl rfl) gf_8_2 pf_8_2.1 (Or.inl pf_8_2.2) ?_
          refine r_aload_n dX8_endTwo_69 rfl rfl ?_
          refine r_dup dX8_endTwo_70 cv_cat1R ?_
          refine r_getI (k := 0) cl_8 dX8_endTwo_71 t_74 (Or.inl rfl) gf_8_0 ?_
          refine r_iconst (v := 1) dX8_endTwo_74 rfl ?_
          refine r_iadd dX8_endTwo_75 ?_
          refine r_putI0 (k := 0) cl_8 dX8_endTwo_76 t_74 (Or.inl rfl) gf_8_0 pf_8_0.1 (Or.inl pf_8_0.2) ?_
          refine r_goto (tgt := 116) dX8_endTwo_79 rfl ?_
          exact r_return dX8_endTwo_116 rfl ⟨by decide, by decide⟩ ⟨rfl, hm⟩
    · replace hm := hm.2 hc
      exact r_return dX8_endTwo_43 rfl ⟨by decide, by decide⟩ ⟨rfl, hm⟩
  · replace hm := hm.2 hc
    exact r_return dX8_endTwo_8 rfl ⟨by decide, by decide⟩ ⟨rfl, hm⟩
theorem dX2_readBranches_0 : decode cX2_readBranches 0 = .ok (.aload_n 0, 1) := rfl
theorem dX2_readBranches_1 : decode cX2_readBranches 1 = .ok (.iload_n 1, 1) := rfl
theorem dX2_readBranches_2 : decode cX2_readBranches 2 = .ok (.iload_n 3, 1) := rfl
theorem dX2_readBranches_3 : decode cX2_readBranches 3 = .ok (.iload 4, 2) := rfl
theorem dX2_readBranches_5 : decode cX2_readBranches 5 = .ok (.invokevirtual 187, 3) := rfl
theorem dX2_readBranches_8 : decode cX2_readBranches 8 = .ok (.ifCond .ne 5, 3) := by decide +kernel
theorem dX2_readBranches_11 : decode cX2_readBranches 11 = .ok (.iconst 0, 1) := rfl
theorem dX2_readBranches_12 : decode cX2_readBranches 12 = .ok (.ireturn, 1) := rfl
theorem dX2_readBranches_13 : decode cX2_readBranches 13 = .ok (.aload_n 0, 1) := rfl
theorem dX2_readBranches_14 : decode cX2_readBranches 14 = .ok (.getfield 12, 3) := rfl
theorem dX2_readBranches_17 : decode cX2_readBranches 17 = .ok (.iload_n 2, 1) := rfl
theorem dX2_readBranches_18 : decode cX2_readBranches 18 = .ok (.invokevirtual 191, 3) := rfl
theorem dX2_readBranches_21 : decode cX2_readBranches 21 = .ok (.iconst 1, 1) := rfl
theorem dX2_readBranches_22 : decode cX2_readBranches 22 = .ok (.istore 6, 2) := rfl
theorem dX2_readBranches_24 : decode cX2_readBranches 24 = .ok (.aload_n 0, 1) := rfl
theorem dX2_readBranches_25 : decode cX2_readBranches 25 = .ok (.getfield 22, 3) := rfl
theorem dX2_readBranches_28 : decode cX2_readBranches 28 = .ok (.aload 5, 2) := rfl
theorem dX2_readBranches_30 : decode cX2_readBranches 30 = .ok (.invokevirtual 156, 3) := rfl
theorem dX2_readBranches_33 : decode cX2_readBranches 33 = .ok (.ifCond .eq 22, 3) := by decide +kernel
theorem dX2_readBranches_36 : decode cX2_readBranches 36 = .ok (.aload_n 0, 1) := rfl
theorem dX2_readBranches_37 : decode cX2_readBranches 37 = .ok (.getfield 22, 3) := rfl
theorem dX2_readBranches_40 : decode cX2_readBranches 40 = .ok (.invokevirtual 85, 3) := rfl
theorem dX2_readBranches_43 : decode cX2_readBranches 43 = .ok (.aload_n 0, 1) := rfl
theorem dX2_readBranches_44 : decode cX2_readBranches 44 = .ok (.iload_n 1, 1) := rfl
theorem dX2_readBranches_45 : decode cX2_readBranches 45 = .ok (.iload_n 3, 1) := rfl
theorem dX2_readBranches_46 : decode cX2_readBranches 46 = .ok (.iconst 1, 1) := rfl
theorem dX2_readBranches_47 : decode cX2_readBranches 47 = .ok (.iload 4, 2) := rfl
theorem dX2_readBranches_49 : decode cX2_readBranches 49 = .ok (.isub, 1) := rfl
theorem dX2_readBranches_50 : decode cX2_readBranches 50 = .ok (.invokevirtual 187, 3) := rfl
theorem dX2_readBranches_53 : decode cX2_readBranches 53 = .ok (.istore 6, 2) := rfl
theorem dX2_readBranches_55 : decode cX2_readBranches 55 = .ok (.aload_n 0, 1) := rfl
theorem dX2_readBranches_56 : decode cX2_readBranches 56 = .ok (.getfield 12, 3) := rfl
theorem dX2_readBranches_59 : decode cX2_readBranches 59 = .ok (.iload_n 2, 1) := rfl
theorem dX2_readBranches_60 : decode cX2_readBranches 60 = .ok (.invokevirtual 194, 3) := rfl
theorem dX2_readBranches_63 : decode cX2_readBranches 63 = .ok (.iload 6, 2) := rfl
theorem dX2_readBranches_65 : decode cX2_readBranches 65 = .ok (.ireturn, 1) := rfl
def m_X2_readBranches_55 (RA : Int32 → Hp → (Int32 → Hp → Prop) → Prop) (v5 : Nat)  (Q : Int32 → Hp → Prop) (v2 : Int32) (v6 : Int32) (h : Hp) : Prop := m_X8_endTwo v2 h (fun (h2 : Hp) => bz v6 ∧ Q v6 h2)
set_option maxHeartbeats 4000000 in
set_option maxRecDepth 100000 in
theorem s_X2_readBranches_55 {l : Launch} {G : Cx} {RA : Int32 → Hp → (Int32 → Hp → Prop) → Prop} {v5 : Nat} {d dR : Nat} {h0 : Hp} (hd : dR + 14 ≤ d) (hv5 : v5 < 16) (hR : ∀ (d : Nat), dR ≤ d → ∀ {o : Int32} {h : Hp} {Q : Int32 → Hp → Prop}, RA o h Q → Ct l G d 0 0 yX2_readAll MX2_readAll [tR 2 0 (some 4), tI o] h (qI Q)) {Q : Int32 → Hp → Prop} {v2 : Int32} {v6 : Int32} {h : Hp} (hm : m_X2_readBranches_55 RA v5 Q v2 v6 h) : Rn l G d 0 0 MX2_readBranches h0 (qI Q) 55 [some (tR 2 0 (some 4)), none, some (tI v2), none, none, none, some (tI v6)] [] h 0 0 := by
  unfold m_X2_readBranches_55 at hm
  refine r_aload_n dX2_readBranches_55 rfl rfl ?_
  refine r_getC (k := 1) cl_2 dX2_readBranches_56 t_86 gf_2_1.1 gf_2_1.2 (gc_2_1 _) ?_
  refine r_iload_n dX2_readBranches_59 rfl rfl ?_
  refine r_callVU (d' := d - 1) (as := [tI v2]) (st := []) cl_8 dX2_readBranches_60 mi_X8_endTwo t_724 t_725 t_726 rfl rfl (Nat.le_of_ble_eq_true rfl) (by omega) ⟨by decide, by decide⟩ ⟨rfl, rfl⟩ (s_X8_endTwo (by omega) hm) (fun h2 hm => ?_)
  refine r_iload dX2_readBranches_63 rfl ?_
  exact r_bret dX2_readBranches_65 rfl ⟨by decide, by decide⟩ hm.1 ⟨_, rfl, hm.2⟩
def m_X2_readBranches (RA : Int32 → Hp → (Int32 → Hp → Prop) → Prop) (v1 : Int32) (v2 : Int32) (v3 : Int32) (v4 : Int32) (v5 : Nat) (h : Hp) (Q : Int32 → Hp → Prop) : Prop := m_X2_readBranch RA v1 v3 v4 h (fun (x3 : Int32) (h4 : Hp) => (¬ x3 = 0 → m_X8_turn v2 h4 (fun (h6 : Hp) => m_X10_isWord v5 h6 (fun (x7 : Int32) (h8 : Hp) => (x7 = 0 → m_X2_readBranches_55 RA v5 Q v2 1 h8) ∧ (¬ x7 = 0 → m_X10_advance h8 (fun (h10 : Hp) => m_X2_readBranch RA v1 v3 (1 - v4) h10 (fun (x11 : Int32) (h12 : Hp) => m_X2_readBranches_55 RA v5 Q v2 x11 h12)))))) ∧ (x3 = 0 → Q 0 h4))
set_option maxHeartbeats 4000000 in
set_option maxRecDepth 100000 in
theorem s_X2_readBranches {l : Launch} {G : Cx} {RA : Int32 → Hp → (Int32 → Hp → Prop) → Prop} {v5 : Nat} {d dR : Nat} (hd : dR + 14 ≤ d) (hv5 : v5 < 16) (hR : ∀ (d : Nat), dR ≤ d → ∀ {o : Int32} {h : Hp} {Q : Int32 → Hp → Prop}, RA o h Q → Ct l G d 0 0 yX2_readAll MX2_readAll [tR 2 0 (some 4), tI o] h (qI Q)) {v1 : Int32} {v2 : Int32} {v3 : Int32} {v4 : Int32} {h : Hp} {Q : Int32 → Hp → Prop} (hm : m_X2_readBranches RA v1 v2 v3 v4 v5 h Q) : Ct l G d 0 0 yX2_readBranches MX2_readBranches [tR 2 0 (some 4), tI v1, tI v2, tI v3, tI v4, tS v5] h (qI Q) := by
  unfold m_X2_readBranches at hm
  refine Ct.of (L := [some (tR 2 0 (some 4)), some (tI v1), some (tI v2), some (tI v3), some (tI v4), some (tS v5)]) (by decide) rfl rfl (Nat.le_of_ble_eq_true rfl) rfl ?_
  refine r_aload_n dX2_readBranches_0 rfl rfl ?_
  refine r_iload_n dX2_readBranches_1 rfl rfl ?_
  refine r_iload_n dX2_readBranches_2 rfl rfl ?_
  refine r_iload dX2_readBranches_3 rfl ?_
  refine r_callVI (d' := d - 1) (as := [tI v1, tI v3, tI v4]) (st := []) cl_2 dX2_readBranches_5 mi_X2_readBranch t_716 t_718 ts_18 rfl rfl (Nat.le_of_ble_eq_true rfl) (by omega) ⟨by decide, by decide⟩ ⟨rfl, rfl⟩ (s_X2_readBranch (by omega) hR hm) (fun x3 h4 hm => ?_)
  refine r_if_ne (tgt := 13) dX2_readBranches_8 rfl (fun hc => ?_) (fun hc => ?_)
  · replace hm := hm.1 hc
    refine r_aload_n dX2_readBranches_13 rfl rfl ?_
    refine r_getC (k := 1) cl_2 dX2_readBranches_14 t_86 gf_2_1.1 gf_2_1.2 (gc_2_1 _) ?_
    refine r_iload_n dX2_readBranches_17 rfl rfl ?_
    refine r_callVU (d' := d - 1) (as := [tI v2]) (st := []) cl_8 dX2_readBranches_18 mi_X8_turn t_720 t_721 t_722 rfl rfl (Nat.le_of_ble_eq_true rfl) (by omega) ⟨by decide, by decide⟩ ⟨rfl, rfl⟩ (s_X8_turn (by omega) hm) (fun h6 hm => ?_)
    refine r_iconst (v := 1) dX2_readBranches_21 rfl ?_
    refine r_istore (L' := [some (tR 2 0 (some 4)), some (tI v1), some (tI v2), some (tI v3), some (tI v4), some (tS v5), some (tI 1)]) dX2_readBranches_22 (by decide) rfl ?_
    refine r_aload_n dX2_readBranches_24 rfl rfl ?_
    refine r_getC (k := 0) cl_2 dX2_readBranches_25 t_85 gf_2_0.1 gf_2_0.2 (gc_2_0 _) ?_
    refine r_aloadS dX2_readBranches_28 rfl ?_
    refine r_callVI (d' := d - 1) (as := [tS v5]) (st := []) cl_10 dX2_readBranches_30 mi_X10_isWord t_640 t_631 t_632 rfl rfl (Nat.le_of_ble_eq_true rfl) (by omega) ⟨by decide, by decide⟩ ⟨rfl, rfl⟩ (s_X10_isWord (by omega) hv5 hm) (fun x7 h8 hm => ?_)
    refine r_if_eq (tgt := 55) dX2_readBranches_33 rfl (fun hc => ?_) (fun hc => ?_)
    · replace hm := hm.1 hc
      refine r_keep (L' := [some (tR 2 0 (some 4)), none, some (tI v2), none, none, none, some (tI 1)]) [true, false, true, false, false, false, true] rfl ?_
      exact s_X2_readBranches_55 hd hv5 hR hm
    · replace hm := hm.2 hc
      refine r_aload_n dX2_readBranches_36 rfl rfl ?_
      refine r_getC (k := 0) cl_2 dX2_readBranches_37 t_85 gf_2_0.1 gf_2_0.2 (gc_2_0 _) ?_
      refine r_callVU (d' := d - 1) (as := []) (st := []) cl_10 dX2_readBranches_40 mi_X10_advance t_600 t_516 t_517 rfl rfl (Nat.le_of_ble_eq_true rfl) (by omega) ⟨by decide, by decide⟩ ⟨rfl, rfl⟩ (s_X10_advance (by omega) hm) (fun h10 hm => ?_)
      refine r_aload_n dX2_readBranches_43 rfl rfl ?_
      refine r_iload_n dX2_readBranches_44 rfl rfl ?_
      refine r_iload_n dX2_readBranches_45 rfl rfl ?_
      refine r_iconst (v := 1) dX2_readBranches_46 rfl ?_
      refine r_iload dX2_readBranches_47 rfl ?_
      refine r_isub dX2_readBranches_49 ?_
      refine r_callVI (d' := d - 1) (as := [tI v1, tI v3, tI (1 - v4)]) (st := []) cl_2 dX2_readBranches_50 mi_X2_readBranch t_716 t_718 ts_18 rfl rfl (Nat.le_of_ble_eq_true rfl) (by omega) ⟨by decide, by decide⟩ ⟨rfl, rfl⟩ (s_X2_readBranch (by omega) hR hm) (fun x11 h12 hm => ?_)
      refine r_istore (L' := [some (tR 2 0 (some 4)), some (tI v1), some (tI v2), some (tI v3), some (tI v4), some (tS v5), some (tI x11)]) dX2_readBranches_53 (by decide) rfl ?_
      refine r_keep (L' := [some (tR 2 0 (some 4)), none, some (tI v2), none, none, none, some (tI x11)]) [true, false, true, false, false, false, true] rfl ?_
      exact s_X2_readBranches_55 hd hv5 hR hm
  · replace hm := hm.2 hc
    refine r_iconst (v := 0) dX2_readBranches_11 rfl ?_
    exact r_bret dX2_readBranches_12 rfl ⟨by decide, by decide⟩ (by unfold bz; decide) ⟨_, rfl, hm⟩
theorem dX2_readIf_0 : decode cX2_readIf 0 = .ok (.aload_n 0, 1) := rfl
theorem dX2_readIf_1 : decode cX2_readIf 1 = .ok (.getfield 22, 3) := rfl
theorem dX2_readIf_4 : decode cX2_readIf 4 = .ok (.invokevirtual 85, 3) := rfl
theorem dX2_readIf_7 : decode cX2_readIf 7 = .ok (.aload_n 0, 1) := rfl
theorem dX2_readIf_8 : decode cX2_readIf 8 = .ok (.getfield 22, 3) := rfl
theorem dX2_readIf_11 : decode cX2_readIf 11 = .ok (.ldc 171, 2) := rfl
theorem dX2_readIf_13 : decode cX2_readIf 13 = .ok (.invokevirtual 137, 3) := rfl
theorem dX2_readIf_16 : decode cX2_readIf 16 = .ok (.istore_n 2, 1) := rfl
theorem dX2_readIf_17 : decode cX2_readIf 17 = .ok (.iload_n 2, 1) := rfl
theorem dX2_readIf_18 : decode cX2_readIf 18 = .ok (.iconst (-1), 1) := rfl
theorem dX2_readIf_19 : decode cX2_readIf 19 = .ok (.if_icmp .ne 5, 3) := by decide +kernel
theorem dX2_readIf_22 : decode cX2_readIf 22 = .ok (.iconst 0, 1) := rfl
theorem dX2_readIf_23 : decode cX2_readIf 23 = .ok (.ireturn, 1) := rfl
theorem dX2_readIf_24 : decode cX2_readIf 24 = .ok (.aload_n 0, 1) := rfl
theorem dX2_readIf_25 : decode cX2_readIf 25 = .ok (.getfield 26, 3) := rfl
theorem dX2_readIf_28 : decode cX2_readIf 28 = .ok (.dup, 1) := rfl
theorem dX2_readIf_29 : decode cX2_readIf 29 = .ok (.getfield 173, 3) := rfl
theorem dX2_readIf_32 : decode cX2_readIf 32 = .ok (.iconst 1, 1) := rfl
theorem dX2_readIf_33 : decode cX2_readIf 33 = .ok (.iload_n 2, 1) := rfl
theorem dX2_readIf_34 : decode cX2_readIf 34 = .ok (.ishl, 1) := rfl
theorem dX2_readIf_35 : decode cX2_readIf 35 = .ok (.ior, 1) := rfl
theorem dX2_readIf_36 : decode cX2_readIf 36 = .ok (.putfield 173, 3) := rfl
theorem dX2_readIf_39 : decode cX2_readIf 39 = .ok (.aload_n 0, 1) := rfl
theorem dX2_readIf_40 : decode cX2_readIf 40 = .ok (.iload_n 1, 1) := rfl
theorem dX2_readIf_41 : decode cX2_readIf 41 = .ok (.aload_n 0, 1) := rfl
theorem dX2_readIf_42 : decode cX2_readIf 42 = .ok (.getfield 12, 3) := rfl
theorem dX2_readIf_45 : decode cX2_readIf 45 = .ok (.bipush (-5), 2) := by decide +kernel
theorem dX2_readIf_47 : decode cX2_readIf 47 = .ok (.iload_n 2, 1) := rfl
theorem dX2_readIf_48 : decode cX2_readIf 48 = .ok (.invokevirtual 161, 3) := rfl
theorem dX2_readIf_51 : decode cX2_readIf 51 = .ok (.iload_n 2, 1) := rfl
theorem dX2_readIf_52 : decode cX2_readIf 52 = .ok (.iconst 1, 1) := rfl
theorem dX2_readIf_53 : decode cX2_readIf 53 = .ok (.ldc 176, 2) := rfl
theorem dX2_readIf_55 : decode cX2_readIf 55 = .ok (.invokevirtual 178, 3) := rfl
theorem dX2_readIf_58 : decode cX2_readIf 58 = .ok (.ireturn, 1) := rfl
def m_X2_readIf (RA : Int32 → Hp → (Int32 → Hp → Prop) → Prop) (v1 : Int32) (h : Hp) (Q : Int32 → Hp → Prop) : Prop := m_X10_advance h (fun (h2 : Hp) => m_X10_takeOneOf 7 h2 (fun (x3 : Int32) (h4 : Hp) => (¬ x3 = (-1) → ∃ b5 : Nat, hR h4 4 3 = some b5 ∧ (m_X8_begin (-5) x3 (wI h4 b5 4 ((hI h4 b5 4) ||| (1 <<< (x3 &&& 31)))) (fun (x6 : Int32) (h7 : Hp) => m_X2_readBranches RA v1 x6 x3 1 8 h7 (fun (x8 : Int32) (h9 : Hp) => bz x8 ∧ Q x8 h9)))) ∧ (x3 = (-1) → Q 0 h4)))
set_option maxHeartbeats 4000000 in
set_option maxRecDepth 100000 in
theorem s_X2_readIf {l : Launch} {G : Cx} {RA : Int32 → Hp → (Int32 → Hp → Prop) → Prop} {d dR : Nat} (hd : dR + 16 ≤ d) (hR : ∀ (d : Nat), dR ≤ d → ∀ {o : Int32} {h : Hp} {Q : Int32 → Hp → Prop}, RA o h Q → Ct l G d 0 0 yX2_readAll MX2_readAll [tR 2 0 (some 4), tI o] h (qI Q)) {v1 : Int32} {h : Hp} {Q : Int32 → Hp → Prop} (hm : m_X2_readIf RA v1 h Q) : Ct l G d 0 0 yX2_readIf MX2_readIf [tR 2 0 (some 4), tI v1] h (qI Q) := by
  unfold m_X2_readIf at hm
  refine Ct.of (L := [some (tR 2 0 (some 4)), some (tI v1)]) (by decide) rfl rfl (Nat.le_of_ble_eq_true rfl) rfl ?_
  refine r_aload_n dX2_readIf_0 rfl rfl ?_
  refine r_getC (k := 0) cl_2 dX2_readIf_1 t_85 gf_2_0.1 gf_2_0.2 (gc_2_0 _) ?_
  refine r_callVU (d' := d - 1) (as := []) (st := []) cl_10 dX2_readIf_4 mi_X10_advance t_600 t_516 t_517 rfl rfl (Nat.le_of_ble_eq_true rfl) (by omega) ⟨by decide, by decide⟩ ⟨rfl, rfl⟩ (s_X10_advance (by omega) hm) (fun h2 hm => ?_)
  refine r_aload_n dX2_readIf_7 rfl rfl ?_
  refine r_getC (k := 0) cl_2 dX2_readIf_8 t_85 gf_2_0.1 gf_2_0.2 (gc_2_0 _) ?_
  refine r_ldcS (i := 7) (tx := "dies rain war dear flood ") dX2_readIf_11 (by decide) (by decide) ?_
  refine r_callVI (d' := d - 1) (as := [tS 7]) (st := []) cl_10 dX2_readIf_13 mi_X10_takeOneOf t_606 t_607 t_608 rfl rfl (Nat.le_of_ble_eq_true rfl) (by omega) ⟨by decide, by decide⟩ ⟨rfl, rfl⟩ (s_X10_takeOneOf (by omega) (by decide) hm) (fun x3 h4 hm => ?_)
  refine r_istore_n (L' := [some (tR 2 0 (some 4)), some (tI v1), some (tI x3)]) dX2_readIf_16 rfl (by decide) rfl ?_
  refine r_iload_n dX2_readIf_17 rfl rfl ?_
  refine r_iconst (v := (-1)) dX2_readIf_18 rfl ?_
  refine r_icmp_ne (tgt := 24) dX2_readIf_19 rfl (fun hc => ?_) (fun hc => ?_)
  · replace hm := hm.1 hc
    refine r_aload_n dX2_readIf_24 rfl rfl ?_
    obtain ⟨b5, hb_b5, hm⟩ := hm
    refine r_getRS (k := 3) cl_2 dX2_readIf_25 t_88 (Or.inl rfl) gf_2_3.1 gf_2_3.2 (by decide) hb_b5 ?_
    refine r_dup dX2_readIf_28 cv_cat1R ?_
    refine r_getI (k := 4) cl_1 dX2_readIf_29 t_456 (Or.inl rfl) gf_1_4 ?_
    refine r_iconst (v := 1) dX2_readIf_32 rfl ?_
    refine r_iload_n dX2_readIf_33 rfl rfl ?_
    refine r_ishl dX2_readIf_34 ?_
    refine r_ior dX2_readIf_35 ?_
    refine r_putI0 (k := 4) cl_1 dX2_readIf_36 t_456 (Or.inl rfl) gf_1_4 pf_1_4.1 (Or.inl pf_1_4.2) ?_
    refine r_aload_n dX2_readIf_39 rfl rfl ?_
    refine r_iload_n dX2_readIf_40 rfl rfl ?_
    refine r_aload_n dX2_readIf_41 rfl rfl ?_
    refine r_getC (k := 1) cl_2 dX2_readIf_42 t_86 gf_2_1.1 gf_2_1.2 (gc_2_1 _) ?_
    refine r_bipush (v := (-5)) dX2_readIf_45 rfl ?_
    refine r_iload_n dX2_readIf_47 rfl rfl ?_
    refine r_callVI (d' := d - 1) (as := [tI (-5), tI x3]) (st := [tI v1, tR 2 0 (some 4)]) cl_8 dX2_readIf_48 mi_X8_begin t_670 t_671 t_672 rfl rfl (Nat.le_of_ble_eq_true rfl) (by omega) ⟨by decide, by decide⟩ ⟨rfl, rfl⟩ (s_X8_begin (by omega) hm) (fun x6 h7 hm => ?_)
    refine r_iload_n dX2_readIf_51 rfl rfl ?_
    refine r_iconst (v := 1) dX2_readIf_52 rfl ?_
    refine r_ldcS (i := 8) (tx := "else ") dX2_readIf_53 (by decide) (by decide) ?_
    refine r_callVI (d' := d - 1) (as := [tI v1, tI x6, tI x3, tI 1, tS 8]) (st := []) cl_2 dX2_readIf_55 mi_X2_readBranches t_712 t_714 ts_17 rfl rfl (Nat.le_of_ble_eq_true rfl) (by omega) ⟨by decide, by decide⟩ ⟨rfl, rfl⟩ (s_X2_readBranches (by omega) (by decide) hR hm) (fun x8 h9 hm => ?_)
    exact r_bret dX2_readIf_58 rfl ⟨by decide, by decide⟩ hm.1 ⟨_, rfl, hm.2⟩
  · replace hm := hm.2 hc
    refine r_iconst (v := 0) dX2_readIf_22 rfl ?_
    exact r_bret dX2_readIf_23 rfl ⟨by decide, by decide⟩ (by unfold bz; decide) ⟨_, rfl, hm⟩
theorem dX2_readChoice_0 : decode cX2_readChoice 0 = .ok (.aload_n 0, 1) := by decide +kernel
theorem dX2_readChoice_1 : decode cX2_readChoice 1 = .ok (.getfield 26, 3) := by decide +kernel
theorem dX2_readChoice_4 : decode cX2_readChoice 4 = .ok (.getfield 182, 3) := by decide +kernel
theorem dX2_readChoice_7 : decode cX2_readChoice 7 = .ok (.iconst 3, 1) := by decide +kernel
theorem dX2_readChoice_8 : decode cX2_readChoice 8 = .ok (.if_icmp .lt 11, 3) := by decide +kernel
theorem dX2_readChoice_11 : decode cX2_readChoice 11 = .ok (.aload_n 0, 1) := by decide +kernel
theorem dX2_readChoice_12 : decode cX2_readChoice 12 = .ok (.getfield 22, 3) := by decide +kernel
theorem dX2_readChoice_15 : decode cX2_readChoice 15 = .ok (.invokevirtual 59, 3) := by decide +kernel
theorem dX2_readChoice_18 : decode cX2_readChoice 18 = .ok (.ireturn, 1) := by decide +kernel
theorem dX2_readChoice_19 : decode cX2_readChoice 19 = .ok (.iconst 5, 1) := by decide +kernel
theorem dX2_readChoice_20 : decode cX2_readChoice 20 = .ok (.aload_n 0, 1) := by decide +kernel
theorem dX2_readChoice_21 : decode cX2_readChoice 21 = .ok (.getfield 26, 3) := by decide +kernel
theorem dX2_readChoice_24 : decode cX2_readChoice 24 = .ok (.getfield 182, 3) := by decide +kernel
theorem dX2_readChoice_27 : decode cX2_readChoice 27 = .ok (.iadd, 1) := by decide +kernel
theorem dX2_readChoice_28 : decode cX2_readChoice 28 = .ok (.istore_n 2, 1) := by decide +kernel
theorem dX2_readChoice_29 : decode cX2_readChoice 29 = .ok (.aload_n 0, 1) := by decide +kernel
theorem dX2_readChoice_30 : decode cX2_readChoice 30 = .ok (.getfield 26, 3) := by decide +kernel
theorem dX2_readChoice_33 : decode cX2_readChoice 33 = .ok (.dup, 1) := by decide +kernel
theorem dX2_readChoice_34 : decode cX2_readChoice 34 = .ok (.getfield 182, 3) := by decide +kernel
theorem dX2_readChoice_37 : decode cX2_readChoice 37 = .ok (.iconst 1, 1) := by decide +kernel
theorem dX2_readChoice_38 : decode cX2_readChoice 38 = .ok (.iadd, 1) := by decide +kernel
theorem dX2_readChoice_39 : decode cX2_readChoice 39 = .ok (.putfield 182, 3) := by decide +kernel
theorem dX2_readChoice_42 : decode cX2_readChoice 42 = .ok (.aload_n 0, 1) := by decide +kernel
theorem dX2_readChoice_43 : decode cX2_readChoice 43 = .ok (.getfield 22, 3) := by decide +kernel
theorem dX2_readChoice_46 : decode cX2_readChoice 46 = .ok (.invokevirtual 85, 3) := by decide +kernel
theorem dX2_readChoice_49 : decode cX2_readChoice 49 = .ok (.aload_n 0, 1) := by decide +kernel
theorem dX2_readChoice_50 : decode cX2_readChoice 50 = .ok (.getfield 22, 3) := by decide +kernel
theorem dX2_readChoice_53 : decode cX2_readChoice 53 = .ok (.ldc 135, 2) := by decide +kernel
theorem dX2_readChoice_55 : decode cX2_readChoice 55 = .ok (.invokevirtual 137, 3) := by decide +kernel
theorem dX2_readChoice_58 : decode cX2_readChoice 58 = .ok (.istore_n 3, 1) := by decide +kernel
theorem dX2_readChoice_59 : decode cX2_readChoice 59 = .ok (.iload_n 3, 1) := by decide +kernel
theorem dX2_readChoice_60 : decode cX2_readChoice 60 = .ok (.iconst (-1), 1) := by decide +kernel
theorem dX2_readChoice_61 : decode cX2_readChoice 61 = .ok (.if_icmp .ne 5, 3) := by decide +kernel
theorem dX2_readChoice_64 : decode cX2_readChoice 64 = .ok (.iconst 0, 1) := by decide +kernel
theorem dX2_readChoice_65 : decode cX2_readChoice 65 = .ok (.ireturn, 1) := by decide +kernel
theorem dX2_readChoice_66 : decode cX2_readChoice 66 = .ok (.aload_n 0, 1) := by decide +kernel
theorem dX2_readChoice_67 : decode cX2_readChoice 67 = .ok (.iload_n 1, 1) := by decide +kernel
theorem dX2_readChoice_68 : decode cX2_readChoice 68 = .ok (.aload_n 0, 1) := by decide +kernel
theorem dX2_readChoice_69 : decode cX2_readChoice 69 = .ok (.getfield 12, 3) := by decide +kernel
theorem dX2_readChoice_72 : decode cX2_readChoice 72 = .ok (.bipush (-6), 2) := by decide +kernel
theorem dX2_readChoice_74 : decode cX2_readChoice 74 = .ok (.iload_n 3, 1) := by decide +kernel
theorem dX2_readChoice_75 : decode cX2_readChoice 75 = .ok (.invokevirtual 161, 3) := by decide +kernel
theorem dX2_readChoice_78 : decode cX2_readChoice 78 = .ok (.iload_n 2, 1) := by decide +kernel
theorem dX2_readChoice_79 : decode cX2_readChoice 79 = .ok (.iconst 0, 1) := by decide +kernel
theorem dX2_readChoice_80 : decode cX2_readChoice 80 = .ok (.ldc 185, 2) := by decide +kernel
theorem dX2_readChoice_82 : decode cX2_readChoice 82 = .ok (.invokevirtual 178, 3) := by decide +kernel
theorem dX2_readChoice_85 : decode cX2_readChoice 85 = .ok (.ireturn, 1) := by decide +kernel
def m_X2_readChoice (RA : Int32 → Hp → (Int32 → Hp → Prop) → Prop) (v1 : Int32) (h : Hp) (Q : Int32 → Hp → Prop) : Prop := ∃ b1 : Nat, hR h 4 3 = some b1 ∧ (((hI h b1 3) < 3 → ∃ b2 : Nat, hR h 4 3 = some b2 ∧ (∀ x3 : Int32, x3 = (5 + (hI h b2 3)) → ∃ b4 : Nat, hR h 4 3 = some b4 ∧ (m_X10_advance (wI h b4 3 ((hI h b4 3) + 1)) (fun (h6 : Hp) => m_X10_takeOneOf 1 h6 (fun (x7 : Int32) (h8 : Hp) => (¬ x7 = (-1) → m_X8_begin (-6) x7 h8 (fun (x9 : Int32) (h10 : Hp) => m_X2_readBranches RA v1 x9 x3 0 9 h10 (fun (x11 : Int32) (h12 : Hp) => bz x11 ∧ Q x11 h12))) ∧ (x7 = (-1) → Q 0 h8)))))) ∧ (¬ (hI h b1 3) < 3 → m_X10_refuse h (fun (x13 : Int32) (h14 : Hp) => bz x13 ∧ Q x13 h14)))
set_option maxHeartbeats 4000000 in
set_option maxRecDepth 100000 in
theorem s_X2_readChoice {l : Launch} {G : Cx} {RA : Int32 → Hp → (Int32 → Hp → Prop) → Prop} {d dR : Nat} (hd : dR + 16 ≤ d) (hR : ∀ (d : Nat), dR ≤ d → ∀ {o : Int32} {h : Hp} {Q : Int32 → Hp → Prop}, RA o h Q → Ct l G d 0 0 yX2_readAll MX2_readAll [tR 2 0 (some 4), tI o] h (qI Q)) {v1 : Int32} {h : Hp} {Q : Int32 → Hp → Prop} (hm : m_X2_readChoice RA v1 h Q) : Ct l G d 0 0 yX2_readChoice MX2_readChoice [tR 2 0 (some 4), tI v1] h (qI Q) := by
  unfold m_X2_readChoice at hm
  refine Ct.of (L := [some (tR 2 0 (some 4)), some (tI v1)]) (by decide) rfl rfl (Nat.le_of_ble_eq_true rfl) rfl ?_
  refine r_aload_n dX2_readChoice_0 rfl rfl ?_
  obtain ⟨b1, hb_b1, hm⟩ := hm
  refine r_getRS (k := 3) cl_2 dX2_readChoice_1 t_88 (Or.inl rfl) gf_2_3.1 gf_2_3.2 (by decide) hb_b1 ?_
  refine r_getI (k := 3) cl_1 dX2_readChoice_4 t_451 (Or.inl rfl) gf_1_3 ?_
  refine r_iconst (v := 3) dX2_readChoice_7 rfl ?_
  refine r_icmp_lt (tgt := 19) dX2_readChoice_8 rfl (fun hc => ?_) (fun hc => ?_)
  · replace hm := hm.1 hc
    refine r_iconst (v := 5) dX2_readChoice_19 rfl ?_
    refine r_aload_n dX2_readChoice_20 rfl rfl ?_
    obtain ⟨b2, hb_b2, hm⟩ := hm
    refine r_getRS (k := 3) cl_2 dX2_readChoice_21 t_88 (Or.inl rfl) gf_2_3.1 gf_2_3.2 (by decide) hb_b2 ?_
    refine r_getI (k := 3) cl_1 dX2_readChoice_24 t_451 (Or.inl rfl) gf_1_3 ?_
    refine r_iadd dX2_readChoice_27 ?_
    refine r_nmI (fun x3 e_x3 => ?_)
    replace hm := hm x3 e_x3
    refine r_istore_n (L' := [some (tR 2 0 (some 4)), some (tI v1), some (tI x3)]) dX2_readChoice_28 rfl (by decide) rfl ?_
    refine r_aload_n dX2_readChoice_29 rfl rfl ?_
    obtain ⟨b4, hb_b4, hm⟩ := hm
    refine r_getRS (k := 3) cl_2 dX2_readChoice_30 t_88 (Or.inl rfl) gf_2_3.1 gf_2_3.2 (by decide) hb_b4 ?_
    refine r_dup dX2_readChoice_33 cv_cat1R ?_
    refine r_getI (k := 3) cl_1 dX2_readChoice_34 t_451 (Or.inl rfl) gf_1_3 ?_
    refine r_iconst (v := 1) dX2_readChoice_37 rfl ?_
    refine r_iadd dX2_readChoice_38 ?_
    refine r_putI0 (k := 3) cl_1 dX2_readChoice_39 t_451 (Or.inl rfl) gf_1_3 pf_1_3.1 (Or.inl pf_1_3.2) ?_
    refine r_aload_n dX2_readChoice_42 rfl rfl ?_
    refine r_getC (k := 0) cl_2 dX2_readChoice_43 t_85 gf_2_0.1 gf_2_0.2 (gc_2_0 _) ?_
    refine r_callVU (d' := d - 1) (as := []) (st := []) cl_10 dX2_readChoice_46 mi_X10_advance t_600 t_516 t_517 rfl rfl (Nat.le_of_ble_eq_true rfl) (by omega) ⟨by decide, by decide⟩ ⟨rfl, rfl⟩ (s_X10_advance (by omega) hm) (fun h6 hm => ?_)
    refine r_aload_n dX2_readChoice_49 rfl rfl ?_
    refine r_getC (k := 0) cl_2 dX2_readChoice_50 t_85 gf_2_0.1 gf_2_0.2 (gc_2_0 _) ?_
    refine r_ldcS (i := 1) (tx := "a b c d e f g h ") dX2_readChoice_53 (by decide) (by decide) ?_
    refine r_callVI (d' := d - 1) (as := [tS 1]) (st := []) cl_10 dX2_readChoice_55 mi_X10_takeOneOf t_606 t_607 t_608 rfl rfl (Nat.le_of_ble_eq_true rfl) (by omega) ⟨by decide, by decide⟩ ⟨rfl, rfl⟩ (s_X10_takeOneOf (by omega) (by decide) hm) (fun x7 h8 hm => ?_)
    refine r_istore_n (L' := [some (tR 2 0 (some 4)), some (tI v1), some (tI x3), some (tI x7)]) dX2_readChoice_58 rfl (by decide) rfl ?_
    refine r_iload_n dX2_readChoice_59 rfl rfl ?_
    refine r_iconst (v := (-1)) dX2_readChoice_60 rfl ?_
    refine r_icmp_ne (tgt := 66) dX2_readChoice_61 rfl (fun hc => ?_) (fun hc => ?_)
    · replace hm := hm.1 hc
      refine r_aload_n dX2_readChoice_66 rfl rfl ?_
      refine r_iload_n dX2_readChoice_67 rfl rfl ?_
      refine r_aload_n dX2_readChoice_68 rfl rfl ?_
      refine r_getC (k := 1) cl_2 dX2_readChoice_69 t_86 gf_2_1.1 gf_2_1.2 (gc_2_1 _) ?_
      refine r_bipush (v := (-6)) dX2_readChoice_72 rfl ?_
      refine r_iload_n dX2_readChoice_74 rfl rfl ?_
      refine r_callVI (d' := d - 1) (as := [tI (-6), tI x7]) (st := [tI v1, tR 2 0 (some 4)]) cl_8 dX2_readChoice_75 mi_X8_begin t_670 t_671 t_672 rfl rfl (Nat.le_of_ble_eq_true rfl) (by omega) ⟨by decide, by decide⟩ ⟨rfl, rfl⟩ (s_X8_begin (by omega) hm) (fun x9 h10 hm => ?_)
      refine r_iload_n dX2_readChoice_78 rfl rfl ?_
      refine r_iconst (v := 0) dX2_readChoice_79 rfl ?_
      refine r_ldcS (i := 9) (tx := "or ") dX2_readChoice_80 (by decide) (by decide) ?_
      refine r_callVI (d' := d - 1) (as := [tI v1, tI x9, tI x3, tI 0, tS 9]) (st := []) cl_2 dX2_readChoice_82 mi_X2_readBranches t_712 t_714 ts_17 rfl rfl (Nat.le_of_ble_eq_true rfl) (by omega) ⟨by decide, by decide⟩ ⟨rfl, rfl⟩ (s_X2_readBranches (by omega) (by decide) hR hm) (fun x11 h12 hm => ?_)
      exact r_bret dX2_readChoice_85 rfl ⟨by decide, by decide⟩ hm.1 ⟨_, rfl, hm.2⟩
    · replace hm := hm.2 hc
      refine r_iconst (v := 0) dX2_readChoice_64 rfl ?_
      exact r_bret dX2_readChoice_65 rfl ⟨by decide, by decide⟩ (by unfold bz; decide) ⟨_, rfl, hm⟩
  · replace hm := hm.2 hc
    refine r_aload_n dX2_readChoice_11 rfl rfl ?_
    refine r_getC (k := 0) cl_2 dX2_readChoice_12 t_85 gf_2_0.1 gf_2_0.2 (gc_2_0 _) ?_
    refine r_callVI (d' := d - 1) (as := []) (st := []) cl_10 dX2_readChoice_15 mi_X10_refuse t_596 t_597 t_598 rfl rfl (Nat.le_of_ble_eq_true rfl) (by omega) ⟨by decide, by decide⟩ ⟨rfl, rfl⟩ (s_X10_refuse (by omega) hm) (fun x13 h14 hm => ?_)
    exact r_bret dX2_readChoice_18 rfl ⟨by decide, by decide⟩ hm.1 ⟨_, rfl, hm.2⟩
theorem dX2_readPart_0 : decode cX2_readPart 0 = .ok (.aload_n 0, 1) := by decide +kernel
theorem dX2_readPart_1 : decode cX2_readPart 1 = .ok (.getfield 22, 3) := by decide +kernel
theorem dX2_readPart_4 : decode cX2_readPart 4 = .ok (.ldc 88, 2) := by decide +kernel
theorem dX2_readPart_6 : decode cX2_readPart 6 = .ok (.invokevirtual 90, 3) := by decide +kernel
theorem dX2_readPart_9 : decode cX2_readPart 9 = .ok (.istore_n 2, 1) := by decide +kernel
theorem dX2_readPart_10 : decode cX2_readPart 10 = .ok (.iload_n 2, 1) := by decide +kernel
theorem dX2_readPart_11 : decode cX2_readPart 11 = .ok (.tableswitch 75 0 7 #[45, 45, 45, 45, 51, 57, 63, 69], 45) := by decide +kernel
theorem dX2_readPart_56 : decode cX2_readPart 56 = .ok (.aload_n 0, 1) := by decide +kernel
theorem dX2_readPart_57 : decode cX2_readPart 57 = .ok (.iload_n 2, 1) := by decide +kernel
theorem dX2_readPart_58 : decode cX2_readPart 58 = .ok (.invokevirtual 94, 3) := by decide +kernel
theorem dX2_readPart_61 : decode cX2_readPart 61 = .ok (.ireturn, 1) := by decide +kernel
theorem dX2_readPart_62 : decode cX2_readPart 62 = .ok (.aload_n 0, 1) := by decide +kernel
theorem dX2_readPart_63 : decode cX2_readPart 63 = .ok (.iload_n 1, 1) := by decide +kernel
theorem dX2_readPart_64 : decode cX2_readPart 64 = .ok (.invokevirtual 97, 3) := by decide +kernel
theorem dX2_readPart_67 : decode cX2_readPart 67 = .ok (.ireturn, 1) := by decide +kernel
theorem dX2_readPart_68 : decode cX2_readPart 68 = .ok (.aload_n 0, 1) := by decide +kernel
theorem dX2_readPart_69 : decode cX2_readPart 69 = .ok (.iload_n 1, 1) := by decide +kernel
theorem dX2_readPart_70 : decode cX2_readPart 70 = .ok (.invokevirtual 100, 3) := by decide +kernel
theorem dX2_readPart_73 : decode cX2_readPart 73 = .ok (.ireturn, 1) := by decide +kernel
theorem dX2_readPart_74 : decode cX2_readPart 74 = .ok (.aload_n 0, 1) := by decide +kernel
theorem dX2_readPart_75 : decode cX2_readPart 75 = .ok (.iload_n 1, 1) := by decide +kernel
theorem dX2_readPart_76 : decode cX2_readPart 76 = .ok (.invokevirtual 103, 3) := by decide +kernel
theorem dX2_readPart_79 : decode cX2_readPart 79 = .ok (.ireturn, 1) := by decide +kernel
theorem dX2_readPart_80 : decode cX2_readPart 80 = .ok (.aload_n 0, 1) := by decide +kernel
theorem dX2_readPart_81 : decode cX2_readPart 81 = .ok (.iload_n 1, 1) := by decide +kernel
theorem dX2_readPart_82 : decode cX2_readPart 82 = .ok (.invokevirtual 106, 3) := by decide +kernel
theorem dX2_readPart_85 : decode cX2_readPart 85 = .ok (.ireturn, 1) := by decide +kernel
theorem dX2_readPart_86 : decode cX2_readPart 86 = .ok (.aload_n 0, 1) := by decide +kernel
theorem dX2_readPart_87 : decode cX2_readPart 87 = .ok (.getfield 22, 3) := by decide +kernel
theorem dX2_readPart_90 : decode cX2_readPart 90 = .ok (.invokevirtual 59, 3) := by decide +kernel
theorem dX2_readPart_93 : decode cX2_readPart 93 = .ok (.ireturn, 1) := by decide +kernel
def m_X2_readPart (RA : Int32 → Hp → (Int32 → Hp → Prop) → Prop) (v1 : Int32) (h : Hp) (Q : Int32 → Hp → Prop) : Prop := m_X10_placeIn 0 h (fun (x1 : Int32) (h2 : Hp) => (x1 = 0 → m_X2_readLeaf x1 h2 (fun (x3 : Int32) (h4 : Hp) => bz x3 ∧ Q x3 h4)) ∧ (¬ x1 = 0 → (x1 = 1 → m_X2_readLeaf x1 h2 (fun (x5 : Int32) (h6 : Hp) => bz x5 ∧ Q x5 h6)) ∧ (¬ x1 = 1 → (x1 = 2 → m_X2_readLeaf x1 h2 (fun (x7 : Int32) (h8 : Hp) => bz x7 ∧ Q x7 h8)) ∧ (¬ x1 = 2 → (x1 = 3 → m_X2_readLeaf x1 h2 (fun (x9 : Int32) (h10 : Hp) => bz x9 ∧ Q x9 h10)) ∧ (¬ x1 = 3 → (x1 = 4 → m_X2_readAfter RA v1 h2 (fun (x11 : Int32) (h12 : Hp) => bz x11 ∧ Q x11 h12)) ∧ (¬ x1 = 4 → (x1 = 5 → m_X2_readTimes RA v1 h2 (fun (x13 : Int32) (h14 : Hp) => bz x13 ∧ Q x13 h14)) ∧ (¬ x1 = 5 → (x1 = 6 → m_X2_readIf RA v1 h2 (fun (x15 : Int32) (h16 : Hp) => bz x15 ∧ Q x15 h16)) ∧ (¬ x1 = 6 → (x1 = 7 → m_X2_readChoice RA v1 h2 (fun (x17 : Int32) (h18 : Hp) => bz x17 ∧ Q x17 h18)) ∧ (¬ x1 = 7 → m_X10_refuse h2 (fun (x19 : Int32) (h20 : Hp) => bz x19 ∧ Q x19 h20))))))))))
set_option maxHeartbeats 4000000 in
set_option maxRecDepth 100000 in
theorem s_X2_readPart {l : Launch} {G : Cx} {RA : Int32 → Hp → (Int32 → Hp → Prop) → Prop} {d dR : Nat} (hd : dR + 20 ≤ d) (hR : ∀ (d : Nat), dR ≤ d → ∀ {o : Int32} {h : Hp} {Q : Int32 → Hp → Prop}, RA o h Q → Ct l G d 0 0 yX2_readAll MX2_readAll [tR 2 0 (some 4), tI o] h (qI Q)) {v1 : Int32} {h : Hp} {Q : Int32 → Hp → Prop} (hm : m_X2_readPart RA v1 h Q) : Ct l G d 0 0 yX2_readPart MX2_readPart [tR 2 0 (some 4), tI v1] h (qI Q) := by
  unfold m_X2_readPart at hm
  refine Ct.of (L := [some (tR 2 0 (some 4)), some (tI v1)]) (by decide) rfl rfl (Nat.le_of_ble_eq_true rfl) rfl ?_
  refine r_aload_n dX2_readPart_0 rfl rfl ?_
  refine r_getC (k := 0) cl_2 dX2_readPart_1 t_85 gf_2_0.1 gf_2_0.2 (gc_2_0 _) ?_
  refine r_ldcS (i := 0) (tx := "pass gift sale hire after times if choice ") dX2_readPart_4 (by decide) (by decide) ?_
  refine r_callVI (d' := d - 1) (as := [tS 0]) (st := []) cl_10 dX2_readPart_6 mi_X10_placeIn t_540 t_541 t_542 rfl rfl (Nat.le_of_ble_eq_true rfl) (by omega) ⟨by decide, by decide⟩ ⟨rfl, rfl⟩ (s_X10_placeIn (by omega) (by decide) hm) (fun x1 h2 hm => ?_)
  refine r_istore_n (L' := [some (tR 2 0 (some 4)), some (tI v1), some (tI x1)]) dX2_readPart_9 rfl (by decide) rfl ?_
  refine r_iload_n dX2_readPart_10 rfl rfl ?_
  by_cases hc0 : x1 = 0
  · refine r_tableIn (tgt := 56) (off := 45) dX2_readPart_11 (by rw [hc0]; decide) (by rw [hc0]; decide) (by rw [hc0]; rfl) rfl ?_
    replace hm := hm.1 hc0
    refine r_aload_n dX2_readPart_56 rfl rfl ?_
    refine r_iload_n dX2_readPart_57 rfl rfl ?_
    refine r_callVI (d' := d - 1) (as := [tI x1]) (st := []) cl_2 dX2_readPart_58 mi_X2_readLeaf t_592 t_594 ts_3 rfl rfl (Nat.le_of_ble_eq_true rfl) (by omega) ⟨by decide, by decide⟩ ⟨rfl, rfl⟩ (s_X2_readLeaf (by omega) hm) (fun x3 h4 hm => ?_)
    exact r_bret dX2_readPart_61 rfl ⟨by decide, by decide⟩ hm.1 ⟨_, rfl, hm.2⟩
  replace hm := hm.2 hc0
  by_cases hc1 : x1 = 1
  · refine r_tableIn (tgt := 56) (off := 45) dX2_readPart_11 (by rw [hc1]; decide) (by rw [hc1]; decide) (by rw [hc1]; rfl) rfl ?_
    replace hm := hm.1 hc1
    refine r_aload_n dX2_readPart_56 rfl rfl ?_
    refine r_iload_n dX2_readPart_57 rfl rfl ?_
    refine r_callVI (d' := d - 1) (as := [tI x1]) (st := []) cl_2 dX2_readPart_58 mi_X2_readLeaf t_592 t_594 ts_3 rfl rfl (Nat.le_of_ble_eq_true rfl) (by omega) ⟨by decide, by decide⟩ ⟨rfl, rfl⟩ (s_X2_readLeaf (by omega) hm) (fun x5 h6 hm => ?_)
    exact r_bret dX2_readPart_61 rfl ⟨by decide, by decide⟩ hm.1 ⟨_, rfl, hm.2⟩
  replace hm := hm.2 hc1
  by_cases hc2 : x1 = 2
  · refine r_tableIn (tgt := 56) (off := 45) dX2_readPart_11 (by rw [hc2]; decide) (by rw [hc2]; decide) (by rw [hc2]; rfl) rfl ?_
    replace hm := hm.1 hc2
    refine r_aload_n dX2_readPart_56 rfl rfl ?_
    refine r_iload_n dX2_readPart_57 rfl rfl ?_
    refine r_callVI (d' := d - 1) (as := [tI x1]) (st := []) cl_2 dX2_readPart_58 mi_X2_readLeaf t_592 t_594 ts_3 rfl rfl (Nat.le_of_ble_eq_true rfl) (by omega) ⟨by decide, by decide⟩ ⟨rfl, rfl⟩ (s_X2_readLeaf (by omega) hm) (fun x7 h8 hm => ?_)
    exact r_bret dX2_readPart_61 rfl ⟨by decide, by decide⟩ hm.1 ⟨_, rfl, hm.2⟩
  replace hm := hm.2 hc2
  by_cases hc3 : x1 = 3
  · refine r_tableIn (tgt := 56) (off := 45) dX2_readPart_11 (by rw [hc3]; decide) (by rw [hc3]; decide) (by rw [hc3]; rfl) rfl ?_
    replace hm := hm.1 hc3
    refine r_aload_n dX2_readPart_56 rfl rfl ?_
    refine r_iload_n dX2_readPart_57 rfl rfl ?_
    refine r_callVI (d' := d - 1) (as := [tI x1]) (st := []) cl_2 dX2_readPart_58 mi_X2_readLeaf t_592 t_594 ts_3 rfl rfl (Nat.le_of_ble_eq_true rfl) (by omega) ⟨by decide, by decide⟩ ⟨rfl, rfl⟩ (s_X2_readLeaf (by omega) hm) (fun x9 h10 hm => ?_)
    exact r_bret dX2_readPart_61 rfl ⟨by decide, by decide⟩ hm.1 ⟨_, rfl, hm.2⟩
  replace hm := hm.2 hc3
  by_cases hc4 : x1 = 4
  · refine r_tableIn (tgt := 62) (off := 51) dX2_readPart_11 (by rw [hc4]; decide) (by rw [hc4]; decide) (by rw [hc4]; rfl) rfl ?_
    replace hm := hm.1 hc4
    refine r_aload_n dX2_readPart_62 rfl rfl ?_
    refine r_iload_n dX2_readPart_63 rfl rfl ?_
    refine r_callVI (d' := d - 1) (as := [tI v1]) (st := []) cl_2 dX2_readPart_64 mi_X2_readAfter t_666 t_668 ts_10 rfl rfl (Nat.le_of_ble_eq_true rfl) (by omega) ⟨by decide, by decide⟩ ⟨rfl, rfl⟩ (s_X2_readAfter (by omega) hR hm) (fun x11 h12 hm => ?_)
    exact r_bret dX2_readPart_67 rfl ⟨by decide, by decide⟩ hm.1 ⟨_, rfl, hm.2⟩
  replace hm := hm.2 hc4
  by_cases hc5 : x1 = 5
  · refine r_tableIn (tgt := 68) (off := 57) dX2_readPart_11 (by rw [hc5]; decide) (by rw [hc5]; decide) (by rw [hc5]; rfl) rfl ?_
    replace hm := hm.1 hc5
    refine r_aload_n dX2_readPart_68 rfl rfl ?_
    refine r_iload_n dX2_readPart_69 rfl rfl ?_
    refine r_callVI (d' := d - 1) (as := [tI v1]) (st := []) cl_2 dX2_readPart_70 mi_X2_readTimes t_702 t_704 ts_15 rfl rfl (Nat.le_of_ble_eq_true rfl) (by omega) ⟨by decide, by decide⟩ ⟨rfl, rfl⟩ (s_X2_readTimes (by omega) hR hm) (fun x13 h14 hm => ?_)
    exact r_bret dX2_readPart_73 rfl ⟨by decide, by decide⟩ hm.1 ⟨_, rfl, hm.2⟩
  replace hm := hm.2 hc5
  by_cases hc6 : x1 = 6
  · refine r_tableIn (tgt := 74) (off := 63) dX2_readPart_11 (by rw [hc6]; decide) (by rw [hc6]; decide) (by rw [hc6]; rfl) rfl ?_
    replace hm := hm.1 hc6
    refine r_aload_n dX2_readPart_74 rfl rfl ?_
    refine r_iload_n dX2_readPart_75 rfl rfl ?_
    refine r_callVI (d' := d - 1) (as := [tI v1]) (st := []) cl_2 dX2_readPart_76 mi_X2_readIf t_706 t_708 ts_16 rfl rfl (Nat.le_of_ble_eq_true rfl) (by omega) ⟨by decide, by decide⟩ ⟨rfl, rfl⟩ (s_X2_readIf (by omega) hR hm) (fun x15 h16 hm => ?_)
    exact r_bret dX2_readPart_79 rfl ⟨by decide, by decide⟩ hm.1 ⟨_, rfl, hm.2⟩
  replace hm := hm.2 hc6
  by_cases hc7 : x1 = 7
  · refine r_tableIn (tgt := 80) (off := 69) dX2_readPart_11 (by rw [hc7]; decide) (by rw [hc7]; decide) (by rw [hc7]; rfl) rfl ?_
    replace hm := hm.1 hc7
    refine r_aload_n dX2_readPart_80 rfl rfl ?_
    refine r_iload_n dX2_readPart_81 rfl rfl ?_
    refine r_callVI (d' := d - 1) (as := [tI v1]) (st := []) cl_2 dX2_readPart_82 mi_X2_readChoice t_732 t_734 ts_20 rfl rfl (Nat.le_of_ble_eq_true rfl) (by omega) ⟨by decide, by decide⟩ ⟨rfl, rfl⟩ (s_X2_readChoice (by omega) hR hm) (fun x17 h18 hm => ?_)
    exact r_bret dX2_readPart_85 rfl ⟨by decide, by decide⟩ hm.1 ⟨_, rfl, hm.2⟩
  replace hm := hm.2 hc7
  refine r_tableOut (tgt := 86) dX2_readPart_11 (sw_out (n := 8) (fun k hk => by rcases (show k = 0 ∨ k = 1 ∨ k = 2 ∨ k = 3 ∨ k = 4 ∨ k = 5 ∨ k = 6 ∨ k = 7 by omega) with rfl | rfl | rfl | rfl | rfl | rfl | rfl | rfl <;> first | exact hc0 | exact hc1 | exact hc2 | exact hc3 | exact hc4 | exact hc5 | exact hc6 | exact hc7)) rfl ?_
  refine r_aload_n dX2_readPart_86 rfl rfl ?_
  refine r_getC (k := 0) cl_2 dX2_readPart_87 t_85 gf_2_0.1 gf_2_0.2 (gc_2_0 _) ?_
  refine r_callVI (d' := d - 1) (as := []) (st := []) cl_10 dX2_readPart_90 mi_X10_refuse t_596 t_597 t_598 rfl rfl (Nat.le_of_ble_eq_true rfl) (by omega) ⟨by decide, by decide⟩ ⟨rfl, rfl⟩ (s_X10_refuse (by omega) hm) (fun x19 h20 hm => ?_)
  exact r_bret dX2_readPart_93 rfl ⟨by decide, by decide⟩ hm.1 ⟨_, rfl, hm.2⟩
theorem dX2_readAll_0 : decode cX2_readAll 0 = .ok (.iconst 0, 1) := rfl
theorem dX2_readAll_1 : decode cX2_readAll 1 = .ok (.istore_n 2, 1) := rfl
theorem dX2_readAll_2 : decode cX2_readAll 2 = .ok (.iload_n 2, 1) := rfl
theorem dX2_readAll_3 : decode cX2_readAll 3 = .ok (.sipush 600, 3) := by decide +kernel
theorem dX2_readAll_6 : decode cX2_readAll 6 = .ok (.if_icmp .ge 40, 3) := by decide +kernel
theorem dX2_readAll_9 : decode cX2_readAll 9 = .ok (.aload_n 0, 1) := rfl
theorem dX2_readAll_10 : decode cX2_readAll 10 = .ok (.iload_n 1, 1) := rfl
theorem dX2_readAll_11 : decode cX2_readAll 11 = .ok (.invokevirtual 78, 3) := rfl
theorem dX2_readAll_14 : decode cX2_readAll 14 = .ok (.ifCond .ne 5, 3) := by decide +kernel
theorem dX2_readAll_17 : decode cX2_readAll 17 = .ok (.iconst 0, 1) := rfl
theorem dX2_readAll_18 : decode cX2_readAll 18 = .ok (.ireturn, 1) := rfl
theorem dX2_readAll_19 : decode cX2_readAll 19 = .ok (.aload_n 0, 1) := rfl
theorem dX2_readAll_20 : decode cX2_readAll 20 = .ok (.getfield 22, 3) := rfl
theorem dX2_readAll_23 : decode cX2_readAll 23 = .ok (.bipush 44, 2) := by decide +kernel
theorem dX2_readAll_25 : decode cX2_readAll 25 = .ok (.invokevirtual 81, 3) := rfl
theorem dX2_readAll_28 : decode cX2_readAll 28 = .ok (.ifCond .ne 5, 3) := by decide +kernel
theorem dX2_readAll_31 : decode cX2_readAll 31 = .ok (.iconst 1, 1) := rfl
theorem dX2_readAll_32 : decode cX2_readAll 32 = .ok (.ireturn, 1) := rfl
theorem dX2_readAll_33 : decode cX2_readAll 33 = .ok (.aload_n 0, 1) := rfl
theorem dX2_readAll_34 : decode cX2_readAll 34 = .ok (.getfield 22, 3) := rfl
theorem dX2_readAll_37 : decode cX2_readAll 37 = .ok (.invokevirtual 85, 3) := rfl
theorem dX2_readAll_40 : decode cX2_readAll 40 = .ok (.iinc 2 1, 3) := by decide +kernel
theorem dX2_readAll_43 : decode cX2_readAll 43 = .ok (.goto (-41), 3) := by decide +kernel
theorem dX2_readAll_46 : decode cX2_readAll 46 = .ok (.aload_n 0, 1) := rfl
theorem dX2_readAll_47 : decode cX2_readAll 47 = .ok (.getfield 22, 3) := rfl
theorem dX2_readAll_50 : decode cX2_readAll 50 = .ok (.invokevirtual 59, 3) := rfl
theorem dX2_readAll_53 : decode cX2_readAll 53 = .ok (.ireturn, 1) := rfl
def m_X2_readAll_46 (RA : Int32 → Hp → (Int32 → Hp → Prop) → Prop)  (Q : Int32 → Hp → Prop) (h : Hp) : Prop := m_X10_refuse h (fun (x1 : Int32) (h2 : Hp) => bz x1 ∧ Q x1 h2)
set_option maxHeartbeats 4000000 in
set_option maxRecDepth 100000 in
theorem s_X2_readAll_46 {l : Launch} {G : Cx} {RA : Int32 → Hp → (Int32 → Hp → Prop) → Prop} {d dR : Nat} {h0 : Hp} (hd : dR + 22 ≤ d) (hR : ∀ (d : Nat), dR ≤ d → ∀ {o : Int32} {h : Hp} {Q : Int32 → Hp → Prop}, RA o h Q → Ct l G d 0 0 yX2_readAll MX2_readAll [tR 2 0 (some 4), tI o] h (qI Q)) {Q : Int32 → Hp → Prop} {h : Hp} (hm : m_X2_readAll_46 RA Q h) : Rn l G d 0 0 MX2_readAll h0 (qI Q) 46 [some (tR 2 0 (some 4))] [] h 0 0 := by
  unfold m_X2_readAll_46 at hm
  refine r_aload_n dX2_readAll_46 rfl rfl ?_
  refine r_getC (k := 0) cl_2 dX2_readAll_47 t_85 gf_2_0.1 gf_2_0.2 (gc_2_0 _) ?_
  refine r_callVI (d' := d - 1) (as := []) (st := []) cl_10 dX2_readAll_50 mi_X10_refuse t_596 t_597 t_598 rfl rfl (Nat.le_of_ble_eq_true rfl) (by omega) ⟨by decide, by decide⟩ ⟨rfl, rfl⟩ (s_X10_refuse (by omega) hm) (fun x1 h2 hm => ?_)
  exact r_bret dX2_readAll_53 rfl ⟨by decide, by decide⟩ hm.1 ⟨_, rfl, hm.2⟩
def m_X2_readAll_2 (RA : Int32 → Hp → (Int32 → Hp → Prop) → Prop) : Nat → (Hp → Prop) → (Int32 → Hp → Prop) → Int32 → Int32 → Hp → Prop
  | 0, _, _, _, _, _ => False
  | n + 1, k46, Q, v1, v2, h => (600 ≤ v2 → k46 h) ∧ (¬ 600 ≤ v2 → m_X2_readPart RA v1 h (fun (x3 : Int32) (h4 : Hp) => (¬ x3 = 0 → m_X10_isSign 44 h4 (fun (x5 : Int32) (h6 : Hp) => (¬ x5 = 0 → m_X10_advance h6 (fun (h8 : Hp) => ∀ x9 : Int32, x9 = v2 + 1 → m_X2_readAll_2 RA n k46 Q v1 x9 h8)) ∧ (x5 = 0 → Q 1 h6))) ∧ (x3 = 0 → Q 0 h4)))
set_option maxHeartbeats 4000000 in
set_option maxRecDepth 100000 in
theorem s_X2_readAll_2 {l : Launch} {G : Cx} {RA : Int32 → Hp → (Int32 → Hp → Prop) → Prop} {d dR : Nat} {h0 : Hp} (hd : dR + 22 ≤ d) (hR : ∀ (d : Nat), dR ≤ d → ∀ {o : Int32} {h : Hp} {Q : Int32 → Hp → Prop}, RA o h Q → Ct l G d 0 0 yX2_readAll MX2_readAll [tR 2 0 (some 4), tI o] h (qI Q)) {k46 : Hp → Prop} {Q : Int32 → Hp → Prop} (hk46 : ∀ (hh : Hp), k46 hh → Rn l G d 0 0 MX2_readAll h0 (qI Q) 46 [some (tR 2 0 (some 4))] [] hh 0 0) : ∀ {n : Nat} {v1 : Int32} {v2 : Int32} {h : Hp}, m_X2_readAll_2 RA n k46 Q v1 v2 h → Rn l G d 0 0 MX2_readAll h0 (qI Q) 2 [some (tR 2 0 (some 4)), some (tI v1), some (tI v2)] [] h 0 0 := by
  intro n
  induction n with
  | zero => intro v1 v2 h hm; exact hm.elim
  | succ n ih =>
    intro v1 v2 h hm
    have hk2 := fun (v1 : Int32) (v2 : Int32) (hh : Hp) (hm : m_X2_readAll_2 RA n k46 Q v1 v2 hh) => ih hm
    rw [m_X2_readAll_2] at hm
    refine r_iload_n dX2_readAll_2 rfl rfl ?_
    refine r_sipush (v := 600) dX2_readAll_3 rfl ?_
    refine r_icmp_ge (tgt := 46) dX2_readAll_6 rfl (fun hc => ?_) (fun hc => ?_)
    · replace hm := hm.1 hc
      refine r_keep (L' := [some (tR 2 0 (some 4))]) [true] rfl ?_
      exact hk46 _ hm
    · replace hm := hm.2 hc
      refine r_aload_n dX2_readAll_9 rfl rfl ?_
      refine r_iload_n dX2_readAll_10 rfl rfl ?_
      refine r_callVI (d' := d - 1) (as := [tI v1]) (st := []) cl_2 dX2_readAll_11 mi_X2_readPart t_535 t_537 ts_2 rfl rfl (Nat.le_of_ble_eq_true rfl) (by omega) ⟨by decide, by decide⟩ ⟨rfl, rfl⟩ (s_X2_readPart (by omega) hR hm) (fun x3 h4 hm => ?_)
      refine r_if_ne (tgt := 19) dX2_readAll_14 rfl (fun hc => ?_) (fun hc => ?_)
      · replace hm := hm.1 hc
        refine r_aload_n dX2_readAll_19 rfl rfl ?_
        refine r_getC (k := 0) cl_2 dX2_readAll_20 t_85 gf_2_0.1 gf_2_0.2 (gc_2_0 _) ?_
        refine r_bipush (v := 44) dX2_readAll_23 rfl ?_
        refine r_callVI (d' := d - 1) (as := [tI 44]) (st := []) cl_10 dX2_readAll_25 mi_X10_isSign t_737 t_683 t_684 rfl rfl (Nat.le_of_ble_eq_true rfl) (by omega) ⟨by decide, by decide⟩ ⟨rfl, rfl⟩ (s_X10_isSign (by omega) hm) (fun x5 h6 hm => ?_)
        refine r_if_ne (tgt := 33) dX2_readAll_28 rfl (fun hc => ?_) (fun hc => ?_)
        · replace hm := hm.1 hc
          refine r_aload_n dX2_readAll_33 rfl rfl ?_
          refine r_getC (k := 0) cl_2 dX2_readAll_34 t_85 gf_2_0.1 gf_2_0.2 (gc_2_0 _) ?_
          refine r_callVU (d' := d - 1) (as := []) (st := []) cl_10 dX2_readAll_37 mi_X10_advance t_600 t_516 t_517 rfl rfl (Nat.le_of_ble_eq_true rfl) (by omega) ⟨by decide, by decide⟩ ⟨rfl, rfl⟩ (s_X10_advance (by omega) hm) (fun h8 hm => ?_)
          obtain ⟨x9, e_x9⟩ : ∃ y : Int32, y = v2 + 1 := ⟨_, rfl⟩
          replace hm := hm x9 e_x9
          refine r_iinc (L' := [some (tR 2 0 (some 4)), some (tI v1), some (tI x9)]) dX2_readAll_40 rfl (by rw [e_x9]; rfl) (by decide) rfl ?_
          refine r_goto (tgt := 2) dX2_readAll_43 rfl ?_
          refine r_keep (L' := [some (tR 2 0 (some 4)), some (tI v1), some (tI x9)]) [true, true, true] rfl ?_
          exact hk2 _ _ _ hm
        · replace hm := hm.2 hc
          refine r_iconst (v := 1) dX2_readAll_31 rfl ?_
          exact r_bret dX2_readAll_32 rfl ⟨by decide, by decide⟩ (by unfold bz; decide) ⟨_, rfl, hm⟩
      · replace hm := hm.2 hc
        refine r_iconst (v := 0) dX2_readAll_17 rfl ?_
        exact r_bret dX2_readAll_18 rfl ⟨by decide, by decide⟩ (by unfold bz; decide) ⟨_, rfl, hm⟩
def m_X2_readAll (RA : Int32 → Hp → (Int32 → Hp → Prop) → Prop) (v1 : Int32) (h : Hp) (Q : Int32 → Hp → Prop) : Prop := ∃ n2, m_X2_readAll_2 RA n2 (m_X2_readAll_46 RA Q) Q v1 0 h
set_option maxHeartbeats 4000000 in
set_option maxRecDepth 100000 in
theorem s_X2_readAll {l : Launch} {G : Cx} {RA : Int32 → Hp → (Int32 → Hp → Prop) → Prop} {d dR : Nat} (hd : dR + 22 ≤ d) (hR : ∀ (d : Nat), dR ≤ d → ∀ {o : Int32} {h : Hp} {Q : Int32 → Hp → Prop}, RA o h Q → Ct l G d 0 0 yX2_readAll MX2_readAll [tR 2 0 (some 4), tI o] h (qI Q)) {v1 : Int32} {h : Hp} {Q : Int32 → Hp → Prop} (hm : m_X2_readAll RA v1 h Q) : Ct l G d 0 0 yX2_readAll MX2_readAll [tR 2 0 (some 4), tI v1] h (qI Q) := by
  unfold m_X2_readAll at hm
  refine Ct.of (L := [some (tR 2 0 (some 4)), some (tI v1)]) (by decide) rfl rfl (Nat.le_of_ble_eq_true rfl) rfl ?_
  refine r_iconst (v := 0) dX2_readAll_0 rfl ?_
  refine r_istore_n (L' := [some (tR 2 0 (some 4)), some (tI v1), some (tI 0)]) dX2_readAll_1 rfl (by decide) rfl ?_
  refine r_keep (L' := [some (tR 2 0 (some 4)), some (tI v1), some (tI 0)]) [true, true, true] rfl ?_
  obtain ⟨n, hm⟩ := hm
  refine s_X2_readAll_2 hd hR ?_ hm
  · exact (fun _ hm => s_X2_readAll_46 hd hR hm)
def m_X2_readAllR : Nat → Int32 → Hp → (Int32 → Hp → Prop) → Prop
  | 0, _, _, _ => False
  | n + 1, v1, h, Q => m_X2_readAll (fun v1 h Q => m_X2_readAllR n v1 h Q) v1 h Q
set_option maxHeartbeats 4000000 in
set_option maxRecDepth 100000 in
theorem s_X2_readAllRn {l : Launch} {G : Cx} : ∀ (n d : Nat), 22 * n ≤ d → ∀ {v1 : Int32} {h : Hp} {Q : Int32 → Hp → Prop}, m_X2_readAllR n v1 h Q → Ct l G d 0 0 yX2_readAll MX2_readAll [tR 2 0 (some 4), tI v1] h (qI Q) := by
  intro n
  induction n with
  | zero => intro d hd v1 h Q hm; exact hm.elim
  | succ n ih =>
    intro d hd v1 h Q hm
    exact s_X2_readAll (dR := 22 * n) (by omega) (fun d hd => ih d hd) hm
theorem s_X2_readAllR {l : Launch} {G : Cx} {d : Nat} (hd : 176 ≤ d) {v1 : Int32} {h : Hp} {Q : Int32 → Hp → Prop} (hm : m_X2_readAllR 8 v1 h Q) : Ct l G d 0 0 yX2_readAll MX2_readAll [tR 2 0 (some 4), tI v1] h (qI Q) := s_X2_readAllRn 8 d (by omega) hm
theorem dX10_isAtEnd_0 : decode cX10_isAtEnd 0 = .ok (.aload_n 0, 1) := rfl
theorem dX10_isAtEnd_1 : decode cX10_isAtEnd 1 = .ok (.getfield 40, 3) := rfl
theorem dX10_isAtEnd_4 : decode cX10_isAtEnd 4 = .ok (.ifCond .ne 7, 3) := by decide +kernel
theorem dX10_isAtEnd_7 : decode cX10_isAtEnd 7 = .ok (.iconst 1, 1) := rfl
theorem dX10_isAtEnd_8 : decode cX10_isAtEnd 8 = .ok (.goto 4, 3) := by decide +kernel
theorem dX10_isAtEnd_11 : decode cX10_isAtEnd 11 = .ok (.iconst 0, 1) := rfl
theorem dX10_isAtEnd_12 : decode cX10_isAtEnd 12 = .ok (.ireturn, 1) := rfl
def m_X10_isAtEnd  (h : Hp) (Q : Int32 → Hp → Prop) : Prop := (¬ (hI h 2 4) = 0 → Q 0 h) ∧ ((hI h 2 4) = 0 → Q 1 h)
set_option maxHeartbeats 4000000 in
set_option maxRecDepth 100000 in
theorem s_X10_isAtEnd {l : Launch} {G : Cx} {d : Nat} (hd : 2 ≤ d) {h : Hp} {Q : Int32 → Hp → Prop} (hm : m_X10_isAtEnd h Q) : Ct l G d 0 0 yX10_isAtEnd MX10_isAtEnd [tR 10 0 (some 2)] h (qI Q) := by
  unfold m_X10_isAtEnd at hm
  refine Ct.of (L := [some (tR 10 0 (some 2))]) (by decide) rfl rfl (Nat.le_of_ble_eq_true rfl) rfl ?_
  refine r_aload_n dX10_isAtEnd_0 rfl rfl ?_
  refine r_getI (k := 4) cl_10 dX10_isAtEnd_1 t_43 (Or.inl rfl) gf_10_4 ?_
  refine r_if_ne (tgt := 11) dX10_isAtEnd_4 rfl (fun hc => ?_) (fun hc => ?_)
  · replace hm := hm.1 hc
    refine r_iconst (v := 0) dX10_isAtEnd_11 rfl ?_
    exact r_bret dX10_isAtEnd_12 rfl ⟨by decide, by decide⟩ (by unfold bz; decide) ⟨_, rfl, hm⟩
  · replace hm := hm.2 hc
    refine r_iconst (v := 1) dX10_isAtEnd_7 rfl ?_
    refine r_goto (tgt := 12) dX10_isAtEnd_8 rfl ?_
    exact r_bret dX10_isAtEnd_12 rfl ⟨by decide, by decide⟩ (by unfold bz; decide) ⟨_, rfl, hm⟩
theorem dX8_leavesLeft_0 : decode cX8_leavesLeft 0 = .ok (.iconst 0, 1) := rfl
theorem dX8_leavesLeft_1 : decode cX8_leavesLeft 1 = .ok (.istore_n 1, 1) := rfl
theorem dX8_leavesLeft_2 : decode cX8_leavesLeft 2 = .ok (.iconst 0, 1) := rfl
theorem dX8_leavesLeft_3 : decode cX8_leavesLeft 3 = .ok (.istore_n 2, 1) := rfl
theorem dX8_leavesLeft_4 : decode cX8_leavesLeft 4 = .ok (.iload_n 2, 1) := rfl
theorem dX8_leavesLeft_5 : decode cX8_leavesLeft 5 = .ok (.aload_n 0, 1) := rfl
theorem dX8_leavesLeft_6 : decode cX8_leavesLeft 6 = .ok (.getfield 19, 3) := rfl
theorem dX8_leavesLeft_9 : decode cX8_leavesLeft 9 = .ok (.if_icmp .ge 23, 3) := by decide +kernel
theorem dX8_leavesLeft_12 : decode cX8_leavesLeft 12 = .ok (.aload_n 0, 1) := rfl
theorem dX8_leavesLeft_13 : decode cX8_leavesLeft 13 = .ok (.getfield 11, 3) := rfl
theorem dX8_leavesLeft_16 : decode cX8_leavesLeft 16 = .ok (.iload_n 2, 1) := rfl
theorem dX8_leavesLeft_17 : decode cX8_leavesLeft 17 = .ok (.iaload, 1) := rfl
theorem dX8_leavesLeft_18 : decode cX8_leavesLeft 18 = .ok (.bipush (-2), 2) := by decide +kernel
theorem dX8_leavesLeft_20 : decode cX8_leavesLeft 20 = .ok (.if_icmp .ne 6, 3) := by decide +kernel
theorem dX8_leavesLeft_23 : decode cX8_leavesLeft 23 = .ok (.iinc 1 1, 3) := by decide +kernel
theorem dX8_leavesLeft_26 : decode cX8_leavesLeft 26 = .ok (.iinc 2 1, 3) := by decide +kernel
theorem dX8_leavesLeft_29 : decode cX8_leavesLeft 29 = .ok (.goto (-25), 3) := by decide +kernel
theorem dX8_leavesLeft_32 : decode cX8_leavesLeft 32 = .ok (.iload_n 1, 1) := rfl
theorem dX8_leavesLeft_33 : decode cX8_leavesLeft 33 = .ok (.ireturn, 1) := rfl
def m_X8_leavesLeft_26 (k4 : Int32 → Int32 → Hp → Prop) (Q : Int32 → Hp → Prop) (v1 : Int32) (v2 : Int32) (h : Hp) : Prop := ∀ x1 : Int32, x1 = v2 + 1 → k4 v1 x1 h
set_option maxHeartbeats 4000000 in
set_option maxRecDepth 100000 in
theorem s_X8_leavesLeft_26 {l : Launch} {G : Cx} {d : Nat} {h0 : Hp} (hd : 2 ≤ d) {k4 : Int32 → Int32 → Hp → Prop} {Q : Int32 → Hp → Prop} (hk4 : ∀ (v1 : Int32) (v2 : Int32) (hh : Hp), k4 v1 v2 hh → Rn l G d 0 0 MX8_leavesLeft h0 (qI Q) 4 [some (tR 8 0 (some 5)), some (tI v1), some (tI v2)] [] hh 0 0) {v1 : Int32} {v2 : Int32} {h : Hp} (hm : m_X8_leavesLeft_26 k4 Q v1 v2 h) : Rn l G d 0 0 MX8_leavesLeft h0 (qI Q) 26 [some (tR 8 0 (some 5)), some (tI v1), some (tI v2)] [] h 0 0 := by
  unfold m_X8_leavesLeft_26 at hm
  obtain ⟨x1, e_x1⟩ : ∃ y : Int32, y = v2 + 1 := ⟨_, rfl⟩
  replace hm := hm x1 e_x1
  refine r_iinc (L' := [some (tR 8 0 (some 5)), some (tI v1), some (tI x1)]) dX8_leavesLeft_26 rfl (by rw [e_x1]; rfl) (by decide) rfl ?_
  refine r_goto (tgt := 4) dX8_leavesLeft_29 rfl ?_
  refine r_keep (L' := [some (tR 8 0 (some 5)), some (tI v1), some (tI x1)]) [true, true, true] rfl ?_
  exact hk4 _ _ _ hm
def m_X8_leavesLeft_4 : Nat → (Int32 → Hp → Prop) → Int32 → Int32 → Hp → Prop
  | 0, _, _, _, _ => False
  | n + 1, Q, v1, v2, h => ((hI h 5 2) ≤ v2 → Q v1 h) ∧ (¬ (hI h 5 2) ≤ v2 → vp_in v2 512 ∧ ((¬ (hI h 6 (ix v2)) = (-2) → m_X8_leavesLeft_26 (fun (v1 : Int32) (v2 : Int32) (hh : Hp) => m_X8_leavesLeft_4 n Q v1 v2 hh) Q v1 v2 h) ∧ ((hI h 6 (ix v2)) = (-2) → ∀ x2 : Int32, x2 = v1 + 1 → m_X8_leavesLeft_26 (fun (v1 : Int32) (v2 : Int32) (hh : Hp) => m_X8_leavesLeft_4 n Q v1 v2 hh) Q x2 v2 h)))
set_option maxHeartbeats 4000000 in
set_option maxRecDepth 100000 in
theorem s_X8_leavesLeft_4 {l : Launch} {G : Cx} {d : Nat} {h0 : Hp} (hd : 2 ≤ d) {Q : Int32 → Hp → Prop} : ∀ {n : Nat} {v1 : Int32} {v2 : Int32} {h : Hp}, m_X8_leavesLeft_4 n Q v1 v2 h → Rn l G d 0 0 MX8_leavesLeft h0 (qI Q) 4 [some (tR 8 0 (some 5)), some (tI v1), some (tI v2)] [] h 0 0 := by
  intro n
  induction n with
  | zero => intro v1 v2 h hm; exact hm.elim
  | succ n ih =>
    intro v1 v2 h hm
    have hk4 := fun (v1 : Int32) (v2 : Int32) (hh : Hp) (hm : m_X8_leavesLeft_4 n Q v1 v2 hh) => ih hm
    rw [m_X8_leavesLeft_4] at hm
    refine r_iload_n dX8_leavesLeft_4 rfl rfl ?_
    refine r_aload_n dX8_leavesLeft_5 rfl rfl ?_
    refine r_getI (k := 2) cl_8 dX8_leavesLeft_6 t_77 (Or.inl rfl) gf_8_2 ?_
    refine r_icmp_ge (tgt := 32) dX8_leavesLeft_9 rfl (fun hc => ?_) (fun hc => ?_)
    · replace hm := hm.1 hc
      refine r_iload_n dX8_leavesLeft_32 rfl rfl ?_
      exact r_ireturn dX8_leavesLeft_33 rfl ⟨by decide, by decide⟩ ⟨_, rfl, hm⟩
    · replace hm := hm.2 hc
      refine r_aload_n dX8_leavesLeft_12 rfl rfl ?_
      refine r_getC (k := 1) cl_8 dX8_leavesLeft_13 t_76 gf_8_1.1 gf_8_1.2 (gc_8_1 _) ?_
      refine r_iload_n dX8_leavesLeft_16 rfl rfl ?_
      refine r_iald dX8_leavesLeft_17 hm.1 ?_
      replace hm := hm.2
      refine r_bipush (v := (-2)) dX8_leavesLeft_18 rfl ?_
      refine r_icmp_ne (tgt := 26) dX8_leavesLeft_20 rfl (fun hc => ?_) (fun hc => ?_)
      · replace hm := hm.1 hc
        refine r_keep (L' := [some (tR 8 0 (some 5)), some (tI v1), some (tI v2)]) [true, true, true] rfl ?_
        exact s_X8_leavesLeft_26 hd hk4 hm
      · replace hm := hm.2 hc
        obtain ⟨x2, e_x2⟩ : ∃ y : Int32, y = v1 + 1 := ⟨_, rfl⟩
        replace hm := hm x2 e_x2
        refine r_iinc (L' := [some (tR 8 0 (some 5)), some (tI x2), some (tI v2)]) dX8_leavesLeft_23 rfl (by rw [e_x2]; rfl) (by decide) rfl ?_
        refine r_keep (L' := [some (tR 8 0 (some 5)), some (tI x2), some (tI v2)]) [true, true, true] rfl ?_
        exact s_X8_leavesLeft_26 hd hk4 hm
def m_X8_leavesLeft  (h : Hp) (Q : Int32 → Hp → Prop) : Prop := ∃ n4, m_X8_leavesLeft_4 n4 Q 0 0 h
set_option maxHeartbeats 4000000 in
set_option maxRecDepth 100000 in
theorem s_X8_leavesLeft {l : Launch} {G : Cx} {d : Nat} (hd : 2 ≤ d) {h : Hp} {Q : Int32 → Hp → Prop} (hm : m_X8_leavesLeft h Q) : Ct l G d 0 0 yX8_leavesLeft MX8_leavesLeft [tR 8 0 (some 5)] h (qI Q) := by
  unfold m_X8_leavesLeft at hm
  refine Ct.of (L := [some (tR 8 0 (some 5))]) (by decide) rfl rfl (Nat.le_of_ble_eq_true rfl) rfl ?_
  refine r_iconst (v := 0) dX8_leavesLeft_0 rfl ?_
  refine r_istore_n (L' := [some (tR 8 0 (some 5)), some (tI 0)]) dX8_leavesLeft_1 rfl (by decide) rfl ?_
  refine r_iconst (v := 0) dX8_leavesLeft_2 rfl ?_
  refine r_istore_n (L' := [some (tR 8 0 (some 5)), some (tI 0), some (tI 0)]) dX8_leavesLeft_3 rfl (by decide) rfl ?_
  refine r_keep (L' := [some (tR 8 0 (some 5)), some (tI 0), some (tI 0)]) [true, true, true] rfl ?_
  obtain ⟨n, hm⟩ := hm
  refine s_X8_leavesLeft_4 hd hm
theorem dX2_readDeal_0 : decode cX2_readDeal 0 = .ok (.aload_n 0, 1) := by decide +kernel
theorem dX2_readDeal_1 : decode cX2_readDeal 1 = .ok (.aload_n 1, 1) := by decide +kernel
theorem dX2_readDeal_2 : decode cX2_readDeal 2 = .ok (.putfield 26, 3) := by decide +kernel
theorem dX2_readDeal_5 : decode cX2_readDeal 5 = .ok (.aload_n 0, 1) := by decide +kernel
theorem dX2_readDeal_6 : decode cX2_readDeal 6 = .ok (.getfield 26, 3) := by decide +kernel
theorem dX2_readDeal_9 : decode cX2_readDeal 9 = .ok (.invokevirtual 30, 3) := by decide +kernel
theorem dX2_readDeal_12 : decode cX2_readDeal 12 = .ok (.aload_n 0, 1) := by decide +kernel
theorem dX2_readDeal_13 : decode cX2_readDeal 13 = .ok (.getfield 12, 3) := by decide +kernel
theorem dX2_readDeal_16 : decode cX2_readDeal 16 = .ok (.invokevirtual 35, 3) := by decide +kernel
theorem dX2_readDeal_19 : decode cX2_readDeal 19 = .ok (.aload_n 0, 1) := by decide +kernel
theorem dX2_readDeal_20 : decode cX2_readDeal 20 = .ok (.iconst 0, 1) := by decide +kernel
theorem dX2_readDeal_21 : decode cX2_readDeal 21 = .ok (.putfield 36, 3) := by decide +kernel
theorem dX2_readDeal_24 : decode cX2_readDeal 24 = .ok (.aload_n 0, 1) := by decide +kernel
theorem dX2_readDeal_25 : decode cX2_readDeal 25 = .ok (.iconst 1, 1) := by decide +kernel
theorem dX2_readDeal_26 : decode cX2_readDeal 26 = .ok (.putfield 40, 3) := by decide +kernel
theorem dX2_readDeal_29 : decode cX2_readDeal 29 = .ok (.aload_n 0, 1) := by decide +kernel
theorem dX2_readDeal_30 : decode cX2_readDeal 30 = .ok (.iconst 0, 1) := by decide +kernel
theorem dX2_readDeal_31 : decode cX2_readDeal 31 = .ok (.putfield 43, 3) := by decide +kernel
theorem dX2_readDeal_34 : decode cX2_readDeal 34 = .ok (.aload_n 0, 1) := by decide +kernel
theorem dX2_readDeal_35 : decode cX2_readDeal 35 = .ok (.iconst 0, 1) := by decide +kernel
theorem dX2_readDeal_36 : decode cX2_readDeal 36 = .ok (.putfield 46, 3) := by decide +kernel
theorem dX2_readDeal_39 : decode cX2_readDeal 39 = .ok (.aload_n 0, 1) := by decide +kernel
theorem dX2_readDeal_40 : decode cX2_readDeal 40 = .ok (.iconst 0, 1) := by decide +kernel
theorem dX2_readDeal_41 : decode cX2_readDeal 41 = .ok (.invokevirtual 49, 3) := by decide +kernel
theorem dX2_readDeal_44 : decode cX2_readDeal 44 = .ok (.ifCond .ne 5, 3) := by decide +kernel
theorem dX2_readDeal_47 : decode cX2_readDeal 47 = .ok (.iconst 0, 1) := by decide +kernel
theorem dX2_readDeal_48 : decode cX2_readDeal 48 = .ok (.ireturn, 1) := by decide +kernel
theorem dX2_readDeal_49 : decode cX2_readDeal 49 = .ok (.aload_n 0, 1) := by decide +kernel
theorem dX2_readDeal_50 : decode cX2_readDeal 50 = .ok (.getfield 22, 3) := by decide +kernel
theorem dX2_readDeal_53 : decode cX2_readDeal 53 = .ok (.invokevirtual 53, 3) := by decide +kernel
theorem dX2_readDeal_56 : decode cX2_readDeal 56 = .ok (.ifCond .ne 11, 3) := by decide +kernel
theorem dX2_readDeal_59 : decode cX2_readDeal 59 = .ok (.aload_n 0, 1) := by decide +kernel
theorem dX2_readDeal_60 : decode cX2_readDeal 60 = .ok (.getfield 22, 3) := by decide +kernel
theorem dX2_readDeal_63 : decode cX2_readDeal 63 = .ok (.invokevirtual 59, 3) := by decide +kernel
theorem dX2_readDeal_66 : decode cX2_readDeal 66 = .ok (.ireturn, 1) := by decide +kernel
theorem dX2_readDeal_67 : decode cX2_readDeal 67 = .ok (.aload_n 0, 1) := by decide +kernel
theorem dX2_readDeal_68 : decode cX2_readDeal 68 = .ok (.getfield 26, 3) := by decide +kernel
theorem dX2_readDeal_71 : decode cX2_readDeal 71 = .ok (.invokevirtual 62, 3) := by decide +kernel
theorem dX2_readDeal_74 : decode cX2_readDeal 74 = .ok (.aload_n 0, 1) := by decide +kernel
theorem dX2_readDeal_75 : decode cX2_readDeal 75 = .ok (.getfield 26, 3) := by decide +kernel
theorem dX2_readDeal_78 : decode cX2_readDeal 78 = .ok (.aload_n 0, 1) := by decide +kernel
theorem dX2_readDeal_79 : decode cX2_readDeal 79 = .ok (.getfield 12, 3) := by decide +kernel
theorem dX2_readDeal_82 : decode cX2_readDeal 82 = .ok (.getfield 65, 3) := by decide +kernel
theorem dX2_readDeal_85 : decode cX2_readDeal 85 = .ok (.putfield 68, 3) := by decide +kernel
theorem dX2_readDeal_88 : decode cX2_readDeal 88 = .ok (.aload_n 0, 1) := by decide +kernel
theorem dX2_readDeal_89 : decode cX2_readDeal 89 = .ok (.getfield 26, 3) := by decide +kernel
theorem dX2_readDeal_92 : decode cX2_readDeal 92 = .ok (.aload_n 0, 1) := by decide +kernel
theorem dX2_readDeal_93 : decode cX2_readDeal 93 = .ok (.getfield 12, 3) := by decide +kernel
theorem dX2_readDeal_96 : decode cX2_readDeal 96 = .ok (.invokevirtual 71, 3) := by decide +kernel
theorem dX2_readDeal_99 : decode cX2_readDeal 99 = .ok (.putfield 75, 3) := by decide +kernel
theorem dX2_readDeal_102 : decode cX2_readDeal 102 = .ok (.iconst 1, 1) := by decide +kernel
theorem dX2_readDeal_103 : decode cX2_readDeal 103 = .ok (.ireturn, 1) := by decide +kernel
def m_X2_readDeal (v1 : Nat) (h : Hp) (Q : Int32 → Hp → Prop) : Prop := ∃ b1 : Nat, hR (wR h 4 3 (some v1)) 4 3 = some b1 ∧ (m_X1_empty b1 (wR h 4 3 (some v1)) (fun (h3 : Hp) => m_X8_empty h3 (fun (h5 : Hp) => m_X2_readAllR 8 0 (wI (wI (wI (wI h5 4 4 0) 4 5 1) 4 6 0) 4 7 0) (fun (x6 : Int32) (h7 : Hp) => (¬ x6 = 0 → m_X10_isAtEnd h7 (fun (x8 : Int32) (h9 : Hp) => (¬ x8 = 0 → ∃ b10 : Nat, hR h9 4 3 = some b10 ∧ (m_X1_sortByDay b10 h9 (fun (h12 : Hp) => ∃ b13 : Nat, hR h12 4 3 = some b13 ∧ (∃ b14 : Nat, hR (wI h12 b13 7 (hI h12 5 0)) 4 3 = some b14 ∧ (m_X8_leavesLeft (wI h12 b13 7 (hI h12 5 0)) (fun (x15 : Int32) (h16 : Hp) => Q 1 (wI h16 b14 8 x15))))))) ∧ (x8 = 0 → m_X10_refuse h9 (fun (x17 : Int32) (h18 : Hp) => bz x17 ∧ Q x17 h18)))) ∧ (x6 = 0 → Q 0 h7)))))
set_option maxHeartbeats 4000000 in
set_option maxRecDepth 100000 in
theorem s_X2_readDeal {l : Launch} {G : Cx} {d : Nat} (hd : 178 ≤ d) {v1 : Nat} {h : Hp} {Q : Int32 → Hp → Prop} (hm : m_X2_readDeal v1 h Q) : Ct l G d 0 0 yX2_readDeal MX2_readDeal [tR 2 0 (some 4), tR 1 0 (some v1)] h (qI Q) := by
  unfold m_X2_readDeal at hm
  refine Ct.of (L := [some (tR 2 0 (some 4)), some (tR 1 0 (some v1))]) (by decide) rfl rfl (Nat.le_of_ble_eq_true rfl) rfl ?_
  refine r_aload_n dX2_readDeal_0 rfl rfl ?_
  refine r_aload_n dX2_readDeal_1 rfl rfl ?_
  refine r_putR0 (k := 3) cl_2 dX2_readDeal_2 t_88 (Or.inl rfl) gf_2_3.1 gf_2_3.2 (fun _ => gc_2_3 _) pf_2_3.1 (Or.inl pf_2_3.2) ?_
  refine r_aload_n dX2_readDeal_5 rfl rfl ?_
  obtain ⟨b1, hb_b1, hm⟩ := hm
  refine r_getRS (k := 3) cl_2 dX2_readDeal_6 t_88 (Or.inl rfl) gf_2_3.1 gf_2_3.2 (by decide) hb_b1 ?_
  refine r_callVU (d' := d - 1) (as := []) (st := []) cl_1 dX2_readDeal_9 mi_X1_empty t_523 t_524 t_525 rfl rfl (Nat.le_of_ble_eq_true rfl) (by omega) ⟨by decide, by decide⟩ ⟨rfl, rfl⟩ (s_X1_empty (by omega) hm) (fun h3 hm => ?_)
  refine r_aload_n dX2_readDeal_12 rfl rfl ?_
  refine r_getC (k := 1) cl_2 dX2_readDeal_13 t_86 gf_2_1.1 gf_2_1.2 (gc_2_1 _) ?_
  refine r_callVU (d' := d - 1) (as := []) (st := []) cl_8 dX2_readDeal_16 mi_X8_empty t_527 t_528 t_529 rfl rfl (Nat.le_of_ble_eq_true rfl) (by omega) ⟨by decide, by decide⟩ ⟨rfl, rfl⟩ (s_X8_empty (by omega) hm) (fun h5 hm => ?_)
  refine r_aload_n dX2_readDeal_19 rfl rfl ?_
  refine r_iconst (v := 0) dX2_readDeal_20 rfl ?_
  refine r_putI0 (k := 4) cl_2 dX2_readDeal_21 t_89 (Or.inl rfl) gf_2_4 pf_2_4.1 (Or.inl pf_2_4.2) ?_
  refine r_aload_n dX2_readDeal_24 rfl rfl ?_
  refine r_iconst (v := 1) dX2_readDeal_25 rfl ?_
  refine r_putI0 (k := 5) cl_2 dX2_readDeal_26 t_90 (Or.inl rfl) gf_2_5 pf_2_5.1 (Or.inl pf_2_5.2) ?_
  refine r_aload_n dX2_readDeal_29 rfl rfl ?_
  refine r_iconst (v := 0) dX2_readDeal_30 rfl ?_
  refine r_putI0 (k := 6) cl_2 dX2_readDeal_31 t_91 (Or.inl rfl) gf_2_6 pf_2_6.1 (Or.inl pf_2_6.2) ?_
  refine r_aload_n dX2_readDeal_34 rfl rfl ?_
  refine r_iconst (v := 0) dX2_readDeal_35 rfl ?_
  refine r_putI0 (k := 7) cl_2 dX2_readDeal_36 t_92 (Or.inl rfl) gf_2_7 pf_2_7.1 (Or.inl pf_2_7.2) ?_
  refine r_aload_n dX2_readDeal_39 rfl rfl ?_
  refine r_iconst (v := 0) dX2_readDeal_40 rfl ?_
  refine r_callVI (d' := d - 1) (as := [tI 0]) (st := []) cl_2 dX2_readDeal_41 mi_X2_readAll t_531 t_533 ts_1 rfl rfl (Nat.le_of_ble_eq_true rfl) (by omega) ⟨by decide, by decide⟩ ⟨rfl, rfl⟩ (s_X2_readAllR (by omega) hm) (fun x6 h7 hm => ?_)
  refine r_if_ne (tgt := 49) dX2_readDeal_44 rfl (fun hc => ?_) (fun hc => ?_)
  · replace hm := hm.1 hc
    refine r_aload_n dX2_readDeal_49 rfl rfl ?_
    refine r_getC (k := 0) cl_2 dX2_readDeal_50 t_85 gf_2_0.1 gf_2_0.2 (gc_2_0 _) ?_
    refine r_callVI (d' := d - 1) (as := []) (st := []) cl_10 dX2_readDeal_53 mi_X10_isAtEnd t_738 t_739 t_740 rfl rfl (Nat.le_of_ble_eq_true rfl) (by omega) ⟨by decide, by decide⟩ ⟨rfl, rfl⟩ (s_X10_isAtEnd (by omega) hm) (fun x8 h9 hm => ?_)
    refine r_if_ne (tgt := 67) dX2_readDeal_56 rfl (fun hc => ?_) (fun hc => ?_)
    · replace hm := hm.1 hc
      refine r_aload_n dX2_readDeal_67 rfl rfl ?_
      obtain ⟨b10, hb_b10, hm⟩ := hm
      refine r_getRS (k := 3) cl_2 dX2_readDeal_68 t_88 (Or.inl rfl) gf_2_3.1 gf_2_3.2 (by decide) hb_b10 ?_
      refine r_callVU (d' := d - 1) (as := []) (st := []) cl_1 dX2_readDeal_71 mi_X1_sortByDay t_742 t_743 t_744 rfl rfl (Nat.le_of_ble_eq_true rfl) (by omega) ⟨by decide, by decide⟩ ⟨rfl, rfl⟩ (s_X1_sortByDay (by omega) hm) (fun h12 hm => ?_)
      refine r_aload_n dX2_readDeal_74 rfl rfl ?_
      obtain ⟨b13, hb_b13, hm⟩ := hm
      refine r_getRS (k := 3) cl_2 dX2_readDeal_75 t_88 (Or.inl rfl) gf_2_3.1 gf_2_3.2 (by decide) hb_b13 ?_
      refine r_aload_n dX2_readDeal_78 rfl rfl ?_
      refine r_getC (k := 1) cl_2 dX2_readDeal_79 t_86 gf_2_1.1 gf_2_1.2 (gc_2_1 _) ?_
      refine r_getI (k := 0) cl_8 dX2_readDeal_82 t_75 (Or.inl rfl) gf_8_0 ?_
      refine r_putI0 (k := 7) cl_1 dX2_readDeal_85 t_464 (Or.inl rfl) gf_1_7 pf_1_7.1 (Or.inl pf_1_7.2) ?_
      refine r_aload_n dX2_readDeal_88 rfl rfl ?_
      obtain ⟨b14, hb_b14, hm⟩ := hm
      refine r_getRS (k := 3) cl_2 dX2_readDeal_89 t_88 (Or.inl rfl) gf_2_3.1 gf_2_3.2 (by decide) hb_b14 ?_
      refine r_aload_n dX2_readDeal_92 rfl rfl ?_
      refine r_getC (k := 1) cl_2 dX2_readDeal_93 t_86 gf_2_1.1 gf_2_1.2 (gc_2_1 _) ?_
      refine r_callVI (d' := d - 1) (as := []) (st := [tR 1 0 (some b14)]) cl_8 dX2_readDeal_96 mi_X8_leavesLeft t_750 t_751 t_752 rfl rfl (Nat.le_of_ble_eq_true rfl) (by omega) ⟨by decide, by decide⟩ ⟨rfl, rfl⟩ (s_X8_leavesLeft (by omega) hm) (fun x15 h16 hm => ?_)
      refine r_putI0 (k := 8) cl_1 dX2_readDeal_99 t_466 (Or.inl rfl) gf_1_8 pf_1_8.1 (Or.inl pf_1_8.2) ?_
      refine r_iconst (v := 1) dX2_readDeal_102 rfl ?_
      exact r_bret dX2_readDeal_103 rfl ⟨by decide, by decide⟩ (by unfold bz; decide) ⟨_, rfl, hm⟩
    · replace hm := hm.2 hc
      refine r_aload_n dX2_readDeal_59 rfl rfl ?_
      refine r_getC (k := 0) cl_2 dX2_readDeal_60 t_85 gf_2_0.1 gf_2_0.2 (gc_2_0 _) ?_
      refine r_callVI (d' := d - 1) (as := []) (st := []) cl_10 dX2_readDeal_63 mi_X10_refuse t_596 t_597 t_598 rfl rfl (Nat.le_of_ble_eq_true rfl) (by omega) ⟨by decide, by decide⟩ ⟨rfl, rfl⟩ (s_X10_refuse (by omega) hm) (fun x17 h18 hm => ?_)
      exact r_bret dX2_readDeal_66 rfl ⟨by decide, by decide⟩ hm.1 ⟨_, rfl, hm.2⟩
  · replace hm := hm.2 hc
    refine r_iconst (v := 0) dX2_readDeal_47 rfl ?_
    exact r_bret dX2_readDeal_48 rfl ⟨by decide, by decide⟩ (by unfold bz; decide) ⟨_, rfl, hm⟩
