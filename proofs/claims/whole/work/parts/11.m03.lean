theorem dJ7_fill_53178_0 : decode cJ7_fill_53178 0 = .ok (.iconst 0, 1) := rfl
theorem dJ7_fill_53178_1 : decode cJ7_fill_53178 1 = .ok (.istore_n 2, 1) := rfl
theorem dJ7_fill_53178_2 : decode cJ7_fill_53178 2 = .ok (.aload_n 0, 1) := rfl
theorem dJ7_fill_53178_3 : decode cJ7_fill_53178 3 = .ok (.arraylength, 1) := rfl
theorem dJ7_fill_53178_4 : decode cJ7_fill_53178 4 = .ok (.istore_n 3, 1) := rfl
theorem dJ7_fill_53178_5 : decode cJ7_fill_53178 5 = .ok (.iload_n 2, 1) := rfl
theorem dJ7_fill_53178_6 : decode cJ7_fill_53178 6 = .ok (.iload_n 3, 1) := rfl
theorem dJ7_fill_53178_7 : decode cJ7_fill_53178 7 = .ok (.if_icmp .ge 13, 3) := by decide +kernel
theorem dJ7_fill_53178_10 : decode cJ7_fill_53178 10 = .ok (.aload_n 0, 1) := rfl
theorem dJ7_fill_53178_11 : decode cJ7_fill_53178 11 = .ok (.iload_n 2, 1) := rfl
theorem dJ7_fill_53178_12 : decode cJ7_fill_53178 12 = .ok (.iload_n 1, 1) := rfl
theorem dJ7_fill_53178_13 : decode cJ7_fill_53178 13 = .ok (.iastore, 1) := rfl
theorem dJ7_fill_53178_14 : decode cJ7_fill_53178 14 = .ok (.iinc 2 1, 3) := by decide +kernel
theorem dJ7_fill_53178_17 : decode cJ7_fill_53178 17 = .ok (.goto (-12), 3) := by decide +kernel
theorem dJ7_fill_53178_20 : decode cJ7_fill_53178 20 = .ok (.return_, 1) := rfl
def m_J7_fill_53178_5 : Nat → (Hp → Prop) → Nat → Nat → Int32 → Int32 → Int32 → Hp → Prop
  | 0, _, _, _, _, _, _, _ => False
  | n + 1, Q, v0n, v0, v1, v2, v3, h => (v3 ≤ v2 → Q h) ∧ (¬ v3 ≤ v2 → vp_in v2 v0n ∧ (∀ x1 : Int32, x1 = v2 + 1 → m_J7_fill_53178_5 n Q v0n v0 v1 x1 v3 (wI h v0 (ix v2) v1)))
set_option maxHeartbeats 4000000 in
set_option maxRecDepth 100000 in
theorem s_J7_fill_53178_5 {l : Launch} {G : Cx} {d : Nat} {h0 : Hp} (hd : 2 ≤ d) {Q : Hp → Prop} : ∀ {n : Nat} {v0n : Nat} {v0 : Nat} {v1 : Int32} {v2 : Int32} {v3 : Int32} {h : Hp}, m_J7_fill_53178_5 n Q v0n v0 v1 v2 v3 h → Rn l G d 0 0 MJ7_fill_53178 h0 (qV Q) 5 [some (tR 40 v0n (some v0)), some (tI v1), some (tI v2), some (tI v3)] [] h 0 0 := by
  intro n
  induction n with
  | zero => intro v0n v0 v1 v2 v3 h hm; exact hm.elim
  | succ n ih =>
    intro v0n v0 v1 v2 v3 h hm
    have hk5 := fun (v0n : Nat) (v0 : Nat) (v1 : Int32) (v2 : Int32) (v3 : Int32) (hh : Hp) (hm : m_J7_fill_53178_5 n Q v0n v0 v1 v2 v3 hh) => ih hm
    rw [m_J7_fill_53178_5] at hm
    refine r_iload_n dJ7_fill_53178_5 rfl rfl ?_
    refine r_iload_n dJ7_fill_53178_6 rfl rfl ?_
    refine r_icmp_ge (tgt := 20) dJ7_fill_53178_7 rfl (fun hc => ?_) (fun hc => ?_)
    · replace hm := hm.1 hc
      exact r_return dJ7_fill_53178_20 rfl ⟨by decide, by decide⟩ ⟨rfl, hm⟩
    · replace hm := hm.2 hc
      refine r_aload_n dJ7_fill_53178_10 rfl rfl ?_
      refine r_iload_n dJ7_fill_53178_11 rfl rfl ?_
      refine r_iload_n dJ7_fill_53178_12 rfl rfl ?_
      refine r_iast dJ7_fill_53178_13 hm.1 ?_
      replace hm := hm.2
      obtain ⟨x1, e_x1⟩ : ∃ y : Int32, y = v2 + 1 := ⟨_, rfl⟩
      replace hm := hm x1 e_x1
      refine r_iinc (L' := [some (tR 40 v0n (some v0)), some (tI v1), some (tI x1), some (tI v3)]) dJ7_fill_53178_14 rfl (by rw [e_x1]; rfl) (by decide) rfl ?_
      refine r_goto (tgt := 5) dJ7_fill_53178_17 rfl ?_
      refine r_keep (L' := [some (tR 40 v0n (some v0)), some (tI v1), some (tI x1), some (tI v3)]) [true, true, true, true] rfl ?_
      exact hk5 _ _ _ _ _ _ hm
def m_J7_fill_53178 (v0 : Nat) (v0n : Nat) (v1 : Int32) (h : Hp) (Q : Hp → Prop) : Prop := ∀ x2 : Int32, x2 = (Int32.ofNat v0n) → ∃ n5, m_J7_fill_53178_5 n5 Q v0n v0 v1 0 x2 h
set_option maxHeartbeats 4000000 in
set_option maxRecDepth 100000 in
theorem s_J7_fill_53178 {l : Launch} {G : Cx} {d : Nat} (hd : 2 ≤ d) {v0 : Nat} {v0n : Nat} {v1 : Int32} {h : Hp} {Q : Hp → Prop} (hm : m_J7_fill_53178 v0 v0n v1 h Q) : Ct l G d 0 0 yJ7_fill_53178 MJ7_fill_53178 [tR 40 v0n (some v0), tI v1] h (qV Q) := by
  unfold m_J7_fill_53178 at hm
  refine Ct.of (L := [some (tR 40 v0n (some v0)), some (tI v1)]) (by decide) rfl rfl (Nat.le_of_ble_eq_true rfl) rfl ?_
  refine r_iconst (v := 0) dJ7_fill_53178_0 rfl ?_
  refine r_istore_n (L' := [some (tR 40 v0n (some v0)), some (tI v1), some (tI 0)]) dJ7_fill_53178_1 rfl (by decide) rfl ?_
  refine r_aload_n dJ7_fill_53178_2 rfl rfl ?_
  refine r_alen (ti := 0) (ty := .int) dJ7_fill_53178_3 rfl (by decide) rfl ?_
  refine r_nmI (fun x2 e_x2 => ?_)
  replace hm := hm x2 e_x2
  refine r_istore_n (L' := [some (tR 40 v0n (some v0)), some (tI v1), some (tI 0), some (tI x2)]) dJ7_fill_53178_4 rfl (by decide) rfl ?_
  refine r_keep (L' := [some (tR 40 v0n (some v0)), some (tI v1), some (tI 0), some (tI x2)]) [true, true, true, true] rfl ?_
  obtain ⟨n, hm⟩ := hm
  refine s_J7_fill_53178_5 hd hm
theorem dX5_earliestHead_0 : decode cX5_earliestHead 0 = .ok (.iconst (-1), 1) := rfl
theorem dX5_earliestHead_1 : decode cX5_earliestHead 1 = .ok (.istore_n 2, 1) := rfl
theorem dX5_earliestHead_2 : decode cX5_earliestHead 2 = .ok (.iconst 0, 1) := rfl
theorem dX5_earliestHead_3 : decode cX5_earliestHead 3 = .ok (.istore_n 3, 1) := rfl
theorem dX5_earliestHead_4 : decode cX5_earliestHead 4 = .ok (.iconst 0, 1) := rfl
theorem dX5_earliestHead_5 : decode cX5_earliestHead 5 = .ok (.istore 4, 2) := rfl
theorem dX5_earliestHead_7 : decode cX5_earliestHead 7 = .ok (.iload 4, 2) := rfl
theorem dX5_earliestHead_9 : decode cX5_earliestHead 9 = .ok (.aload_n 1, 1) := rfl
theorem dX5_earliestHead_10 : decode cX5_earliestHead 10 = .ok (.getfield 49, 3) := rfl
theorem dX5_earliestHead_13 : decode cX5_earliestHead 13 = .ok (.if_icmp .ge 70, 3) := by decide +kernel
theorem dX5_earliestHead_16 : decode cX5_earliestHead 16 = .ok (.aload_n 1, 1) := rfl
theorem dX5_earliestHead_17 : decode cX5_earliestHead 17 = .ok (.getfield 55, 3) := rfl
theorem dX5_earliestHead_20 : decode cX5_earliestHead 20 = .ok (.iload 4, 2) := rfl
theorem dX5_earliestHead_22 : decode cX5_earliestHead 22 = .ok (.aaload, 1) := rfl
theorem dX5_earliestHead_23 : decode cX5_earliestHead 23 = .ok (.astore 5, 2) := rfl
theorem dX5_earliestHead_25 : decode cX5_earliestHead 25 = .ok (.aload_n 0, 1) := rfl
theorem dX5_earliestHead_26 : decode cX5_earliestHead 26 = .ok (.getfield 22, 3) := rfl
theorem dX5_earliestHead_29 : decode cX5_earliestHead 29 = .ok (.iload 4, 2) := rfl
theorem dX5_earliestHead_31 : decode cX5_earliestHead 31 = .ok (.iaload, 1) := rfl
theorem dX5_earliestHead_32 : decode cX5_earliestHead 32 = .ok (.aload 5, 2) := rfl
theorem dX5_earliestHead_34 : decode cX5_earliestHead 34 = .ok (.getfield 63, 3) := rfl
theorem dX5_earliestHead_37 : decode cX5_earliestHead 37 = .ok (.if_icmp .ge 40, 3) := by decide +kernel
theorem dX5_earliestHead_40 : decode cX5_earliestHead 40 = .ok (.aload 5, 2) := rfl
theorem dX5_earliestHead_42 : decode cX5_earliestHead 42 = .ok (.aload 5, 2) := rfl
theorem dX5_earliestHead_44 : decode cX5_earliestHead 44 = .ok (.getfield 136, 3) := rfl
theorem dX5_earliestHead_47 : decode cX5_earliestHead 47 = .ok (.aload_n 0, 1) := rfl
theorem dX5_earliestHead_48 : decode cX5_earliestHead 48 = .ok (.getfield 22, 3) := rfl
theorem dX5_earliestHead_51 : decode cX5_earliestHead 51 = .ok (.iload 4, 2) := rfl
theorem dX5_earliestHead_53 : decode cX5_earliestHead 53 = .ok (.iaload, 1) := rfl
theorem dX5_earliestHead_54 : decode cX5_earliestHead 54 = .ok (.iaload, 1) := rfl
theorem dX5_earliestHead_55 : decode cX5_earliestHead 55 = .ok (.invokevirtual 75, 3) := rfl
theorem dX5_earliestHead_58 : decode cX5_earliestHead 58 = .ok (.istore 6, 2) := rfl
theorem dX5_earliestHead_60 : decode cX5_earliestHead 60 = .ok (.iload_n 2, 1) := rfl
theorem dX5_earliestHead_61 : decode cX5_earliestHead 61 = .ok (.iconst (-1), 1) := rfl
theorem dX5_earliestHead_62 : decode cX5_earliestHead 62 = .ok (.if_icmp .eq 9, 3) := by decide +kernel
theorem dX5_earliestHead_65 : decode cX5_earliestHead 65 = .ok (.iload 6, 2) := rfl
theorem dX5_earliestHead_67 : decode cX5_earliestHead 67 = .ok (.iload_n 3, 1) := rfl
theorem dX5_earliestHead_68 : decode cX5_earliestHead 68 = .ok (.if_icmp .ge 9, 3) := by decide +kernel
theorem dX5_earliestHead_71 : decode cX5_earliestHead 71 = .ok (.iload 4, 2) := rfl
theorem dX5_earliestHead_73 : decode cX5_earliestHead 73 = .ok (.istore_n 2, 1) := rfl
theorem dX5_earliestHead_74 : decode cX5_earliestHead 74 = .ok (.iload 6, 2) := rfl
theorem dX5_earliestHead_76 : decode cX5_earliestHead 76 = .ok (.istore_n 3, 1) := rfl
theorem dX5_earliestHead_77 : decode cX5_earliestHead 77 = .ok (.iinc 4 1, 3) := by decide +kernel
theorem dX5_earliestHead_80 : decode cX5_earliestHead 80 = .ok (.goto (-73), 3) := by decide +kernel
theorem dX5_earliestHead_83 : decode cX5_earliestHead 83 = .ok (.iload_n 2, 1) := rfl
theorem dX5_earliestHead_84 : decode cX5_earliestHead 84 = .ok (.ireturn, 1) := rfl
def m_X5_earliestHead_77 (k7 : Nat → Int32 → Int32 → Int32 → Hp → Prop) (Q : Int32 → Hp → Prop) (v1 : Nat) (v2 : Int32) (v3 : Int32) (v4 : Int32) (h : Hp) : Prop := ∀ x1 : Int32, x1 = v4 + 1 → k7 v1 v2 v3 x1 h
set_option maxHeartbeats 4000000 in
set_option maxRecDepth 100000 in
theorem s_X5_earliestHead_77 {l : Launch} {G : Cx} {d : Nat} {h0 : Hp} (hd : 4 ≤ d) {k7 : Nat → Int32 → Int32 → Int32 → Hp → Prop} {Q : Int32 → Hp → Prop} (hk7 : ∀ (v1 : Nat) (v2 : Int32) (v3 : Int32) (v4 : Int32) (hh : Hp), k7 v1 v2 v3 v4 hh → Rn l G d 0 0 MX5_earliestHead h0 (qI Q) 7 [some (tR 5 0 (some 14)), some (tR 0 0 (some v1)), some (tI v2), some (tI v3), some (tI v4)] [] hh 0 0) {v1 : Nat} {v2 : Int32} {v3 : Int32} {v4 : Int32} {h : Hp} (hm : m_X5_earliestHead_77 k7 Q v1 v2 v3 v4 h) : Rn l G d 0 0 MX5_earliestHead h0 (qI Q) 77 [some (tR 5 0 (some 14)), some (tR 0 0 (some v1)), some (tI v2), some (tI v3), some (tI v4)] [] h 0 0 := by
  unfold m_X5_earliestHead_77 at hm
  obtain ⟨x1, e_x1⟩ : ∃ y : Int32, y = v4 + 1 := ⟨_, rfl⟩
  replace hm := hm x1 e_x1
  refine r_iinc (L' := [some (tR 5 0 (some 14)), some (tR 0 0 (some v1)), some (tI v2), some (tI v3), some (tI x1)]) dX5_earliestHead_77 rfl (by rw [e_x1]; rfl) (by decide) rfl ?_
  refine r_goto (tgt := 7) dX5_earliestHead_80 rfl ?_
  refine r_keep (L' := [some (tR 5 0 (some 14)), some (tR 0 0 (some v1)), some (tI v2), some (tI v3), some (tI x1)]) [true, true, true, true, true] rfl ?_
  exact hk7 _ _ _ _ _ hm
def m_X5_earliestHead_71 (k7 : Nat → Int32 → Int32 → Int32 → Hp → Prop) (Q : Int32 → Hp → Prop) (v1 : Nat) (v4 : Int32) (v6 : Int32) (h : Hp) : Prop := m_X5_earliestHead_77 k7 Q v1 v4 v6 v4 h
set_option maxHeartbeats 4000000 in
set_option maxRecDepth 100000 in
theorem s_X5_earliestHead_71 {l : Launch} {G : Cx} {d : Nat} {h0 : Hp} (hd : 4 ≤ d) {k7 : Nat → Int32 → Int32 → Int32 → Hp → Prop} {Q : Int32 → Hp → Prop} (hk7 : ∀ (v1 : Nat) (v2 : Int32) (v3 : Int32) (v4 : Int32) (hh : Hp), k7 v1 v2 v3 v4 hh → Rn l G d 0 0 MX5_earliestHead h0 (qI Q) 7 [some (tR 5 0 (some 14)), some (tR 0 0 (some v1)), some (tI v2), some (tI v3), some (tI v4)] [] hh 0 0) {v1 : Nat} {v4 : Int32} {v6 : Int32} {h : Hp} (hm : m_X5_earliestHead_71 k7 Q v1 v4 v6 h) : Rn l G d 0 0 MX5_earliestHead h0 (qI Q) 71 [some (tR 5 0 (some 14)), some (tR 0 0 (some v1)), none, none, some (tI v4), none, some (tI v6)] [] h 0 0 := by
  unfold m_X5_earliestHead_71 at hm
  refine r_iload dX5_earliestHead_71 rfl ?_
  refine r_istore_n (L' := [some (tR 5 0 (some 14)), some (tR 0 0 (some v1)), some (tI v4), none, some (tI v4), none, some (tI v6)]) dX5_earliestHead_73 rfl (by decide) rfl ?_
  refine r_iload dX5_earliestHead_74 rfl ?_
  refine r_istore_n (L' := [some (tR 5 0 (some 14)), some (tR 0 0 (some v1)), some (tI v4), some (tI v6), some (tI v4), none, some (tI v6)]) dX5_earliestHead_76 rfl (by decide) rfl ?_
  refine r_keep (L' := [some (tR 5 0 (some 14)), some (tR 0 0 (some v1)), some (tI v4), some (tI v6), some (tI v4)]) [true, true, true, true, true] rfl ?_
  exact s_X5_earliestHead_77 hd hk7 hm
def m_X5_earliestHead_7 : Nat → (Int32 → Hp → Prop) → Nat → Int32 → Int32 → Int32 → Hp → Prop
  | 0, _, _, _, _, _, _ => False
  | n + 1, Q, v1, v2, v3, v4, h => ((hI h v1 1) ≤ v4 → Q v2 h) ∧ (¬ (hI h v1 1) ≤ v4 → vp_in v4 6 ∧ ∃ b2 : Nat, hR h (v1 + 1) (ix v4) = some b2 ∧ (vp_in v4 6 ∧ (((hI h b2 6) ≤ (hI h 18 (ix v4)) → m_X5_earliestHead_77 (fun (v1 : Nat) (v2 : Int32) (v3 : Int32) (v4 : Int32) (hh : Hp) => m_X5_earliestHead_7 n Q v1 v2 v3 v4 hh) Q v1 v2 v3 v4 h) ∧ (¬ (hI h b2 6) ≤ (hI h 18 (ix v4)) → vp_in v4 6 ∧ (vp_in (hI h 18 (ix v4)) 36 ∧ (m_X1_dayOf b2 (hI h (b2 + 4) (ix (hI h 18 (ix v4)))) h (fun (x3 : Int32) (h4 : Hp) => (v2 = (-1) → m_X5_earliestHead_71 (fun (v1 : Nat) (v2 : Int32) (v3 : Int32) (v4 : Int32) (hh : Hp) => m_X5_earliestHead_7 n Q v1 v2 v3 v4 hh) Q v1 v4 x3 h4) ∧ (¬ v2 = (-1) → (v3 ≤ x3 → m_X5_earliestHead_77 (fun (v1 : Nat) (v2 : Int32) (v3 : Int32) (v4 : Int32) (hh : Hp) => m_X5_earliestHead_7 n Q v1 v2 v3 v4 hh) Q v1 v2 v3 v4 h4) ∧ (¬ v3 ≤ x3 → m_X5_earliestHead_71 (fun (v1 : Nat) (v2 : Int32) (v3 : Int32) (v4 : Int32) (hh : Hp) => m_X5_earliestHead_7 n Q v1 v2 v3 v4 hh) Q v1 v4 x3 h4)))))))))
set_option maxHeartbeats 4000000 in
set_option maxRecDepth 100000 in
theorem s_X5_earliestHead_7 {l : Launch} {G : Cx} {d : Nat} {h0 : Hp} (hd : 4 ≤ d) {Q : Int32 → Hp → Prop} : ∀ {n : Nat} {v1 : Nat} {v2 : Int32} {v3 : Int32} {v4 : Int32} {h : Hp}, m_X5_earliestHead_7 n Q v1 v2 v3 v4 h → Rn l G d 0 0 MX5_earliestHead h0 (qI Q) 7 [some (tR 5 0 (some 14)), some (tR 0 0 (some v1)), some (tI v2), some (tI v3), some (tI v4)] [] h 0 0 := by
  intro n
  induction n with
  | zero => intro v1 v2 v3 v4 h hm; exact hm.elim
  | succ n ih =>
    intro v1 v2 v3 v4 h hm
    have hk7 := fun (v1 : Nat) (v2 : Int32) (v3 : Int32) (v4 : Int32) (hh : Hp) (hm : m_X5_earliestHead_7 n Q v1 v2 v3 v4 hh) => ih hm
    rw [m_X5_earliestHead_7] at hm
    refine r_iload dX5_earliestHead_7 rfl ?_
    refine r_aload_n dX5_earliestHead_9 rfl rfl ?_
    refine r_getI (k := 1) cl_0 dX5_earliestHead_10 t_127 (Or.inl rfl) gf_0_1 ?_
    refine r_icmp_ge (tgt := 83) dX5_earliestHead_13 rfl (fun hc => ?_) (fun hc => ?_)
    · replace hm := hm.1 hc
      refine r_iload_n dX5_earliestHead_83 rfl rfl ?_
      exact r_ireturn dX5_earliestHead_84 rfl ⟨by decide, by decide⟩ ⟨_, rfl, hm⟩
    · replace hm := hm.2 hc
      refine r_aload_n dX5_earliestHead_16 rfl rfl ?_
      refine r_getC (k := 0) cl_0 dX5_earliestHead_17 t_123 gf_0_0.1 gf_0_0.2 (gc_0_0 _) ?_
      refine r_iload dX5_earliestHead_20 rfl ?_
      obtain ⟨hi_b2, b2, hb_b2, hm⟩ := hm
      refine r_aaldS (kd := 1) (ti := 5) (cn := RX1) dX5_earliestHead_22 rfl hi_b2 hb_b2 ?_
      refine r_astore (L' := [some (tR 5 0 (some 14)), some (tR 0 0 (some v1)), some (tI v2), some (tI v3), some (tI v4), some (tR 1 0 (some b2))]) dX5_earliestHead_23 (by decide) rfl ?_
      refine r_aload_n dX5_earliestHead_25 rfl rfl ?_
      refine r_getC (k := 7) cl_5 dX5_earliestHead_26 t_150 gf_5_7.1 gf_5_7.2 (gc_5_7 _) ?_
      refine r_iload dX5_earliestHead_29 rfl ?_
      refine r_iald dX5_earliestHead_31 hm.1 ?_
      replace hm := hm.2
      refine r_aload dX5_earliestHead_32 rfl ?_
      refine r_getI (k := 6) cl_1 dX5_earliestHead_34 t_461 (Or.inl rfl) gf_1_6 ?_
      refine r_icmp_ge (tgt := 77) dX5_earliestHead_37 rfl (fun hc => ?_) (fun hc => ?_)
      · replace hm := hm.1 hc
        refine r_keep (L' := [some (tR 5 0 (some 14)), some (tR 0 0 (some v1)), some (tI v2), some (tI v3), some (tI v4)]) [true, true, true, true, true] rfl ?_
        exact s_X5_earliestHead_77 hd hk7 hm
      · replace hm := hm.2 hc
        refine r_aload dX5_earliestHead_40 rfl ?_
        refine r_aload dX5_earliestHead_42 rfl ?_
        refine r_getC (k := 12) cl_1 dX5_earliestHead_44 t_480 gf_1_12.1 gf_1_12.2 (gc_1_12 _) ?_
        refine r_aload_n dX5_earliestHead_47 rfl rfl ?_
        refine r_getC (k := 7) cl_5 dX5_earliestHead_48 t_150 gf_5_7.1 gf_5_7.2 (gc_5_7 _) ?_
        refine r_iload dX5_earliestHead_51 rfl ?_
        refine r_iald dX5_earliestHead_53 hm.1 ?_
        replace hm := hm.2
        refine r_iald dX5_earliestHead_54 hm.1 ?_
        replace hm := hm.2
        refine r_callVI (d' := d - 1) (as := [tI (hI h (b2 + 4) (ix (hI h 18 (ix v4))))]) (st := []) cl_1 dX5_earliestHead_55 mi_X1_dayOf t_939 t_747 t_748 rfl rfl (Nat.le_of_ble_eq_true rfl) (by omega) ⟨by decide, by decide⟩ ⟨rfl, rfl⟩ (s_X1_dayOf (by omega) hm) (fun x3 h4 hm => ?_)
        refine r_istore (L' := [some (tR 5 0 (some 14)), some (tR 0 0 (some v1)), some (tI v2), some (tI v3), some (tI v4), some (tR 1 0 (some b2)), some (tI x3)]) dX5_earliestHead_58 (by decide) rfl ?_
        refine r_iload_n dX5_earliestHead_60 rfl rfl ?_
        refine r_iconst (v := (-1)) dX5_earliestHead_61 rfl ?_
        refine r_icmp_eq (tgt := 71) dX5_earliestHead_62 rfl (fun hc => ?_) (fun hc => ?_)
        · replace hm := hm.1 hc
          refine r_keep (L' := [some (tR 5 0 (some 14)), some (tR 0 0 (some v1)), none, none, some (tI v4), none, some (tI x3)]) [true, true, false, false, true, false, true] rfl ?_
          exact s_X5_earliestHead_71 hd hk7 hm
        · replace hm := hm.2 hc
          refine r_iload dX5_earliestHead_65 rfl ?_
          refine r_iload_n dX5_earliestHead_67 rfl rfl ?_
          refine r_icmp_ge (tgt := 77) dX5_earliestHead_68 rfl (fun hc => ?_) (fun hc => ?_)
          · replace hm := hm.1 hc
            refine r_keep (L' := [some (tR 5 0 (some 14)), some (tR 0 0 (some v1)), some (tI v2), some (tI v3), some (tI v4)]) [true, true, true, true, true] rfl ?_
            exact s_X5_earliestHead_77 hd hk7 hm
          · replace hm := hm.2 hc
            refine r_keep (L' := [some (tR 5 0 (some 14)), some (tR 0 0 (some v1)), none, none, some (tI v4), none, some (tI x3)]) [true, true, false, false, true, false, true] rfl ?_
            exact s_X5_earliestHead_71 hd hk7 hm
def m_X5_earliestHead (v1 : Nat) (h : Hp) (Q : Int32 → Hp → Prop) : Prop := ∃ n7, m_X5_earliestHead_7 n7 Q v1 (-1) 0 0 h
set_option maxHeartbeats 4000000 in
set_option maxRecDepth 100000 in
theorem s_X5_earliestHead {l : Launch} {G : Cx} {d : Nat} (hd : 4 ≤ d) {v1 : Nat} {h : Hp} {Q : Int32 → Hp → Prop} (hm : m_X5_earliestHead v1 h Q) : Ct l G d 0 0 yX5_earliestHead MX5_earliestHead [tR 5 0 (some 14), tR 0 0 (some v1)] h (qI Q) := by
  unfold m_X5_earliestHead at hm
  refine Ct.of (L := [some (tR 5 0 (some 14)), some (tR 0 0 (some v1))]) (by decide) rfl rfl (Nat.le_of_ble_eq_true rfl) rfl ?_
  refine r_iconst (v := (-1)) dX5_earliestHead_0 rfl ?_
  refine r_istore_n (L' := [some (tR 5 0 (some 14)), some (tR 0 0 (some v1)), some (tI (-1))]) dX5_earliestHead_1 rfl (by decide) rfl ?_
  refine r_iconst (v := 0) dX5_earliestHead_2 rfl ?_
  refine r_istore_n (L' := [some (tR 5 0 (some 14)), some (tR 0 0 (some v1)), some (tI (-1)), some (tI 0)]) dX5_earliestHead_3 rfl (by decide) rfl ?_
  refine r_iconst (v := 0) dX5_earliestHead_4 rfl ?_
  refine r_istore (L' := [some (tR 5 0 (some 14)), some (tR 0 0 (some v1)), some (tI (-1)), some (tI 0), some (tI 0)]) dX5_earliestHead_5 (by decide) rfl ?_
  refine r_keep (L' := [some (tR 5 0 (some 14)), some (tR 0 0 (some v1)), some (tI (-1)), some (tI 0), some (tI 0)]) [true, true, true, true, true] rfl ?_
  obtain ⟨n, hm⟩ := hm
  refine s_X5_earliestHead_7 hd hm
theorem dX5_bitsBehind_0 : decode cX5_bitsBehind 0 = .ok (.bipush 31, 2) := by decide +kernel
theorem dX5_bitsBehind_2 : decode cX5_bitsBehind 2 = .ok (.istore_n 2, 1) := rfl
theorem dX5_bitsBehind_3 : decode cX5_bitsBehind 3 = .ok (.iload_n 0, 1) := rfl
theorem dX5_bitsBehind_4 : decode cX5_bitsBehind 4 = .ok (.iload_n 2, 1) := rfl
theorem dX5_bitsBehind_5 : decode cX5_bitsBehind 5 = .ok (.iand, 1) := rfl
theorem dX5_bitsBehind_6 : decode cX5_bitsBehind 6 = .ok (.iload_n 0, 1) := rfl
theorem dX5_bitsBehind_7 : decode cX5_bitsBehind 7 = .ok (.iload_n 2, 1) := rfl
theorem dX5_bitsBehind_8 : decode cX5_bitsBehind 8 = .ok (.iconst (-1), 1) := rfl
theorem dX5_bitsBehind_9 : decode cX5_bitsBehind 9 = .ok (.ixor, 1) := rfl
theorem dX5_bitsBehind_10 : decode cX5_bitsBehind 10 = .ok (.iand, 1) := rfl
theorem dX5_bitsBehind_11 : decode cX5_bitsBehind 11 = .ok (.iload_n 1, 1) := rfl
theorem dX5_bitsBehind_12 : decode cX5_bitsBehind 12 = .ok (.ishl, 1) := rfl
theorem dX5_bitsBehind_13 : decode cX5_bitsBehind 13 = .ok (.ior, 1) := rfl
theorem dX5_bitsBehind_14 : decode cX5_bitsBehind 14 = .ok (.ireturn, 1) := rfl
def m_X5_bitsBehind (v0 : Int32) (v1 : Int32) (h : Hp) (Q : Int32 → Hp → Prop) : Prop := Q ((v0 &&& 31) ||| ((v0 &&& (31 ^^^ (-1))) <<< (v1 &&& 31))) h
set_option maxHeartbeats 4000000 in
set_option maxRecDepth 100000 in
theorem s_X5_bitsBehind {l : Launch} {G : Cx} {d : Nat} (hd : 2 ≤ d) {v0 : Int32} {v1 : Int32} {h : Hp} {Q : Int32 → Hp → Prop} (hm : m_X5_bitsBehind v0 v1 h Q) : Ct l G d 0 0 yX5_bitsBehind MX5_bitsBehind [tI v0, tI v1] h (qI Q) := by
  unfold m_X5_bitsBehind at hm
  refine Ct.of (L := [some (tI v0), some (tI v1)]) (by decide) rfl rfl (Nat.le_of_ble_eq_true rfl) rfl ?_
  refine r_bipush (v := 31) dX5_bitsBehind_0 rfl ?_
  refine r_istore_n (L' := [some (tI v0), some (tI v1), some (tI 31)]) dX5_bitsBehind_2 rfl (by decide) rfl ?_
  refine r_iload_n dX5_bitsBehind_3 rfl rfl ?_
  refine r_iload_n dX5_bitsBehind_4 rfl rfl ?_
  refine r_iand dX5_bitsBehind_5 ?_
  refine r_iload_n dX5_bitsBehind_6 rfl rfl ?_
  refine r_iload_n dX5_bitsBehind_7 rfl rfl ?_
  refine r_iconst (v := (-1)) dX5_bitsBehind_8 rfl ?_
  refine r_ixor dX5_bitsBehind_9 ?_
  refine r_iand dX5_bitsBehind_10 ?_
  refine r_iload_n dX5_bitsBehind_11 rfl rfl ?_
  refine r_ishl dX5_bitsBehind_12 ?_
  refine r_ior dX5_bitsBehind_13 ?_
  exact r_ireturn dX5_bitsBehind_14 rfl ⟨by decide, by decide⟩ ⟨_, rfl, hm⟩
theorem dX5_putEntry_0 : decode cX5_putEntry 0 = .ok (.iload_n 2, 1) := by decide +kernel
theorem dX5_putEntry_1 : decode cX5_putEntry 1 = .ok (.bipush 6, 2) := by decide +kernel
theorem dX5_putEntry_3 : decode cX5_putEntry 3 = .ok (.imul, 1) := by decide +kernel
theorem dX5_putEntry_4 : decode cX5_putEntry 4 = .ok (.istore 4, 2) := by decide +kernel
theorem dX5_putEntry_6 : decode cX5_putEntry 6 = .ok (.aload_n 0, 1) := by decide +kernel
theorem dX5_putEntry_7 : decode cX5_putEntry 7 = .ok (.getfield 46, 3) := by decide +kernel
theorem dX5_putEntry_10 : decode cX5_putEntry 10 = .ok (.aload_n 1, 1) := by decide +kernel
theorem dX5_putEntry_11 : decode cX5_putEntry 11 = .ok (.getfield 68, 3) := by decide +kernel
theorem dX5_putEntry_14 : decode cX5_putEntry 14 = .ok (.iload 4, 2) := by decide +kernel
theorem dX5_putEntry_16 : decode cX5_putEntry 16 = .ok (.iconst 1, 1) := by decide +kernel
theorem dX5_putEntry_17 : decode cX5_putEntry 17 = .ok (.iadd, 1) := by decide +kernel
theorem dX5_putEntry_18 : decode cX5_putEntry 18 = .ok (.iaload, 1) := by decide +kernel
theorem dX5_putEntry_19 : decode cX5_putEntry 19 = .ok (.iaload, 1) := by decide +kernel
theorem dX5_putEntry_20 : decode cX5_putEntry 20 = .ok (.istore 5, 2) := by decide +kernel
theorem dX5_putEntry_22 : decode cX5_putEntry 22 = .ok (.aload_n 0, 1) := by decide +kernel
theorem dX5_putEntry_23 : decode cX5_putEntry 23 = .ok (.getfield 46, 3) := by decide +kernel
theorem dX5_putEntry_26 : decode cX5_putEntry 26 = .ok (.aload_n 1, 1) := by decide +kernel
theorem dX5_putEntry_27 : decode cX5_putEntry 27 = .ok (.getfield 68, 3) := by decide +kernel
theorem dX5_putEntry_30 : decode cX5_putEntry 30 = .ok (.iload 4, 2) := by decide +kernel
theorem dX5_putEntry_32 : decode cX5_putEntry 32 = .ok (.iconst 2, 1) := by decide +kernel
theorem dX5_putEntry_33 : decode cX5_putEntry 33 = .ok (.iadd, 1) := by decide +kernel
theorem dX5_putEntry_34 : decode cX5_putEntry 34 = .ok (.iaload, 1) := by decide +kernel
theorem dX5_putEntry_35 : decode cX5_putEntry 35 = .ok (.iaload, 1) := by decide +kernel
theorem dX5_putEntry_36 : decode cX5_putEntry 36 = .ok (.istore 6, 2) := by decide +kernel
theorem dX5_putEntry_38 : decode cX5_putEntry 38 = .ok (.iload 5, 2) := by decide +kernel
theorem dX5_putEntry_40 : decode cX5_putEntry 40 = .ok (.iload 6, 2) := by decide +kernel
theorem dX5_putEntry_42 : decode cX5_putEntry 42 = .ok (.if_icmp .eq 24, 3) := by decide +kernel
theorem dX5_putEntry_45 : decode cX5_putEntry 45 = .ok (.aload_n 1, 1) := by decide +kernel
theorem dX5_putEntry_46 : decode cX5_putEntry 46 = .ok (.getfield 86, 3) := by decide +kernel
theorem dX5_putEntry_49 : decode cX5_putEntry 49 = .ok (.iload_n 2, 1) := by decide +kernel
theorem dX5_putEntry_50 : decode cX5_putEntry 50 = .ok (.laload, 1) := by decide +kernel
theorem dX5_putEntry_51 : decode cX5_putEntry 51 = .ok (.lconst 0, 1) := by decide +kernel
theorem dX5_putEntry_52 : decode cX5_putEntry 52 = .ok (.lcmp, 1) := by decide +kernel
theorem dX5_putEntry_53 : decode cX5_putEntry 53 = .ok (.ifCond .eq 13, 3) := by decide +kernel
theorem dX5_putEntry_56 : decode cX5_putEntry 56 = .ok (.aload_n 0, 1) := by decide +kernel
theorem dX5_putEntry_57 : decode cX5_putEntry 57 = .ok (.getfield 129, 3) := by decide +kernel
theorem dX5_putEntry_60 : decode cX5_putEntry 60 = .ok (.sipush 216, 3) := by decide +kernel
theorem dX5_putEntry_63 : decode cX5_putEntry 63 = .ok (.if_icmp .lt 5, 3) := by decide +kernel
theorem dX5_putEntry_66 : decode cX5_putEntry 66 = .ok (.iconst 0, 1) := by decide +kernel
theorem dX5_putEntry_67 : decode cX5_putEntry 67 = .ok (.ireturn, 1) := by decide +kernel
theorem dX5_putEntry_68 : decode cX5_putEntry 68 = .ok (.aload_n 0, 1) := by decide +kernel
theorem dX5_putEntry_69 : decode cX5_putEntry 69 = .ok (.getfield 129, 3) := by decide +kernel
theorem dX5_putEntry_72 : decode cX5_putEntry 72 = .ok (.bipush 6, 2) := by decide +kernel
theorem dX5_putEntry_74 : decode cX5_putEntry 74 = .ok (.imul, 1) := by decide +kernel
theorem dX5_putEntry_75 : decode cX5_putEntry 75 = .ok (.istore 7, 2) := by decide +kernel
theorem dX5_putEntry_77 : decode cX5_putEntry 77 = .ok (.aload_n 0, 1) := by decide +kernel
theorem dX5_putEntry_78 : decode cX5_putEntry 78 = .ok (.getfield 11, 3) := by decide +kernel
theorem dX5_putEntry_81 : decode cX5_putEntry 81 = .ok (.iload 7, 2) := by decide +kernel
theorem dX5_putEntry_83 : decode cX5_putEntry 83 = .ok (.iconst 0, 1) := by decide +kernel
theorem dX5_putEntry_84 : decode cX5_putEntry 84 = .ok (.iadd, 1) := by decide +kernel
theorem dX5_putEntry_85 : decode cX5_putEntry 85 = .ok (.aload_n 1, 1) := by decide +kernel
theorem dX5_putEntry_86 : decode cX5_putEntry 86 = .ok (.getfield 68, 3) := by decide +kernel
theorem dX5_putEntry_89 : decode cX5_putEntry 89 = .ok (.iload 4, 2) := by decide +kernel
theorem dX5_putEntry_91 : decode cX5_putEntry 91 = .ok (.iconst 0, 1) := by decide +kernel
theorem dX5_putEntry_92 : decode cX5_putEntry 92 = .ok (.iadd, 1) := by decide +kernel
theorem dX5_putEntry_93 : decode cX5_putEntry 93 = .ok (.iaload, 1) := by decide +kernel
theorem dX5_putEntry_94 : decode cX5_putEntry 94 = .ok (.iastore, 1) := by decide +kernel
theorem dX5_putEntry_95 : decode cX5_putEntry 95 = .ok (.aload_n 0, 1) := by decide +kernel
theorem dX5_putEntry_96 : decode cX5_putEntry 96 = .ok (.getfield 11, 3) := by decide +kernel
theorem dX5_putEntry_99 : decode cX5_putEntry 99 = .ok (.iload 7, 2) := by decide +kernel
theorem dX5_putEntry_101 : decode cX5_putEntry 101 = .ok (.iconst 1, 1) := by decide +kernel
theorem dX5_putEntry_102 : decode cX5_putEntry 102 = .ok (.iadd, 1) := by decide +kernel
theorem dX5_putEntry_103 : decode cX5_putEntry 103 = .ok (.iload 5, 2) := by decide +kernel
theorem dX5_putEntry_105 : decode cX5_putEntry 105 = .ok (.iastore, 1) := by decide +kernel
theorem dX5_putEntry_106 : decode cX5_putEntry 106 = .ok (.aload_n 0, 1) := by decide +kernel
theorem dX5_putEntry_107 : decode cX5_putEntry 107 = .ok (.getfield 11, 3) := by decide +kernel
theorem dX5_putEntry_110 : decode cX5_putEntry 110 = .ok (.iload 7, 2) := by decide +kernel
theorem dX5_putEntry_112 : decode cX5_putEntry 112 = .ok (.iconst 2, 1) := by decide +kernel
theorem dX5_putEntry_113 : decode cX5_putEntry 113 = .ok (.iadd, 1) := by decide +kernel
theorem dX5_putEntry_114 : decode cX5_putEntry 114 = .ok (.iload 6, 2) := by decide +kernel
theorem dX5_putEntry_116 : decode cX5_putEntry 116 = .ok (.iastore, 1) := by decide +kernel
theorem dX5_putEntry_117 : decode cX5_putEntry 117 = .ok (.aload_n 0, 1) := by decide +kernel
theorem dX5_putEntry_118 : decode cX5_putEntry 118 = .ok (.getfield 11, 3) := by decide +kernel
theorem dX5_putEntry_121 : decode cX5_putEntry 121 = .ok (.iload 7, 2) := by decide +kernel
theorem dX5_putEntry_123 : decode cX5_putEntry 123 = .ok (.iconst 3, 1) := by decide +kernel
theorem dX5_putEntry_124 : decode cX5_putEntry 124 = .ok (.iadd, 1) := by decide +kernel
theorem dX5_putEntry_125 : decode cX5_putEntry 125 = .ok (.aload_n 1, 1) := by decide +kernel
theorem dX5_putEntry_126 : decode cX5_putEntry 126 = .ok (.getfield 68, 3) := by decide +kernel
theorem dX5_putEntry_129 : decode cX5_putEntry 129 = .ok (.iload 4, 2) := by decide +kernel
theorem dX5_putEntry_131 : decode cX5_putEntry 131 = .ok (.iconst 3, 1) := by decide +kernel
theorem dX5_putEntry_132 : decode cX5_putEntry 132 = .ok (.iadd, 1) := by decide +kernel
theorem dX5_putEntry_133 : decode cX5_putEntry 133 = .ok (.iaload, 1) := by decide +kernel
theorem dX5_putEntry_134 : decode cX5_putEntry 134 = .ok (.iastore, 1) := by decide +kernel
theorem dX5_putEntry_135 : decode cX5_putEntry 135 = .ok (.aload_n 0, 1) := by decide +kernel
theorem dX5_putEntry_136 : decode cX5_putEntry 136 = .ok (.getfield 11, 3) := by decide +kernel
theorem dX5_putEntry_139 : decode cX5_putEntry 139 = .ok (.iload 7, 2) := by decide +kernel
theorem dX5_putEntry_141 : decode cX5_putEntry 141 = .ok (.iconst 4, 1) := by decide +kernel
theorem dX5_putEntry_142 : decode cX5_putEntry 142 = .ok (.iadd, 1) := by decide +kernel
theorem dX5_putEntry_143 : decode cX5_putEntry 143 = .ok (.aload_n 1, 1) := by decide +kernel
theorem dX5_putEntry_144 : decode cX5_putEntry 144 = .ok (.getfield 68, 3) := by decide +kernel
theorem dX5_putEntry_147 : decode cX5_putEntry 147 = .ok (.iload 4, 2) := by decide +kernel
theorem dX5_putEntry_149 : decode cX5_putEntry 149 = .ok (.iconst 4, 1) := by decide +kernel
theorem dX5_putEntry_150 : decode cX5_putEntry 150 = .ok (.iadd, 1) := by decide +kernel
theorem dX5_putEntry_151 : decode cX5_putEntry 151 = .ok (.iaload, 1) := by decide +kernel
theorem dX5_putEntry_152 : decode cX5_putEntry 152 = .ok (.iload_n 3, 1) := by decide +kernel
theorem dX5_putEntry_153 : decode cX5_putEntry 153 = .ok (.invokestatic 146, 3) := by decide +kernel
theorem dX5_putEntry_156 : decode cX5_putEntry 156 = .ok (.iastore, 1) := by decide +kernel
theorem dX5_putEntry_157 : decode cX5_putEntry 157 = .ok (.aload_n 0, 1) := by decide +kernel
theorem dX5_putEntry_158 : decode cX5_putEntry 158 = .ok (.getfield 11, 3) := by decide +kernel
theorem dX5_putEntry_161 : decode cX5_putEntry 161 = .ok (.iload 7, 2) := by decide +kernel
theorem dX5_putEntry_163 : decode cX5_putEntry 163 = .ok (.iconst 5, 1) := by decide +kernel
theorem dX5_putEntry_164 : decode cX5_putEntry 164 = .ok (.iadd, 1) := by decide +kernel
theorem dX5_putEntry_165 : decode cX5_putEntry 165 = .ok (.aload_n 1, 1) := by decide +kernel
theorem dX5_putEntry_166 : decode cX5_putEntry 166 = .ok (.getfield 68, 3) := by decide +kernel
theorem dX5_putEntry_169 : decode cX5_putEntry 169 = .ok (.iload 4, 2) := by decide +kernel
theorem dX5_putEntry_171 : decode cX5_putEntry 171 = .ok (.iconst 5, 1) := by decide +kernel
theorem dX5_putEntry_172 : decode cX5_putEntry 172 = .ok (.iadd, 1) := by decide +kernel
theorem dX5_putEntry_173 : decode cX5_putEntry 173 = .ok (.iaload, 1) := by decide +kernel
theorem dX5_putEntry_174 : decode cX5_putEntry 174 = .ok (.iload_n 3, 1) := by decide +kernel
theorem dX5_putEntry_175 : decode cX5_putEntry 175 = .ok (.invokestatic 146, 3) := by decide +kernel
theorem dX5_putEntry_178 : decode cX5_putEntry 178 = .ok (.iastore, 1) := by decide +kernel
theorem dX5_putEntry_179 : decode cX5_putEntry 179 = .ok (.aload_n 0, 1) := by decide +kernel
theorem dX5_putEntry_180 : decode cX5_putEntry 180 = .ok (.dup, 1) := by decide +kernel
theorem dX5_putEntry_181 : decode cX5_putEntry 181 = .ok (.getfield 111, 3) := by decide +kernel
theorem dX5_putEntry_184 : decode cX5_putEntry 184 = .ok (.aload_n 0, 1) := by decide +kernel
theorem dX5_putEntry_185 : decode cX5_putEntry 185 = .ok (.getfield 11, 3) := by decide +kernel
theorem dX5_putEntry_188 : decode cX5_putEntry 188 = .ok (.iload 7, 2) := by decide +kernel
theorem dX5_putEntry_190 : decode cX5_putEntry 190 = .ok (.iconst 4, 1) := by decide +kernel
theorem dX5_putEntry_191 : decode cX5_putEntry 191 = .ok (.iadd, 1) := by decide +kernel
theorem dX5_putEntry_192 : decode cX5_putEntry 192 = .ok (.iaload, 1) := by decide +kernel
theorem dX5_putEntry_193 : decode cX5_putEntry 193 = .ok (.ior, 1) := by decide +kernel
theorem dX5_putEntry_194 : decode cX5_putEntry 194 = .ok (.putfield 111, 3) := by decide +kernel
theorem dX5_putEntry_197 : decode cX5_putEntry 197 = .ok (.aload_n 0, 1) := by decide +kernel
theorem dX5_putEntry_198 : decode cX5_putEntry 198 = .ok (.getfield 15, 3) := by decide +kernel
theorem dX5_putEntry_201 : decode cX5_putEntry 201 = .ok (.aload_n 0, 1) := by decide +kernel
theorem dX5_putEntry_202 : decode cX5_putEntry 202 = .ok (.getfield 129, 3) := by decide +kernel
theorem dX5_putEntry_205 : decode cX5_putEntry 205 = .ok (.aload_n 1, 1) := by decide +kernel
theorem dX5_putEntry_206 : decode cX5_putEntry 206 = .ok (.getfield 86, 3) := by decide +kernel
theorem dX5_putEntry_209 : decode cX5_putEntry 209 = .ok (.iload_n 2, 1) := by decide +kernel
theorem dX5_putEntry_210 : decode cX5_putEntry 210 = .ok (.laload, 1) := by decide +kernel
theorem dX5_putEntry_211 : decode cX5_putEntry 211 = .ok (.lastore, 1) := by decide +kernel
theorem dX5_putEntry_212 : decode cX5_putEntry 212 = .ok (.aload_n 0, 1) := by decide +kernel
theorem dX5_putEntry_213 : decode cX5_putEntry 213 = .ok (.dup, 1) := by decide +kernel
theorem dX5_putEntry_214 : decode cX5_putEntry 214 = .ok (.getfield 129, 3) := by decide +kernel
theorem dX5_putEntry_217 : decode cX5_putEntry 217 = .ok (.iconst 1, 1) := by decide +kernel
theorem dX5_putEntry_218 : decode cX5_putEntry 218 = .ok (.iadd, 1) := by decide +kernel
theorem dX5_putEntry_219 : decode cX5_putEntry 219 = .ok (.putfield 129, 3) := by decide +kernel
theorem dX5_putEntry_222 : decode cX5_putEntry 222 = .ok (.iconst 1, 1) := by decide +kernel
theorem dX5_putEntry_223 : decode cX5_putEntry 223 = .ok (.iload 5, 2) := by decide +kernel
theorem dX5_putEntry_225 : decode cX5_putEntry 225 = .ok (.ishl, 1) := by decide +kernel
theorem dX5_putEntry_226 : decode cX5_putEntry 226 = .ok (.iconst 1, 1) := by decide +kernel
theorem dX5_putEntry_227 : decode cX5_putEntry 227 = .ok (.iload 6, 2) := by decide +kernel
theorem dX5_putEntry_229 : decode cX5_putEntry 229 = .ok (.ishl, 1) := by decide +kernel
theorem dX5_putEntry_230 : decode cX5_putEntry 230 = .ok (.ior, 1) := by decide +kernel
theorem dX5_putEntry_231 : decode cX5_putEntry 231 = .ok (.ireturn, 1) := by decide +kernel
def m_X5_putEntry (v1 : Nat) (v2 : Int32) (v3 : Int32) (h : Hp) (Q : Int32 → Hp → Prop) : Prop := ∀ x1 : Int32, x1 = (v2 * 6) → vp_in (x1 + 1) 216 ∧ (vp_in (hI h (v1 + 2) (ix (x1 + 1))) 8 ∧ (∀ x2 : Int32, x2 = (hI h 1 (ix (hI h (v1 + 2) (ix (x1 + 1))))) → vp_in (x1 + 2) 216 ∧ (vp_in (hI h (v1 + 2) (ix (x1 + 2))) 8 ∧ (∀ x3 : Int32, x3 = (hI h 1 (ix (hI h (v1 + 2) (ix (x1 + 2))))) → (x2 = x3 → Q 0 h) ∧ (¬ x2 = x3 → vp_in v2 36 ∧ (((lg_cmp (hJ h (v1 + 3) (ix v2)) 0) = 0 → Q 0 h) ∧ (¬ (lg_cmp (hJ h (v1 + 3) (ix v2)) 0) = 0 → ((hI h 14 3) < 216 → ∀ x4 : Int32, x4 = ((hI h 14 3) * 6) → vp_in (x1 + 0) 216 ∧ (vp_in (x4 + 0) 1296 ∧ (vp_in (x4 + 1) 1296 ∧ (vp_in (x4 + 2) 1296 ∧ (vp_in (x1 + 3) 216 ∧ (vp_in (x4 + 3) 1296 ∧ (vp_in (x1 + 4) 216 ∧ (m_X5_bitsBehind (hI (wI (wI (wI (wI h 15 (ix (x4 + 0)) (hI h (v1 + 2) (ix (x1 + 0)))) 15 (ix (x4 + 1)) x2) 15 (ix (x4 + 2)) x3) 15 (ix (x4 + 3)) (hI (wI (wI (wI h 15 (ix (x4 + 0)) (hI h (v1 + 2) (ix (x1 + 0)))) 15 (ix (x4 + 1)) x2) 15 (ix (x4 + 2)) x3) (v1 + 2) (ix (x1 + 3)))) (v1 + 2) (ix (x1 + 4))) v3 (wI (wI (wI (wI h 15 (ix (x4 + 0)) (hI h (v1 + 2) (ix (x1 + 0)))) 15 (ix (x4 + 1)) x2) 15 (ix (x4 + 2)) x3) 15 (ix (x4 + 3)) (hI (wI (wI (wI h 15 (ix (x4 + 0)) (hI h (v1 + 2) (ix (x1 + 0)))) 15 (ix (x4 + 1)) x2) 15 (ix (x4 + 2)) x3) (v1 + 2) (ix (x1 + 3)))) (fun (x5 : Int32) (h6 : Hp) => vp_in (x4 + 4) 1296 ∧ (vp_in (x1 + 5) 216 ∧ (m_X5_bitsBehind (hI (wI h6 15 (ix (x4 + 4)) x5) (v1 + 2) (ix (x1 + 5))) v3 (wI h6 15 (ix (x4 + 4)) x5) (fun (x7 : Int32) (h8 : Hp) => vp_in (x4 + 5) 1296 ∧ (vp_in (x4 + 4) 1296 ∧ (vp_in v2 36 ∧ (vp_in (hI (wI (wI h8 15 (ix (x4 + 5)) x7) 14 4 ((hI (wI h8 15 (ix (x4 + 5)) x7) 14 4) ||| (hI (wI h8 15 (ix (x4 + 5)) x7) 15 (ix (x4 + 4))))) 14 3) 216 ∧ (Q ((1 <<< (x2 &&& 31)) ||| (1 <<< (x3 &&& 31))) (wI (wJ (wI (wI h8 15 (ix (x4 + 5)) x7) 14 4 ((hI (wI h8 15 (ix (x4 + 5)) x7) 14 4) ||| (hI (wI h8 15 (ix (x4 + 5)) x7) 15 (ix (x4 + 4))))) 16 (ix (hI (wI (wI h8 15 (ix (x4 + 5)) x7) 14 4 ((hI (wI h8 15 (ix (x4 + 5)) x7) 14 4) ||| (hI (wI h8 15 (ix (x4 + 5)) x7) 15 (ix (x4 + 4))))) 14 3)) (hJ (wI (wI h8 15 (ix (x4 + 5)) x7) 14 4 ((hI (wI h8 15 (ix (x4 + 5)) x7) 14 4) ||| (hI (wI h8 15 (ix (x4 + 5)) x7) 15 (ix (x4 + 4))))) (v1 + 3) (ix v2))) 14 3 ((hI (wJ (wI (wI h8 15 (ix (x4 + 5)) x7) 14 4 ((hI (wI h8 15 (ix (x4 + 5)) x7) 14 4) ||| (hI (wI h8 15 (ix (x4 + 5)) x7) 15 (ix (x4 + 4))))) 16 (ix (hI (wI (wI h8 15 (ix (x4 + 5)) x7) 14 4 ((hI (wI h8 15 (ix (x4 + 5)) x7) 14 4) ||| (hI (wI h8 15 (ix (x4 + 5)) x7) 15 (ix (x4 + 4))))) 14 3)) (hJ (wI (wI h8 15 (ix (x4 + 5)) x7) 14 4 ((hI (wI h8 15 (ix (x4 + 5)) x7) 14 4) ||| (hI (wI h8 15 (ix (x4 + 5)) x7) 15 (ix (x4 + 4))))) (v1 + 3) (ix v2))) 14 3) + 1)))))))))))))))))) ∧ (¬ (hI h 14 3) < 216 → Q 0 h))))))))
set_option maxHeartbeats 4000000 in
set_option maxRecDepth 100000 in
theorem s_X5_putEntry {l : Launch} {G : Cx} {d : Nat} (hd : 4 ≤ d) {v1 : Nat} {v2 : Int32} {v3 : Int32} {h : Hp} {Q : Int32 → Hp → Prop} (hm : m_X5_putEntry v1 v2 v3 h Q) : Ct l G d 0 0 yX5_putEntry MX5_putEntry [tR 5 0 (some 14), tR 1 0 (some v1), tI v2, tI v3] h (qI Q) := by
  unfold m_X5_putEntry at hm
  refine Ct.of (L := [some (tR 5 0 (some 14)), some (tR 1 0 (some v1)), some (tI v2), some (tI v3)]) (by decide) rfl rfl (Nat.le_of_ble_eq_true rfl) rfl ?_
  refine r_iload_n dX5_putEntry_0 rfl rfl ?_
  refine r_bipush (v := 6) dX5_putEntry_1 rfl ?_
  refine r_imul dX5_putEntry_3 ?_
  refine r_nmI (fun x1 e_x1 => ?_)
  replace hm := hm x1 e_x1
  refine r_istore (L' := [some (tR 5 0 (some 14)), some (tR 1 0 (some v1)), some (tI v2), some (tI v3), some (tI x1)]) dX5_putEntry_4 (by decide) rfl ?_
  refine r_aload_n dX5_putEntry_6 rfl rfl ?_
  refine r_getC (k := 0) cl_5 dX5_putEntry_7 t_143 gf_5_0.1 gf_5_0.2 (gc_5_0 _) ?_
  refine r_aload_n dX5_putEntry_10 rfl rfl ?_
  refine r_getC (k := 10) cl_1 dX5_putEntry_11 t_472 gf_1_10.1 gf_1_10.2 (gc_1_10 _) ?_
  refine r_iload dX5_putEntry_14 rfl ?_
  refine r_iconst (v := 1) dX5_putEntry_16 rfl ?_
  refine r_iadd dX5_putEntry_17 ?_
  refine r_iald dX5_putEntry_18 hm.1 ?_
  replace hm := hm.2
  refine r_iald dX5_putEntry_19 hm.1 ?_
  replace hm := hm.2
  refine r_nmI (fun x2 e_x2 => ?_)
  replace hm := hm x2 e_x2
  refine r_istore (L' := [some (tR 5 0 (some 14)), some (tR 1 0 (some v1)), some (tI v2), some (tI v3), some (tI x1), some (tI x2)]) dX5_putEntry_20 (by decide) rfl ?_
  refine r_aload_n dX5_putEntry_22 rfl rfl ?_
  refine r_getC (k := 0) cl_5 dX5_putEntry_23 t_143 gf_5_0.1 gf_5_0.2 (gc_5_0 _) ?_
  refine r_aload_n dX5_putEntry_26 rfl rfl ?_
  refine r_getC (k := 10) cl_1 dX5_putEntry_27 t_472 gf_1_10.1 gf_1_10.2 (gc_1_10 _) ?_
  refine r_iload dX5_putEntry_30 rfl ?_
  refine r_iconst (v := 2) dX5_putEntry_32 rfl ?_
  refine r_iadd dX5_putEntry_33 ?_
  refine r_iald dX5_putEntry_34 hm.1 ?_
  replace hm := hm.2
  refine r_iald dX5_putEntry_35 hm.1 ?_
  replace hm := hm.2
  refine r_nmI (fun x3 e_x3 => ?_)
  replace hm := hm x3 e_x3
  refine r_istore (L' := [some (tR 5 0 (some 14)), some (tR 1 0 (some v1)), some (tI v2), some (tI v3), some (tI x1), some (tI x2), some (tI x3)]) dX5_putEntry_36 (by decide) rfl ?_
  refine r_iload dX5_putEntry_38 rfl ?_
  refine r_iload dX5_putEntry_40 rfl ?_
  refine r_icmp_eq (tgt := 66) dX5_putEntry_42 rfl (fun hc => ?_) (fun hc => ?_)
  · replace hm := hm.1 hc
    refine r_iconst (v := 0) dX5_putEntry_66 rfl ?_
    exact r_ireturn dX5_putEntry_67 rfl ⟨by decide, by decide⟩ ⟨_, rfl, hm⟩
  · replace hm := hm.2 hc
    refine r_aload_n dX5_putEntry_45 rfl rfl ?_
    refine r_getC (k := 11) cl_1 dX5_putEntry_46 t_476 gf_1_11.1 gf_1_11.2 (gc_1_11 _) ?_
    refine r_iload_n dX5_putEntry_49 rfl rfl ?_
    refine r_lald dX5_putEntry_50 hm.1 ?_
    replace hm := hm.2
    refine r_lconst (v := 0) dX5_putEntry_51 rfl ?_
    refine r_lcmp dX5_putEntry_52 ?_
    refine r_if_eq (tgt := 66) dX5_putEntry_53 rfl (fun hc => ?_) (fun hc => ?_)
    · replace hm := hm.1 hc
      refine r_iconst (v := 0) dX5_putEntry_66 rfl ?_
      exact r_ireturn dX5_putEntry_67 rfl ⟨by decide, by decide⟩ ⟨_, rfl, hm⟩
    · replace hm := hm.2 hc
      refine r_aload_n dX5_putEntry_56 rfl rfl ?_
      refine r_getI (k := 3) cl_5 dX5_putEntry_57 t_146 (Or.inl rfl) gf_5_3 ?_
      refine r_sipush (v := 216) dX5_putEntry_60 rfl ?_
      refine r_icmp_lt (tgt := 68) dX5_putEntry_63 rfl (fun hc => ?_) (fun hc => ?_)
      · replace hm := hm.1 hc
        refine r_aload_n dX5_putEntry_68 rfl rfl ?_
        refine r_getI (k := 3) cl_5 dX5_putEntry_69 t_146 (Or.inl rfl) gf_5_3 ?_
        refine r_bipush (v := 6) dX5_putEntry_72 rfl ?_
        refine r_imul dX5_putEntry_74 ?_
        refine r_nmI (fun x4 e_x4 => ?_)
        replace hm := hm x4 e_x4
        refine r_istore (L' := [some (tR 5 0 (some 14)), some (tR 1 0 (some v1)), some (tI v2), some (tI v3), some (tI x1), some (tI x2), some (tI x3), some (tI x4)]) dX5_putEntry_75 (by decide) rfl ?_
        refine r_aload_n dX5_putEntry_77 rfl rfl ?_
        refine r_getC (k := 1) cl_5 dX5_putEntry_78 t_144 gf_5_1.1 gf_5_1.2 (gc_5_1 _) ?_
        refine r_iload dX5_putEntry_81 rfl ?_
        refine r_iconst (v := 0) dX5_putEntry_83 rfl ?_
        refine r_iadd dX5_putEntry_84 ?_
        refine r_aload_n dX5_putEntry_85 rfl rfl ?_
        refine r_getC (k := 10) cl_1 dX5_putEntry_86 t_472 gf_1_10.1 gf_1_10.2 (gc_1_10 _) ?_
        refine r_iload dX5_putEntry_89 rfl ?_
        refine r_iconst (v := 0) dX5_putEntry_91 rfl ?_
        refine r_iadd dX5_putEntry_92 ?_
        refine r_iald dX5_putEntry_93 hm.1 ?_
        replace hm := hm.2
        refine r_iast dX5_putEntry_94 hm.1 ?_
        replace hm := hm.2
        refine r_aload_n dX5_putEntry_95 rfl rfl ?_
        refine r_getC (k := 1) cl_5 dX5_putEntry_96 t_144 gf_5_1.1 gf_5_1.2 (gc_5_1 _) ?_
        refine r_iload dX5_putEntry_99 rfl ?_
        refine r_iconst (v := 1) dX5_putEntry_101 rfl ?_
        refine r_iadd dX5_putEntry_102 ?_
        refine r_iload dX5_putEntry_103 rfl ?_
        refine r_iast dX5_putEntry_105 hm.1 ?_
        replace hm := hm.2
        refine r_aload_n dX5_putEntry_106 rfl rfl ?_
        refine r_getC (k := 1) cl_5 dX5_putEntry_107 t_144 gf_5_1.1 gf_5_1.2 (gc_5_1 _) ?_
        refine r_iload dX5_putEntry_110 rfl ?_
        refine r_iconst (v := 2) dX5_putEntry_112 rfl ?_
        refine r_iadd dX5_putEntry_113 ?_
        refine r_iload dX5_putEntry_114 rfl ?_
        refine r_iast dX5_putEntry_116 hm.1 ?_
        replace hm := hm.2
        refine r_aload_n dX5_putEntry_117 rfl rfl ?_
        refine r_getC (k := 1) cl_5 dX5_putEntry_118 t_144 gf_5_1.1 gf_5_1.2 (gc_5_1 _) ?_
        refine r_iload dX5_putEntry_121 rfl ?_
        refine r_iconst (v := 3) dX5_putEntry_123 rfl ?_
        refine r_iadd dX5_putEntry_124 ?_
        refine r_aload_n dX5_putEntry_125 rfl rfl ?_
        refine r_getC (k := 10) cl_1 dX5_putEntry_126 t_472 gf_1_10.1 gf_1_10.2 (gc_1_10 _) ?_
        refine r_iload dX5_putEntry_129 rfl ?_
        refine r_iconst (v := 3) dX5_putEntry_131 rfl ?_
        refine r_iadd dX5_putEntry_132 ?_
        refine r_iald dX5_putEntry_133 hm.1 ?_
        replace hm := hm.2
        refine r_iast dX5_putEntry_134 hm.1 ?_
        replace hm := hm.2
        refine r_aload_n dX5_putEntry_135 rfl rfl ?_
        refine r_getC (k := 1) cl_5 dX5_putEntry_136 t_144 gf_5_1.1 gf_5_1.2 (gc_5_1 _) ?_
        refine r_iload dX5_putEntry_139 rfl ?_
        refine r_iconst (v := 4) dX5_putEntry_141 rfl ?_
        refine r_iadd dX5_putEntry_142 ?_
        refine r_aload_n dX5_putEntry_143 rfl rfl ?_
        refine r_getC (k := 10) cl_1 dX5_putEntry_144 t_472 gf_1_10.1 gf_1_10.2 (gc_1_10 _) ?_
        refine r_iload dX5_putEntry_147 rfl ?_
        refine r_iconst (v := 4) dX5_putEntry_149 rfl ?_
        refine r_iadd dX5_putEntry_150 ?_
        refine r_iald dX5_putEntry_151 hm.1 ?_
        replace hm := hm.2
        refine r_iload_n dX5_putEntry_152 rfl rfl ?_
        refine r_callSI (d' := d - 1) (as := [tI (hI (wI (wI (wI (wI h 15 (ix (x4 + 0)) (hI h (v1 + 2) (ix (x1 + 0)))) 15 (ix (x4 + 1)) x2) 15 (ix (x4 + 2)) x3) 15 (ix (x4 + 3)) (hI (wI (wI (wI h 15 (ix (x4 + 0)) (hI h (v1 + 2) (ix (x1 + 0)))) 15 (ix (x4 + 1)) x2) 15 (ix (x4 + 2)) x3) (v1 + 2) (ix (x1 + 3)))) (v1 + 2) (ix (x1 + 4))), tI v3]) (st := [tI (x4 + 4), tR 40 1296 (some 15)]) dX5_putEntry_153 mi_X5_bitsBehind t_989 t_990 rfl rfl (Nat.le_of_ble_eq_true rfl) (by omega) ⟨by decide, by decide⟩ ⟨rfl, rfl⟩ (s_X5_bitsBehind (by omega) hm) (fun x5 h6 hm => ?_)
        refine r_iast dX5_putEntry_156 hm.1 ?_
        replace hm := hm.2
        refine r_aload_n dX5_putEntry_157 rfl rfl ?_
        refine r_getC (k := 1) cl_5 dX5_putEntry_158 t_144 gf_5_1.1 gf_5_1.2 (gc_5_1 _) ?_
        refine r_iload dX5_putEntry_161 rfl ?_
        refine r_iconst (v := 5) dX5_putEntry_163 rfl ?_
        refine r_iadd dX5_putEntry_164 ?_
        refine r_aload_n dX5_putEntry_165 rfl rfl ?_
        refine r_getC (k := 10) cl_1 dX5_putEntry_166 t_472 gf_1_10.1 gf_1_10.2 (gc_1_10 _) ?_
        refine r_iload dX5_putEntry_169 rfl ?_
        refine r_iconst (v := 5) dX5_putEntry_171 rfl ?_
        refine r_iadd dX5_putEntry_172 ?_
        refine r_iald dX5_putEntry_173 hm.1 ?_
        replace hm := hm.2
        refine r_iload_n dX5_putEntry_174 rfl rfl ?_
        refine r_callSI (d' := d - 1) (as := [tI (hI (wI h6 15 (ix (x4 + 4)) x5) (v1 + 2) (ix (x1 + 5))), tI v3]) (st := [tI (x4 + 5), tR 40 1296 (some 15)]) dX5_putEntry_175 mi_X5_bitsBehind t_989 t_990 rfl rfl (Nat.le_of_ble_eq_true rfl) (by omega) ⟨by decide, by decide⟩ ⟨rfl, rfl⟩ (s_X5_bitsBehind (by omega) hm) (fun x7 h8 hm => ?_)
        refine r_iast dX5_putEntry_178 hm.1 ?_
        replace hm := hm.2
        refine r_aload_n dX5_putEntry_179 rfl rfl ?_
        refine r_dup dX5_putEntry_180 cv_cat1R ?_
        refine r_getI (k := 4) cl_5 dX5_putEntry_181 t_147 (Or.inl rfl) gf_5_4 ?_
        refine r_aload_n dX5_putEntry_184 rfl rfl ?_
        refine r_getC (k := 1) cl_5 dX5_putEntry_185 t_144 gf_5_1.1 gf_5_1.2 (gc_5_1 _) ?_
        refine r_iload dX5_putEntry_188 rfl ?_
        refine r_iconst (v := 4) dX5_putEntry_190 rfl ?_
        refine r_iadd dX5_putEntry_191 ?_
        refine r_iald dX5_putEntry_192 hm.1 ?_
        replace hm := hm.2
        refine r_ior dX5_putEntry_193 ?_
        refine r_putI0 (k := 4) cl_5 dX5_putEntry_194 t_147 (Or.inl rfl) gf_5_4 pf_5_4.1 (Or.inl pf_5_4.2) ?_
        refine r_aload_n dX5_putEntry_197 rfl rfl ?_
        refine r_getC (k := 2) cl_5 dX5_putEntry_198 t_145 gf_5_2.1 gf_5_2.2 (gc_5_2 _) ?_
        refine r_aload_n dX5_putEntry_201 rfl rfl ?_
        refine r_getI (k := 3) cl_5 dX5_putEntry_202 t_146 (Or.inl rfl) gf_5_3 ?_
        refine r_aload_n dX5_putEntry_205 rfl rfl ?_
        refine r_getC (k := 11) cl_1 dX5_putEntry_206 t_476 gf_1_11.1 gf_1_11.2 (gc_1_11 _) ?_
        refine r_iload_n dX5_putEntry_209 rfl rfl ?_
        refine r_lald dX5_putEntry_210 hm.1 ?_
        replace hm := hm.2
        refine r_last dX5_putEntry_211 hm.1 ?_
        replace hm := hm.2
        refine r_aload_n dX5_putEntry_212 rfl rfl ?_
        refine r_dup dX5_putEntry_213 cv_cat1R ?_
        refine r_getI (k := 3) cl_5 dX5_putEntry_214 t_146 (Or.inl rfl) gf_5_3 ?_
        refine r_iconst (v := 1) dX5_putEntry_217 rfl ?_
        refine r_iadd dX5_putEntry_218 ?_
        refine r_putI0 (k := 3) cl_5 dX5_putEntry_219 t_146 (Or.inl rfl) gf_5_3 pf_5_3.1 (Or.inl pf_5_3.2) ?_
        refine r_iconst (v := 1) dX5_putEntry_222 rfl ?_
        refine r_iload dX5_putEntry_223 rfl ?_
        refine r_ishl dX5_putEntry_225 ?_
        refine r_iconst (v := 1) dX5_putEntry_226 rfl ?_
        refine r_iload dX5_putEntry_227 rfl ?_
        refine r_ishl dX5_putEntry_229 ?_
        refine r_ior dX5_putEntry_230 ?_
        exact r_ireturn dX5_putEntry_231 rfl ⟨by decide, by decide⟩ ⟨_, rfl, hm⟩
      · replace hm := hm.2 hc
        refine r_iconst (v := 0) dX5_putEntry_66 rfl ?_
        exact r_ireturn dX5_putEntry_67 rfl ⟨by decide, by decide⟩ ⟨_, rfl, hm⟩
theorem dX5_take_0 : decode cX5_take 0 = .ok (.aload_n 0, 1) := by decide +kernel
theorem dX5_take_1 : decode cX5_take 1 = .ok (.iconst 0, 1) := by decide +kernel
theorem dX5_take_2 : decode cX5_take 2 = .ok (.putfield 129, 3) := by decide +kernel
theorem dX5_take_5 : decode cX5_take 5 = .ok (.aload_n 0, 1) := by decide +kernel
theorem dX5_take_6 : decode cX5_take 6 = .ok (.iconst 0, 1) := by decide +kernel
theorem dX5_take_7 : decode cX5_take 7 = .ok (.putfield 111, 3) := by decide +kernel
theorem dX5_take_10 : decode cX5_take 10 = .ok (.iconst 0, 1) := by decide +kernel
theorem dX5_take_11 : decode cX5_take 11 = .ok (.istore_n 2, 1) := by decide +kernel
theorem dX5_take_12 : decode cX5_take 12 = .ok (.aload_n 0, 1) := by decide +kernel
theorem dX5_take_13 : decode cX5_take 13 = .ok (.getfield 22, 3) := by decide +kernel
theorem dX5_take_16 : decode cX5_take 16 = .ok (.iconst 0, 1) := by decide +kernel
theorem dX5_take_17 : decode cX5_take 17 = .ok (.invokestatic 105, 3) := by decide +kernel
theorem dX5_take_20 : decode cX5_take 20 = .ok (.iconst 0, 1) := by decide +kernel
theorem dX5_take_21 : decode cX5_take 21 = .ok (.istore_n 3, 1) := by decide +kernel
theorem dX5_take_22 : decode cX5_take 22 = .ok (.iload_n 3, 1) := by decide +kernel
theorem dX5_take_23 : decode cX5_take 23 = .ok (.sipush 216, 3) := by decide +kernel
theorem dX5_take_26 : decode cX5_take 26 = .ok (.if_icmp .ge 73, 3) := by decide +kernel
theorem dX5_take_29 : decode cX5_take 29 = .ok (.aload_n 0, 1) := by decide +kernel
theorem dX5_take_30 : decode cX5_take 30 = .ok (.aload_n 1, 1) := by decide +kernel
theorem dX5_take_31 : decode cX5_take 31 = .ok (.invokevirtual 132, 3) := by decide +kernel
theorem dX5_take_34 : decode cX5_take 34 = .ok (.istore 4, 2) := by decide +kernel
theorem dX5_take_36 : decode cX5_take 36 = .ok (.iload 4, 2) := by decide +kernel
theorem dX5_take_38 : decode cX5_take 38 = .ok (.iconst (-1), 1) := by decide +kernel
theorem dX5_take_39 : decode cX5_take 39 = .ok (.if_icmp .ne 6, 3) := by decide +kernel
theorem dX5_take_42 : decode cX5_take 42 = .ok (.goto 57, 3) := by decide +kernel
theorem dX5_take_45 : decode cX5_take 45 = .ok (.aload_n 1, 1) := by decide +kernel
theorem dX5_take_46 : decode cX5_take 46 = .ok (.getfield 55, 3) := by decide +kernel
theorem dX5_take_49 : decode cX5_take 49 = .ok (.iload 4, 2) := by decide +kernel
theorem dX5_take_51 : decode cX5_take 51 = .ok (.aaload, 1) := by decide +kernel
theorem dX5_take_52 : decode cX5_take 52 = .ok (.astore 5, 2) := by decide +kernel
theorem dX5_take_54 : decode cX5_take 54 = .ok (.iload_n 2, 1) := by decide +kernel
theorem dX5_take_55 : decode cX5_take 55 = .ok (.aload_n 0, 1) := by decide +kernel
theorem dX5_take_56 : decode cX5_take 56 = .ok (.aload 5, 2) := by decide +kernel
theorem dX5_take_58 : decode cX5_take 58 = .ok (.aload 5, 2) := by decide +kernel
theorem dX5_take_60 : decode cX5_take 60 = .ok (.getfield 136, 3) := by decide +kernel
theorem dX5_take_63 : decode cX5_take 63 = .ok (.aload_n 0, 1) := by decide +kernel
theorem dX5_take_64 : decode cX5_take 64 = .ok (.getfield 22, 3) := by decide +kernel
theorem dX5_take_67 : decode cX5_take 67 = .ok (.iload 4, 2) := by decide +kernel
theorem dX5_take_69 : decode cX5_take 69 = .ok (.iaload, 1) := by decide +kernel
theorem dX5_take_70 : decode cX5_take 70 = .ok (.iaload, 1) := by decide +kernel
theorem dX5_take_71 : decode cX5_take 71 = .ok (.aload_n 1, 1) := by decide +kernel
theorem dX5_take_72 : decode cX5_take 72 = .ok (.iload 4, 2) := by decide +kernel
theorem dX5_take_74 : decode cX5_take 74 = .ok (.invokevirtual 139, 3) := by decide +kernel
theorem dX5_take_77 : decode cX5_take 77 = .ok (.invokevirtual 142, 3) := by decide +kernel
theorem dX5_take_80 : decode cX5_take 80 = .ok (.ior, 1) := by decide +kernel
theorem dX5_take_81 : decode cX5_take 81 = .ok (.istore_n 2, 1) := by decide +kernel
theorem dX5_take_82 : decode cX5_take 82 = .ok (.aload_n 0, 1) := by decide +kernel
theorem dX5_take_83 : decode cX5_take 83 = .ok (.getfield 22, 3) := by decide +kernel
theorem dX5_take_86 : decode cX5_take 86 = .ok (.iload 4, 2) := by decide +kernel
theorem dX5_take_88 : decode cX5_take 88 = .ok (.dup2, 1) := by decide +kernel
theorem dX5_take_89 : decode cX5_take 89 = .ok (.iaload, 1) := by decide +kernel
theorem dX5_take_90 : decode cX5_take 90 = .ok (.iconst 1, 1) := by decide +kernel
theorem dX5_take_91 : decode cX5_take 91 = .ok (.iadd, 1) := by decide +kernel
theorem dX5_take_92 : decode cX5_take 92 = .ok (.iastore, 1) := by decide +kernel
theorem dX5_take_93 : decode cX5_take 93 = .ok (.iinc 3 1, 3) := by decide +kernel
theorem dX5_take_96 : decode cX5_take 96 = .ok (.goto (-74), 3) := by decide +kernel
theorem dX5_take_99 : decode cX5_take 99 = .ok (.aload_n 0, 1) := by decide +kernel
theorem dX5_take_100 : decode cX5_take 100 = .ok (.iconst 0, 1) := by decide +kernel
theorem dX5_take_101 : decode cX5_take 101 = .ok (.putfield 108, 3) := by decide +kernel
theorem dX5_take_104 : decode cX5_take 104 = .ok (.iconst 0, 1) := by decide +kernel
theorem dX5_take_105 : decode cX5_take 105 = .ok (.istore_n 3, 1) := by decide +kernel
theorem dX5_take_106 : decode cX5_take 106 = .ok (.iload_n 3, 1) := by decide +kernel
theorem dX5_take_107 : decode cX5_take 107 = .ok (.bipush 8, 2) := by decide +kernel
theorem dX5_take_109 : decode cX5_take 109 = .ok (.if_icmp .ge 38, 3) := by decide +kernel
theorem dX5_take_112 : decode cX5_take 112 = .ok (.iload_n 2, 1) := by decide +kernel
theorem dX5_take_113 : decode cX5_take 113 = .ok (.iload_n 3, 1) := by decide +kernel
theorem dX5_take_114 : decode cX5_take 114 = .ok (.ishr, 1) := by decide +kernel
theorem dX5_take_115 : decode cX5_take 115 = .ok (.iconst 1, 1) := by decide +kernel
theorem dX5_take_116 : decode cX5_take 116 = .ok (.iand, 1) := by decide +kernel
theorem dX5_take_117 : decode cX5_take 117 = .ok (.iconst 1, 1) := by decide +kernel
theorem dX5_take_118 : decode cX5_take 118 = .ok (.if_icmp .ne 23, 3) := by decide +kernel
theorem dX5_take_121 : decode cX5_take 121 = .ok (.aload_n 0, 1) := by decide +kernel
theorem dX5_take_122 : decode cX5_take 122 = .ok (.getfield 19, 3) := by decide +kernel
theorem dX5_take_125 : decode cX5_take 125 = .ok (.aload_n 0, 1) := by decide +kernel
theorem dX5_take_126 : decode cX5_take 126 = .ok (.getfield 108, 3) := by decide +kernel
theorem dX5_take_129 : decode cX5_take 129 = .ok (.iload_n 3, 1) := by decide +kernel
theorem dX5_take_130 : decode cX5_take 130 = .ok (.iastore, 1) := by decide +kernel
theorem dX5_take_131 : decode cX5_take 131 = .ok (.aload_n 0, 1) := by decide +kernel
theorem dX5_take_132 : decode cX5_take 132 = .ok (.dup, 1) := by decide +kernel
theorem dX5_take_133 : decode cX5_take 133 = .ok (.getfield 108, 3) := by decide +kernel
theorem dX5_take_136 : decode cX5_take 136 = .ok (.iconst 1, 1) := by decide +kernel
theorem dX5_take_137 : decode cX5_take 137 = .ok (.iadd, 1) := by decide +kernel
theorem dX5_take_138 : decode cX5_take 138 = .ok (.putfield 108, 3) := by decide +kernel
theorem dX5_take_141 : decode cX5_take 141 = .ok (.iinc 3 1, 3) := by decide +kernel
theorem dX5_take_144 : decode cX5_take 144 = .ok (.goto (-38), 3) := by decide +kernel
theorem dX5_take_147 : decode cX5_take 147 = .ok (.return_, 1) := by decide +kernel
def m_X5_take_141 (k106 : Int32 → Int32 → Hp → Prop) (Q : Hp → Prop) (v2 : Int32) (v3 : Int32) (h : Hp) : Prop := ∀ x1 : Int32, x1 = v3 + 1 → k106 v2 x1 h
set_option maxHeartbeats 4000000 in
set_option maxRecDepth 100000 in
theorem s_X5_take_141 {l : Launch} {G : Cx} {d : Nat} {h0 : Hp} (hd : 6 ≤ d) {k106 : Int32 → Int32 → Hp → Prop} {Q : Hp → Prop} (hk106 : ∀ (v2 : Int32) (v3 : Int32) (hh : Hp), k106 v2 v3 hh → Rn l G d 0 0 MX5_take h0 (qV Q) 106 [some (tR 5 0 (some 14)), none, some (tI v2), some (tI v3)] [] hh 0 0) {v2 : Int32} {v3 : Int32} {h : Hp} (hm : m_X5_take_141 k106 Q v2 v3 h) : Rn l G d 0 0 MX5_take h0 (qV Q) 141 [some (tR 5 0 (some 14)), none, some (tI v2), some (tI v3)] [] h 0 0 := by
  unfold m_X5_take_141 at hm
  obtain ⟨x1, e_x1⟩ : ∃ y : Int32, y = v3 + 1 := ⟨_, rfl⟩
  replace hm := hm x1 e_x1
  refine r_iinc (L' := [some (tR 5 0 (some 14)), none, some (tI v2), some (tI x1)]) dX5_take_141 rfl (by rw [e_x1]; rfl) (by decide) rfl ?_
  refine r_goto (tgt := 106) dX5_take_144 rfl ?_
  refine r_keep (L' := [some (tR 5 0 (some 14)), none, some (tI v2), some (tI x1)]) [true, false, true, true] rfl ?_
  exact hk106 _ _ _ hm
def m_X5_take_106 : Nat → (Hp → Prop) → Int32 → Int32 → Hp → Prop
  | 0, _, _, _, _ => False
  | n + 1, Q, v2, v3, h => (8 ≤ v3 → Q h) ∧ (¬ 8 ≤ v3 → (¬ ((v2 >>> (v3 &&& 31)) &&& 1) = 1 → m_X5_take_141 (fun (v2 : Int32) (v3 : Int32) (hh : Hp) => m_X5_take_106 n Q v2 v3 hh) Q v2 v3 h) ∧ (((v2 >>> (v3 &&& 31)) &&& 1) = 1 → vp_in (hI h 14 6) 8 ∧ (m_X5_take_141 (fun (v2 : Int32) (v3 : Int32) (hh : Hp) => m_X5_take_106 n Q v2 v3 hh) Q v2 v3 (wI (wI h 17 (ix (hI h 14 6)) v3) 14 6 ((hI (wI h 17 (ix (hI h 14 6)) v3) 14 6) + 1)))))
set_option maxHeartbeats 4000000 in
set_option maxRecDepth 100000 in
theorem s_X5_take_106 {l : Launch} {G : Cx} {d : Nat} {h0 : Hp} (hd : 6 ≤ d) {Q : Hp → Prop} : ∀ {n : Nat} {v2 : Int32} {v3 : Int32} {h : Hp}, m_X5_take_106 n Q v2 v3 h → Rn l G d 0 0 MX5_take h0 (qV Q) 106 [some (tR 5 0 (some 14)), none, some (tI v2), some (tI v3)] [] h 0 0 := by
  intro n
  induction n with
  | zero => intro v2 v3 h hm; exact hm.elim
  | succ n ih =>
    intro v2 v3 h hm
    have hk106 := fun (v2 : Int32) (v3 : Int32) (hh : Hp) (hm : m_X5_take_106 n Q v2 v3 hh) => ih hm
    rw [m_X5_take_106] at hm
    refine r_iload_n dX5_take_106 rfl rfl ?_
    refine r_bipush (v := 8) dX5_take_107 rfl ?_
    refine r_icmp_ge (tgt := 147) dX5_take_109 rfl (fun hc => ?_) (fun hc => ?_)
    · replace hm := hm.1 hc
      exact r_return dX5_take_147 rfl ⟨by decide, by decide⟩ ⟨rfl, hm⟩
    · replace hm := hm.2 hc
      refine r_iload_n dX5_take_112 rfl rfl ?_
      refine r_iload_n dX5_take_113 rfl rfl ?_
      refine r_ishr dX5_take_114 ?_
      refine r_iconst (v := 1) dX5_take_115 rfl ?_
      refine r_iand dX5_take_116 ?_
      refine r_iconst (v := 1) dX5_take_117 rfl ?_
      refine r_icmp_ne (tgt := 141) dX5_take_118 rfl (fun hc => ?_) (fun hc => ?_)
      · replace hm := hm.1 hc
        refine r_keep (L' := [some (tR 5 0 (some 14)), none, some (tI v2), some (tI v3)]) [true, false, true, true] rfl ?_
        exact s_X5_take_141 hd hk106 hm
      · replace hm := hm.2 hc
        refine r_aload_n dX5_take_121 rfl rfl ?_
        refine r_getC (k := 5) cl_5 dX5_take_122 t_148 gf_5_5.1 gf_5_5.2 (gc_5_5 _) ?_
        refine r_aload_n dX5_take_125 rfl rfl ?_
        refine r_getI (k := 6) cl_5 dX5_take_126 t_149 (Or.inl rfl) gf_5_6 ?_
        refine r_iload_n dX5_take_129 rfl rfl ?_
        refine r_iast dX5_take_130 hm.1 ?_
        replace hm := hm.2
        refine r_aload_n dX5_take_131 rfl rfl ?_
        refine r_dup dX5_take_132 cv_cat1R ?_
        refine r_getI (k := 6) cl_5 dX5_take_133 t_149 (Or.inl rfl) gf_5_6 ?_
        refine r_iconst (v := 1) dX5_take_136 rfl ?_
        refine r_iadd dX5_take_137 ?_
        refine r_putI0 (k := 6) cl_5 dX5_take_138 t_149 (Or.inl rfl) gf_5_6 pf_5_6.1 (Or.inl pf_5_6.2) ?_
        refine r_keep (L' := [some (tR 5 0 (some 14)), none, some (tI v2), some (tI v3)]) [true, false, true, true] rfl ?_
        exact s_X5_take_141 hd hk106 hm
def m_X5_take_99  (Q : Hp → Prop) (v2 : Int32) (h : Hp) : Prop := ∃ n106, m_X5_take_106 n106 Q v2 0 (wI h 14 6 0)
set_option maxHeartbeats 4000000 in
set_option maxRecDepth 100000 in
theorem s_X5_take_99 {l : Launch} {G : Cx} {d : Nat} {h0 : Hp} (hd : 6 ≤ d) {Q : Hp → Prop} {v2 : Int32} {h : Hp} (hm : m_X5_take_99 Q v2 h) : Rn l G d 0 0 MX5_take h0 (qV Q) 99 [some (tR 5 0 (some 14)), none, some (tI v2)] [] h 0 0 := by
  unfold m_X5_take_99 at hm
  refine r_aload_n dX5_take_99 rfl rfl ?_
  refine r_iconst (v := 0) dX5_take_100 rfl ?_
  refine r_putI0 (k := 6) cl_5 dX5_take_101 t_149 (Or.inl rfl) gf_5_6 pf_5_6.1 (Or.inl pf_5_6.2) ?_
  refine r_iconst (v := 0) dX5_take_104 rfl ?_
  refine r_istore_n (L' := [some (tR 5 0 (some 14)), none, some (tI v2), some (tI 0)]) dX5_take_105 rfl (by decide) rfl ?_
  refine r_keep (L' := [some (tR 5 0 (some 14)), none, some (tI v2), some (tI 0)]) [true, false, true, true] rfl ?_
  obtain ⟨n, hm⟩ := hm
  refine s_X5_take_106 hd hm
def m_X5_take_42  (Q : Hp → Prop) (v2 : Int32) (h : Hp) : Prop := m_X5_take_99 Q v2 h
set_option maxHeartbeats 4000000 in
set_option maxRecDepth 100000 in
theorem s_X5_take_42 {l : Launch} {G : Cx} {d : Nat} {h0 : Hp} (hd : 6 ≤ d) {Q : Hp → Prop} {v2 : Int32} {h : Hp} (hm : m_X5_take_42 Q v2 h) : Rn l G d 0 0 MX5_take h0 (qV Q) 42 [some (tR 5 0 (some 14)), none, some (tI v2)] [] h 0 0 := by
  unfold m_X5_take_42 at hm
  refine r_goto (tgt := 99) dX5_take_42 rfl ?_
  refine r_keep (L' := [some (tR 5 0 (some 14)), none, some (tI v2)]) [true, false, true] rfl ?_
  exact s_X5_take_99 hd hm
def m_X5_take_22 : Nat → (Int32 → Hp → Prop) → (Int32 → Hp → Prop) → (Hp → Prop) → Nat → Int32 → Int32 → Hp → Prop
  | 0, _, _, _, _, _, _, _ => False
  | n + 1, k42, k99, Q, v1, v2, v3, h => (216 ≤ v3 → k99 v2 h) ∧ (¬ 216 ≤ v3 → m_X5_earliestHead v1 h (fun (x2 : Int32) (h3 : Hp) => (¬ x2 = (-1) → vp_in x2 6 ∧ ∃ b4 : Nat, hR h3 (v1 + 1) (ix x2) = some b4 ∧ (vp_in x2 6 ∧ (vp_in (hI h3 18 (ix x2)) 36 ∧ (m_X0_choicesBefore v1 x2 h3 (fun (x5 : Int32) (h6 : Hp) => m_X5_putEntry b4 (hI h3 (b4 + 4) (ix (hI h3 18 (ix x2)))) x5 h6 (fun (x7 : Int32) (h8 : Hp) => ∀ x9 : Int32, x9 = (v2 ||| x7) → vp_in x2 6 ∧ (vp_in x2 6 ∧ (∀ x10 : Int32, x10 = v3 + 1 → m_X5_take_22 n k42 k99 Q v1 x9 x10 (wI h8 18 (ix x2) ((hI h8 18 (ix x2)) + 1)))))))))) ∧ (x2 = (-1) → k42 v2 h3)))
set_option maxHeartbeats 4000000 in
set_option maxRecDepth 100000 in
theorem s_X5_take_22 {l : Launch} {G : Cx} {d : Nat} {h0 : Hp} (hd : 6 ≤ d) {k42 : Int32 → Hp → Prop} {k99 : Int32 → Hp → Prop} {Q : Hp → Prop} (hk42 : ∀ (v2 : Int32) (hh : Hp), k42 v2 hh → Rn l G d 0 0 MX5_take h0 (qV Q) 42 [some (tR 5 0 (some 14)), none, some (tI v2)] [] hh 0 0) (hk99 : ∀ (v2 : Int32) (hh : Hp), k99 v2 hh → Rn l G d 0 0 MX5_take h0 (qV Q) 99 [some (tR 5 0 (some 14)), none, some (tI v2)] [] hh 0 0) : ∀ {n : Nat} {v1 : Nat} {v2 : Int32} {v3 : Int32} {h : Hp}, m_X5_take_22 n k42 k99 Q v1 v2 v3 h → Rn l G d 0 0 MX5_take h0 (qV Q) 22 [some (tR 5 0 (some 14)), some (tR 0 0 (some v1)), some (tI v2), some (tI v3)] [] h 0 0 := by
  intro n
  induction n with
  | zero => intro v1 v2 v3 h hm; exact hm.elim
  | succ n ih =>
    intro v1 v2 v3 h hm
    have hk22 := fun (v1 : Nat) (v2 : Int32) (v3 : Int32) (hh : Hp) (hm : m_X5_take_22 n k42 k99 Q v1 v2 v3 hh) => ih hm
    rw [m_X5_take_22] at hm
    refine r_iload_n dX5_take_22 rfl rfl ?_
    refine r_sipush (v := 216) dX5_take_23 rfl ?_
    refine r_icmp_ge (tgt := 99) dX5_take_26 rfl (fun hc => ?_) (fun hc => ?_)
    · replace hm := hm.1 hc
      refine r_keep (L' := [some (tR 5 0 (some 14)), none, some (tI v2)]) [true, false, true] rfl ?_
      exact hk99 _ _ hm
    · replace hm := hm.2 hc
      refine r_aload_n dX5_take_29 rfl rfl ?_
      refine r_aload_n dX5_take_30 rfl rfl ?_
      refine r_callVI (d' := d - 1) (as := [tR 0 0 (some v1)]) (st := []) cl_5 dX5_take_31 mi_X5_earliestHead t_980 t_982 ts_31 rfl rfl (Nat.le_of_ble_eq_true rfl) (by omega) ⟨by decide, by decide⟩ ⟨rfl, rfl⟩ (s_X5_earliestHead (by omega) hm) (fun x2 h3 hm => ?_)
      refine r_istore (L' := [some (tR 5 0 (some 14)), some (tR 0 0 (some v1)), some (tI v2), some (tI v3), some (tI x2)]) dX5_take_34 (by decide) rfl ?_
      refine r_iload dX5_take_36 rfl ?_
      refine r_iconst (v := (-1)) dX5_take_38 rfl ?_
      refine r_icmp_ne (tgt := 45) dX5_take_39 rfl (fun hc => ?_) (fun hc => ?_)
      · replace hm := hm.1 hc
        refine r_aload_n dX5_take_45 rfl rfl ?_
        refine r_getC (k := 0) cl_0 dX5_take_46 t_123 gf_0_0.1 gf_0_0.2 (gc_0_0 _) ?_
        refine r_iload dX5_take_49 rfl ?_
        obtain ⟨hi_b4, b4, hb_b4, hm⟩ := hm
        refine r_aaldS (kd := 1) (ti := 5) (cn := RX1) dX5_take_51 rfl hi_b4 hb_b4 ?_
        refine r_astore (L' := [some (tR 5 0 (some 14)), some (tR 0 0 (some v1)), some (tI v2), some (tI v3), some (tI x2), some (tR 1 0 (some b4))]) dX5_take_52 (by decide) rfl ?_
        refine r_iload_n dX5_take_54 rfl rfl ?_
        refine r_aload_n dX5_take_55 rfl rfl ?_
        refine r_aload dX5_take_56 rfl ?_
        refine r_aload dX5_take_58 rfl ?_
        refine r_getC (k := 12) cl_1 dX5_take_60 t_480 gf_1_12.1 gf_1_12.2 (gc_1_12 _) ?_
        refine r_aload_n dX5_take_63 rfl rfl ?_
        refine r_getC (k := 7) cl_5 dX5_take_64 t_150 gf_5_7.1 gf_5_7.2 (gc_5_7 _) ?_
        refine r_iload dX5_take_67 rfl ?_
        refine r_iald dX5_take_69 hm.1 ?_
        replace hm := hm.2
        refine r_iald dX5_take_70 hm.1 ?_
        replace hm := hm.2
        refine r_aload_n dX5_take_71 rfl rfl ?_
        refine r_iload dX5_take_72 rfl ?_
        refine r_callVI (d' := d - 1) (as := [tI x2]) (st := [tI (hI h3 (b4 + 4) (ix (hI h3 18 (ix x2)))), tR 1 0 (some b4), tR 5 0 (some 14), tI v2]) cl_0 dX5_take_74 mi_X0_choicesBefore t_984 t_911 t_912 rfl rfl (Nat.le_of_ble_eq_true rfl) (by omega) ⟨by decide, by decide⟩ ⟨rfl, rfl⟩ (s_X0_choicesBefore (by omega) hm) (fun x5 h6 hm => ?_)
        refine r_callVI (d' := d - 1) (as := [tR 1 0 (some b4), tI (hI h3 (b4 + 4) (ix (hI h3 18 (ix x2)))), tI x5]) (st := [tI v2]) cl_5 dX5_take_77 mi_X5_putEntry t_985 t_987 ts_32 rfl rfl (Nat.le_of_ble_eq_true rfl) (by omega) ⟨by decide, by decide⟩ ⟨rfl, rfl⟩ (s_X5_putEntry (by omega) hm) (fun x7 h8 hm => ?_)
        refine r_ior dX5_take_80 ?_
        refine r_nmI (fun x9 e_x9 => ?_)
        replace hm := hm x9 e_x9
        refine r_istore_n (L' := [some (tR 5 0 (some 14)), some (tR 0 0 (some v1)), some (tI x9), some (tI v3), some (tI x2), some (tR 1 0 (some b4))]) dX5_take_81 rfl (by decide) rfl ?_
        refine r_aload_n dX5_take_82 rfl rfl ?_
        refine r_getC (k := 7) cl_5 dX5_take_83 t_150 gf_5_7.1 gf_5_7.2 (gc_5_7 _) ?_
        refine r_iload dX5_take_86 rfl ?_
        refine r_dup2 dX5_take_88 rfl cv_cat1R ?_
        refine r_iald dX5_take_89 hm.1 ?_
        replace hm := hm.2
        refine r_iconst (v := 1) dX5_take_90 rfl ?_
        refine r_iadd dX5_take_91 ?_
        refine r_iast dX5_take_92 hm.1 ?_
        replace hm := hm.2
        obtain ⟨x10, e_x10⟩ : ∃ y : Int32, y = v3 + 1 := ⟨_, rfl⟩
        replace hm := hm x10 e_x10
        refine r_iinc (L' := [some (tR 5 0 (some 14)), some (tR 0 0 (some v1)), some (tI x9), some (tI x10), some (tI x2), some (tR 1 0 (some b4))]) dX5_take_93 rfl (by rw [e_x10]; rfl) (by decide) rfl ?_
        refine r_goto (tgt := 22) dX5_take_96 rfl ?_
        refine r_keep (L' := [some (tR 5 0 (some 14)), some (tR 0 0 (some v1)), some (tI x9), some (tI x10)]) [true, true, true, true] rfl ?_
        exact hk22 _ _ _ _ hm
      · replace hm := hm.2 hc
        refine r_keep (L' := [some (tR 5 0 (some 14)), none, some (tI v2)]) [true, false, true] rfl ?_
        exact hk42 _ _ hm
def m_X5_take (v1 : Nat) (h : Hp) (Q : Hp → Prop) : Prop := m_J7_fill_53178 18 6 0 (wI (wI h 14 3 0) 14 4 0) (fun (h12 : Hp) => ∃ n22, m_X5_take_22 n22 (m_X5_take_42 Q) (m_X5_take_99 Q) Q v1 0 0 h12)
set_option maxHeartbeats 4000000 in
set_option maxRecDepth 100000 in
theorem s_X5_take {l : Launch} {G : Cx} {d : Nat} (hd : 6 ≤ d) {v1 : Nat} {h : Hp} {Q : Hp → Prop} (hm : m_X5_take v1 h Q) : Ct l G d 0 0 yX5_take MX5_take [tR 5 0 (some 14), tR 0 0 (some v1)] h (qV Q) := by
  unfold m_X5_take at hm
  refine Ct.of (L := [some (tR 5 0 (some 14)), some (tR 0 0 (some v1))]) (by decide) rfl rfl (Nat.le_of_ble_eq_true rfl) rfl ?_
  refine r_aload_n dX5_take_0 rfl rfl ?_
  refine r_iconst (v := 0) dX5_take_1 rfl ?_
  refine r_putI0 (k := 3) cl_5 dX5_take_2 t_146 (Or.inl rfl) gf_5_3 pf_5_3.1 (Or.inl pf_5_3.2) ?_
  refine r_aload_n dX5_take_5 rfl rfl ?_
  refine r_iconst (v := 0) dX5_take_6 rfl ?_
  refine r_putI0 (k := 4) cl_5 dX5_take_7 t_147 (Or.inl rfl) gf_5_4 pf_5_4.1 (Or.inl pf_5_4.2) ?_
  refine r_iconst (v := 0) dX5_take_10 rfl ?_
  refine r_istore_n (L' := [some (tR 5 0 (some 14)), some (tR 0 0 (some v1)), some (tI 0)]) dX5_take_11 rfl (by decide) rfl ?_
  refine r_aload_n dX5_take_12 rfl rfl ?_
  refine r_getC (k := 7) cl_5 dX5_take_13 t_150 gf_5_7.1 gf_5_7.2 (gc_5_7 _) ?_
  refine r_iconst (v := 0) dX5_take_16 rfl ?_
  refine r_callSU (d' := d - 1) (as := [tR 40 6 (some 18), tI 0]) (st := []) dX5_take_17 mi_J7_fill_53178 t_979 t_413 rfl rfl (Nat.le_of_ble_eq_true rfl) (by omega) ⟨by decide, by decide⟩ ⟨rfl, rfl⟩ (s_J7_fill_53178 (by omega) hm) (fun h12 hm => ?_)
  refine r_iconst (v := 0) dX5_take_20 rfl ?_
  refine r_istore_n (L' := [some (tR 5 0 (some 14)), some (tR 0 0 (some v1)), some (tI 0), some (tI 0)]) dX5_take_21 rfl (by decide) rfl ?_
  refine r_keep (L' := [some (tR 5 0 (some 14)), some (tR 0 0 (some v1)), some (tI 0), some (tI 0)]) [true, true, true, true] rfl ?_
  obtain ⟨n, hm⟩ := hm
  refine s_X5_take_22 hd ?_ ?_ hm
  · exact (fun _ _ hm => s_X5_take_42 hd hm)
  · exact (fun _ _ hm => s_X5_take_99 hd hm)
theorem dX5_book_0 : decode cX5_book 0 = .ok (.iconst 1, 1) := by decide +kernel
theorem dX5_book_1 : decode cX5_book 1 = .ok (.iload_n 1, 1) := by decide +kernel
theorem dX5_book_2 : decode cX5_book 2 = .ok (.ishl, 1) := by decide +kernel
theorem dX5_book_3 : decode cX5_book 3 = .ok (.istore 4, 2) := by decide +kernel
theorem dX5_book_5 : decode cX5_book 5 = .ok (.aload_n 0, 1) := by decide +kernel
theorem dX5_book_6 : decode cX5_book 6 = .ok (.getfield 37, 3) := by decide +kernel
theorem dX5_book_9 : decode cX5_book 9 = .ok (.iload_n 1, 1) := by decide +kernel
theorem dX5_book_10 : decode cX5_book 10 = .ok (.laload, 1) := by decide +kernel
theorem dX5_book_11 : decode cX5_book 11 = .ok (.lstore 5, 2) := by decide +kernel
theorem dX5_book_13 : decode cX5_book 13 = .ok (.aload_n 0, 1) := by decide +kernel
theorem dX5_book_14 : decode cX5_book 14 = .ok (.getfield 37, 3) := by decide +kernel
theorem dX5_book_17 : decode cX5_book 17 = .ok (.iload_n 1, 1) := by decide +kernel
theorem dX5_book_18 : decode cX5_book 18 = .ok (.lconst 0, 1) := by decide +kernel
theorem dX5_book_19 : decode cX5_book 19 = .ok (.lastore, 1) := by decide +kernel
theorem dX5_book_20 : decode cX5_book 20 = .ok (.aload_n 0, 1) := by decide +kernel
theorem dX5_book_21 : decode cX5_book 21 = .ok (.getfield 149, 3) := by decide +kernel
theorem dX5_book_24 : decode cX5_book 24 = .ok (.iload 4, 2) := by decide +kernel
theorem dX5_book_26 : decode cX5_book 26 = .ok (.iand, 1) := by decide +kernel
theorem dX5_book_27 : decode cX5_book 27 = .ok (.ifCond .ne 42, 3) := by decide +kernel
theorem dX5_book_30 : decode cX5_book 30 = .ok (.aload_n 0, 1) := by decide +kernel
theorem dX5_book_31 : decode cX5_book 31 = .ok (.dup, 1) := by decide +kernel
theorem dX5_book_32 : decode cX5_book 32 = .ok (.getfield 149, 3) := by decide +kernel
theorem dX5_book_35 : decode cX5_book 35 = .ok (.iload 4, 2) := by decide +kernel
theorem dX5_book_37 : decode cX5_book 37 = .ok (.ior, 1) := by decide +kernel
theorem dX5_book_38 : decode cX5_book 38 = .ok (.putfield 149, 3) := by decide +kernel
theorem dX5_book_41 : decode cX5_book 41 = .ok (.aload_n 0, 1) := by decide +kernel
theorem dX5_book_42 : decode cX5_book 42 = .ok (.getfield 43, 3) := by decide +kernel
theorem dX5_book_45 : decode cX5_book 45 = .ok (.iload_n 1, 1) := by decide +kernel
theorem dX5_book_46 : decode cX5_book 46 = .ok (.iload_n 3, 1) := by decide +kernel
theorem dX5_book_47 : decode cX5_book 47 = .ok (.iastore, 1) := by decide +kernel
theorem dX5_book_48 : decode cX5_book 48 = .ok (.lload 5, 2) := by decide +kernel
theorem dX5_book_50 : decode cX5_book 50 = .ok (.lconst 0, 1) := by decide +kernel
theorem dX5_book_51 : decode cX5_book 51 = .ok (.lcmp, 1) := by decide +kernel
theorem dX5_book_52 : decode cX5_book 52 = .ok (.ifCond .le 53, 3) := by decide +kernel
theorem dX5_book_55 : decode cX5_book 55 = .ok (.aload_n 0, 1) := by decide +kernel
theorem dX5_book_56 : decode cX5_book 56 = .ok (.dup, 1) := by decide +kernel
theorem dX5_book_57 : decode cX5_book 57 = .ok (.getfield 155, 3) := by decide +kernel
theorem dX5_book_60 : decode cX5_book 60 = .ok (.iload 4, 2) := by decide +kernel
theorem dX5_book_62 : decode cX5_book 62 = .ok (.ior, 1) := by decide +kernel
theorem dX5_book_63 : decode cX5_book 63 = .ok (.putfield 155, 3) := by decide +kernel
theorem dX5_book_66 : decode cX5_book 66 = .ok (.goto 39, 3) := by decide +kernel
theorem dX5_book_69 : decode cX5_book 69 = .ok (.aload_n 0, 1) := by decide +kernel
theorem dX5_book_70 : decode cX5_book 70 = .ok (.getfield 31, 3) := by decide +kernel
theorem dX5_book_73 : decode cX5_book 73 = .ok (.iload_n 1, 1) := by decide +kernel
theorem dX5_book_74 : decode cX5_book 74 = .ok (.laload, 1) := by decide +kernel
theorem dX5_book_75 : decode cX5_book 75 = .ok (.lconst 0, 1) := by decide +kernel
theorem dX5_book_76 : decode cX5_book 76 = .ok (.lcmp, 1) := by decide +kernel
theorem dX5_book_77 : decode cX5_book 77 = .ok (.ifCond .ge 28, 3) := by decide +kernel
theorem dX5_book_80 : decode cX5_book 80 = .ok (.aload_n 0, 1) := by decide +kernel
theorem dX5_book_81 : decode cX5_book 81 = .ok (.getfield 34, 3) := by decide +kernel
theorem dX5_book_84 : decode cX5_book 84 = .ok (.iload_n 1, 1) := by decide +kernel
theorem dX5_book_85 : decode cX5_book 85 = .ok (.dup2, 1) := by decide +kernel
theorem dX5_book_86 : decode cX5_book 86 = .ok (.laload, 1) := by decide +kernel
theorem dX5_book_87 : decode cX5_book 87 = .ok (.aload_n 0, 1) := by decide +kernel
theorem dX5_book_88 : decode cX5_book 88 = .ok (.getfield 31, 3) := by decide +kernel
theorem dX5_book_91 : decode cX5_book 91 = .ok (.iload_n 1, 1) := by decide +kernel
theorem dX5_book_92 : decode cX5_book 92 = .ok (.laload, 1) := by decide +kernel
theorem dX5_book_93 : decode cX5_book 93 = .ok (.iload_n 2, 1) := by decide +kernel
theorem dX5_book_94 : decode cX5_book 94 = .ok (.aload_n 0, 1) := by decide +kernel
theorem dX5_book_95 : decode cX5_book 95 = .ok (.getfield 40, 3) := by decide +kernel
theorem dX5_book_98 : decode cX5_book 98 = .ok (.iload_n 1, 1) := by decide +kernel
theorem dX5_book_99 : decode cX5_book 99 = .ok (.iaload, 1) := by decide +kernel
theorem dX5_book_100 : decode cX5_book 100 = .ok (.isub, 1) := by decide +kernel
theorem dX5_book_101 : decode cX5_book 101 = .ok (.i2l, 1) := by decide +kernel
theorem dX5_book_102 : decode cX5_book 102 = .ok (.lmul, 1) := by decide +kernel
theorem dX5_book_103 : decode cX5_book 103 = .ok (.lsub, 1) := by decide +kernel
theorem dX5_book_104 : decode cX5_book 104 = .ok (.lastore, 1) := by decide +kernel
theorem dX5_book_105 : decode cX5_book 105 = .ok (.lload 5, 2) := by decide +kernel
theorem dX5_book_107 : decode cX5_book 107 = .ok (.lconst 0, 1) := by decide +kernel
theorem dX5_book_108 : decode cX5_book 108 = .ok (.lcmp, 1) := by decide +kernel
theorem dX5_book_109 : decode cX5_book 109 = .ok (.ifCond .le 17, 3) := by decide +kernel
theorem dX5_book_112 : decode cX5_book 112 = .ok (.aload_n 0, 1) := by decide +kernel
theorem dX5_book_113 : decode cX5_book 113 = .ok (.dup, 1) := by decide +kernel
theorem dX5_book_114 : decode cX5_book 114 = .ok (.getfield 152, 3) := by decide +kernel
theorem dX5_book_117 : decode cX5_book 117 = .ok (.iload 4, 2) := by decide +kernel
theorem dX5_book_119 : decode cX5_book 119 = .ok (.ior, 1) := by decide +kernel
theorem dX5_book_120 : decode cX5_book 120 = .ok (.putfield 152, 3) := by decide +kernel
theorem dX5_book_123 : decode cX5_book 123 = .ok (.goto 24, 3) := by decide +kernel
theorem dX5_book_126 : decode cX5_book 126 = .ok (.aload_n 0, 1) := by decide +kernel
theorem dX5_book_127 : decode cX5_book 127 = .ok (.getfield 152, 3) := by decide +kernel
theorem dX5_book_130 : decode cX5_book 130 = .ok (.iload 4, 2) := by decide +kernel
theorem dX5_book_132 : decode cX5_book 132 = .ok (.iand, 1) := by decide +kernel
theorem dX5_book_133 : decode cX5_book 133 = .ok (.ifCond .eq 14, 3) := by decide +kernel
theorem dX5_book_136 : decode cX5_book 136 = .ok (.aload_n 0, 1) := by decide +kernel
theorem dX5_book_137 : decode cX5_book 137 = .ok (.dup, 1) := by decide +kernel
theorem dX5_book_138 : decode cX5_book 138 = .ok (.getfield 155, 3) := by decide +kernel
theorem dX5_book_141 : decode cX5_book 141 = .ok (.iload 4, 2) := by decide +kernel
theorem dX5_book_143 : decode cX5_book 143 = .ok (.ior, 1) := by decide +kernel
theorem dX5_book_144 : decode cX5_book 144 = .ok (.putfield 155, 3) := by decide +kernel
theorem dX5_book_147 : decode cX5_book 147 = .ok (.aload_n 0, 1) := by decide +kernel
theorem dX5_book_148 : decode cX5_book 148 = .ok (.getfield 31, 3) := by decide +kernel
theorem dX5_book_151 : decode cX5_book 151 = .ok (.iload_n 1, 1) := by decide +kernel
theorem dX5_book_152 : decode cX5_book 152 = .ok (.dup2, 1) := by decide +kernel
theorem dX5_book_153 : decode cX5_book 153 = .ok (.laload, 1) := by decide +kernel
theorem dX5_book_154 : decode cX5_book 154 = .ok (.lload 5, 2) := by decide +kernel
theorem dX5_book_156 : decode cX5_book 156 = .ok (.ladd, 1) := by decide +kernel
theorem dX5_book_157 : decode cX5_book 157 = .ok (.lastore, 1) := by decide +kernel
theorem dX5_book_158 : decode cX5_book 158 = .ok (.aload_n 0, 1) := by decide +kernel
theorem dX5_book_159 : decode cX5_book 159 = .ok (.getfield 40, 3) := by decide +kernel
theorem dX5_book_162 : decode cX5_book 162 = .ok (.iload_n 1, 1) := by decide +kernel
theorem dX5_book_163 : decode cX5_book 163 = .ok (.iload_n 2, 1) := by decide +kernel
theorem dX5_book_164 : decode cX5_book 164 = .ok (.iastore, 1) := by decide +kernel
theorem dX5_book_165 : decode cX5_book 165 = .ok (.return_, 1) := by decide +kernel
def m_X5_book_147  (Q : Hp → Prop) (v1 : Int32) (v2 : Int32) (v5 : Int64) (h : Hp) : Prop := vp_in v1 8 ∧ (vp_in v1 8 ∧ (vp_in v1 8 ∧ (Q (wI (wJ h 21 (ix v1) ((hJ h 21 (ix v1)) + v5)) 24 (ix v1) v2))))
set_option maxHeartbeats 4000000 in
set_option maxRecDepth 100000 in
theorem s_X5_book_147 {l : Launch} {G : Cx} {d : Nat} {h0 : Hp} (hd : 2 ≤ d) {Q : Hp → Prop} {v1 : Int32} {v2 : Int32} {v5 : Int64} {h : Hp} (hm : m_X5_book_147 Q v1 v2 v5 h) : Rn l G d 0 0 MX5_book h0 (qV Q) 147 [some (tR 5 0 (some 14)), some (tI v1), some (tI v2), none, none, some (tJ v5)] [] h 0 0 := by
  unfold m_X5_book_147 at hm
  refine r_aload_n dX5_book_147 rfl rfl ?_
  refine r_getC (k := 10) cl_5 dX5_book_148 t_153 gf_5_10.1 gf_5_10.2 (gc_5_10 _) ?_
  refine r_iload_n dX5_book_151 rfl rfl ?_
  refine r_dup2 dX5_book_152 rfl cv_cat1R ?_
  refine r_lald dX5_book_153 hm.1 ?_
  replace hm := hm.2
  refine r_lload dX5_book_154 rfl ?_
  refine r_ladd dX5_book_156 ?_
  refine r_last dX5_book_157 hm.1 ?_
  replace hm := hm.2
  refine r_aload_n dX5_book_158 rfl rfl ?_
  refine r_getC (k := 13) cl_5 dX5_book_159 t_158 gf_5_13.1 gf_5_13.2 (gc_5_13 _) ?_
  refine r_iload_n dX5_book_162 rfl rfl ?_
  refine r_iload_n dX5_book_163 rfl rfl ?_
  refine r_iast dX5_book_164 hm.1 ?_
  replace hm := hm.2
  exact r_return dX5_book_165 rfl ⟨by decide, by decide⟩ ⟨rfl, hm⟩
def m_X5_book_105  (Q : Hp → Prop) (v1 : Int32) (v2 : Int32) (v4 : Int32) (v5 : Int64) (h : Hp) : Prop := ((lg_cmp v5 0) ≤ 0 → (((hI h 14 16) &&& v4) = 0 → m_X5_book_147 Q v1 v2 v5 h) ∧ (¬ ((hI h 14 16) &&& v4) = 0 → m_X5_book_147 Q v1 v2 v5 (wI h 14 17 ((hI h 14 17) ||| v4)))) ∧ (¬ (lg_cmp v5 0) ≤ 0 → m_X5_book_147 Q v1 v2 v5 (wI h 14 16 ((hI h 14 16) ||| v4)))
set_option maxHeartbeats 4000000 in
set_option maxRecDepth 100000 in
theorem s_X5_book_105 {l : Launch} {G : Cx} {d : Nat} {h0 : Hp} (hd : 2 ≤ d) {Q : Hp → Prop} {v1 : Int32} {v2 : Int32} {v4 : Int32} {v5 : Int64} {h : Hp} (hm : m_X5_book_105 Q v1 v2 v4 v5 h) : Rn l G d 0 0 MX5_book h0 (qV Q) 105 [some (tR 5 0 (some 14)), some (tI v1), some (tI v2), none, some (tI v4), some (tJ v5)] [] h 0 0 := by
  unfold m_X5_book_105 at hm
  refine r_lload dX5_book_105 rfl ?_
  refine r_lconst (v := 0) dX5_book_107 rfl ?_
  refine r_lcmp dX5_book_108 ?_
  refine r_if_le (tgt := 126) dX5_book_109 rfl (fun hc => ?_) (fun hc => ?_)
  · replace hm := hm.1 hc
    refine r_aload_n dX5_book_126 rfl rfl ?_
    refine r_getI (k := 16) cl_5 dX5_book_127 t_161 (Or.inl rfl) gf_5_16 ?_
    refine r_iload dX5_book_130 rfl ?_
    refine r_iand dX5_book_132 ?_
    refine r_if_eq (tgt := 147) dX5_book_133 rfl (fun hc => ?_) (fun hc => ?_)
    · replace hm := hm.1 hc
      refine r_keep (L' := [some (tR 5 0 (some 14)), some (tI v1), some (tI v2), none, none, some (tJ v5)]) [true, true, true, false, false, true] rfl ?_
      exact s_X5_book_147 hd hm
    · replace hm := hm.2 hc
      refine r_aload_n dX5_book_136 rfl rfl ?_
      refine r_dup dX5_book_137 cv_cat1R ?_
      refine r_getI (k := 17) cl_5 dX5_book_138 t_162 (Or.inl rfl) gf_5_17 ?_
      refine r_iload dX5_book_141 rfl ?_
      refine r_ior dX5_book_143 ?_
      refine r_putI0 (k := 17) cl_5 dX5_book_144 t_162 (Or.inl rfl) gf_5_17 pf_5_17.1 (Or.inl pf_5_17.2) ?_
      refine r_keep (L' := [some (tR 5 0 (some 14)), some (tI v1), some (tI v2), none, none, some (tJ v5)]) [true, true, true, false, false, true] rfl ?_
      exact s_X5_book_147 hd hm
  · replace hm := hm.2 hc
    refine r_aload_n dX5_book_112 rfl rfl ?_
    refine r_dup dX5_book_113 cv_cat1R ?_
    refine r_getI (k := 16) cl_5 dX5_book_114 t_161 (Or.inl rfl) gf_5_16 ?_
    refine r_iload dX5_book_117 rfl ?_
    refine r_ior dX5_book_119 ?_
    refine r_putI0 (k := 16) cl_5 dX5_book_120 t_161 (Or.inl rfl) gf_5_16 pf_5_16.1 (Or.inl pf_5_16.2) ?_
    refine r_goto (tgt := 147) dX5_book_123 rfl ?_
    refine r_keep (L' := [some (tR 5 0 (some 14)), some (tI v1), some (tI v2), none, none, some (tJ v5)]) [true, true, true, false, false, true] rfl ?_
    exact s_X5_book_147 hd hm
def m_X5_book (v1 : Int32) (v2 : Int32) (v3 : Int32) (h : Hp) (Q : Hp → Prop) : Prop := ∀ x1 : Int32, x1 = (1 <<< (v1 &&& 31)) → vp_in v1 8 ∧ (∀ x2 : Int64, x2 = (hJ h 23 (ix v1)) → vp_in v1 8 ∧ ((¬ ((hI (wJ h 23 (ix v1) 0) 14 15) &&& x1) = 0 → vp_in v1 8 ∧ ((0 ≤ (lg_cmp (hJ (wJ h 23 (ix v1) 0) 21 (ix v1)) 0) → m_X5_book_105 Q v1 v2 x1 x2 (wJ h 23 (ix v1) 0)) ∧ (¬ 0 ≤ (lg_cmp (hJ (wJ h 23 (ix v1) 0) 21 (ix v1)) 0) → vp_in v1 8 ∧ (vp_in v1 8 ∧ (vp_in v1 8 ∧ (vp_in v1 8 ∧ (m_X5_book_105 Q v1 v2 x1 x2 (wJ (wJ h 23 (ix v1) 0) 22 (ix v1) ((hJ (wJ h 23 (ix v1) 0) 22 (ix v1)) - ((hJ (wJ h 23 (ix v1) 0) 21 (ix v1)) * ((v2 - (hI (wJ h 23 (ix v1) 0) 24 (ix v1))).toInt64))))))))))) ∧ (((hI (wJ h 23 (ix v1) 0) 14 15) &&& x1) = 0 → vp_in v1 8 ∧ (((lg_cmp x2 0) ≤ 0 → m_X5_book_105 Q v1 v2 x1 x2 (wI (wI (wJ h 23 (ix v1) 0) 14 15 ((hI (wJ h 23 (ix v1) 0) 14 15) ||| x1)) 25 (ix v1) v3)) ∧ (¬ (lg_cmp x2 0) ≤ 0 → m_X5_book_105 Q v1 v2 x1 x2 (wI (wI (wI (wJ h 23 (ix v1) 0) 14 15 ((hI (wJ h 23 (ix v1) 0) 14 15) ||| x1)) 25 (ix v1) v3) 14 17 ((hI (wI (wI (wJ h 23 (ix v1) 0) 14 15 ((hI (wJ h 23 (ix v1) 0) 14 15) ||| x1)) 25 (ix v1) v3) 14 17) ||| x1)))))))
set_option maxHeartbeats 4000000 in
set_option maxRecDepth 100000 in
theorem s_X5_book {l : Launch} {G : Cx} {d : Nat} (hd : 2 ≤ d) {v1 : Int32} {v2 : Int32} {v3 : Int32} {h : Hp} {Q : Hp → Prop} (hm : m_X5_book v1 v2 v3 h Q) : Ct l G d 0 0 yX5_book MX5_book [tR 5 0 (some 14), tI v1, tI v2, tI v3] h (qV Q) := by
  unfold m_X5_book at hm
  refine Ct.of (L := [some (tR 5 0 (some 14)), some (tI v1), some (tI v2), some (tI v3)]) (by decide) rfl rfl (Nat.le_of_ble_eq_true rfl) rfl ?_
  refine r_iconst (v := 1) dX5_book_0 rfl ?_
  refine r_iload_n dX5_book_1 rfl rfl ?_
  refine r_ishl dX5_book_2 ?_
  refine r_nmI (fun x1 e_x1 => ?_)
  replace hm := hm x1 e_x1
  refine r_istore (L' := [some (tR 5 0 (some 14)), some (tI v1), some (tI v2), some (tI v3), some (tI x1)]) dX5_book_3 (by decide) rfl ?_
  refine r_aload_n dX5_book_5 rfl rfl ?_
  refine r_getC (k := 12) cl_5 dX5_book_6 t_157 gf_5_12.1 gf_5_12.2 (gc_5_12 _) ?_
  refine r_iload_n dX5_book_9 rfl rfl ?_
  refine r_lald dX5_book_10 hm.1 ?_
  replace hm := hm.2
  refine r_nmJ (fun x2 e_x2 => ?_)
  replace hm := hm x2 e_x2
  refine r_lstore (L' := [some (tR 5 0 (some 14)), some (tI v1), some (tI v2), some (tI v3), some (tI x1), some (tJ x2), none]) dX5_book_11 (by decide) rfl ?_
  refine r_aload_n dX5_book_13 rfl rfl ?_
  refine r_getC (k := 12) cl_5 dX5_book_14 t_157 gf_5_12.1 gf_5_12.2 (gc_5_12 _) ?_
  refine r_iload_n dX5_book_17 rfl rfl ?_
  refine r_lconst (v := 0) dX5_book_18 rfl ?_
  refine r_last dX5_book_19 hm.1 ?_
  replace hm := hm.2
  refine r_aload_n dX5_book_20 rfl rfl ?_
  refine r_getI (k := 15) cl_5 dX5_book_21 t_160 (Or.inl rfl) gf_5_15 ?_
  refine r_iload dX5_book_24 rfl ?_
  refine r_iand dX5_book_26 ?_
  refine r_if_ne (tgt := 69) dX5_book_27 rfl (fun hc => ?_) (fun hc => ?_)
  · replace hm := hm.1 hc
    refine r_aload_n dX5_book_69 rfl rfl ?_
    refine r_getC (k := 10) cl_5 dX5_book_70 t_153 gf_5_10.1 gf_5_10.2 (gc_5_10 _) ?_
    refine r_iload_n dX5_book_73 rfl rfl ?_
    refine r_lald dX5_book_74 hm.1 ?_
    replace hm := hm.2
    refine r_lconst (v := 0) dX5_book_75 rfl ?_
    refine r_lcmp dX5_book_76 ?_
    refine r_if_ge (tgt := 105) dX5_book_77 rfl (fun hc => ?_) (fun hc => ?_)
    · replace hm := hm.1 hc
      refine r_keep (L' := [some (tR 5 0 (some 14)), some (tI v1), some (tI v2), none, some (tI x1), some (tJ x2)]) [true, true, true, false, true, true] rfl ?_
      exact s_X5_book_105 hd hm
    · replace hm := hm.2 hc
      refine r_aload_n dX5_book_80 rfl rfl ?_
      refine r_getC (k := 11) cl_5 dX5_book_81 t_155 gf_5_11.1 gf_5_11.2 (gc_5_11 _) ?_
      refine r_iload_n dX5_book_84 rfl rfl ?_
      refine r_dup2 dX5_book_85 rfl cv_cat1R ?_
      refine r_lald dX5_book_86 hm.1 ?_
      replace hm := hm.2
      refine r_aload_n dX5_book_87 rfl rfl ?_
      refine r_getC (k := 10) cl_5 dX5_book_88 t_153 gf_5_10.1 gf_5_10.2 (gc_5_10 _) ?_
      refine r_iload_n dX5_book_91 rfl rfl ?_
      refine r_lald dX5_book_92 hm.1 ?_
      replace hm := hm.2
      refine r_iload_n dX5_book_93 rfl rfl ?_
      refine r_aload_n dX5_book_94 rfl rfl ?_
      refine r_getC (k := 13) cl_5 dX5_book_95 t_158 gf_5_13.1 gf_5_13.2 (gc_5_13 _) ?_
      refine r_iload_n dX5_book_98 rfl rfl ?_
      refine r_iald dX5_book_99 hm.1 ?_
      replace hm := hm.2
      refine r_isub dX5_book_100 ?_
      refine r_i2l dX5_book_101 ?_
      refine r_lmul dX5_book_102 ?_
      refine r_lsub dX5_book_103 ?_
      refine r_last dX5_book_104 hm.1 ?_
      replace hm := hm.2
      refine r_keep (L' := [some (tR 5 0 (some 14)), some (tI v1), some (tI v2), none, some (tI x1), some (tJ x2)]) [true, true, true, false, true, true] rfl ?_
      exact s_X5_book_105 hd hm
  · replace hm := hm.2 hc
    refine r_aload_n dX5_book_30 rfl rfl ?_
    refine r_dup dX5_book_31 cv_cat1R ?_
    refine r_getI (k := 15) cl_5 dX5_book_32 t_160 (Or.inl rfl) gf_5_15 ?_
    refine r_iload dX5_book_35 rfl ?_
    refine r_ior dX5_book_37 ?_
    refine r_putI0 (k := 15) cl_5 dX5_book_38 t_160 (Or.inl rfl) gf_5_15 pf_5_15.1 (Or.inl pf_5_15.2) ?_
    refine r_aload_n dX5_book_41 rfl rfl ?_
    refine r_getC (k := 14) cl_5 dX5_book_42 t_159 gf_5_14.1 gf_5_14.2 (gc_5_14 _) ?_
    refine r_iload_n dX5_book_45 rfl rfl ?_
    refine r_iload_n dX5_book_46 rfl rfl ?_
    refine r_iast dX5_book_47 hm.1 ?_
    replace hm := hm.2
    refine r_lload dX5_book_48 rfl ?_
    refine r_lconst (v := 0) dX5_book_50 rfl ?_
    refine r_lcmp dX5_book_51 ?_
    refine r_if_le (tgt := 105) dX5_book_52 rfl (fun hc => ?_) (fun hc => ?_)
    · replace hm := hm.1 hc
      refine r_keep (L' := [some (tR 5 0 (some 14)), some (tI v1), some (tI v2), none, some (tI x1), some (tJ x2)]) [true, true, true, false, true, true] rfl ?_
      exact s_X5_book_105 hd hm
    · replace hm := hm.2 hc
      refine r_aload_n dX5_book_55 rfl rfl ?_
      refine r_dup dX5_book_56 cv_cat1R ?_
      refine r_getI (k := 17) cl_5 dX5_book_57 t_162 (Or.inl rfl) gf_5_17 ?_
      refine r_iload dX5_book_60 rfl ?_
      refine r_ior dX5_book_62 ?_
      refine r_putI0 (k := 17) cl_5 dX5_book_63 t_162 (Or.inl rfl) gf_5_17 pf_5_17.1 (Or.inl pf_5_17.2) ?_
      refine r_goto (tgt := 105) dX5_book_66 rfl ?_
      refine r_keep (L' := [some (tR 5 0 (some 14)), some (tI v1), some (tI v2), none, some (tI x1), some (tJ x2)]) [true, true, true, false, true, true] rfl ?_
      exact s_X5_book_105 hd hm
theorem dX5_endDay_0 : decode cX5_endDay 0 = .ok (.iconst 0, 1) := by decide +kernel
theorem dX5_endDay_1 : decode cX5_endDay 1 = .ok (.istore_n 2, 1) := by decide +kernel
theorem dX5_endDay_2 : decode cX5_endDay 2 = .ok (.iconst 0, 1) := by decide +kernel
theorem dX5_endDay_3 : decode cX5_endDay 3 = .ok (.istore_n 3, 1) := by decide +kernel
theorem dX5_endDay_4 : decode cX5_endDay 4 = .ok (.iload_n 3, 1) := by decide +kernel
theorem dX5_endDay_5 : decode cX5_endDay 5 = .ok (.aload_n 0, 1) := by decide +kernel
theorem dX5_endDay_6 : decode cX5_endDay 6 = .ok (.getfield 108, 3) := by decide +kernel
theorem dX5_endDay_9 : decode cX5_endDay 9 = .ok (.if_icmp .ge 36, 3) := by decide +kernel
theorem dX5_endDay_12 : decode cX5_endDay 12 = .ok (.aload_n 0, 1) := by decide +kernel
theorem dX5_endDay_13 : decode cX5_endDay 13 = .ok (.getfield 37, 3) := by decide +kernel
theorem dX5_endDay_16 : decode cX5_endDay 16 = .ok (.aload_n 0, 1) := by decide +kernel
theorem dX5_endDay_17 : decode cX5_endDay 17 = .ok (.getfield 19, 3) := by decide +kernel
theorem dX5_endDay_20 : decode cX5_endDay 20 = .ok (.iload_n 3, 1) := by decide +kernel
theorem dX5_endDay_21 : decode cX5_endDay 21 = .ok (.iaload, 1) := by decide +kernel
theorem dX5_endDay_22 : decode cX5_endDay 22 = .ok (.laload, 1) := by decide +kernel
theorem dX5_endDay_23 : decode cX5_endDay 23 = .ok (.lconst 0, 1) := by decide +kernel
theorem dX5_endDay_24 : decode cX5_endDay 24 = .ok (.lcmp, 1) := by decide +kernel
theorem dX5_endDay_25 : decode cX5_endDay 25 = .ok (.ifCond .le 14, 3) := by decide +kernel
theorem dX5_endDay_28 : decode cX5_endDay 28 = .ok (.iload_n 2, 1) := by decide +kernel
theorem dX5_endDay_29 : decode cX5_endDay 29 = .ok (.iconst 1, 1) := by decide +kernel
theorem dX5_endDay_30 : decode cX5_endDay 30 = .ok (.aload_n 0, 1) := by decide +kernel
theorem dX5_endDay_31 : decode cX5_endDay 31 = .ok (.getfield 19, 3) := by decide +kernel
theorem dX5_endDay_34 : decode cX5_endDay 34 = .ok (.iload_n 3, 1) := by decide +kernel
theorem dX5_endDay_35 : decode cX5_endDay 35 = .ok (.iaload, 1) := by decide +kernel
theorem dX5_endDay_36 : decode cX5_endDay 36 = .ok (.ishl, 1) := by decide +kernel
theorem dX5_endDay_37 : decode cX5_endDay 37 = .ok (.ior, 1) := by decide +kernel
theorem dX5_endDay_38 : decode cX5_endDay 38 = .ok (.istore_n 2, 1) := by decide +kernel
theorem dX5_endDay_39 : decode cX5_endDay 39 = .ok (.iinc 3 1, 3) := by decide +kernel
theorem dX5_endDay_42 : decode cX5_endDay 42 = .ok (.goto (-38), 3) := by decide +kernel
theorem dX5_endDay_45 : decode cX5_endDay 45 = .ok (.iconst 0, 1) := by decide +kernel
theorem dX5_endDay_46 : decode cX5_endDay 46 = .ok (.istore_n 3, 1) := by decide +kernel
theorem dX5_endDay_47 : decode cX5_endDay 47 = .ok (.iload_n 3, 1) := by decide +kernel
theorem dX5_endDay_48 : decode cX5_endDay 48 = .ok (.aload_n 0, 1) := by decide +kernel
theorem dX5_endDay_49 : decode cX5_endDay 49 = .ok (.getfield 108, 3) := by decide +kernel
theorem dX5_endDay_52 : decode cX5_endDay 52 = .ok (.if_icmp .ge 37, 3) := by decide +kernel
theorem dX5_endDay_55 : decode cX5_endDay 55 = .ok (.aload_n 0, 1) := by decide +kernel
theorem dX5_endDay_56 : decode cX5_endDay 56 = .ok (.getfield 37, 3) := by decide +kernel
theorem dX5_endDay_59 : decode cX5_endDay 59 = .ok (.aload_n 0, 1) := by decide +kernel
theorem dX5_endDay_60 : decode cX5_endDay 60 = .ok (.getfield 19, 3) := by decide +kernel
theorem dX5_endDay_63 : decode cX5_endDay 63 = .ok (.iload_n 3, 1) := by decide +kernel
theorem dX5_endDay_64 : decode cX5_endDay 64 = .ok (.iaload, 1) := by decide +kernel
theorem dX5_endDay_65 : decode cX5_endDay 65 = .ok (.laload, 1) := by decide +kernel
theorem dX5_endDay_66 : decode cX5_endDay 66 = .ok (.lconst 0, 1) := by decide +kernel
theorem dX5_endDay_67 : decode cX5_endDay 67 = .ok (.lcmp, 1) := by decide +kernel
theorem dX5_endDay_68 : decode cX5_endDay 68 = .ok (.ifCond .eq 15, 3) := by decide +kernel
theorem dX5_endDay_71 : decode cX5_endDay 71 = .ok (.aload_n 0, 1) := by decide +kernel
theorem dX5_endDay_72 : decode cX5_endDay 72 = .ok (.aload_n 0, 1) := by decide +kernel
theorem dX5_endDay_73 : decode cX5_endDay 73 = .ok (.getfield 19, 3) := by decide +kernel
theorem dX5_endDay_76 : decode cX5_endDay 76 = .ok (.iload_n 3, 1) := by decide +kernel
theorem dX5_endDay_77 : decode cX5_endDay 77 = .ok (.iaload, 1) := by decide +kernel
theorem dX5_endDay_78 : decode cX5_endDay 78 = .ok (.iload_n 1, 1) := by decide +kernel
theorem dX5_endDay_79 : decode cX5_endDay 79 = .ok (.iload_n 2, 1) := by decide +kernel
theorem dX5_endDay_80 : decode cX5_endDay 80 = .ok (.invokevirtual 164, 3) := by decide +kernel
theorem dX5_endDay_83 : decode cX5_endDay 83 = .ok (.iinc 3 1, 3) := by decide +kernel
theorem dX5_endDay_86 : decode cX5_endDay 86 = .ok (.goto (-39), 3) := by decide +kernel
theorem dX5_endDay_89 : decode cX5_endDay 89 = .ok (.return_, 1) := by decide +kernel
def m_X5_endDay_83 (k47 : Int32 → Int32 → Int32 → Hp → Prop) (Q : Hp → Prop) (v1 : Int32) (v2 : Int32) (v3 : Int32) (h : Hp) : Prop := ∀ x1 : Int32, x1 = v3 + 1 → k47 v1 v2 x1 h
set_option maxHeartbeats 4000000 in
set_option maxRecDepth 100000 in
theorem s_X5_endDay_83 {l : Launch} {G : Cx} {d : Nat} {h0 : Hp} (hd : 4 ≤ d) {k47 : Int32 → Int32 → Int32 → Hp → Prop} {Q : Hp → Prop} (hk47 : ∀ (v1 : Int32) (v2 : Int32) (v3 : Int32) (hh : Hp), k47 v1 v2 v3 hh → Rn l G d 0 0 MX5_endDay h0 (qV Q) 47 [some (tR 5 0 (some 14)), some (tI v1), some (tI v2), some (tI v3)] [] hh 0 0) {v1 : Int32} {v2 : Int32} {v3 : Int32} {h : Hp} (hm : m_X5_endDay_83 k47 Q v1 v2 v3 h) : Rn l G d 0 0 MX5_endDay h0 (qV Q) 83 [some (tR 5 0 (some 14)), some (tI v1), some (tI v2), some (tI v3)] [] h 0 0 := by
  unfold m_X5_endDay_83 at hm
  obtain ⟨x1, e_x1⟩ : ∃ y : Int32, y = v3 + 1 := ⟨_, rfl⟩
  replace hm := hm x1 e_x1
  refine r_iinc (L' := [some (tR 5 0 (some 14)), some (tI v1), some (tI v2), some (tI x1)]) dX5_endDay_83 rfl (by rw [e_x1]; rfl) (by decide) rfl ?_
  refine r_goto (tgt := 47) dX5_endDay_86 rfl ?_
  refine r_keep (L' := [some (tR 5 0 (some 14)), some (tI v1), some (tI v2), some (tI x1)]) [true, true, true, true] rfl ?_
  exact hk47 _ _ _ _ hm
def m_X5_endDay_47 : Nat → (Hp → Prop) → Int32 → Int32 → Int32 → Hp → Prop
  | 0, _, _, _, _, _ => False
  | n + 1, Q, v1, v2, v3, h => ((hI h 14 6) ≤ v3 → Q h) ∧ (¬ (hI h 14 6) ≤ v3 → vp_in v3 8 ∧ (vp_in (hI h 17 (ix v3)) 8 ∧ (((lg_cmp (hJ h 23 (ix (hI h 17 (ix v3)))) 0) = 0 → m_X5_endDay_83 (fun (v1 : Int32) (v2 : Int32) (v3 : Int32) (hh : Hp) => m_X5_endDay_47 n Q v1 v2 v3 hh) Q v1 v2 v3 h) ∧ (¬ (lg_cmp (hJ h 23 (ix (hI h 17 (ix v3)))) 0) = 0 → vp_in v3 8 ∧ (m_X5_book (hI h 17 (ix v3)) v1 v2 h (fun (h3 : Hp) => m_X5_endDay_83 (fun (v1 : Int32) (v2 : Int32) (v3 : Int32) (hh : Hp) => m_X5_endDay_47 n Q v1 v2 v3 hh) Q v1 v2 v3 h3))))))
set_option maxHeartbeats 4000000 in
set_option maxRecDepth 100000 in
theorem s_X5_endDay_47 {l : Launch} {G : Cx} {d : Nat} {h0 : Hp} (hd : 4 ≤ d) {Q : Hp → Prop} : ∀ {n : Nat} {v1 : Int32} {v2 : Int32} {v3 : Int32} {h : Hp}, m_X5_endDay_47 n Q v1 v2 v3 h → Rn l G d 0 0 MX5_endDay h0 (qV Q) 47 [some (tR 5 0 (some 14)), some (tI v1), some (tI v2), some (tI v3)] [] h 0 0 := by
  intro n
  induction n with
  | zero => intro v1 v2 v3 h hm; exact hm.elim
  | succ n ih =>
    intro v1 v2 v3 h hm
    have hk47 := fun (v1 : Int32) (v2 : Int32) (v3 : Int32) (hh : Hp) (hm : m_X5_endDay_47 n Q v1 v2 v3 hh) => ih hm
    rw [m_X5_endDay_47] at hm
    refine r_iload_n dX5_endDay_47 rfl rfl ?_
    refine r_aload_n dX5_endDay_48 rfl rfl ?_
    refine r_getI (k := 6) cl_5 dX5_endDay_49 t_149 (Or.inl rfl) gf_5_6 ?_
    refine r_icmp_ge (tgt := 89) dX5_endDay_52 rfl (fun hc => ?_) (fun hc => ?_)
    · replace hm := hm.1 hc
      exact r_return dX5_endDay_89 rfl ⟨by decide, by decide⟩ ⟨rfl, hm⟩
    · replace hm := hm.2 hc
      refine r_aload_n dX5_endDay_55 rfl rfl ?_
      refine r_getC (k := 12) cl_5 dX5_endDay_56 t_157 gf_5_12.1 gf_5_12.2 (gc_5_12 _) ?_
      refine r_aload_n dX5_endDay_59 rfl rfl ?_
      refine r_getC (k := 5) cl_5 dX5_endDay_60 t_148 gf_5_5.1 gf_5_5.2 (gc_5_5 _) ?_
      refine r_iload_n dX5_endDay_63 rfl rfl ?_
      refine r_iald dX5_endDay_64 hm.1 ?_
      replace hm := hm.2
      refine r_lald dX5_endDay_65 hm.1 ?_
      replace hm := hm.2
      refine r_lconst (v := 0) dX5_endDay_66 rfl ?_
      refine r_lcmp dX5_endDay_67 ?_
      refine r_if_eq (tgt := 83) dX5_endDay_68 rfl (fun hc => ?_) (fun hc => ?_)
      · replace hm := hm.1 hc
        refine r_keep (L' := [some (tR 5 0 (some 14)), some (tI v1), some (tI v2), some (tI v3)]) [true, true, true, true] rfl ?_
        exact s_X5_endDay_83 hd hk47 hm
      · replace hm := hm.2 hc
        refine r_aload_n dX5_endDay_71 rfl rfl ?_
        refine r_aload_n dX5_endDay_72 rfl rfl ?_
        refine r_getC (k := 5) cl_5 dX5_endDay_73 t_148 gf_5_5.1 gf_5_5.2 (gc_5_5 _) ?_
        refine r_iload_n dX5_endDay_76 rfl rfl ?_
        refine r_iald dX5_endDay_77 hm.1 ?_
        replace hm := hm.2
        refine r_iload_n dX5_endDay_78 rfl rfl ?_
        refine r_iload_n dX5_endDay_79 rfl rfl ?_
        refine r_callVU (d' := d - 1) (as := [tI (hI h 17 (ix v3)), tI v1, tI v2]) (st := []) cl_5 dX5_endDay_80 mi_X5_book t_1001 t_1003 ts_34 rfl rfl (Nat.le_of_ble_eq_true rfl) (by omega) ⟨by decide, by decide⟩ ⟨rfl, rfl⟩ (s_X5_book (by omega) hm) (fun h3 hm => ?_)
        refine r_keep (L' := [some (tR 5 0 (some 14)), some (tI v1), some (tI v2), some (tI v3)]) [true, true, true, true] rfl ?_
        exact s_X5_endDay_83 hd hk47 hm
def m_X5_endDay_45  (Q : Hp → Prop) (v1 : Int32) (v2 : Int32) (h : Hp) : Prop := ∃ n47, m_X5_endDay_47 n47 Q v1 v2 0 h
set_option maxHeartbeats 4000000 in
set_option maxRecDepth 100000 in
theorem s_X5_endDay_45 {l : Launch} {G : Cx} {d : Nat} {h0 : Hp} (hd : 4 ≤ d) {Q : Hp → Prop} {v1 : Int32} {v2 : Int32} {h : Hp} (hm : m_X5_endDay_45 Q v1 v2 h) : Rn l G d 0 0 MX5_endDay h0 (qV Q) 45 [some (tR 5 0 (some 14)), some (tI v1), some (tI v2)] [] h 0 0 := by
  unfold m_X5_endDay_45 at hm
  refine r_iconst (v := 0) dX5_endDay_45 rfl ?_
  refine r_istore_n (L' := [some (tR 5 0 (some 14)), some (tI v1), some (tI v2), some (tI 0)]) dX5_endDay_46 rfl (by decide) rfl ?_
  refine r_keep (L' := [some (tR 5 0 (some 14)), some (tI v1), some (tI v2), some (tI 0)]) [true, true, true, true] rfl ?_
  obtain ⟨n, hm⟩ := hm
  refine s_X5_endDay_47 hd hm
def m_X5_endDay_39 (k4 : Int32 → Int32 → Int32 → Hp → Prop) (k45 : Int32 → Int32 → Hp → Prop) (Q : Hp → Prop) (v1 : Int32) (v2 : Int32) (v3 : Int32) (h : Hp) : Prop := ∀ x4 : Int32, x4 = v3 + 1 → k4 v1 v2 x4 h
set_option maxHeartbeats 4000000 in
set_option maxRecDepth 100000 in
theorem s_X5_endDay_39 {l : Launch} {G : Cx} {d : Nat} {h0 : Hp} (hd : 4 ≤ d) {k4 : Int32 → Int32 → Int32 → Hp → Prop} {k45 : Int32 → Int32 → Hp → Prop} {Q : Hp → Prop} (hk4 : ∀ (v1 : Int32) (v2 : Int32) (v3 : Int32) (hh : Hp), k4 v1 v2 v3 hh → Rn l G d 0 0 MX5_endDay h0 (qV Q) 4 [some (tR 5 0 (some 14)), some (tI v1), some (tI v2), some (tI v3)] [] hh 0 0) (hk45 : ∀ (v1 : Int32) (v2 : Int32) (hh : Hp), k45 v1 v2 hh → Rn l G d 0 0 MX5_endDay h0 (qV Q) 45 [some (tR 5 0 (some 14)), some (tI v1), some (tI v2)] [] hh 0 0) {v1 : Int32} {v2 : Int32} {v3 : Int32} {h : Hp} (hm : m_X5_endDay_39 k4 k45 Q v1 v2 v3 h) : Rn l G d 0 0 MX5_endDay h0 (qV Q) 39 [some (tR 5 0 (some 14)), some (tI v1), some (tI v2), some (tI v3)] [] h 0 0 := by
  unfold m_X5_endDay_39 at hm
  obtain ⟨x4, e_x4⟩ : ∃ y : Int32, y = v3 + 1 := ⟨_, rfl⟩
  replace hm := hm x4 e_x4
  refine r_iinc (L' := [some (tR 5 0 (some 14)), some (tI v1), some (tI v2), some (tI x4)]) dX5_endDay_39 rfl (by rw [e_x4]; rfl) (by decide) rfl ?_
  refine r_goto (tgt := 4) dX5_endDay_42 rfl ?_
  refine r_keep (L' := [some (tR 5 0 (some 14)), some (tI v1), some (tI v2), some (tI x4)]) [true, true, true, true] rfl ?_
  exact hk4 _ _ _ _ hm
def m_X5_endDay_4 : Nat → (Int32 → Int32 → Hp → Prop) → (Hp → Prop) → Int32 → Int32 → Int32 → Hp → Prop
  | 0, _, _, _, _, _, _ => False
  | n + 1, k45, Q, v1, v2, v3, h => ((hI h 14 6) ≤ v3 → k45 v1 v2 h) ∧ (¬ (hI h 14 6) ≤ v3 → vp_in v3 8 ∧ (vp_in (hI h 17 (ix v3)) 8 ∧ (((lg_cmp (hJ h 23 (ix (hI h 17 (ix v3)))) 0) ≤ 0 → m_X5_endDay_39 (fun (v1 : Int32) (v2 : Int32) (v3 : Int32) (hh : Hp) => m_X5_endDay_4 n k45 Q v1 v2 v3 hh) k45 Q v1 v2 v3 h) ∧ (¬ (lg_cmp (hJ h 23 (ix (hI h 17 (ix v3)))) 0) ≤ 0 → vp_in v3 8 ∧ (∀ x5 : Int32, x5 = (v2 ||| (1 <<< ((hI h 17 (ix v3)) &&& 31))) → m_X5_endDay_39 (fun (v1 : Int32) (v2 : Int32) (v3 : Int32) (hh : Hp) => m_X5_endDay_4 n k45 Q v1 v2 v3 hh) k45 Q v1 x5 v3 h)))))
set_option maxHeartbeats 4000000 in
set_option maxRecDepth 100000 in
theorem s_X5_endDay_4 {l : Launch} {G : Cx} {d : Nat} {h0 : Hp} (hd : 4 ≤ d) {k45 : Int32 → Int32 → Hp → Prop} {Q : Hp → Prop} (hk45 : ∀ (v1 : Int32) (v2 : Int32) (hh : Hp), k45 v1 v2 hh → Rn l G d 0 0 MX5_endDay h0 (qV Q) 45 [some (tR 5 0 (some 14)), some (tI v1), some (tI v2)] [] hh 0 0) : ∀ {n : Nat} {v1 : Int32} {v2 : Int32} {v3 : Int32} {h : Hp}, m_X5_endDay_4 n k45 Q v1 v2 v3 h → Rn l G d 0 0 MX5_endDay h0 (qV Q) 4 [some (tR 5 0 (some 14)), some (tI v1), some (tI v2), some (tI v3)] [] h 0 0 := by
  intro n
  induction n with
  | zero => intro v1 v2 v3 h hm; exact hm.elim
  | succ n ih =>
    intro v1 v2 v3 h hm
    have hk4 := fun (v1 : Int32) (v2 : Int32) (v3 : Int32) (hh : Hp) (hm : m_X5_endDay_4 n k45 Q v1 v2 v3 hh) => ih hm
    rw [m_X5_endDay_4] at hm
    refine r_iload_n dX5_endDay_4 rfl rfl ?_
    refine r_aload_n dX5_endDay_5 rfl rfl ?_
    refine r_getI (k := 6) cl_5 dX5_endDay_6 t_149 (Or.inl rfl) gf_5_6 ?_
    refine r_icmp_ge (tgt := 45) dX5_endDay_9 rfl (fun hc => ?_) (fun hc => ?_)
    · replace hm := hm.1 hc
      refine r_keep (L' := [some (tR 5 0 (some 14)), some (tI v1), some (tI v2)]) [true, true, true] rfl ?_
      exact hk45 _ _ _ hm
    · replace hm := hm.2 hc
      refine r_aload_n dX5_endDay_12 rfl rfl ?_
      refine r_getC (k := 12) cl_5 dX5_endDay_13 t_157 gf_5_12.1 gf_5_12.2 (gc_5_12 _) ?_
      refine r_aload_n dX5_endDay_16 rfl rfl ?_
      refine r_getC (k := 5) cl_5 dX5_endDay_17 t_148 gf_5_5.1 gf_5_5.2 (gc_5_5 _) ?_
      refine r_iload_n dX5_endDay_20 rfl rfl ?_
      refine r_iald dX5_endDay_21 hm.1 ?_
      replace hm := hm.2
      refine r_lald dX5_endDay_22 hm.1 ?_
      replace hm := hm.2
      refine r_lconst (v := 0) dX5_endDay_23 rfl ?_
      refine r_lcmp dX5_endDay_24 ?_
      refine r_if_le (tgt := 39) dX5_endDay_25 rfl (fun hc => ?_) (fun hc => ?_)
      · replace hm := hm.1 hc
        refine r_keep (L' := [some (tR 5 0 (some 14)), some (tI v1), some (tI v2), some (tI v3)]) [true, true, true, true] rfl ?_
        exact s_X5_endDay_39 hd hk4 hk45 hm
      · replace hm := hm.2 hc
        refine r_iload_n dX5_endDay_28 rfl rfl ?_
        refine r_iconst (v := 1) dX5_endDay_29 rfl ?_
        refine r_aload_n dX5_endDay_30 rfl rfl ?_
        refine r_getC (k := 5) cl_5 dX5_endDay_31 t_148 gf_5_5.1 gf_5_5.2 (gc_5_5 _) ?_
        refine r_iload_n dX5_endDay_34 rfl rfl ?_
        refine r_iald dX5_endDay_35 hm.1 ?_
        replace hm := hm.2
        refine r_ishl dX5_endDay_36 ?_
        refine r_ior dX5_endDay_37 ?_
        refine r_nmI (fun x5 e_x5 => ?_)
        replace hm := hm x5 e_x5
        refine r_istore_n (L' := [some (tR 5 0 (some 14)), some (tI v1), some (tI x5), some (tI v3)]) dX5_endDay_38 rfl (by decide) rfl ?_
        refine r_keep (L' := [some (tR 5 0 (some 14)), some (tI v1), some (tI x5), some (tI v3)]) [true, true, true, true] rfl ?_
        exact s_X5_endDay_39 hd hk4 hk45 hm
def m_X5_endDay (v1 : Int32) (h : Hp) (Q : Hp → Prop) : Prop := ∃ n4, m_X5_endDay_4 n4 (m_X5_endDay_45 Q) Q v1 0 0 h
set_option maxHeartbeats 4000000 in
set_option maxRecDepth 100000 in
theorem s_X5_endDay {l : Launch} {G : Cx} {d : Nat} (hd : 4 ≤ d) {v1 : Int32} {h : Hp} {Q : Hp → Prop} (hm : m_X5_endDay v1 h Q) : Ct l G d 0 0 yX5_endDay MX5_endDay [tR 5 0 (some 14), tI v1] h (qV Q) := by
  unfold m_X5_endDay at hm
  refine Ct.of (L := [some (tR 5 0 (some 14)), some (tI v1)]) (by decide) rfl rfl (Nat.le_of_ble_eq_true rfl) rfl ?_
  refine r_iconst (v := 0) dX5_endDay_0 rfl ?_
  refine r_istore_n (L' := [some (tR 5 0 (some 14)), some (tI v1), some (tI 0)]) dX5_endDay_1 rfl (by decide) rfl ?_
  refine r_iconst (v := 0) dX5_endDay_2 rfl ?_
  refine r_istore_n (L' := [some (tR 5 0 (some 14)), some (tI v1), some (tI 0), some (tI 0)]) dX5_endDay_3 rfl (by decide) rfl ?_
  refine r_keep (L' := [some (tR 5 0 (some 14)), some (tI v1), some (tI 0), some (tI 0)]) [true, true, true, true] rfl ?_
  obtain ⟨n, hm⟩ := hm
  refine s_X5_endDay_4 hd ?_ hm
  · exact (fun _ _ _ hm => s_X5_endDay_45 hd hm)
theorem dX5_findUneven_0 : decode cX5_findUneven 0 = .ok (.aload_n 0, 1) := by decide +kernel
theorem dX5_findUneven_1 : decode cX5_findUneven 1 = .ok (.iconst 0, 1) := by decide +kernel
theorem dX5_findUneven_2 : decode cX5_findUneven 2 = .ok (.putfield 168, 3) := by decide +kernel
theorem dX5_findUneven_5 : decode cX5_findUneven 5 = .ok (.aload_n 0, 1) := by decide +kernel
theorem dX5_findUneven_6 : decode cX5_findUneven 6 = .ok (.iconst 0, 1) := by decide +kernel
theorem dX5_findUneven_7 : decode cX5_findUneven 7 = .ok (.putfield 171, 3) := by decide +kernel
theorem dX5_findUneven_10 : decode cX5_findUneven 10 = .ok (.iconst 0, 1) := by decide +kernel
theorem dX5_findUneven_11 : decode cX5_findUneven 11 = .ok (.istore_n 1, 1) := by decide +kernel
theorem dX5_findUneven_12 : decode cX5_findUneven 12 = .ok (.iload_n 1, 1) := by decide +kernel
theorem dX5_findUneven_13 : decode cX5_findUneven 13 = .ok (.aload_n 0, 1) := by decide +kernel
theorem dX5_findUneven_14 : decode cX5_findUneven 14 = .ok (.getfield 108, 3) := by decide +kernel
theorem dX5_findUneven_17 : decode cX5_findUneven 17 = .ok (.if_icmp .ge 81, 3) := by decide +kernel
theorem dX5_findUneven_20 : decode cX5_findUneven 20 = .ok (.aload_n 0, 1) := by decide +kernel
theorem dX5_findUneven_21 : decode cX5_findUneven 21 = .ok (.getfield 19, 3) := by decide +kernel
theorem dX5_findUneven_24 : decode cX5_findUneven 24 = .ok (.iload_n 1, 1) := by decide +kernel
theorem dX5_findUneven_25 : decode cX5_findUneven 25 = .ok (.iaload, 1) := by decide +kernel
theorem dX5_findUneven_26 : decode cX5_findUneven 26 = .ok (.istore_n 2, 1) := by decide +kernel
theorem dX5_findUneven_27 : decode cX5_findUneven 27 = .ok (.iconst 1, 1) := by decide +kernel
theorem dX5_findUneven_28 : decode cX5_findUneven 28 = .ok (.istore_n 3, 1) := by decide +kernel
theorem dX5_findUneven_29 : decode cX5_findUneven 29 = .ok (.iload_n 3, 1) := by decide +kernel
theorem dX5_findUneven_30 : decode cX5_findUneven 30 = .ok (.bipush 6, 2) := by decide +kernel
theorem dX5_findUneven_32 : decode cX5_findUneven 32 = .ok (.if_icmp .ge 37, 3) := by decide +kernel
theorem dX5_findUneven_35 : decode cX5_findUneven 35 = .ok (.aload_n 0, 1) := by decide +kernel
theorem dX5_findUneven_36 : decode cX5_findUneven 36 = .ok (.getfield 25, 3) := by decide +kernel
theorem dX5_findUneven_39 : decode cX5_findUneven 39 = .ok (.iload_n 2, 1) := by decide +kernel
theorem dX5_findUneven_40 : decode cX5_findUneven 40 = .ok (.bipush 6, 2) := by decide +kernel
theorem dX5_findUneven_42 : decode cX5_findUneven 42 = .ok (.imul, 1) := by decide +kernel
theorem dX5_findUneven_43 : decode cX5_findUneven 43 = .ok (.iload_n 3, 1) := by decide +kernel
theorem dX5_findUneven_44 : decode cX5_findUneven 44 = .ok (.iadd, 1) := by decide +kernel
theorem dX5_findUneven_45 : decode cX5_findUneven 45 = .ok (.laload, 1) := by decide +kernel
theorem dX5_findUneven_46 : decode cX5_findUneven 46 = .ok (.lconst 0, 1) := by decide +kernel
theorem dX5_findUneven_47 : decode cX5_findUneven 47 = .ok (.lcmp, 1) := by decide +kernel
theorem dX5_findUneven_48 : decode cX5_findUneven 48 = .ok (.ifCond .eq 15, 3) := by decide +kernel
theorem dX5_findUneven_51 : decode cX5_findUneven 51 = .ok (.aload_n 0, 1) := by decide +kernel
theorem dX5_findUneven_52 : decode cX5_findUneven 52 = .ok (.dup, 1) := by decide +kernel
theorem dX5_findUneven_53 : decode cX5_findUneven 53 = .ok (.getfield 168, 3) := by decide +kernel
theorem dX5_findUneven_56 : decode cX5_findUneven 56 = .ok (.iconst 1, 1) := by decide +kernel
theorem dX5_findUneven_57 : decode cX5_findUneven 57 = .ok (.iload_n 2, 1) := by decide +kernel
theorem dX5_findUneven_58 : decode cX5_findUneven 58 = .ok (.ishl, 1) := by decide +kernel
theorem dX5_findUneven_59 : decode cX5_findUneven 59 = .ok (.ior, 1) := by decide +kernel
theorem dX5_findUneven_60 : decode cX5_findUneven 60 = .ok (.putfield 168, 3) := by decide +kernel
theorem dX5_findUneven_63 : decode cX5_findUneven 63 = .ok (.iinc 3 1, 3) := by decide +kernel
theorem dX5_findUneven_66 : decode cX5_findUneven 66 = .ok (.goto (-37), 3) := by decide +kernel
theorem dX5_findUneven_69 : decode cX5_findUneven 69 = .ok (.aload_n 0, 1) := by decide +kernel
theorem dX5_findUneven_70 : decode cX5_findUneven 70 = .ok (.getfield 31, 3) := by decide +kernel
theorem dX5_findUneven_73 : decode cX5_findUneven 73 = .ok (.iload_n 2, 1) := by decide +kernel
theorem dX5_findUneven_74 : decode cX5_findUneven 74 = .ok (.laload, 1) := by decide +kernel
theorem dX5_findUneven_75 : decode cX5_findUneven 75 = .ok (.lconst 0, 1) := by decide +kernel
theorem dX5_findUneven_76 : decode cX5_findUneven 76 = .ok (.lcmp, 1) := by decide +kernel
theorem dX5_findUneven_77 : decode cX5_findUneven 77 = .ok (.ifCond .ge 15, 3) := by decide +kernel
theorem dX5_findUneven_80 : decode cX5_findUneven 80 = .ok (.aload_n 0, 1) := by decide +kernel
theorem dX5_findUneven_81 : decode cX5_findUneven 81 = .ok (.dup, 1) := by decide +kernel
theorem dX5_findUneven_82 : decode cX5_findUneven 82 = .ok (.getfield 171, 3) := by decide +kernel
theorem dX5_findUneven_85 : decode cX5_findUneven 85 = .ok (.iconst 1, 1) := by decide +kernel
theorem dX5_findUneven_86 : decode cX5_findUneven 86 = .ok (.iload_n 2, 1) := by decide +kernel
theorem dX5_findUneven_87 : decode cX5_findUneven 87 = .ok (.ishl, 1) := by decide +kernel
theorem dX5_findUneven_88 : decode cX5_findUneven 88 = .ok (.ior, 1) := by decide +kernel
theorem dX5_findUneven_89 : decode cX5_findUneven 89 = .ok (.putfield 171, 3) := by decide +kernel
theorem dX5_findUneven_92 : decode cX5_findUneven 92 = .ok (.iinc 1 1, 3) := by decide +kernel
theorem dX5_findUneven_95 : decode cX5_findUneven 95 = .ok (.goto (-83), 3) := by decide +kernel
theorem dX5_findUneven_98 : decode cX5_findUneven 98 = .ok (.return_, 1) := by decide +kernel
def m_X5_findUneven_92 (k12 : Int32 → Hp → Prop) (Q : Hp → Prop) (v1 : Int32) (h : Hp) : Prop := ∀ x1 : Int32, x1 = v1 + 1 → k12 x1 h
set_option maxHeartbeats 4000000 in
set_option maxRecDepth 100000 in
theorem s_X5_findUneven_92 {l : Launch} {G : Cx} {d : Nat} {h0 : Hp} (hd : 2 ≤ d) {k12 : Int32 → Hp → Prop} {Q : Hp → Prop} (hk12 : ∀ (v1 : Int32) (hh : Hp), k12 v1 hh → Rn l G d 0 0 MX5_findUneven h0 (qV Q) 12 [some (tR 5 0 (some 14)), some (tI v1)] [] hh 0 0) {v1 : Int32} {h : Hp} (hm : m_X5_findUneven_92 k12 Q v1 h) : Rn l G d 0 0 MX5_findUneven h0 (qV Q) 92 [some (tR 5 0 (some 14)), some (tI v1)] [] h 0 0 := by
  unfold m_X5_findUneven_92 at hm
  obtain ⟨x1, e_x1⟩ : ∃ y : Int32, y = v1 + 1 := ⟨_, rfl⟩
  replace hm := hm x1 e_x1
  refine r_iinc (L' := [some (tR 5 0 (some 14)), some (tI x1)]) dX5_findUneven_92 rfl (by rw [e_x1]; rfl) (by decide) rfl ?_
  refine r_goto (tgt := 12) dX5_findUneven_95 rfl ?_
  refine r_keep (L' := [some (tR 5 0 (some 14)), some (tI x1)]) [true, true] rfl ?_
  exact hk12 _ _ hm
def m_X5_findUneven_69 (k12 : Int32 → Hp → Prop) (Q : Hp → Prop) (v1 : Int32) (v2 : Int32) (h : Hp) : Prop := vp_in v2 8 ∧ ((0 ≤ (lg_cmp (hJ h 21 (ix v2)) 0) → m_X5_findUneven_92 k12 Q v1 h) ∧ (¬ 0 ≤ (lg_cmp (hJ h 21 (ix v2)) 0) → m_X5_findUneven_92 k12 Q v1 (wI h 14 19 ((hI h 14 19) ||| (1 <<< (v2 &&& 31))))))
set_option maxHeartbeats 4000000 in
set_option maxRecDepth 100000 in
theorem s_X5_findUneven_69 {l : Launch} {G : Cx} {d : Nat} {h0 : Hp} (hd : 2 ≤ d) {k12 : Int32 → Hp → Prop} {Q : Hp → Prop} (hk12 : ∀ (v1 : Int32) (hh : Hp), k12 v1 hh → Rn l G d 0 0 MX5_findUneven h0 (qV Q) 12 [some (tR 5 0 (some 14)), some (tI v1)] [] hh 0 0) {v1 : Int32} {v2 : Int32} {h : Hp} (hm : m_X5_findUneven_69 k12 Q v1 v2 h) : Rn l G d 0 0 MX5_findUneven h0 (qV Q) 69 [some (tR 5 0 (some 14)), some (tI v1), some (tI v2)] [] h 0 0 := by
  unfold m_X5_findUneven_69 at hm
  refine r_aload_n dX5_findUneven_69 rfl rfl ?_
  refine r_getC (k := 10) cl_5 dX5_findUneven_70 t_153 gf_5_10.1 gf_5_10.2 (gc_5_10 _) ?_
  refine r_iload_n dX5_findUneven_73 rfl rfl ?_
  refine r_lald dX5_findUneven_74 hm.1 ?_
  replace hm := hm.2
  refine r_lconst (v := 0) dX5_findUneven_75 rfl ?_
  refine r_lcmp dX5_findUneven_76 ?_
  refine r_if_ge (tgt := 92) dX5_findUneven_77 rfl (fun hc => ?_) (fun hc => ?_)
  · replace hm := hm.1 hc
    refine r_keep (L' := [some (tR 5 0 (some 14)), some (tI v1)]) [true, true] rfl ?_
    exact s_X5_findUneven_92 hd hk12 hm
  · replace hm := hm.2 hc
    refine r_aload_n dX5_findUneven_80 rfl rfl ?_
    refine r_dup dX5_findUneven_81 cv_cat1R ?_
    refine r_getI (k := 19) cl_5 dX5_findUneven_82 t_164 (Or.inl rfl) gf_5_19 ?_
    refine r_iconst (v := 1) dX5_findUneven_85 rfl ?_
    refine r_iload_n dX5_findUneven_86 rfl rfl ?_
    refine r_ishl dX5_findUneven_87 ?_
    refine r_ior dX5_findUneven_88 ?_
    refine r_putI0 (k := 19) cl_5 dX5_findUneven_89 t_164 (Or.inl rfl) gf_5_19 pf_5_19.1 (Or.inl pf_5_19.2) ?_
    refine r_keep (L' := [some (tR 5 0 (some 14)), some (tI v1)]) [true, true] rfl ?_
    exact s_X5_findUneven_92 hd hk12 hm
def m_X5_findUneven_63 (k29 : Int32 → Int32 → Int32 → Hp → Prop) (k69 : Int32 → Int32 → Hp → Prop) (Q : Hp → Prop) (v1 : Int32) (v2 : Int32) (v3 : Int32) (h : Hp) : Prop := ∀ x2 : Int32, x2 = v3 + 1 → k29 v1 v2 x2 h
set_option maxHeartbeats 4000000 in
set_option maxRecDepth 100000 in
theorem s_X5_findUneven_63 {l : Launch} {G : Cx} {d : Nat} {h0 : Hp} (hd : 2 ≤ d) {k29 : Int32 → Int32 → Int32 → Hp → Prop} {k69 : Int32 → Int32 → Hp → Prop} {Q : Hp → Prop} (hk29 : ∀ (v1 : Int32) (v2 : Int32) (v3 : Int32) (hh : Hp), k29 v1 v2 v3 hh → Rn l G d 0 0 MX5_findUneven h0 (qV Q) 29 [some (tR 5 0 (some 14)), some (tI v1), some (tI v2), some (tI v3)] [] hh 0 0) (hk69 : ∀ (v1 : Int32) (v2 : Int32) (hh : Hp), k69 v1 v2 hh → Rn l G d 0 0 MX5_findUneven h0 (qV Q) 69 [some (tR 5 0 (some 14)), some (tI v1), some (tI v2)] [] hh 0 0) {v1 : Int32} {v2 : Int32} {v3 : Int32} {h : Hp} (hm : m_X5_findUneven_63 k29 k69 Q v1 v2 v3 h) : Rn l G d 0 0 MX5_findUneven h0 (qV Q) 63 [some (tR 5 0 (some 14)), some (tI v1), some (tI v2), some (tI v3)] [] h 0 0 := by
  unfold m_X5_findUneven_63 at hm
  obtain ⟨x2, e_x2⟩ : ∃ y : Int32, y = v3 + 1 := ⟨_, rfl⟩
  replace hm := hm x2 e_x2
  refine r_iinc (L' := [some (tR 5 0 (some 14)), some (tI v1), some (tI v2), some (tI x2)]) dX5_findUneven_63 rfl (by rw [e_x2]; rfl) (by decide) rfl ?_
  refine r_goto (tgt := 29) dX5_findUneven_66 rfl ?_
  refine r_keep (L' := [some (tR 5 0 (some 14)), some (tI v1), some (tI v2), some (tI x2)]) [true, true, true, true] rfl ?_
  exact hk29 _ _ _ _ hm
def m_X5_findUneven_29 : Nat → (Int32 → Int32 → Hp → Prop) → (Hp → Prop) → Int32 → Int32 → Int32 → Hp → Prop
  | 0, _, _, _, _, _, _ => False
  | n + 1, k69, Q, v1, v2, v3, h => (6 ≤ v3 → k69 v1 v2 h) ∧ (¬ 6 ≤ v3 → vp_in ((v2 * 6) + v3) 48 ∧ (((lg_cmp (hJ h 19 (ix ((v2 * 6) + v3))) 0) = 0 → m_X5_findUneven_63 (fun (v1 : Int32) (v2 : Int32) (v3 : Int32) (hh : Hp) => m_X5_findUneven_29 n k69 Q v1 v2 v3 hh) k69 Q v1 v2 v3 h) ∧ (¬ (lg_cmp (hJ h 19 (ix ((v2 * 6) + v3))) 0) = 0 → m_X5_findUneven_63 (fun (v1 : Int32) (v2 : Int32) (v3 : Int32) (hh : Hp) => m_X5_findUneven_29 n k69 Q v1 v2 v3 hh) k69 Q v1 v2 v3 (wI h 14 18 ((hI h 14 18) ||| (1 <<< (v2 &&& 31)))))))
set_option maxHeartbeats 4000000 in
set_option maxRecDepth 100000 in
theorem s_X5_findUneven_29 {l : Launch} {G : Cx} {d : Nat} {h0 : Hp} (hd : 2 ≤ d) {k69 : Int32 → Int32 → Hp → Prop} {Q : Hp → Prop} (hk69 : ∀ (v1 : Int32) (v2 : Int32) (hh : Hp), k69 v1 v2 hh → Rn l G d 0 0 MX5_findUneven h0 (qV Q) 69 [some (tR 5 0 (some 14)), some (tI v1), some (tI v2)] [] hh 0 0) : ∀ {n : Nat} {v1 : Int32} {v2 : Int32} {v3 : Int32} {h : Hp}, m_X5_findUneven_29 n k69 Q v1 v2 v3 h → Rn l G d 0 0 MX5_findUneven h0 (qV Q) 29 [some (tR 5 0 (some 14)), some (tI v1), some (tI v2), some (tI v3)] [] h 0 0 := by
  intro n
  induction n with
  | zero => intro v1 v2 v3 h hm; exact hm.elim
  | succ n ih =>
    intro v1 v2 v3 h hm
    have hk29 := fun (v1 : Int32) (v2 : Int32) (v3 : Int32) (hh : Hp) (hm : m_X5_findUneven_29 n k69 Q v1 v2 v3 hh) => ih hm
    rw [m_X5_findUneven_29] at hm
    refine r_iload_n dX5_findUneven_29 rfl rfl ?_
    refine r_bipush (v := 6) dX5_findUneven_30 rfl ?_
    refine r_icmp_ge (tgt := 69) dX5_findUneven_32 rfl (fun hc => ?_) (fun hc => ?_)
    · replace hm := hm.1 hc
      refine r_keep (L' := [some (tR 5 0 (some 14)), some (tI v1), some (tI v2)]) [true, true, true] rfl ?_
      exact hk69 _ _ _ hm
    · replace hm := hm.2 hc
      refine r_aload_n dX5_findUneven_35 rfl rfl ?_
      refine r_getC (k := 8) cl_5 dX5_findUneven_36 t_151 gf_5_8.1 gf_5_8.2 (gc_5_8 _) ?_
      refine r_iload_n dX5_findUneven_39 rfl rfl ?_
      refine r_bipush (v := 6) dX5_findUneven_40 rfl ?_
      refine r_imul dX5_findUneven_42 ?_
      refine r_iload_n dX5_findUneven_43 rfl rfl ?_
      refine r_iadd dX5_findUneven_44 ?_
      refine r_lald dX5_findUneven_45 hm.1 ?_
      replace hm := hm.2
      refine r_lconst (v := 0) dX5_findUneven_46 rfl ?_
      refine r_lcmp dX5_findUneven_47 ?_
      refine r_if_eq (tgt := 63) dX5_findUneven_48 rfl (fun hc => ?_) (fun hc => ?_)
      · replace hm := hm.1 hc
        refine r_keep (L' := [some (tR 5 0 (some 14)), some (tI v1), some (tI v2), some (tI v3)]) [true, true, true, true] rfl ?_
        exact s_X5_findUneven_63 hd hk29 hk69 hm
      · replace hm := hm.2 hc
        refine r_aload_n dX5_findUneven_51 rfl rfl ?_
        refine r_dup dX5_findUneven_52 cv_cat1R ?_
        refine r_getI (k := 18) cl_5 dX5_findUneven_53 t_163 (Or.inl rfl) gf_5_18 ?_
        refine r_iconst (v := 1) dX5_findUneven_56 rfl ?_
        refine r_iload_n dX5_findUneven_57 rfl rfl ?_
        refine r_ishl dX5_findUneven_58 ?_
        refine r_ior dX5_findUneven_59 ?_
        refine r_putI0 (k := 18) cl_5 dX5_findUneven_60 t_163 (Or.inl rfl) gf_5_18 pf_5_18.1 (Or.inl pf_5_18.2) ?_
        refine r_keep (L' := [some (tR 5 0 (some 14)), some (tI v1), some (tI v2), some (tI v3)]) [true, true, true, true] rfl ?_
        exact s_X5_findUneven_63 hd hk29 hk69 hm
def m_X5_findUneven_12 : Nat → (Hp → Prop) → Int32 → Hp → Prop
  | 0, _, _, _ => False
  | n + 1, Q, v1, h => ((hI h 14 6) ≤ v1 → Q h) ∧ (¬ (hI h 14 6) ≤ v1 → vp_in v1 8 ∧ (∀ x3 : Int32, x3 = (hI h 17 (ix v1)) → ∃ n29, m_X5_findUneven_29 n29 (m_X5_findUneven_69 (fun (v1 : Int32) (hh : Hp) => m_X5_findUneven_12 n Q v1 hh) Q) Q v1 x3 1 h))
set_option maxHeartbeats 4000000 in
set_option maxRecDepth 100000 in
theorem s_X5_findUneven_12 {l : Launch} {G : Cx} {d : Nat} {h0 : Hp} (hd : 2 ≤ d) {Q : Hp → Prop} : ∀ {n : Nat} {v1 : Int32} {h : Hp}, m_X5_findUneven_12 n Q v1 h → Rn l G d 0 0 MX5_findUneven h0 (qV Q) 12 [some (tR 5 0 (some 14)), some (tI v1)] [] h 0 0 := by
  intro n
  induction n with
  | zero => intro v1 h hm; exact hm.elim
  | succ n ih =>
    intro v1 h hm
    have hk12 := fun (v1 : Int32) (hh : Hp) (hm : m_X5_findUneven_12 n Q v1 hh) => ih hm
    rw [m_X5_findUneven_12] at hm
    refine r_iload_n dX5_findUneven_12 rfl rfl ?_
    refine r_aload_n dX5_findUneven_13 rfl rfl ?_
    refine r_getI (k := 6) cl_5 dX5_findUneven_14 t_149 (Or.inl rfl) gf_5_6 ?_
    refine r_icmp_ge (tgt := 98) dX5_findUneven_17 rfl (fun hc => ?_) (fun hc => ?_)
    · replace hm := hm.1 hc
      exact r_return dX5_findUneven_98 rfl ⟨by decide, by decide⟩ ⟨rfl, hm⟩
    · replace hm := hm.2 hc
      refine r_aload_n dX5_findUneven_20 rfl rfl ?_
      refine r_getC (k := 5) cl_5 dX5_findUneven_21 t_148 gf_5_5.1 gf_5_5.2 (gc_5_5 _) ?_
      refine r_iload_n dX5_findUneven_24 rfl rfl ?_
      refine r_iald dX5_findUneven_25 hm.1 ?_
      replace hm := hm.2
      refine r_nmI (fun x3 e_x3 => ?_)
      replace hm := hm x3 e_x3
      refine r_istore_n (L' := [some (tR 5 0 (some 14)), some (tI v1), some (tI x3)]) dX5_findUneven_26 rfl (by decide) rfl ?_
      refine r_iconst (v := 1) dX5_findUneven_27 rfl ?_
      refine r_istore_n (L' := [some (tR 5 0 (some 14)), some (tI v1), some (tI x3), some (tI 1)]) dX5_findUneven_28 rfl (by decide) rfl ?_
      refine r_keep (L' := [some (tR 5 0 (some 14)), some (tI v1), some (tI x3), some (tI 1)]) [true, true, true, true] rfl ?_
      obtain ⟨n, hm⟩ := hm
      refine s_X5_findUneven_29 hd ?_ hm
      · exact (fun _ _ _ hm => s_X5_findUneven_69 hd hk12 hm)
def m_X5_findUneven  (h : Hp) (Q : Hp → Prop) : Prop := ∃ n12, m_X5_findUneven_12 n12 Q 0 (wI (wI h 14 18 0) 14 19 0)
set_option maxHeartbeats 4000000 in
set_option maxRecDepth 100000 in
theorem s_X5_findUneven {l : Launch} {G : Cx} {d : Nat} (hd : 2 ≤ d) {h : Hp} {Q : Hp → Prop} (hm : m_X5_findUneven h Q) : Ct l G d 0 0 yX5_findUneven MX5_findUneven [tR 5 0 (some 14)] h (qV Q) := by
  unfold m_X5_findUneven at hm
  refine Ct.of (L := [some (tR 5 0 (some 14))]) (by decide) rfl rfl (Nat.le_of_ble_eq_true rfl) rfl ?_
  refine r_aload_n dX5_findUneven_0 rfl rfl ?_
  refine r_iconst (v := 0) dX5_findUneven_1 rfl ?_
  refine r_putI0 (k := 18) cl_5 dX5_findUneven_2 t_163 (Or.inl rfl) gf_5_18 pf_5_18.1 (Or.inl pf_5_18.2) ?_
  refine r_aload_n dX5_findUneven_5 rfl rfl ?_
  refine r_iconst (v := 0) dX5_findUneven_6 rfl ?_
  refine r_putI0 (k := 19) cl_5 dX5_findUneven_7 t_164 (Or.inl rfl) gf_5_19 pf_5_19.1 (Or.inl pf_5_19.2) ?_
  refine r_iconst (v := 0) dX5_findUneven_10 rfl ?_
  refine r_istore_n (L' := [some (tR 5 0 (some 14)), some (tI 0)]) dX5_findUneven_11 rfl (by decide) rfl ?_
  refine r_keep (L' := [some (tR 5 0 (some 14)), some (tI 0)]) [true, true] rfl ?_
  obtain ⟨n, hm⟩ := hm
  refine s_X5_findUneven_12 hd hm
theorem dX5_weigh_0 : decode cX5_weigh 0 = .ok (.aload_n 0, 1) := by decide +kernel
theorem dX5_weigh_1 : decode cX5_weigh 1 = .ok (.getfield 25, 3) := by decide +kernel
theorem dX5_weigh_4 : decode cX5_weigh 4 = .ok (.lconst 0, 1) := by decide +kernel
theorem dX5_weigh_5 : decode cX5_weigh 5 = .ok (.invokestatic 87, 3) := by decide +kernel
theorem dX5_weigh_8 : decode cX5_weigh 8 = .ok (.aload_n 0, 1) := by decide +kernel
theorem dX5_weigh_9 : decode cX5_weigh 9 = .ok (.getfield 31, 3) := by decide +kernel
theorem dX5_weigh_12 : decode cX5_weigh 12 = .ok (.lconst 0, 1) := by decide +kernel
theorem dX5_weigh_13 : decode cX5_weigh 13 = .ok (.invokestatic 87, 3) := by decide +kernel
theorem dX5_weigh_16 : decode cX5_weigh 16 = .ok (.aload_n 0, 1) := by decide +kernel
theorem dX5_weigh_17 : decode cX5_weigh 17 = .ok (.getfield 34, 3) := by decide +kernel
theorem dX5_weigh_20 : decode cX5_weigh 20 = .ok (.lconst 0, 1) := by decide +kernel
theorem dX5_weigh_21 : decode cX5_weigh 21 = .ok (.invokestatic 87, 3) := by decide +kernel
theorem dX5_weigh_24 : decode cX5_weigh 24 = .ok (.aload_n 0, 1) := by decide +kernel
theorem dX5_weigh_25 : decode cX5_weigh 25 = .ok (.iconst 0, 1) := by decide +kernel
theorem dX5_weigh_26 : decode cX5_weigh 26 = .ok (.putfield 149, 3) := by decide +kernel
theorem dX5_weigh_29 : decode cX5_weigh 29 = .ok (.aload_n 0, 1) := by decide +kernel
theorem dX5_weigh_30 : decode cX5_weigh 30 = .ok (.iconst 0, 1) := by decide +kernel
theorem dX5_weigh_31 : decode cX5_weigh 31 = .ok (.putfield 152, 3) := by decide +kernel
theorem dX5_weigh_34 : decode cX5_weigh 34 = .ok (.aload_n 0, 1) := by decide +kernel
theorem dX5_weigh_35 : decode cX5_weigh 35 = .ok (.iconst 0, 1) := by decide +kernel
theorem dX5_weigh_36 : decode cX5_weigh 36 = .ok (.putfield 155, 3) := by decide +kernel
theorem dX5_weigh_39 : decode cX5_weigh 39 = .ok (.iconst (-1), 1) := by decide +kernel
theorem dX5_weigh_40 : decode cX5_weigh 40 = .ok (.istore_n 2, 1) := by decide +kernel
theorem dX5_weigh_41 : decode cX5_weigh 41 = .ok (.iconst 0, 1) := by decide +kernel
theorem dX5_weigh_42 : decode cX5_weigh 42 = .ok (.istore_n 3, 1) := by decide +kernel
theorem dX5_weigh_43 : decode cX5_weigh 43 = .ok (.iload_n 3, 1) := by decide +kernel
theorem dX5_weigh_44 : decode cX5_weigh 44 = .ok (.aload_n 0, 1) := by decide +kernel
theorem dX5_weigh_45 : decode cX5_weigh 45 = .ok (.getfield 129, 3) := by decide +kernel
theorem dX5_weigh_48 : decode cX5_weigh 48 = .ok (.if_icmp .ge 192, 3) := by decide +kernel
theorem dX5_weigh_51 : decode cX5_weigh 51 = .ok (.iload_n 3, 1) := by decide +kernel
theorem dX5_weigh_52 : decode cX5_weigh 52 = .ok (.bipush 6, 2) := by decide +kernel
theorem dX5_weigh_54 : decode cX5_weigh 54 = .ok (.imul, 1) := by decide +kernel
theorem dX5_weigh_55 : decode cX5_weigh 55 = .ok (.istore 4, 2) := by decide +kernel
theorem dX5_weigh_57 : decode cX5_weigh 57 = .ok (.iload_n 1, 1) := by decide +kernel
theorem dX5_weigh_58 : decode cX5_weigh 58 = .ok (.aload_n 0, 1) := by decide +kernel
theorem dX5_weigh_59 : decode cX5_weigh 59 = .ok (.getfield 11, 3) := by decide +kernel
theorem dX5_weigh_62 : decode cX5_weigh 62 = .ok (.iload 4, 2) := by decide +kernel
theorem dX5_weigh_64 : decode cX5_weigh 64 = .ok (.iconst 4, 1) := by decide +kernel
theorem dX5_weigh_65 : decode cX5_weigh 65 = .ok (.iadd, 1) := by decide +kernel
theorem dX5_weigh_66 : decode cX5_weigh 66 = .ok (.iaload, 1) := by decide +kernel
theorem dX5_weigh_67 : decode cX5_weigh 67 = .ok (.iand, 1) := by decide +kernel
theorem dX5_weigh_68 : decode cX5_weigh 68 = .ok (.aload_n 0, 1) := by decide +kernel
theorem dX5_weigh_69 : decode cX5_weigh 69 = .ok (.getfield 11, 3) := by decide +kernel
theorem dX5_weigh_72 : decode cX5_weigh 72 = .ok (.iload 4, 2) := by decide +kernel
theorem dX5_weigh_74 : decode cX5_weigh 74 = .ok (.iconst 5, 1) := by decide +kernel
theorem dX5_weigh_75 : decode cX5_weigh 75 = .ok (.iadd, 1) := by decide +kernel
theorem dX5_weigh_76 : decode cX5_weigh 76 = .ok (.iaload, 1) := by decide +kernel
theorem dX5_weigh_77 : decode cX5_weigh 77 = .ok (.if_icmp .eq 6, 3) := by decide +kernel
theorem dX5_weigh_80 : decode cX5_weigh 80 = .ok (.goto 154, 3) := by decide +kernel
theorem dX5_weigh_83 : decode cX5_weigh 83 = .ok (.aload_n 0, 1) := by decide +kernel
theorem dX5_weigh_84 : decode cX5_weigh 84 = .ok (.getfield 11, 3) := by decide +kernel
theorem dX5_weigh_87 : decode cX5_weigh 87 = .ok (.iload 4, 2) := by decide +kernel
theorem dX5_weigh_89 : decode cX5_weigh 89 = .ok (.iconst 3, 1) := by decide +kernel
theorem dX5_weigh_90 : decode cX5_weigh 90 = .ok (.iadd, 1) := by decide +kernel
theorem dX5_weigh_91 : decode cX5_weigh 91 = .ok (.iaload, 1) := by decide +kernel
theorem dX5_weigh_92 : decode cX5_weigh 92 = .ok (.istore 5, 2) := by decide +kernel
theorem dX5_weigh_94 : decode cX5_weigh 94 = .ok (.iload 5, 2) := by decide +kernel
theorem dX5_weigh_96 : decode cX5_weigh 96 = .ok (.ifCond .ne 80, 3) := by decide +kernel
theorem dX5_weigh_99 : decode cX5_weigh 99 = .ok (.aload_n 0, 1) := by decide +kernel
theorem dX5_weigh_100 : decode cX5_weigh 100 = .ok (.getfield 11, 3) := by decide +kernel
theorem dX5_weigh_103 : decode cX5_weigh 103 = .ok (.iload 4, 2) := by decide +kernel
theorem dX5_weigh_105 : decode cX5_weigh 105 = .ok (.iconst 0, 1) := by decide +kernel
theorem dX5_weigh_106 : decode cX5_weigh 106 = .ok (.iadd, 1) := by decide +kernel
theorem dX5_weigh_107 : decode cX5_weigh 107 = .ok (.iaload, 1) := by decide +kernel
theorem dX5_weigh_108 : decode cX5_weigh 108 = .ok (.iload_n 2, 1) := by decide +kernel
theorem dX5_weigh_109 : decode cX5_weigh 109 = .ok (.if_icmp .eq 18, 3) := by decide +kernel
theorem dX5_weigh_112 : decode cX5_weigh 112 = .ok (.aload_n 0, 1) := by decide +kernel
theorem dX5_weigh_113 : decode cX5_weigh 113 = .ok (.iload_n 2, 1) := by decide +kernel
theorem dX5_weigh_114 : decode cX5_weigh 114 = .ok (.invokevirtual 158, 3) := by decide +kernel
theorem dX5_weigh_117 : decode cX5_weigh 117 = .ok (.aload_n 0, 1) := by decide +kernel
theorem dX5_weigh_118 : decode cX5_weigh 118 = .ok (.getfield 11, 3) := by decide +kernel
theorem dX5_weigh_121 : decode cX5_weigh 121 = .ok (.iload 4, 2) := by decide +kernel
theorem dX5_weigh_123 : decode cX5_weigh 123 = .ok (.iconst 0, 1) := by decide +kernel
theorem dX5_weigh_124 : decode cX5_weigh 124 = .ok (.iadd, 1) := by decide +kernel
theorem dX5_weigh_125 : decode cX5_weigh 125 = .ok (.iaload, 1) := by decide +kernel
theorem dX5_weigh_126 : decode cX5_weigh 126 = .ok (.istore_n 2, 1) := by decide +kernel
theorem dX5_weigh_127 : decode cX5_weigh 127 = .ok (.aload_n 0, 1) := by decide +kernel
theorem dX5_weigh_128 : decode cX5_weigh 128 = .ok (.getfield 37, 3) := by decide +kernel
theorem dX5_weigh_131 : decode cX5_weigh 131 = .ok (.aload_n 0, 1) := by decide +kernel
theorem dX5_weigh_132 : decode cX5_weigh 132 = .ok (.getfield 11, 3) := by decide +kernel
theorem dX5_weigh_135 : decode cX5_weigh 135 = .ok (.iload 4, 2) := by decide +kernel
theorem dX5_weigh_137 : decode cX5_weigh 137 = .ok (.iconst 1, 1) := by decide +kernel
theorem dX5_weigh_138 : decode cX5_weigh 138 = .ok (.iadd, 1) := by decide +kernel
theorem dX5_weigh_139 : decode cX5_weigh 139 = .ok (.iaload, 1) := by decide +kernel
theorem dX5_weigh_140 : decode cX5_weigh 140 = .ok (.dup2, 1) := by decide +kernel
theorem dX5_weigh_141 : decode cX5_weigh 141 = .ok (.laload, 1) := by decide +kernel
theorem dX5_weigh_142 : decode cX5_weigh 142 = .ok (.aload_n 0, 1) := by decide +kernel
theorem dX5_weigh_143 : decode cX5_weigh 143 = .ok (.getfield 15, 3) := by decide +kernel
theorem dX5_weigh_146 : decode cX5_weigh 146 = .ok (.iload_n 3, 1) := by decide +kernel
theorem dX5_weigh_147 : decode cX5_weigh 147 = .ok (.laload, 1) := by decide +kernel
theorem dX5_weigh_148 : decode cX5_weigh 148 = .ok (.lsub, 1) := by decide +kernel
theorem dX5_weigh_149 : decode cX5_weigh 149 = .ok (.lastore, 1) := by decide +kernel
theorem dX5_weigh_150 : decode cX5_weigh 150 = .ok (.aload_n 0, 1) := by decide +kernel
theorem dX5_weigh_151 : decode cX5_weigh 151 = .ok (.getfield 37, 3) := by decide +kernel
theorem dX5_weigh_154 : decode cX5_weigh 154 = .ok (.aload_n 0, 1) := by decide +kernel
theorem dX5_weigh_155 : decode cX5_weigh 155 = .ok (.getfield 11, 3) := by decide +kernel
theorem dX5_weigh_158 : decode cX5_weigh 158 = .ok (.iload 4, 2) := by decide +kernel
theorem dX5_weigh_160 : decode cX5_weigh 160 = .ok (.iconst 2, 1) := by decide +kernel
theorem dX5_weigh_161 : decode cX5_weigh 161 = .ok (.iadd, 1) := by decide +kernel
theorem dX5_weigh_162 : decode cX5_weigh 162 = .ok (.iaload, 1) := by decide +kernel
theorem dX5_weigh_163 : decode cX5_weigh 163 = .ok (.dup2, 1) := by decide +kernel
theorem dX5_weigh_164 : decode cX5_weigh 164 = .ok (.laload, 1) := by decide +kernel
theorem dX5_weigh_165 : decode cX5_weigh 165 = .ok (.aload_n 0, 1) := by decide +kernel
theorem dX5_weigh_166 : decode cX5_weigh 166 = .ok (.getfield 15, 3) := by decide +kernel
theorem dX5_weigh_169 : decode cX5_weigh 169 = .ok (.iload_n 3, 1) := by decide +kernel
theorem dX5_weigh_170 : decode cX5_weigh 170 = .ok (.laload, 1) := by decide +kernel
theorem dX5_weigh_171 : decode cX5_weigh 171 = .ok (.ladd, 1) := by decide +kernel
theorem dX5_weigh_172 : decode cX5_weigh 172 = .ok (.lastore, 1) := by decide +kernel
theorem dX5_weigh_173 : decode cX5_weigh 173 = .ok (.goto 61, 3) := by decide +kernel
theorem dX5_weigh_176 : decode cX5_weigh 176 = .ok (.aload_n 0, 1) := by decide +kernel
theorem dX5_weigh_177 : decode cX5_weigh 177 = .ok (.getfield 25, 3) := by decide +kernel
theorem dX5_weigh_180 : decode cX5_weigh 180 = .ok (.aload_n 0, 1) := by decide +kernel
theorem dX5_weigh_181 : decode cX5_weigh 181 = .ok (.getfield 11, 3) := by decide +kernel
theorem dX5_weigh_184 : decode cX5_weigh 184 = .ok (.iload 4, 2) := by decide +kernel
theorem dX5_weigh_186 : decode cX5_weigh 186 = .ok (.iconst 1, 1) := by decide +kernel
theorem dX5_weigh_187 : decode cX5_weigh 187 = .ok (.iadd, 1) := by decide +kernel
theorem dX5_weigh_188 : decode cX5_weigh 188 = .ok (.iaload, 1) := by decide +kernel
theorem dX5_weigh_189 : decode cX5_weigh 189 = .ok (.bipush 6, 2) := by decide +kernel
theorem dX5_weigh_191 : decode cX5_weigh 191 = .ok (.imul, 1) := by decide +kernel
theorem dX5_weigh_192 : decode cX5_weigh 192 = .ok (.iload 5, 2) := by decide +kernel
theorem dX5_weigh_194 : decode cX5_weigh 194 = .ok (.iadd, 1) := by decide +kernel
theorem dX5_weigh_195 : decode cX5_weigh 195 = .ok (.dup2, 1) := by decide +kernel
theorem dX5_weigh_196 : decode cX5_weigh 196 = .ok (.laload, 1) := by decide +kernel
theorem dX5_weigh_197 : decode cX5_weigh 197 = .ok (.aload_n 0, 1) := by decide +kernel
theorem dX5_weigh_198 : decode cX5_weigh 198 = .ok (.getfield 15, 3) := by decide +kernel
theorem dX5_weigh_201 : decode cX5_weigh 201 = .ok (.iload_n 3, 1) := by decide +kernel
theorem dX5_weigh_202 : decode cX5_weigh 202 = .ok (.laload, 1) := by decide +kernel
theorem dX5_weigh_203 : decode cX5_weigh 203 = .ok (.lsub, 1) := by decide +kernel
theorem dX5_weigh_204 : decode cX5_weigh 204 = .ok (.lastore, 1) := by decide +kernel
theorem dX5_weigh_205 : decode cX5_weigh 205 = .ok (.aload_n 0, 1) := by decide +kernel
theorem dX5_weigh_206 : decode cX5_weigh 206 = .ok (.getfield 25, 3) := by decide +kernel
theorem dX5_weigh_209 : decode cX5_weigh 209 = .ok (.aload_n 0, 1) := by decide +kernel
theorem dX5_weigh_210 : decode cX5_weigh 210 = .ok (.getfield 11, 3) := by decide +kernel
theorem dX5_weigh_213 : decode cX5_weigh 213 = .ok (.iload 4, 2) := by decide +kernel
theorem dX5_weigh_215 : decode cX5_weigh 215 = .ok (.iconst 2, 1) := by decide +kernel
theorem dX5_weigh_216 : decode cX5_weigh 216 = .ok (.iadd, 1) := by decide +kernel
theorem dX5_weigh_217 : decode cX5_weigh 217 = .ok (.iaload, 1) := by decide +kernel
theorem dX5_weigh_218 : decode cX5_weigh 218 = .ok (.bipush 6, 2) := by decide +kernel
theorem dX5_weigh_220 : decode cX5_weigh 220 = .ok (.imul, 1) := by decide +kernel
theorem dX5_weigh_221 : decode cX5_weigh 221 = .ok (.iload 5, 2) := by decide +kernel
theorem dX5_weigh_223 : decode cX5_weigh 223 = .ok (.iadd, 1) := by decide +kernel
theorem dX5_weigh_224 : decode cX5_weigh 224 = .ok (.dup2, 1) := by decide +kernel
theorem dX5_weigh_225 : decode cX5_weigh 225 = .ok (.laload, 1) := by decide +kernel
theorem dX5_weigh_226 : decode cX5_weigh 226 = .ok (.aload_n 0, 1) := by decide +kernel
theorem dX5_weigh_227 : decode cX5_weigh 227 = .ok (.getfield 15, 3) := by decide +kernel
theorem dX5_weigh_230 : decode cX5_weigh 230 = .ok (.iload_n 3, 1) := by decide +kernel
theorem dX5_weigh_231 : decode cX5_weigh 231 = .ok (.laload, 1) := by decide +kernel
theorem dX5_weigh_232 : decode cX5_weigh 232 = .ok (.ladd, 1) := by decide +kernel
theorem dX5_weigh_233 : decode cX5_weigh 233 = .ok (.lastore, 1) := by decide +kernel
theorem dX5_weigh_234 : decode cX5_weigh 234 = .ok (.iinc 3 1, 3) := by decide +kernel
theorem dX5_weigh_237 : decode cX5_weigh 237 = .ok (.goto (-194), 3) := by decide +kernel
theorem dX5_weigh_240 : decode cX5_weigh 240 = .ok (.aload_n 0, 1) := by decide +kernel
theorem dX5_weigh_241 : decode cX5_weigh 241 = .ok (.iload_n 2, 1) := by decide +kernel
theorem dX5_weigh_242 : decode cX5_weigh 242 = .ok (.invokevirtual 158, 3) := by decide +kernel
theorem dX5_weigh_245 : decode cX5_weigh 245 = .ok (.aload_n 0, 1) := by decide +kernel
theorem dX5_weigh_246 : decode cX5_weigh 246 = .ok (.invokevirtual 161, 3) := by decide +kernel
theorem dX5_weigh_249 : decode cX5_weigh 249 = .ok (.return_, 1) := by decide +kernel
def m_X5_weigh_240  (Q : Hp → Prop) (v2 : Int32) (h : Hp) : Prop := m_X5_endDay v2 h (fun (h2 : Hp) => m_X5_findUneven h2 (fun (h4 : Hp) => Q h4))
set_option maxHeartbeats 4000000 in
set_option maxRecDepth 100000 in
theorem s_X5_weigh_240 {l : Launch} {G : Cx} {d : Nat} {h0 : Hp} (hd : 6 ≤ d) {Q : Hp → Prop} {v2 : Int32} {h : Hp} (hm : m_X5_weigh_240 Q v2 h) : Rn l G d 0 0 MX5_weigh h0 (qV Q) 240 [some (tR 5 0 (some 14)), none, some (tI v2)] [] h 0 0 := by
  unfold m_X5_weigh_240 at hm
  refine r_aload_n dX5_weigh_240 rfl rfl ?_
  refine r_iload_n dX5_weigh_241 rfl rfl ?_
  refine r_callVU (d' := d - 1) (as := [tI v2]) (st := []) cl_5 dX5_weigh_242 mi_X5_endDay t_997 t_999 ts_33 rfl rfl (Nat.le_of_ble_eq_true rfl) (by omega) ⟨by decide, by decide⟩ ⟨rfl, rfl⟩ (s_X5_endDay (by omega) hm) (fun h2 hm => ?_)
  refine r_aload_n dX5_weigh_245 rfl rfl ?_
  refine r_callVU (d' := d - 1) (as := []) (st := []) cl_5 dX5_weigh_246 mi_X5_findUneven t_1005 t_1007 ts_35 rfl rfl (Nat.le_of_ble_eq_true rfl) (by omega) ⟨by decide, by decide⟩ ⟨rfl, rfl⟩ (s_X5_findUneven (by omega) hm) (fun h4 hm => ?_)
  exact r_return dX5_weigh_249 rfl ⟨by decide, by decide⟩ ⟨rfl, hm⟩
def m_X5_weigh_234 (k43 : Int32 → Int32 → Int32 → Hp → Prop) (k240 : Int32 → Hp → Prop) (Q : Hp → Prop) (v1 : Int32) (v2 : Int32) (v3 : Int32) (h : Hp) : Prop := ∀ x5 : Int32, x5 = v3 + 1 → k43 v1 v2 x5 h
set_option maxHeartbeats 4000000 in
set_option maxRecDepth 100000 in
theorem s_X5_weigh_234 {l : Launch} {G : Cx} {d : Nat} {h0 : Hp} (hd : 6 ≤ d) {k43 : Int32 → Int32 → Int32 → Hp → Prop} {k240 : Int32 → Hp → Prop} {Q : Hp → Prop} (hk43 : ∀ (v1 : Int32) (v2 : Int32) (v3 : Int32) (hh : Hp), k43 v1 v2 v3 hh → Rn l G d 0 0 MX5_weigh h0 (qV Q) 43 [some (tR 5 0 (some 14)), some (tI v1), some (tI v2), some (tI v3)] [] hh 0 0) (hk240 : ∀ (v2 : Int32) (hh : Hp), k240 v2 hh → Rn l G d 0 0 MX5_weigh h0 (qV Q) 240 [some (tR 5 0 (some 14)), none, some (tI v2)] [] hh 0 0) {v1 : Int32} {v2 : Int32} {v3 : Int32} {h : Hp} (hm : m_X5_weigh_234 k43 k240 Q v1 v2 v3 h) : Rn l G d 0 0 MX5_weigh h0 (qV Q) 234 [some (tR 5 0 (some 14)), some (tI v1), some (tI v2), some (tI v3)] [] h 0 0 := by
  unfold m_X5_weigh_234 at hm
  obtain ⟨x5, e_x5⟩ : ∃ y : Int32, y = v3 + 1 := ⟨_, rfl⟩
  replace hm := hm x5 e_x5
  refine r_iinc (L' := [some (tR 5 0 (some 14)), some (tI v1), some (tI v2), some (tI x5)]) dX5_weigh_234 rfl (by rw [e_x5]; rfl) (by decide) rfl ?_
  refine r_goto (tgt := 43) dX5_weigh_237 rfl ?_
  refine r_keep (L' := [some (tR 5 0 (some 14)), some (tI v1), some (tI v2), some (tI x5)]) [true, true, true, true] rfl ?_
  exact hk43 _ _ _ _ hm
def m_X5_weigh_127 (k43 : Int32 → Int32 → Int32 → Hp → Prop) (k240 : Int32 → Hp → Prop) (Q : Hp → Prop) (v1 : Int32) (v2 : Int32) (v3 : Int32) (v4 : Int32) (h : Hp) : Prop := vp_in (v4 + 1) 1296 ∧ (vp_in (hI h 15 (ix (v4 + 1))) 8 ∧ (vp_in v3 216 ∧ (vp_in (hI h 15 (ix (v4 + 1))) 8 ∧ (vp_in (v4 + 2) 1296 ∧ (vp_in (hI (wJ h 23 (ix (hI h 15 (ix (v4 + 1)))) ((hJ h 23 (ix (hI h 15 (ix (v4 + 1))))) - (hJ h 16 (ix v3)))) 15 (ix (v4 + 2))) 8 ∧ (vp_in v3 216 ∧ (vp_in (hI (wJ h 23 (ix (hI h 15 (ix (v4 + 1)))) ((hJ h 23 (ix (hI h 15 (ix (v4 + 1))))) - (hJ h 16 (ix v3)))) 15 (ix (v4 + 2))) 8 ∧ (m_X5_weigh_234 k43 k240 Q v1 v2 v3 (wJ (wJ h 23 (ix (hI h 15 (ix (v4 + 1)))) ((hJ h 23 (ix (hI h 15 (ix (v4 + 1))))) - (hJ h 16 (ix v3)))) 23 (ix (hI (wJ h 23 (ix (hI h 15 (ix (v4 + 1)))) ((hJ h 23 (ix (hI h 15 (ix (v4 + 1))))) - (hJ h 16 (ix v3)))) 15 (ix (v4 + 2)))) ((hJ (wJ h 23 (ix (hI h 15 (ix (v4 + 1)))) ((hJ h 23 (ix (hI h 15 (ix (v4 + 1))))) - (hJ h 16 (ix v3)))) 23 (ix (hI (wJ h 23 (ix (hI h 15 (ix (v4 + 1)))) ((hJ h 23 (ix (hI h 15 (ix (v4 + 1))))) - (hJ h 16 (ix v3)))) 15 (ix (v4 + 2))))) + (hJ (wJ h 23 (ix (hI h 15 (ix (v4 + 1)))) ((hJ h 23 (ix (hI h 15 (ix (v4 + 1))))) - (hJ h 16 (ix v3)))) 16 (ix v3))))))))))))
set_option maxHeartbeats 4000000 in
set_option maxRecDepth 100000 in
theorem s_X5_weigh_127 {l : Launch} {G : Cx} {d : Nat} {h0 : Hp} (hd : 6 ≤ d) {k43 : Int32 → Int32 → Int32 → Hp → Prop} {k240 : Int32 → Hp → Prop} {Q : Hp → Prop} (hk43 : ∀ (v1 : Int32) (v2 : Int32) (v3 : Int32) (hh : Hp), k43 v1 v2 v3 hh → Rn l G d 0 0 MX5_weigh h0 (qV Q) 43 [some (tR 5 0 (some 14)), some (tI v1), some (tI v2), some (tI v3)] [] hh 0 0) (hk240 : ∀ (v2 : Int32) (hh : Hp), k240 v2 hh → Rn l G d 0 0 MX5_weigh h0 (qV Q) 240 [some (tR 5 0 (some 14)), none, some (tI v2)] [] hh 0 0) {v1 : Int32} {v2 : Int32} {v3 : Int32} {v4 : Int32} {h : Hp} (hm : m_X5_weigh_127 k43 k240 Q v1 v2 v3 v4 h) : Rn l G d 0 0 MX5_weigh h0 (qV Q) 127 [some (tR 5 0 (some 14)), some (tI v1), some (tI v2), some (tI v3), some (tI v4)] [] h 0 0 := by
  unfold m_X5_weigh_127 at hm
  refine r_aload_n dX5_weigh_127 rfl rfl ?_
  refine r_getC (k := 12) cl_5 dX5_weigh_128 t_157 gf_5_12.1 gf_5_12.2 (gc_5_12 _) ?_
  refine r_aload_n dX5_weigh_131 rfl rfl ?_
  refine r_getC (k := 1) cl_5 dX5_weigh_132 t_144 gf_5_1.1 gf_5_1.2 (gc_5_1 _) ?_
  refine r_iload dX5_weigh_135 rfl ?_
  refine r_iconst (v := 1) dX5_weigh_137 rfl ?_
  refine r_iadd dX5_weigh_138 ?_
  refine r_iald dX5_weigh_139 hm.1 ?_
  replace hm := hm.2
  refine r_dup2 dX5_weigh_140 rfl cv_cat1R ?_
  refine r_lald dX5_weigh_141 hm.1 ?_
  replace hm := hm.2
  refine r_aload_n dX5_weigh_142 rfl rfl ?_
  refine r_getC (k := 2) cl_5 dX5_weigh_143 t_145 gf_5_2.1 gf_5_2.2 (gc_5_2 _) ?_
  refine r_iload_n dX5_weigh_146 rfl rfl ?_
  refine r_lald dX5_weigh_147 hm.1 ?_
  replace hm := hm.2
  refine r_lsub dX5_weigh_148 ?_
  refine r_last dX5_weigh_149 hm.1 ?_
  replace hm := hm.2
  refine r_aload_n dX5_weigh_150 rfl rfl ?_
  refine r_getC (k := 12) cl_5 dX5_weigh_151 t_157 gf_5_12.1 gf_5_12.2 (gc_5_12 _) ?_
  refine r_aload_n dX5_weigh_154 rfl rfl ?_
  refine r_getC (k := 1) cl_5 dX5_weigh_155 t_144 gf_5_1.1 gf_5_1.2 (gc_5_1 _) ?_
  refine r_iload dX5_weigh_158 rfl ?_
  refine r_iconst (v := 2) dX5_weigh_160 rfl ?_
  refine r_iadd dX5_weigh_161 ?_
  refine r_iald dX5_weigh_162 hm.1 ?_
  replace hm := hm.2
  refine r_dup2 dX5_weigh_163 rfl cv_cat1R ?_
  refine r_lald dX5_weigh_164 hm.1 ?_
  replace hm := hm.2
  refine r_aload_n dX5_weigh_165 rfl rfl ?_
  refine r_getC (k := 2) cl_5 dX5_weigh_166 t_145 gf_5_2.1 gf_5_2.2 (gc_5_2 _) ?_
  refine r_iload_n dX5_weigh_169 rfl rfl ?_
  refine r_lald dX5_weigh_170 hm.1 ?_
  replace hm := hm.2
  refine r_ladd dX5_weigh_171 ?_
  refine r_last dX5_weigh_172 hm.1 ?_
  replace hm := hm.2
  refine r_goto (tgt := 234) dX5_weigh_173 rfl ?_
  refine r_keep (L' := [some (tR 5 0 (some 14)), some (tI v1), some (tI v2), some (tI v3)]) [true, true, true, true] rfl ?_
  exact s_X5_weigh_234 hd hk43 hk240 hm
def m_X5_weigh_43 : Nat → (Int32 → Hp → Prop) → (Hp → Prop) → Int32 → Int32 → Int32 → Hp → Prop
  | 0, _, _, _, _, _, _ => False
  | n + 1, k240, Q, v1, v2, v3, h => ((hI h 14 3) ≤ v3 → k240 v2 h) ∧ (¬ (hI h 14 3) ≤ v3 → ∀ x6 : Int32, x6 = (v3 * 6) → vp_in (x6 + 4) 1296 ∧ (vp_in (x6 + 5) 1296 ∧ (((v1 &&& (hI h 15 (ix (x6 + 4)))) = (hI h 15 (ix (x6 + 5))) → vp_in (x6 + 3) 1296 ∧ (∀ x7 : Int32, x7 = (hI h 15 (ix (x6 + 3))) → (¬ x7 = 0 → vp_in (x6 + 1) 1296 ∧ (vp_in (((hI h 15 (ix (x6 + 1))) * 6) + x7) 48 ∧ (vp_in v3 216 ∧ (vp_in (((hI h 15 (ix (x6 + 1))) * 6) + x7) 48 ∧ (vp_in (x6 + 2) 1296 ∧ (vp_in (((hI (wJ h 19 (ix (((hI h 15 (ix (x6 + 1))) * 6) + x7)) ((hJ h 19 (ix (((hI h 15 (ix (x6 + 1))) * 6) + x7))) - (hJ h 16 (ix v3)))) 15 (ix (x6 + 2))) * 6) + x7) 48 ∧ (vp_in v3 216 ∧ (vp_in (((hI (wJ h 19 (ix (((hI h 15 (ix (x6 + 1))) * 6) + x7)) ((hJ h 19 (ix (((hI h 15 (ix (x6 + 1))) * 6) + x7))) - (hJ h 16 (ix v3)))) 15 (ix (x6 + 2))) * 6) + x7) 48 ∧ (m_X5_weigh_234 (fun (v1 : Int32) (v2 : Int32) (v3 : Int32) (hh : Hp) => m_X5_weigh_43 n k240 Q v1 v2 v3 hh) k240 Q v1 v2 v3 (wJ (wJ h 19 (ix (((hI h 15 (ix (x6 + 1))) * 6) + x7)) ((hJ h 19 (ix (((hI h 15 (ix (x6 + 1))) * 6) + x7))) - (hJ h 16 (ix v3)))) 19 (ix (((hI (wJ h 19 (ix (((hI h 15 (ix (x6 + 1))) * 6) + x7)) ((hJ h 19 (ix (((hI h 15 (ix (x6 + 1))) * 6) + x7))) - (hJ h 16 (ix v3)))) 15 (ix (x6 + 2))) * 6) + x7)) ((hJ (wJ h 19 (ix (((hI h 15 (ix (x6 + 1))) * 6) + x7)) ((hJ h 19 (ix (((hI h 15 (ix (x6 + 1))) * 6) + x7))) - (hJ h 16 (ix v3)))) 19 (ix (((hI (wJ h 19 (ix (((hI h 15 (ix (x6 + 1))) * 6) + x7)) ((hJ h 19 (ix (((hI h 15 (ix (x6 + 1))) * 6) + x7))) - (hJ h 16 (ix v3)))) 15 (ix (x6 + 2))) * 6) + x7))) + (hJ (wJ h 19 (ix (((hI h 15 (ix (x6 + 1))) * 6) + x7)) ((hJ h 19 (ix (((hI h 15 (ix (x6 + 1))) * 6) + x7))) - (hJ h 16 (ix v3)))) 16 (ix v3))))))))))))) ∧ (x7 = 0 → vp_in (x6 + 0) 1296 ∧ (((hI h 15 (ix (x6 + 0))) = v2 → m_X5_weigh_127 (fun (v1 : Int32) (v2 : Int32) (v3 : Int32) (hh : Hp) => m_X5_weigh_43 n k240 Q v1 v2 v3 hh) k240 Q v1 v2 v3 x6 h) ∧ (¬ (hI h 15 (ix (x6 + 0))) = v2 → m_X5_endDay v2 h (fun (h9 : Hp) => vp_in (x6 + 0) 1296 ∧ (∀ x10 : Int32, x10 = (hI h9 15 (ix (x6 + 0))) → m_X5_weigh_127 (fun (v1 : Int32) (v2 : Int32) (v3 : Int32) (hh : Hp) => m_X5_weigh_43 n k240 Q v1 v2 v3 hh) k240 Q v1 x10 v3 x6 h9))))))) ∧ (¬ (v1 &&& (hI h 15 (ix (x6 + 4)))) = (hI h 15 (ix (x6 + 5))) → m_X5_weigh_234 (fun (v1 : Int32) (v2 : Int32) (v3 : Int32) (hh : Hp) => m_X5_weigh_43 n k240 Q v1 v2 v3 hh) k240 Q v1 v2 v3 h))))
set_option maxHeartbeats 4000000 in
set_option maxRecDepth 100000 in
theorem s_X5_weigh_43 {l : Launch} {G : Cx} {d : Nat} {h0 : Hp} (hd : 6 ≤ d) {k240 : Int32 → Hp → Prop} {Q : Hp → Prop} (hk240 : ∀ (v2 : Int32) (hh : Hp), k240 v2 hh → Rn l G d 0 0 MX5_weigh h0 (qV Q) 240 [some (tR 5 0 (some 14)), none, some (tI v2)] [] hh 0 0) : ∀ {n : Nat} {v1 : Int32} {v2 : Int32} {v3 : Int32} {h : Hp}, m_X5_weigh_43 n k240 Q v1 v2 v3 h → Rn l G d 0 0 MX5_weigh h0 (qV Q) 43 [some (tR 5 0 (some 14)), some (tI v1), some (tI v2), some (tI v3)] [] h 0 0 := by
  intro n
  induction n with
  | zero => intro v1 v2 v3 h hm; exact hm.elim
  | succ n ih =>
    intro v1 v2 v3 h hm
    have hk43 := fun (v1 : Int32) (v2 : Int32) (v3 : Int32) (hh : Hp) (hm : m_X5_weigh_43 n k240 Q v1 v2 v3 hh) => ih hm
    rw [m_X5_weigh_43] at hm
    refine r_iload_n dX5_weigh_43 rfl rfl ?_
    refine r_aload_n dX5_weigh_44 rfl rfl ?_
    refine r_getI (k := 3) cl_5 dX5_weigh_45 t_146 (Or.inl rfl) gf_5_3 ?_
    refine r_icmp_ge (tgt := 240) dX5_weigh_48 rfl (fun hc => ?_) (fun hc => ?_)
    · replace hm := hm.1 hc
      refine r_keep (L' := [some (tR 5 0 (some 14)), none, some (tI v2)]) [true, false, true] rfl ?_
      exact hk240 _ _ hm
    · replace hm := hm.2 hc
      refine r_iload_n dX5_weigh_51 rfl rfl ?_
      refine r_bipush (v := 6) dX5_weigh_52 rfl ?_
      refine r_imul dX5_weigh_54 ?_
      refine r_nmI (fun x6 e_x6 => ?_)
      replace hm := hm x6 e_x6
      refine r_istore (L' := [some (tR 5 0 (some 14)), some (tI v1), some (tI v2), some (tI v3), some (tI x6)]) dX5_weigh_55 (by decide) rfl ?_
      refine r_iload_n dX5_weigh_57 rfl rfl ?_
      refine r_aload_n dX5_weigh_58 rfl rfl ?_
      refine r_getC (k := 1) cl_5 dX5_weigh_59 t_144 gf_5_1.1 gf_5_1.2 (gc_5_1 _) ?_
      refine r_iload dX5_weigh_62 rfl ?_
      refine r_iconst (v := 4) dX5_weigh_64 rfl ?_
      refine r_iadd dX5_weigh_65 ?_
      refine r_iald dX5_weigh_66 hm.1 ?_
      replace hm := hm.2
      refine r_iand dX5_weigh_67 ?_
      refine r_aload_n dX5_weigh_68 rfl rfl ?_
      refine r_getC (k := 1) cl_5 dX5_weigh_69 t_144 gf_5_1.1 gf_5_1.2 (gc_5_1 _) ?_
      refine r_iload dX5_weigh_72 rfl ?_
      refine r_iconst (v := 5) dX5_weigh_74 rfl ?_
      refine r_iadd dX5_weigh_75 ?_
      refine r_iald dX5_weigh_76 hm.1 ?_
      replace hm := hm.2
      refine r_icmp_eq (tgt := 83) dX5_weigh_77 rfl (fun hc => ?_) (fun hc => ?_)
      · replace hm := hm.1 hc
        refine r_aload_n dX5_weigh_83 rfl rfl ?_
        refine r_getC (k := 1) cl_5 dX5_weigh_84 t_144 gf_5_1.1 gf_5_1.2 (gc_5_1 _) ?_
        refine r_iload dX5_weigh_87 rfl ?_
        refine r_iconst (v := 3) dX5_weigh_89 rfl ?_
        refine r_iadd dX5_weigh_90 ?_
        refine r_iald dX5_weigh_91 hm.1 ?_
        replace hm := hm.2
        refine r_nmI (fun x7 e_x7 => ?_)
        replace hm := hm x7 e_x7
        refine r_istore (L' := [some (tR 5 0 (some 14)), some (tI v1), some (tI v2), some (tI v3), some (tI x6), some (tI x7)]) dX5_weigh_92 (by decide) rfl ?_
        refine r_iload dX5_weigh_94 rfl ?_
        refine r_if_ne (tgt := 176) dX5_weigh_96 rfl (fun hc => ?_) (fun hc => ?_)
        · replace hm := hm.1 hc
          refine r_aload_n dX5_weigh_176 rfl rfl ?_
          refine r_getC (k := 8) cl_5 dX5_weigh_177 t_151 gf_5_8.1 gf_5_8.2 (gc_5_8 _) ?_
          refine r_aload_n dX5_weigh_180 rfl rfl ?_
          refine r_getC (k := 1) cl_5 dX5_weigh_181 t_144 gf_5_1.1 gf_5_1.2 (gc_5_1 _) ?_
          refine r_iload dX5_weigh_184 rfl ?_
          refine r_iconst (v := 1) dX5_weigh_186 rfl ?_
          refine r_iadd dX5_weigh_187 ?_
          refine r_iald dX5_weigh_188 hm.1 ?_
          replace hm := hm.2
          refine r_bipush (v := 6) dX5_weigh_189 rfl ?_
          refine r_imul dX5_weigh_191 ?_
          refine r_iload dX5_weigh_192 rfl ?_
          refine r_iadd dX5_weigh_194 ?_
          refine r_dup2 dX5_weigh_195 rfl cv_cat1R ?_
          refine r_lald dX5_weigh_196 hm.1 ?_
          replace hm := hm.2
          refine r_aload_n dX5_weigh_197 rfl rfl ?_
          refine r_getC (k := 2) cl_5 dX5_weigh_198 t_145 gf_5_2.1 gf_5_2.2 (gc_5_2 _) ?_
          refine r_iload_n dX5_weigh_201 rfl rfl ?_
          refine r_lald dX5_weigh_202 hm.1 ?_
          replace hm := hm.2
          refine r_lsub dX5_weigh_203 ?_
          refine r_last dX5_weigh_204 hm.1 ?_
          replace hm := hm.2
          refine r_aload_n dX5_weigh_205 rfl rfl ?_
          refine r_getC (k := 8) cl_5 dX5_weigh_206 t_151 gf_5_8.1 gf_5_8.2 (gc_5_8 _) ?_
          refine r_aload_n dX5_weigh_209 rfl rfl ?_
          refine r_getC (k := 1) cl_5 dX5_weigh_210 t_144 gf_5_1.1 gf_5_1.2 (gc_5_1 _) ?_
          refine r_iload dX5_weigh_213 rfl ?_
          refine r_iconst (v := 2) dX5_weigh_215 rfl ?_
          refine r_iadd dX5_weigh_216 ?_
          refine r_iald dX5_weigh_217 hm.1 ?_
          replace hm := hm.2
          refine r_bipush (v := 6) dX5_weigh_218 rfl ?_
          refine r_imul dX5_weigh_220 ?_
          refine r_iload dX5_weigh_221 rfl ?_
          refine r_iadd dX5_weigh_223 ?_
          refine r_dup2 dX5_weigh_224 rfl cv_cat1R ?_
          refine r_lald dX5_weigh_225 hm.1 ?_
          replace hm := hm.2
          refine r_aload_n dX5_weigh_226 rfl rfl ?_
          refine r_getC (k := 2) cl_5 dX5_weigh_227 t_145 gf_5_2.1 gf_5_2.2 (gc_5_2 _) ?_
          refine r_iload_n dX5_weigh_230 rfl rfl ?_
          refine r_lald dX5_weigh_231 hm.1 ?_
          replace hm := hm.2
          refine r_ladd dX5_weigh_232 ?_
          refine r_last dX5_weigh_233 hm.1 ?_
          replace hm := hm.2
          refine r_keep (L' := [some (tR 5 0 (some 14)), some (tI v1), some (tI v2), some (tI v3)]) [true, true, true, true] rfl ?_
          exact s_X5_weigh_234 hd hk43 hk240 hm
        · replace hm := hm.2 hc
          refine r_aload_n dX5_weigh_99 rfl rfl ?_
          refine r_getC (k := 1) cl_5 dX5_weigh_100 t_144 gf_5_1.1 gf_5_1.2 (gc_5_1 _) ?_
          refine r_iload dX5_weigh_103 rfl ?_
          refine r_iconst (v := 0) dX5_weigh_105 rfl ?_
          refine r_iadd dX5_weigh_106 ?_
          refine r_iald dX5_weigh_107 hm.1 ?_
          replace hm := hm.2
          refine r_iload_n dX5_weigh_108 rfl rfl ?_
          refine r_icmp_eq (tgt := 127) dX5_weigh_109 rfl (fun hc => ?_) (fun hc => ?_)
          · replace hm := hm.1 hc
            refine r_keep (L' := [some (tR 5 0 (some 14)), some (tI v1), some (tI v2), some (tI v3), some (tI x6)]) [true, true, true, true, true] rfl ?_
            exact s_X5_weigh_127 hd hk43 hk240 hm
          · replace hm := hm.2 hc
            refine r_aload_n dX5_weigh_112 rfl rfl ?_
            refine r_iload_n dX5_weigh_113 rfl rfl ?_
            refine r_callVU (d' := d - 1) (as := [tI v2]) (st := []) cl_5 dX5_weigh_114 mi_X5_endDay t_997 t_999 ts_33 rfl rfl (Nat.le_of_ble_eq_true rfl) (by omega) ⟨by decide, by decide⟩ ⟨rfl, rfl⟩ (s_X5_endDay (by omega) hm) (fun h9 hm => ?_)
            refine r_aload_n dX5_weigh_117 rfl rfl ?_
            refine r_getC (k := 1) cl_5 dX5_weigh_118 t_144 gf_5_1.1 gf_5_1.2 (gc_5_1 _) ?_
            refine r_iload dX5_weigh_121 rfl ?_
            refine r_iconst (v := 0) dX5_weigh_123 rfl ?_
            refine r_iadd dX5_weigh_124 ?_
            refine r_iald dX5_weigh_125 hm.1 ?_
            replace hm := hm.2
            refine r_nmI (fun x10 e_x10 => ?_)
            replace hm := hm x10 e_x10
            refine r_istore_n (L' := [some (tR 5 0 (some 14)), some (tI v1), some (tI x10), some (tI v3), some (tI x6), some (tI x7)]) dX5_weigh_126 rfl (by decide) rfl ?_
            refine r_keep (L' := [some (tR 5 0 (some 14)), some (tI v1), some (tI x10), some (tI v3), some (tI x6)]) [true, true, true, true, true] rfl ?_
            exact s_X5_weigh_127 hd hk43 hk240 hm
      · replace hm := hm.2 hc
        refine r_goto (tgt := 234) dX5_weigh_80 rfl ?_
        refine r_keep (L' := [some (tR 5 0 (some 14)), some (tI v1), some (tI v2), some (tI v3)]) [true, true, true, true] rfl ?_
        exact s_X5_weigh_234 hd hk43 hk240 hm
def m_X5_weigh (v1 : Int32) (h : Hp) (Q : Hp → Prop) : Prop := m_J7_fill_d0a16 19 48 0 h (fun (h12 : Hp) => m_J7_fill_d0a16 21 8 0 h12 (fun (h14 : Hp) => m_J7_fill_d0a16 22 8 0 h14 (fun (h16 : Hp) => ∃ n43, m_X5_weigh_43 n43 (m_X5_weigh_240 Q) Q v1 (-1) 0 (wI (wI (wI h16 14 15 0) 14 16 0) 14 17 0))))
set_option maxHeartbeats 4000000 in
set_option maxRecDepth 100000 in
theorem s_X5_weigh {l : Launch} {G : Cx} {d : Nat} (hd : 6 ≤ d) {v1 : Int32} {h : Hp} {Q : Hp → Prop} (hm : m_X5_weigh v1 h Q) : Ct l G d 0 0 yX5_weigh MX5_weigh [tR 5 0 (some 14), tI v1] h (qV Q) := by
  unfold m_X5_weigh at hm
  refine Ct.of (L := [some (tR 5 0 (some 14)), some (tI v1)]) (by decide) rfl rfl (Nat.le_of_ble_eq_true rfl) rfl ?_
  refine r_aload_n dX5_weigh_0 rfl rfl ?_
  refine r_getC (k := 8) cl_5 dX5_weigh_1 t_151 gf_5_8.1 gf_5_8.2 (gc_5_8 _) ?_
  refine r_lconst (v := 0) dX5_weigh_4 rfl ?_
  refine r_callSU (d' := d - 1) (as := [tR 43 48 (some 19), tJ 0]) (st := []) dX5_weigh_5 mi_J7_fill_d0a16 t_996 t_868 rfl rfl (Nat.le_of_ble_eq_true rfl) (by omega) ⟨by decide, by decide⟩ ⟨rfl, rfl⟩ (s_J7_fill_d0a16 (by omega) hm) (fun h12 hm => ?_)
  refine r_aload_n dX5_weigh_8 rfl rfl ?_
  refine r_getC (k := 10) cl_5 dX5_weigh_9 t_153 gf_5_10.1 gf_5_10.2 (gc_5_10 _) ?_
  refine r_lconst (v := 0) dX5_weigh_12 rfl ?_
  refine r_callSU (d' := d - 1) (as := [tR 43 8 (some 21), tJ 0]) (st := []) dX5_weigh_13 mi_J7_fill_d0a16 t_996 t_868 rfl rfl (Nat.le_of_ble_eq_true rfl) (by omega) ⟨by decide, by decide⟩ ⟨rfl, rfl⟩ (s_J7_fill_d0a16 (by omega) hm) (fun h14 hm => ?_)
  refine r_aload_n dX5_weigh_16 rfl rfl ?_
  refine r_getC (k := 11) cl_5 dX5_weigh_17 t_155 gf_5_11.1 gf_5_11.2 (gc_5_11 _) ?_
  refine r_lconst (v := 0) dX5_weigh_20 rfl ?_
  refine r_callSU (d' := d - 1) (as := [tR 43 8 (some 22), tJ 0]) (st := []) dX5_weigh_21 mi_J7_fill_d0a16 t_996 t_868 rfl rfl (Nat.le_of_ble_eq_true rfl) (by omega) ⟨by decide, by decide⟩ ⟨rfl, rfl⟩ (s_J7_fill_d0a16 (by omega) hm) (fun h16 hm => ?_)
  refine r_aload_n dX5_weigh_24 rfl rfl ?_
  refine r_iconst (v := 0) dX5_weigh_25 rfl ?_
  refine r_putI0 (k := 15) cl_5 dX5_weigh_26 t_160 (Or.inl rfl) gf_5_15 pf_5_15.1 (Or.inl pf_5_15.2) ?_
  refine r_aload_n dX5_weigh_29 rfl rfl ?_
  refine r_iconst (v := 0) dX5_weigh_30 rfl ?_
  refine r_putI0 (k := 16) cl_5 dX5_weigh_31 t_161 (Or.inl rfl) gf_5_16 pf_5_16.1 (Or.inl pf_5_16.2) ?_
  refine r_aload_n dX5_weigh_34 rfl rfl ?_
  refine r_iconst (v := 0) dX5_weigh_35 rfl ?_
  refine r_putI0 (k := 17) cl_5 dX5_weigh_36 t_162 (Or.inl rfl) gf_5_17 pf_5_17.1 (Or.inl pf_5_17.2) ?_
  refine r_iconst (v := (-1)) dX5_weigh_39 rfl ?_
  refine r_istore_n (L' := [some (tR 5 0 (some 14)), some (tI v1), some (tI (-1))]) dX5_weigh_40 rfl (by decide) rfl ?_
  refine r_iconst (v := 0) dX5_weigh_41 rfl ?_
  refine r_istore_n (L' := [some (tR 5 0 (some 14)), some (tI v1), some (tI (-1)), some (tI 0)]) dX5_weigh_42 rfl (by decide) rfl ?_
  refine r_keep (L' := [some (tR 5 0 (some 14)), some (tI v1), some (tI (-1)), some (tI 0)]) [true, true, true, true] rfl ?_
  obtain ⟨n, hm⟩ := hm
  refine s_X5_weigh_43 hd ?_ hm
  · exact (fun _ _ hm => s_X5_weigh_240 hd hm)
theorem dX5_borrowersOf_0 : decode cX5_borrowersOf 0 = .ok (.aload_n 0, 1) := rfl
theorem dX5_borrowersOf_1 : decode cX5_borrowersOf 1 = .ok (.getfield 31, 3) := rfl
theorem dX5_borrowersOf_4 : decode cX5_borrowersOf 4 = .ok (.iload_n 1, 1) := rfl
theorem dX5_borrowersOf_5 : decode cX5_borrowersOf 5 = .ok (.laload, 1) := rfl
theorem dX5_borrowersOf_6 : decode cX5_borrowersOf 6 = .ok (.lconst 0, 1) := rfl
theorem dX5_borrowersOf_7 : decode cX5_borrowersOf 7 = .ok (.lcmp, 1) := rfl
theorem dX5_borrowersOf_8 : decode cX5_borrowersOf 8 = .ok (.ifCond .le 20, 3) := by decide +kernel
theorem dX5_borrowersOf_11 : decode cX5_borrowersOf 11 = .ok (.aload_n 0, 1) := rfl
theorem dX5_borrowersOf_12 : decode cX5_borrowersOf 12 = .ok (.getfield 155, 3) := rfl
theorem dX5_borrowersOf_15 : decode cX5_borrowersOf 15 = .ok (.aload_n 0, 1) := rfl
theorem dX5_borrowersOf_16 : decode cX5_borrowersOf 16 = .ok (.getfield 168, 3) := rfl
theorem dX5_borrowersOf_19 : decode cX5_borrowersOf 19 = .ok (.ior, 1) := rfl
theorem dX5_borrowersOf_20 : decode cX5_borrowersOf 20 = .ok (.iload_n 1, 1) := rfl
theorem dX5_borrowersOf_21 : decode cX5_borrowersOf 21 = .ok (.ishr, 1) := rfl
theorem dX5_borrowersOf_22 : decode cX5_borrowersOf 22 = .ok (.iconst 1, 1) := rfl
theorem dX5_borrowersOf_23 : decode cX5_borrowersOf 23 = .ok (.iand, 1) := rfl
theorem dX5_borrowersOf_24 : decode cX5_borrowersOf 24 = .ok (.iconst 1, 1) := rfl
theorem dX5_borrowersOf_25 : decode cX5_borrowersOf 25 = .ok (.if_icmp .ne 5, 3) := by decide +kernel
theorem dX5_borrowersOf_28 : decode cX5_borrowersOf 28 = .ok (.iconst 0, 1) := rfl
theorem dX5_borrowersOf_29 : decode cX5_borrowersOf 29 = .ok (.ireturn, 1) := rfl
theorem dX5_borrowersOf_30 : decode cX5_borrowersOf 30 = .ok (.aload_n 0, 1) := rfl
theorem dX5_borrowersOf_31 : decode cX5_borrowersOf 31 = .ok (.getfield 171, 3) := rfl
theorem dX5_borrowersOf_34 : decode cX5_borrowersOf 34 = .ok (.aload_n 0, 1) := rfl
theorem dX5_borrowersOf_35 : decode cX5_borrowersOf 35 = .ok (.getfield 43, 3) := rfl
theorem dX5_borrowersOf_38 : decode cX5_borrowersOf 38 = .ok (.iload_n 1, 1) := rfl
theorem dX5_borrowersOf_39 : decode cX5_borrowersOf 39 = .ok (.iaload, 1) := rfl
theorem dX5_borrowersOf_40 : decode cX5_borrowersOf 40 = .ok (.iand, 1) := rfl
theorem dX5_borrowersOf_41 : decode cX5_borrowersOf 41 = .ok (.aload_n 0, 1) := rfl
theorem dX5_borrowersOf_42 : decode cX5_borrowersOf 42 = .ok (.getfield 168, 3) := rfl
theorem dX5_borrowersOf_45 : decode cX5_borrowersOf 45 = .ok (.iconst (-1), 1) := rfl
theorem dX5_borrowersOf_46 : decode cX5_borrowersOf 46 = .ok (.ixor, 1) := rfl
theorem dX5_borrowersOf_47 : decode cX5_borrowersOf 47 = .ok (.iand, 1) := rfl
theorem dX5_borrowersOf_48 : decode cX5_borrowersOf 48 = .ok (.ireturn, 1) := rfl
def m_X5_borrowersOf (v1 : Int32) (h : Hp) (Q : Int32 → Hp → Prop) : Prop := vp_in v1 8 ∧ (((lg_cmp (hJ h 21 (ix v1)) 0) ≤ 0 → Q 0 h) ∧ (¬ (lg_cmp (hJ h 21 (ix v1)) 0) ≤ 0 → (¬ ((((hI h 14 17) ||| (hI h 14 18)) >>> (v1 &&& 31)) &&& 1) = 1 → vp_in v1 8 ∧ (Q (((hI h 14 19) &&& (hI h 25 (ix v1))) &&& ((hI h 14 18) ^^^ (-1))) h)) ∧ (((((hI h 14 17) ||| (hI h 14 18)) >>> (v1 &&& 31)) &&& 1) = 1 → Q 0 h)))
set_option maxHeartbeats 4000000 in
set_option maxRecDepth 100000 in
theorem s_X5_borrowersOf {l : Launch} {G : Cx} {d : Nat} (hd : 2 ≤ d) {v1 : Int32} {h : Hp} {Q : Int32 → Hp → Prop} (hm : m_X5_borrowersOf v1 h Q) : Ct l G d 0 0 yX5_borrowersOf MX5_borrowersOf [tR 5 0 (some 14), tI v1] h (qI Q) := by
  unfold m_X5_borrowersOf at hm
  refine Ct.of (L := [some (tR 5 0 (some 14)), some (tI v1)]) (by decide) rfl rfl (Nat.le_of_ble_eq_true rfl) rfl ?_
  refine r_aload_n dX5_borrowersOf_0 rfl rfl ?_
  refine r_getC (k := 10) cl_5 dX5_borrowersOf_1 t_153 gf_5_10.1 gf_5_10.2 (gc_5_10 _) ?_
  refine r_iload_n dX5_borrowersOf_4 rfl rfl ?_
  refine r_lald dX5_borrowersOf_5 hm.1 ?_
  replace hm := hm.2
  refine r_lconst (v := 0) dX5_borrowersOf_6 rfl ?_
  refine r_lcmp dX5_borrowersOf_7 ?_
  refine r_if_le (tgt := 28) dX5_borrowersOf_8 rfl (fun hc => ?_) (fun hc => ?_)
  · replace hm := hm.1 hc
    refine r_iconst (v := 0) dX5_borrowersOf_28 rfl ?_
    exact r_ireturn dX5_borrowersOf_29 rfl ⟨by decide, by decide⟩ ⟨_, rfl, hm⟩
  · replace hm := hm.2 hc
    refine r_aload_n dX5_borrowersOf_11 rfl rfl ?_
    refine r_getI (k := 17) cl_5 dX5_borrowersOf_12 t_162 (Or.inl rfl) gf_5_17 ?_
    refine r_aload_n dX5_borrowersOf_15 rfl rfl ?_
    refine r_getI (k := 18) cl_5 dX5_borrowersOf_16 t_163 (Or.inl rfl) gf_5_18 ?_
    refine r_ior dX5_borrowersOf_19 ?_
    refine r_iload_n dX5_borrowersOf_20 rfl rfl ?_
    refine r_ishr dX5_borrowersOf_21 ?_
    refine r_iconst (v := 1) dX5_borrowersOf_22 rfl ?_
    refine r_iand dX5_borrowersOf_23 ?_
    refine r_iconst (v := 1) dX5_borrowersOf_24 rfl ?_
    refine r_icmp_ne (tgt := 30) dX5_borrowersOf_25 rfl (fun hc => ?_) (fun hc => ?_)
    · replace hm := hm.1 hc
      refine r_aload_n dX5_borrowersOf_30 rfl rfl ?_
      refine r_getI (k := 19) cl_5 dX5_borrowersOf_31 t_164 (Or.inl rfl) gf_5_19 ?_
      refine r_aload_n dX5_borrowersOf_34 rfl rfl ?_
      refine r_getC (k := 14) cl_5 dX5_borrowersOf_35 t_159 gf_5_14.1 gf_5_14.2 (gc_5_14 _) ?_
      refine r_iload_n dX5_borrowersOf_38 rfl rfl ?_
      refine r_iald dX5_borrowersOf_39 hm.1 ?_
      replace hm := hm.2
      refine r_iand dX5_borrowersOf_40 ?_
      refine r_aload_n dX5_borrowersOf_41 rfl rfl ?_
      refine r_getI (k := 18) cl_5 dX5_borrowersOf_42 t_163 (Or.inl rfl) gf_5_18 ?_
      refine r_iconst (v := (-1)) dX5_borrowersOf_45 rfl ?_
      refine r_ixor dX5_borrowersOf_46 ?_
      refine r_iand dX5_borrowersOf_47 ?_
      exact r_ireturn dX5_borrowersOf_48 rfl ⟨by decide, by decide⟩ ⟨_, rfl, hm⟩
    · replace hm := hm.2 hc
      refine r_iconst (v := 0) dX5_borrowersOf_28 rfl ?_
      exact r_ireturn dX5_borrowersOf_29 rfl ⟨by decide, by decide⟩ ⟨_, rfl, hm⟩
theorem dJ6_numberOfTrailingZeros_0f7a4_0 : decode cJ6_numberOfTrailingZeros_0f7a4 0 = .ok (.iload_n 0, 1) := rfl
theorem dJ6_numberOfTrailingZeros_0f7a4_1 : decode cJ6_numberOfTrailingZeros_0f7a4 1 = .ok (.iconst (-1), 1) := rfl
theorem dJ6_numberOfTrailingZeros_0f7a4_2 : decode cJ6_numberOfTrailingZeros_0f7a4 2 = .ok (.ixor, 1) := rfl
theorem dJ6_numberOfTrailingZeros_0f7a4_3 : decode cJ6_numberOfTrailingZeros_0f7a4 3 = .ok (.iload_n 0, 1) := rfl
theorem dJ6_numberOfTrailingZeros_0f7a4_4 : decode cJ6_numberOfTrailingZeros_0f7a4 4 = .ok (.iconst 1, 1) := rfl
theorem dJ6_numberOfTrailingZeros_0f7a4_5 : decode cJ6_numberOfTrailingZeros_0f7a4 5 = .ok (.isub, 1) := rfl
theorem dJ6_numberOfTrailingZeros_0f7a4_6 : decode cJ6_numberOfTrailingZeros_0f7a4 6 = .ok (.iand, 1) := rfl
theorem dJ6_numberOfTrailingZeros_0f7a4_7 : decode cJ6_numberOfTrailingZeros_0f7a4 7 = .ok (.istore_n 0, 1) := rfl
theorem dJ6_numberOfTrailingZeros_0f7a4_8 : decode cJ6_numberOfTrailingZeros_0f7a4 8 = .ok (.iload_n 0, 1) := rfl
theorem dJ6_numberOfTrailingZeros_0f7a4_9 : decode cJ6_numberOfTrailingZeros_0f7a4 9 = .ok (.ifCond .gt 8, 3) := by decide +kernel
theorem dJ6_numberOfTrailingZeros_0f7a4_12 : decode cJ6_numberOfTrailingZeros_0f7a4 12 = .ok (.iload_n 0, 1) := rfl
theorem dJ6_numberOfTrailingZeros_0f7a4_13 : decode cJ6_numberOfTrailingZeros_0f7a4 13 = .ok (.bipush 32, 2) := by decide +kernel
theorem dJ6_numberOfTrailingZeros_0f7a4_15 : decode cJ6_numberOfTrailingZeros_0f7a4 15 = .ok (.iand, 1) := rfl
theorem dJ6_numberOfTrailingZeros_0f7a4_16 : decode cJ6_numberOfTrailingZeros_0f7a4 16 = .ok (.ireturn, 1) := rfl
theorem dJ6_numberOfTrailingZeros_0f7a4_17 : decode cJ6_numberOfTrailingZeros_0f7a4 17 = .ok (.iconst 1, 1) := rfl
theorem dJ6_numberOfTrailingZeros_0f7a4_18 : decode cJ6_numberOfTrailingZeros_0f7a4 18 = .ok (.istore_n 1, 1) := rfl
theorem dJ6_numberOfTrailingZeros_0f7a4_19 : decode cJ6_numberOfTrailingZeros_0f7a4 19 = .ok (.iload_n 0, 1) := rfl
theorem dJ6_numberOfTrailingZeros_0f7a4_20 : decode cJ6_numberOfTrailingZeros_0f7a4 20 = .ok (.ldc_w 264, 3) := rfl
theorem dJ6_numberOfTrailingZeros_0f7a4_23 : decode cJ6_numberOfTrailingZeros_0f7a4 23 = .ok (.if_icmp .le 11, 3) := by decide +kernel
theorem dJ6_numberOfTrailingZeros_0f7a4_26 : decode cJ6_numberOfTrailingZeros_0f7a4 26 = .ok (.iinc 1 16, 3) := by decide +kernel
theorem dJ6_numberOfTrailingZeros_0f7a4_29 : decode cJ6_numberOfTrailingZeros_0f7a4 29 = .ok (.iload_n 0, 1) := rfl
theorem dJ6_numberOfTrailingZeros_0f7a4_30 : decode cJ6_numberOfTrailingZeros_0f7a4 30 = .ok (.bipush 16, 2) := by decide +kernel
theorem dJ6_numberOfTrailingZeros_0f7a4_32 : decode cJ6_numberOfTrailingZeros_0f7a4 32 = .ok (.iushr, 1) := rfl
theorem dJ6_numberOfTrailingZeros_0f7a4_33 : decode cJ6_numberOfTrailingZeros_0f7a4 33 = .ok (.istore_n 0, 1) := rfl
theorem dJ6_numberOfTrailingZeros_0f7a4_34 : decode cJ6_numberOfTrailingZeros_0f7a4 34 = .ok (.iload_n 0, 1) := rfl
theorem dJ6_numberOfTrailingZeros_0f7a4_35 : decode cJ6_numberOfTrailingZeros_0f7a4 35 = .ok (.sipush 256, 3) := by decide +kernel
theorem dJ6_numberOfTrailingZeros_0f7a4_38 : decode cJ6_numberOfTrailingZeros_0f7a4 38 = .ok (.if_icmp .le 11, 3) := by decide +kernel
theorem dJ6_numberOfTrailingZeros_0f7a4_41 : decode cJ6_numberOfTrailingZeros_0f7a4 41 = .ok (.iinc 1 8, 3) := by decide +kernel
theorem dJ6_numberOfTrailingZeros_0f7a4_44 : decode cJ6_numberOfTrailingZeros_0f7a4 44 = .ok (.iload_n 0, 1) := rfl
theorem dJ6_numberOfTrailingZeros_0f7a4_45 : decode cJ6_numberOfTrailingZeros_0f7a4 45 = .ok (.bipush 8, 2) := by decide +kernel
theorem dJ6_numberOfTrailingZeros_0f7a4_47 : decode cJ6_numberOfTrailingZeros_0f7a4 47 = .ok (.iushr, 1) := rfl
theorem dJ6_numberOfTrailingZeros_0f7a4_48 : decode cJ6_numberOfTrailingZeros_0f7a4 48 = .ok (.istore_n 0, 1) := rfl
theorem dJ6_numberOfTrailingZeros_0f7a4_49 : decode cJ6_numberOfTrailingZeros_0f7a4 49 = .ok (.iload_n 0, 1) := rfl
theorem dJ6_numberOfTrailingZeros_0f7a4_50 : decode cJ6_numberOfTrailingZeros_0f7a4 50 = .ok (.bipush 16, 2) := by decide +kernel
theorem dJ6_numberOfTrailingZeros_0f7a4_52 : decode cJ6_numberOfTrailingZeros_0f7a4 52 = .ok (.if_icmp .le 10, 3) := by decide +kernel
theorem dJ6_numberOfTrailingZeros_0f7a4_55 : decode cJ6_numberOfTrailingZeros_0f7a4 55 = .ok (.iinc 1 4, 3) := by decide +kernel
theorem dJ6_numberOfTrailingZeros_0f7a4_58 : decode cJ6_numberOfTrailingZeros_0f7a4 58 = .ok (.iload_n 0, 1) := rfl
theorem dJ6_numberOfTrailingZeros_0f7a4_59 : decode cJ6_numberOfTrailingZeros_0f7a4 59 = .ok (.iconst 4, 1) := rfl
theorem dJ6_numberOfTrailingZeros_0f7a4_60 : decode cJ6_numberOfTrailingZeros_0f7a4 60 = .ok (.iushr, 1) := rfl
theorem dJ6_numberOfTrailingZeros_0f7a4_61 : decode cJ6_numberOfTrailingZeros_0f7a4 61 = .ok (.istore_n 0, 1) := rfl
theorem dJ6_numberOfTrailingZeros_0f7a4_62 : decode cJ6_numberOfTrailingZeros_0f7a4 62 = .ok (.iload_n 0, 1) := rfl
theorem dJ6_numberOfTrailingZeros_0f7a4_63 : decode cJ6_numberOfTrailingZeros_0f7a4 63 = .ok (.iconst 4, 1) := rfl
theorem dJ6_numberOfTrailingZeros_0f7a4_64 : decode cJ6_numberOfTrailingZeros_0f7a4 64 = .ok (.if_icmp .le 10, 3) := by decide +kernel
theorem dJ6_numberOfTrailingZeros_0f7a4_67 : decode cJ6_numberOfTrailingZeros_0f7a4 67 = .ok (.iinc 1 2, 3) := by decide +kernel
theorem dJ6_numberOfTrailingZeros_0f7a4_70 : decode cJ6_numberOfTrailingZeros_0f7a4 70 = .ok (.iload_n 0, 1) := rfl
theorem dJ6_numberOfTrailingZeros_0f7a4_71 : decode cJ6_numberOfTrailingZeros_0f7a4 71 = .ok (.iconst 2, 1) := rfl
theorem dJ6_numberOfTrailingZeros_0f7a4_72 : decode cJ6_numberOfTrailingZeros_0f7a4 72 = .ok (.iushr, 1) := rfl
theorem dJ6_numberOfTrailingZeros_0f7a4_73 : decode cJ6_numberOfTrailingZeros_0f7a4 73 = .ok (.istore_n 0, 1) := rfl
theorem dJ6_numberOfTrailingZeros_0f7a4_74 : decode cJ6_numberOfTrailingZeros_0f7a4 74 = .ok (.iload_n 1, 1) := rfl
theorem dJ6_numberOfTrailingZeros_0f7a4_75 : decode cJ6_numberOfTrailingZeros_0f7a4 75 = .ok (.iload_n 0, 1) := rfl
theorem dJ6_numberOfTrailingZeros_0f7a4_76 : decode cJ6_numberOfTrailingZeros_0f7a4 76 = .ok (.iconst 1, 1) := rfl
theorem dJ6_numberOfTrailingZeros_0f7a4_77 : decode cJ6_numberOfTrailingZeros_0f7a4 77 = .ok (.iushr, 1) := rfl
theorem dJ6_numberOfTrailingZeros_0f7a4_78 : decode cJ6_numberOfTrailingZeros_0f7a4 78 = .ok (.iadd, 1) := rfl
theorem dJ6_numberOfTrailingZeros_0f7a4_79 : decode cJ6_numberOfTrailingZeros_0f7a4 79 = .ok (.ireturn, 1) := rfl
def m_J6_numberOfTrailingZeros_0f7a4_62  (Q : Int32 → Hp → Prop) (v0 : Int32) (v1 : Int32) (h : Hp) : Prop := (v0 ≤ 4 → Q (v1 + ((v0.toUInt32 >>> ((1 : Int32).toUInt32 &&& Int32.toUInt32 31)).toInt32)) h) ∧ (¬ v0 ≤ 4 → ∀ x1 : Int32, x1 = v1 + 2 → ∀ x2 : Int32, x2 = ((v0.toUInt32 >>> ((2 : Int32).toUInt32 &&& Int32.toUInt32 31)).toInt32) → Q (x1 + ((x2.toUInt32 >>> ((1 : Int32).toUInt32 &&& Int32.toUInt32 31)).toInt32)) h)
set_option maxHeartbeats 4000000 in
set_option maxRecDepth 100000 in
theorem s_J6_numberOfTrailingZeros_0f7a4_62 {l : Launch} {G : Cx} {d : Nat} {h0 : Hp} (hd : 2 ≤ d) {Q : Int32 → Hp → Prop} {v0 : Int32} {v1 : Int32} {h : Hp} (hm : m_J6_numberOfTrailingZeros_0f7a4_62 Q v0 v1 h) : Rn l G d 0 0 MJ6_numberOfTrailingZeros_0f7a4 h0 (qI Q) 62 [some (tI v0), some (tI v1)] [] h 0 0 := by
  unfold m_J6_numberOfTrailingZeros_0f7a4_62 at hm
  refine r_iload_n dJ6_numberOfTrailingZeros_0f7a4_62 rfl rfl ?_
  refine r_iconst (v := 4) dJ6_numberOfTrailingZeros_0f7a4_63 rfl ?_
  refine r_icmp_le (tgt := 74) dJ6_numberOfTrailingZeros_0f7a4_64 rfl (fun hc => ?_) (fun hc => ?_)
  · replace hm := hm.1 hc
    refine r_iload_n dJ6_numberOfTrailingZeros_0f7a4_74 rfl rfl ?_
    refine r_iload_n dJ6_numberOfTrailingZeros_0f7a4_75 rfl rfl ?_
    refine r_iconst (v := 1) dJ6_numberOfTrailingZeros_0f7a4_76 rfl ?_
    refine r_iushr dJ6_numberOfTrailingZeros_0f7a4_77 ?_
    refine r_iadd dJ6_numberOfTrailingZeros_0f7a4_78 ?_
    exact r_ireturn dJ6_numberOfTrailingZeros_0f7a4_79 rfl ⟨by decide, by decide⟩ ⟨_, rfl, hm⟩
  · replace hm := hm.2 hc
    obtain ⟨x1, e_x1⟩ : ∃ y : Int32, y = v1 + 2 := ⟨_, rfl⟩
    replace hm := hm x1 e_x1
    refine r_iinc (L' := [some (tI v0), some (tI x1)]) dJ6_numberOfTrailingZeros_0f7a4_67 rfl (by rw [e_x1]; rfl) (by decide) rfl ?_
    refine r_iload_n dJ6_numberOfTrailingZeros_0f7a4_70 rfl rfl ?_
    refine r_iconst (v := 2) dJ6_numberOfTrailingZeros_0f7a4_71 rfl ?_
    refine r_iushr dJ6_numberOfTrailingZeros_0f7a4_72 ?_
    refine r_nmI (fun x2 e_x2 => ?_)
    replace hm := hm x2 e_x2
    refine r_istore_n (L' := [some (tI x2), some (tI x1)]) dJ6_numberOfTrailingZeros_0f7a4_73 rfl (by decide) rfl ?_
    refine r_iload_n dJ6_numberOfTrailingZeros_0f7a4_74 rfl rfl ?_
    refine r_iload_n dJ6_numberOfTrailingZeros_0f7a4_75 rfl rfl ?_
    refine r_iconst (v := 1) dJ6_numberOfTrailingZeros_0f7a4_76 rfl ?_
    refine r_iushr dJ6_numberOfTrailingZeros_0f7a4_77 ?_
    refine r_iadd dJ6_numberOfTrailingZeros_0f7a4_78 ?_
    exact r_ireturn dJ6_numberOfTrailingZeros_0f7a4_79 rfl ⟨by decide, by decide⟩ ⟨_, rfl, hm⟩
def m_J6_numberOfTrailingZeros_0f7a4_49  (Q : Int32 → Hp → Prop) (v0 : Int32) (v1 : Int32) (h : Hp) : Prop := (v0 ≤ 16 → m_J6_numberOfTrailingZeros_0f7a4_62 Q v0 v1 h) ∧ (¬ v0 ≤ 16 → ∀ x3 : Int32, x3 = v1 + 4 → ∀ x4 : Int32, x4 = ((v0.toUInt32 >>> ((4 : Int32).toUInt32 &&& Int32.toUInt32 31)).toInt32) → m_J6_numberOfTrailingZeros_0f7a4_62 Q x4 x3 h)
set_option maxHeartbeats 4000000 in
set_option maxRecDepth 100000 in
theorem s_J6_numberOfTrailingZeros_0f7a4_49 {l : Launch} {G : Cx} {d : Nat} {h0 : Hp} (hd : 2 ≤ d) {Q : Int32 → Hp → Prop} {v0 : Int32} {v1 : Int32} {h : Hp} (hm : m_J6_numberOfTrailingZeros_0f7a4_49 Q v0 v1 h) : Rn l G d 0 0 MJ6_numberOfTrailingZeros_0f7a4 h0 (qI Q) 49 [some (tI v0), some (tI v1)] [] h 0 0 := by
  unfold m_J6_numberOfTrailingZeros_0f7a4_49 at hm
  refine r_iload_n dJ6_numberOfTrailingZeros_0f7a4_49 rfl rfl ?_
  refine r_bipush (v := 16) dJ6_numberOfTrailingZeros_0f7a4_50 rfl ?_
  refine r_icmp_le (tgt := 62) dJ6_numberOfTrailingZeros_0f7a4_52 rfl (fun hc => ?_) (fun hc => ?_)
  · replace hm := hm.1 hc
    refine r_keep (L' := [some (tI v0), some (tI v1)]) [true, true] rfl ?_
    exact s_J6_numberOfTrailingZeros_0f7a4_62 hd hm
  · replace hm := hm.2 hc
    obtain ⟨x3, e_x3⟩ : ∃ y : Int32, y = v1 + 4 := ⟨_, rfl⟩
    replace hm := hm x3 e_x3
    refine r_iinc (L' := [some (tI v0), some (tI x3)]) dJ6_numberOfTrailingZeros_0f7a4_55 rfl (by rw [e_x3]; rfl) (by decide) rfl ?_
    refine r_iload_n dJ6_numberOfTrailingZeros_0f7a4_58 rfl rfl ?_
    refine r_iconst (v := 4) dJ6_numberOfTrailingZeros_0f7a4_59 rfl ?_
    refine r_iushr dJ6_numberOfTrailingZeros_0f7a4_60 ?_
    refine r_nmI (fun x4 e_x4 => ?_)
    replace hm := hm x4 e_x4
    refine r_istore_n (L' := [some (tI x4), some (tI x3)]) dJ6_numberOfTrailingZeros_0f7a4_61 rfl (by decide) rfl ?_
    refine r_keep (L' := [some (tI x4), some (tI x3)]) [true, true] rfl ?_
    exact s_J6_numberOfTrailingZeros_0f7a4_62 hd hm
def m_J6_numberOfTrailingZeros_0f7a4_34  (Q : Int32 → Hp → Prop) (v0 : Int32) (v1 : Int32) (h : Hp) : Prop := (v0 ≤ 256 → m_J6_numberOfTrailingZeros_0f7a4_49 Q v0 v1 h) ∧ (¬ v0 ≤ 256 → ∀ x5 : Int32, x5 = v1 + 8 → ∀ x6 : Int32, x6 = ((v0.toUInt32 >>> ((8 : Int32).toUInt32 &&& Int32.toUInt32 31)).toInt32) → m_J6_numberOfTrailingZeros_0f7a4_49 Q x6 x5 h)
set_option maxHeartbeats 4000000 in
set_option maxRecDepth 100000 in
theorem s_J6_numberOfTrailingZeros_0f7a4_34 {l : Launch} {G : Cx} {d : Nat} {h0 : Hp} (hd : 2 ≤ d) {Q : Int32 → Hp → Prop} {v0 : Int32} {v1 : Int32} {h : Hp} (hm : m_J6_numberOfTrailingZeros_0f7a4_34 Q v0 v1 h) : Rn l G d 0 0 MJ6_numberOfTrailingZeros_0f7a4 h0 (qI Q) 34 [some (tI v0), some (tI v1)] [] h 0 0 := by
  unfold m_J6_numberOfTrailingZeros_0f7a4_34 at hm
  refine r_iload_n dJ6_numberOfTrailingZeros_0f7a4_34 rfl rfl ?_
  refine r_sipush (v := 256) dJ6_numberOfTrailingZeros_0f7a4_35 rfl ?_
  refine r_icmp_le (tgt := 49) dJ6_numberOfTrailingZeros_0f7a4_38 rfl (fun hc => ?_) (fun hc => ?_)
  · replace hm := hm.1 hc
    refine r_keep (L' := [some (tI v0), some (tI v1)]) [true, true] rfl ?_
    exact s_J6_numberOfTrailingZeros_0f7a4_49 hd hm
  · replace hm := hm.2 hc
    obtain ⟨x5, e_x5⟩ : ∃ y : Int32, y = v1 + 8 := ⟨_, rfl⟩
    replace hm := hm x5 e_x5
    refine r_iinc (L' := [some (tI v0), some (tI x5)]) dJ6_numberOfTrailingZeros_0f7a4_41 rfl (by rw [e_x5]; rfl) (by decide) rfl ?_
    refine r_iload_n dJ6_numberOfTrailingZeros_0f7a4_44 rfl rfl ?_
    refine r_bipush (v := 8) dJ6_numberOfTrailingZeros_0f7a4_45 rfl ?_
    refine r_iushr dJ6_numberOfTrailingZeros_0f7a4_47 ?_
    refine r_nmI (fun x6 e_x6 => ?_)
    replace hm := hm x6 e_x6
    refine r_istore_n (L' := [some (tI x6), some (tI x5)]) dJ6_numberOfTrailingZeros_0f7a4_48 rfl (by decide) rfl ?_
    refine r_keep (L' := [some (tI x6), some (tI x5)]) [true, true] rfl ?_
    exact s_J6_numberOfTrailingZeros_0f7a4_49 hd hm
def m_J6_numberOfTrailingZeros_0f7a4 (v0 : Int32) (h : Hp) (Q : Int32 → Hp → Prop) : Prop := ∀ x7 : Int32, x7 = ((v0 ^^^ (-1)) &&& (v0 - 1)) → (0 < x7 → (x7 ≤ 65536 → m_J6_numberOfTrailingZeros_0f7a4_34 Q x7 1 h) ∧ (¬ x7 ≤ 65536 → ∀ x8 : Int32, x8 = 1 + 16 → ∀ x9 : Int32, x9 = ((x7.toUInt32 >>> ((16 : Int32).toUInt32 &&& Int32.toUInt32 31)).toInt32) → m_J6_numberOfTrailingZeros_0f7a4_34 Q x9 x8 h)) ∧ (¬ 0 < x7 → Q (x7 &&& 32) h)
set_option maxHeartbeats 4000000 in
set_option maxRecDepth 100000 in
theorem s_J6_numberOfTrailingZeros_0f7a4 {l : Launch} {G : Cx} {d : Nat} (hd : 2 ≤ d) {v0 : Int32} {h : Hp} {Q : Int32 → Hp → Prop} (hm : m_J6_numberOfTrailingZeros_0f7a4 v0 h Q) : Ct l G d 0 0 yJ6_numberOfTrailingZeros_0f7a4 MJ6_numberOfTrailingZeros_0f7a4 [tI v0] h (qI Q) := by
  unfold m_J6_numberOfTrailingZeros_0f7a4 at hm
  refine Ct.of (L := [some (tI v0)]) (by decide) rfl rfl (Nat.le_of_ble_eq_true rfl) rfl ?_
  refine r_iload_n dJ6_numberOfTrailingZeros_0f7a4_0 rfl rfl ?_
  refine r_iconst (v := (-1)) dJ6_numberOfTrailingZeros_0f7a4_1 rfl ?_
  refine r_ixor dJ6_numberOfTrailingZeros_0f7a4_2 ?_
  refine r_iload_n dJ6_numberOfTrailingZeros_0f7a4_3 rfl rfl ?_
  refine r_iconst (v := 1) dJ6_numberOfTrailingZeros_0f7a4_4 rfl ?_
  refine r_isub dJ6_numberOfTrailingZeros_0f7a4_5 ?_
  refine r_iand dJ6_numberOfTrailingZeros_0f7a4_6 ?_
  refine r_nmI (fun x7 e_x7 => ?_)
  replace hm := hm x7 e_x7
  refine r_istore_n (L' := [some (tI x7)]) dJ6_numberOfTrailingZeros_0f7a4_7 rfl (by decide) rfl ?_
  refine r_iload_n dJ6_numberOfTrailingZeros_0f7a4_8 rfl rfl ?_
  refine r_if_gt (tgt := 17) dJ6_numberOfTrailingZeros_0f7a4_9 rfl (fun hc => ?_) (fun hc => ?_)
  · replace hm := hm.1 hc
    refine r_iconst (v := 1) dJ6_numberOfTrailingZeros_0f7a4_17 rfl ?_
    refine r_istore_n (L' := [some (tI x7), some (tI 1)]) dJ6_numberOfTrailingZeros_0f7a4_18 rfl (by decide) rfl ?_
    refine r_iload_n dJ6_numberOfTrailingZeros_0f7a4_19 rfl rfl ?_
    refine r_ldc_w dJ6_numberOfTrailingZeros_0f7a4_20 t_1159 ?_
    refine r_icmp_le (tgt := 34) dJ6_numberOfTrailingZeros_0f7a4_23 rfl (fun hc => ?_) (fun hc => ?_)
    · replace hm := hm.1 hc
      refine r_keep (L' := [some (tI x7), some (tI 1)]) [true, true] rfl ?_
      exact s_J6_numberOfTrailingZeros_0f7a4_34 hd hm
    · replace hm := hm.2 hc
      obtain ⟨x8, e_x8⟩ : ∃ y : Int32, y = 1 + 16 := ⟨_, rfl⟩
      replace hm := hm x8 e_x8
      refine r_iinc (L' := [some (tI x7), some (tI x8)]) dJ6_numberOfTrailingZeros_0f7a4_26 rfl (by rw [e_x8]; rfl) (by decide) rfl ?_
      refine r_iload_n dJ6_numberOfTrailingZeros_0f7a4_29 rfl rfl ?_
      refine r_bipush (v := 16) dJ6_numberOfTrailingZeros_0f7a4_30 rfl ?_
      refine r_iushr dJ6_numberOfTrailingZeros_0f7a4_32 ?_
      refine r_nmI (fun x9 e_x9 => ?_)
      replace hm := hm x9 e_x9
      refine r_istore_n (L' := [some (tI x9), some (tI x8)]) dJ6_numberOfTrailingZeros_0f7a4_33 rfl (by decide) rfl ?_
      refine r_keep (L' := [some (tI x9), some (tI x8)]) [true, true] rfl ?_
      exact s_J6_numberOfTrailingZeros_0f7a4_34 hd hm
  · replace hm := hm.2 hc
    refine r_iload_n dJ6_numberOfTrailingZeros_0f7a4_12 rfl rfl ?_
    refine r_bipush (v := 32) dJ6_numberOfTrailingZeros_0f7a4_13 rfl ?_
    refine r_iand dJ6_numberOfTrailingZeros_0f7a4_15 ?_
    exact r_ireturn dJ6_numberOfTrailingZeros_0f7a4_16 rfl ⟨by decide, by decide⟩ ⟨_, rfl, hm⟩
theorem dX5_findLoan_0 : decode cX5_findLoan 0 = .ok (.aload_n 1, 1) := by decide +kernel
theorem dX5_findLoan_1 : decode cX5_findLoan 1 = .ok (.invokevirtual 97, 3) := by decide +kernel
theorem dX5_findLoan_4 : decode cX5_findLoan 4 = .ok (.ifCond .ne 5, 3) := by decide +kernel
theorem dX5_findLoan_7 : decode cX5_findLoan 7 = .ok (.iconst (-1), 1) := by decide +kernel
theorem dX5_findLoan_8 : decode cX5_findLoan 8 = .ok (.ireturn, 1) := by decide +kernel
theorem dX5_findLoan_9 : decode cX5_findLoan 9 = .ok (.aload_n 0, 1) := by decide +kernel
theorem dX5_findLoan_10 : decode cX5_findLoan 10 = .ok (.aload_n 1, 1) := by decide +kernel
theorem dX5_findLoan_11 : decode cX5_findLoan 11 = .ok (.invokevirtual 101, 3) := by decide +kernel
theorem dX5_findLoan_14 : decode cX5_findLoan 14 = .ok (.aload_n 0, 1) := by decide +kernel
theorem dX5_findLoan_15 : decode cX5_findLoan 15 = .ok (.getfield 28, 3) := by decide +kernel
theorem dX5_findLoan_18 : decode cX5_findLoan 18 = .ok (.iconst 0, 1) := by decide +kernel
theorem dX5_findLoan_19 : decode cX5_findLoan 19 = .ok (.invokestatic 105, 3) := by decide +kernel
theorem dX5_findLoan_22 : decode cX5_findLoan 22 = .ok (.iconst 0, 1) := by decide +kernel
theorem dX5_findLoan_23 : decode cX5_findLoan 23 = .ok (.istore_n 2, 1) := by decide +kernel
theorem dX5_findLoan_24 : decode cX5_findLoan 24 = .ok (.iload_n 2, 1) := by decide +kernel
theorem dX5_findLoan_25 : decode cX5_findLoan 25 = .ok (.aload_n 0, 1) := by decide +kernel
theorem dX5_findLoan_26 : decode cX5_findLoan 26 = .ok (.getfield 108, 3) := by decide +kernel
theorem dX5_findLoan_29 : decode cX5_findLoan 29 = .ok (.if_icmp .ge 23, 3) := by decide +kernel
theorem dX5_findLoan_32 : decode cX5_findLoan 32 = .ok (.aload_n 0, 1) := by decide +kernel
theorem dX5_findLoan_33 : decode cX5_findLoan 33 = .ok (.getfield 28, 3) := by decide +kernel
theorem dX5_findLoan_36 : decode cX5_findLoan 36 = .ok (.aload_n 0, 1) := by decide +kernel
theorem dX5_findLoan_37 : decode cX5_findLoan 37 = .ok (.getfield 19, 3) := by decide +kernel
theorem dX5_findLoan_40 : decode cX5_findLoan 40 = .ok (.iload_n 2, 1) := by decide +kernel
theorem dX5_findLoan_41 : decode cX5_findLoan 41 = .ok (.iaload, 1) := by decide +kernel
theorem dX5_findLoan_42 : decode cX5_findLoan 42 = .ok (.sipush 255, 3) := by decide +kernel
theorem dX5_findLoan_45 : decode cX5_findLoan 45 = .ok (.iastore, 1) := by decide +kernel
theorem dX5_findLoan_46 : decode cX5_findLoan 46 = .ok (.iinc 2 1, 3) := by decide +kernel
theorem dX5_findLoan_49 : decode cX5_findLoan 49 = .ok (.goto (-25), 3) := by decide +kernel
theorem dX5_findLoan_52 : decode cX5_findLoan 52 = .ok (.iconst 1, 1) := by decide +kernel
theorem dX5_findLoan_53 : decode cX5_findLoan 53 = .ok (.aload_n 0, 1) := by decide +kernel
theorem dX5_findLoan_54 : decode cX5_findLoan 54 = .ok (.getfield 111, 3) := by decide +kernel
theorem dX5_findLoan_57 : decode cX5_findLoan 57 = .ok (.invokestatic 114, 3) := by decide +kernel
theorem dX5_findLoan_60 : decode cX5_findLoan 60 = .ok (.ishl, 1) := by decide +kernel
theorem dX5_findLoan_61 : decode cX5_findLoan 61 = .ok (.istore_n 2, 1) := by decide +kernel
theorem dX5_findLoan_62 : decode cX5_findLoan 62 = .ok (.iconst 0, 1) := by decide +kernel
theorem dX5_findLoan_63 : decode cX5_findLoan 63 = .ok (.istore_n 3, 1) := by decide +kernel
theorem dX5_findLoan_64 : decode cX5_findLoan 64 = .ok (.iconst 0, 1) := by decide +kernel
theorem dX5_findLoan_65 : decode cX5_findLoan 65 = .ok (.istore 4, 2) := by decide +kernel
theorem dX5_findLoan_67 : decode cX5_findLoan 67 = .ok (.iload 4, 2) := by decide +kernel
theorem dX5_findLoan_69 : decode cX5_findLoan 69 = .ok (.iload_n 2, 1) := by decide +kernel
theorem dX5_findLoan_70 : decode cX5_findLoan 70 = .ok (.if_icmp .ge 91, 3) := by decide +kernel
theorem dX5_findLoan_73 : decode cX5_findLoan 73 = .ok (.aload_n 0, 1) := by decide +kernel
theorem dX5_findLoan_74 : decode cX5_findLoan 74 = .ok (.iload_n 3, 1) := by decide +kernel
theorem dX5_findLoan_75 : decode cX5_findLoan 75 = .ok (.invokevirtual 119, 3) := by decide +kernel
theorem dX5_findLoan_78 : decode cX5_findLoan 78 = .ok (.iconst 0, 1) := by decide +kernel
theorem dX5_findLoan_79 : decode cX5_findLoan 79 = .ok (.istore 5, 2) := by decide +kernel
theorem dX5_findLoan_81 : decode cX5_findLoan 81 = .ok (.iconst 0, 1) := by decide +kernel
theorem dX5_findLoan_82 : decode cX5_findLoan 82 = .ok (.istore 6, 2) := by decide +kernel
theorem dX5_findLoan_84 : decode cX5_findLoan 84 = .ok (.iload 6, 2) := by decide +kernel
theorem dX5_findLoan_86 : decode cX5_findLoan 86 = .ok (.aload_n 0, 1) := by decide +kernel
theorem dX5_findLoan_87 : decode cX5_findLoan 87 = .ok (.getfield 108, 3) := by decide +kernel
theorem dX5_findLoan_90 : decode cX5_findLoan 90 = .ok (.if_icmp .ge 46, 3) := by decide +kernel
theorem dX5_findLoan_93 : decode cX5_findLoan 93 = .ok (.aload_n 0, 1) := by decide +kernel
theorem dX5_findLoan_94 : decode cX5_findLoan 94 = .ok (.getfield 19, 3) := by decide +kernel
theorem dX5_findLoan_97 : decode cX5_findLoan 97 = .ok (.iload 6, 2) := by decide +kernel
theorem dX5_findLoan_99 : decode cX5_findLoan 99 = .ok (.iaload, 1) := by decide +kernel
theorem dX5_findLoan_100 : decode cX5_findLoan 100 = .ok (.istore 7, 2) := by decide +kernel
theorem dX5_findLoan_102 : decode cX5_findLoan 102 = .ok (.aload_n 0, 1) := by decide +kernel
theorem dX5_findLoan_103 : decode cX5_findLoan 103 = .ok (.getfield 28, 3) := by decide +kernel
theorem dX5_findLoan_106 : decode cX5_findLoan 106 = .ok (.iload 7, 2) := by decide +kernel
theorem dX5_findLoan_108 : decode cX5_findLoan 108 = .ok (.dup2, 1) := by decide +kernel
theorem dX5_findLoan_109 : decode cX5_findLoan 109 = .ok (.iaload, 1) := by decide +kernel
theorem dX5_findLoan_110 : decode cX5_findLoan 110 = .ok (.aload_n 0, 1) := by decide +kernel
theorem dX5_findLoan_111 : decode cX5_findLoan 111 = .ok (.iload 7, 2) := by decide +kernel
theorem dX5_findLoan_113 : decode cX5_findLoan 113 = .ok (.invokevirtual 123, 3) := by decide +kernel
theorem dX5_findLoan_116 : decode cX5_findLoan 116 = .ok (.iand, 1) := by decide +kernel
theorem dX5_findLoan_117 : decode cX5_findLoan 117 = .ok (.iastore, 1) := by decide +kernel
theorem dX5_findLoan_118 : decode cX5_findLoan 118 = .ok (.iload 5, 2) := by decide +kernel
theorem dX5_findLoan_120 : decode cX5_findLoan 120 = .ok (.aload_n 0, 1) := by decide +kernel
theorem dX5_findLoan_121 : decode cX5_findLoan 121 = .ok (.getfield 28, 3) := by decide +kernel
theorem dX5_findLoan_124 : decode cX5_findLoan 124 = .ok (.iload 7, 2) := by decide +kernel
theorem dX5_findLoan_126 : decode cX5_findLoan 126 = .ok (.iaload, 1) := by decide +kernel
theorem dX5_findLoan_127 : decode cX5_findLoan 127 = .ok (.ior, 1) := by decide +kernel
theorem dX5_findLoan_128 : decode cX5_findLoan 128 = .ok (.istore 5, 2) := by decide +kernel
theorem dX5_findLoan_130 : decode cX5_findLoan 130 = .ok (.iinc 6 1, 3) := by decide +kernel
theorem dX5_findLoan_133 : decode cX5_findLoan 133 = .ok (.goto (-49), 3) := by decide +kernel
theorem dX5_findLoan_136 : decode cX5_findLoan 136 = .ok (.iload 5, 2) := by decide +kernel
theorem dX5_findLoan_138 : decode cX5_findLoan 138 = .ok (.ifCond .ne 5, 3) := by decide +kernel
theorem dX5_findLoan_141 : decode cX5_findLoan 141 = .ok (.iconst (-1), 1) := by decide +kernel
theorem dX5_findLoan_142 : decode cX5_findLoan 142 = .ok (.ireturn, 1) := by decide +kernel
theorem dX5_findLoan_143 : decode cX5_findLoan 143 = .ok (.iload_n 3, 1) := by decide +kernel
theorem dX5_findLoan_144 : decode cX5_findLoan 144 = .ok (.aload_n 0, 1) := by decide +kernel
theorem dX5_findLoan_145 : decode cX5_findLoan 145 = .ok (.getfield 111, 3) := by decide +kernel
theorem dX5_findLoan_148 : decode cX5_findLoan 148 = .ok (.isub, 1) := by decide +kernel
theorem dX5_findLoan_149 : decode cX5_findLoan 149 = .ok (.aload_n 0, 1) := by decide +kernel
theorem dX5_findLoan_150 : decode cX5_findLoan 150 = .ok (.getfield 111, 3) := by decide +kernel
theorem dX5_findLoan_153 : decode cX5_findLoan 153 = .ok (.iand, 1) := by decide +kernel
theorem dX5_findLoan_154 : decode cX5_findLoan 154 = .ok (.istore_n 3, 1) := by decide +kernel
theorem dX5_findLoan_155 : decode cX5_findLoan 155 = .ok (.iinc 4 1, 3) := by decide +kernel
theorem dX5_findLoan_158 : decode cX5_findLoan 158 = .ok (.goto (-91), 3) := by decide +kernel
theorem dX5_findLoan_161 : decode cX5_findLoan 161 = .ok (.iconst 0, 1) := by decide +kernel
theorem dX5_findLoan_162 : decode cX5_findLoan 162 = .ok (.istore 4, 2) := by decide +kernel
theorem dX5_findLoan_164 : decode cX5_findLoan 164 = .ok (.iload 4, 2) := by decide +kernel
theorem dX5_findLoan_166 : decode cX5_findLoan 166 = .ok (.bipush 8, 2) := by decide +kernel
theorem dX5_findLoan_168 : decode cX5_findLoan 168 = .ok (.if_icmp .ge 36, 3) := by decide +kernel
theorem dX5_findLoan_171 : decode cX5_findLoan 171 = .ok (.aload_n 0, 1) := by decide +kernel
theorem dX5_findLoan_172 : decode cX5_findLoan 172 = .ok (.getfield 28, 3) := by decide +kernel
theorem dX5_findLoan_175 : decode cX5_findLoan 175 = .ok (.iload 4, 2) := by decide +kernel
theorem dX5_findLoan_177 : decode cX5_findLoan 177 = .ok (.iaload, 1) := by decide +kernel
theorem dX5_findLoan_178 : decode cX5_findLoan 178 = .ok (.ifCond .eq 20, 3) := by decide +kernel
theorem dX5_findLoan_181 : decode cX5_findLoan 181 = .ok (.bipush 10, 2) := by decide +kernel
theorem dX5_findLoan_183 : decode cX5_findLoan 183 = .ok (.iload 4, 2) := by decide +kernel
theorem dX5_findLoan_185 : decode cX5_findLoan 185 = .ok (.imul, 1) := by decide +kernel
theorem dX5_findLoan_186 : decode cX5_findLoan 186 = .ok (.aload_n 0, 1) := by decide +kernel
theorem dX5_findLoan_187 : decode cX5_findLoan 187 = .ok (.getfield 28, 3) := by decide +kernel
theorem dX5_findLoan_190 : decode cX5_findLoan 190 = .ok (.iload 4, 2) := by decide +kernel
theorem dX5_findLoan_192 : decode cX5_findLoan 192 = .ok (.iaload, 1) := by decide +kernel
theorem dX5_findLoan_193 : decode cX5_findLoan 193 = .ok (.invokestatic 126, 3) := by decide +kernel
theorem dX5_findLoan_196 : decode cX5_findLoan 196 = .ok (.iadd, 1) := by decide +kernel
theorem dX5_findLoan_197 : decode cX5_findLoan 197 = .ok (.ireturn, 1) := by decide +kernel
theorem dX5_findLoan_198 : decode cX5_findLoan 198 = .ok (.iinc 4 1, 3) := by decide +kernel
theorem dX5_findLoan_201 : decode cX5_findLoan 201 = .ok (.goto (-37), 3) := by decide +kernel
theorem dX5_findLoan_204 : decode cX5_findLoan 204 = .ok (.iconst (-1), 1) := by decide +kernel
theorem dX5_findLoan_205 : decode cX5_findLoan 205 = .ok (.ireturn, 1) := by decide +kernel
def m_X5_findLoan_181  (Q : Int32 → Hp → Prop) (v4 : Int32) (h : Hp) : Prop := vp_in v4 8 ∧ (m_J6_numberOfTrailingZeros_0f7a4 (hI h 20 (ix v4)) h (fun (x1 : Int32) (h2 : Hp) => Q ((10 * v4) + x1) h2))
set_option maxHeartbeats 4000000 in
set_option maxRecDepth 100000 in
theorem s_X5_findLoan_181 {l : Launch} {G : Cx} {d : Nat} {h0 : Hp} (hd : 10 ≤ d) {Q : Int32 → Hp → Prop} {v4 : Int32} {h : Hp} (hm : m_X5_findLoan_181 Q v4 h) : Rn l G d 0 0 MX5_findLoan h0 (qI Q) 181 [some (tR 5 0 (some 14)), none, none, none, some (tI v4)] [] h 0 0 := by
  unfold m_X5_findLoan_181 at hm
  refine r_bipush (v := 10) dX5_findLoan_181 rfl ?_
  refine r_iload dX5_findLoan_183 rfl ?_
  refine r_imul dX5_findLoan_185 ?_
  refine r_aload_n dX5_findLoan_186 rfl rfl ?_
  refine r_getC (k := 9) cl_5 dX5_findLoan_187 t_152 gf_5_9.1 gf_5_9.2 (gc_5_9 _) ?_
  refine r_iload dX5_findLoan_190 rfl ?_
  refine r_iald dX5_findLoan_192 hm.1 ?_
  replace hm := hm.2
  refine r_callSI (d' := d - 1) (as := [tI (hI h 20 (ix v4))]) (st := [tI (10 * v4)]) dX5_findLoan_193 mi_J6_numberOfTrailingZeros_0f7a4 t_1156 t_1157 rfl rfl (Nat.le_of_ble_eq_true rfl) (by omega) ⟨by decide, by decide⟩ ⟨rfl, rfl⟩ (s_J6_numberOfTrailingZeros_0f7a4 (by omega) hm) (fun x1 h2 hm => ?_)
  refine r_iadd dX5_findLoan_196 ?_
  exact r_ireturn dX5_findLoan_197 rfl ⟨by decide, by decide⟩ ⟨_, rfl, hm⟩
def m_X5_findLoan_164 : Nat → (Int32 → Hp → Prop) → (Int32 → Hp → Prop) → Int32 → Hp → Prop
  | 0, _, _, _, _ => False
  | n + 1, k181, Q, v4, h => (8 ≤ v4 → Q (-1) h) ∧ (¬ 8 ≤ v4 → vp_in v4 8 ∧ (((hI h 20 (ix v4)) = 0 → ∀ x3 : Int32, x3 = v4 + 1 → m_X5_findLoan_164 n k181 Q x3 h) ∧ (¬ (hI h 20 (ix v4)) = 0 → k181 v4 h)))
set_option maxHeartbeats 4000000 in
set_option maxRecDepth 100000 in
theorem s_X5_findLoan_164 {l : Launch} {G : Cx} {d : Nat} {h0 : Hp} (hd : 10 ≤ d) {k181 : Int32 → Hp → Prop} {Q : Int32 → Hp → Prop} (hk181 : ∀ (v4 : Int32) (hh : Hp), k181 v4 hh → Rn l G d 0 0 MX5_findLoan h0 (qI Q) 181 [some (tR 5 0 (some 14)), none, none, none, some (tI v4)] [] hh 0 0) : ∀ {n : Nat} {v4 : Int32} {h : Hp}, m_X5_findLoan_164 n k181 Q v4 h → Rn l G d 0 0 MX5_findLoan h0 (qI Q) 164 [some (tR 5 0 (some 14)), none, none, none, some (tI v4)] [] h 0 0 := by
  intro n
  induction n with
  | zero => intro v4 h hm; exact hm.elim
  | succ n ih =>
    intro v4 h hm
    have hk164 := fun (v4 : Int32) (hh : Hp) (hm : m_X5_findLoan_164 n k181 Q v4 hh) => ih hm
    rw [m_X5_findLoan_164] at hm
    refine r_iload dX5_findLoan_164 rfl ?_
    refine r_bipush (v := 8) dX5_findLoan_166 rfl ?_
    refine r_icmp_ge (tgt := 204) dX5_findLoan_168 rfl (fun hc => ?_) (fun hc => ?_)
    · replace hm := hm.1 hc
      refine r_iconst (v := (-1)) dX5_findLoan_204 rfl ?_
      exact r_ireturn dX5_findLoan_205 rfl ⟨by decide, by decide⟩ ⟨_, rfl, hm⟩
    · replace hm := hm.2 hc
      refine r_aload_n dX5_findLoan_171 rfl rfl ?_
      refine r_getC (k := 9) cl_5 dX5_findLoan_172 t_152 gf_5_9.1 gf_5_9.2 (gc_5_9 _) ?_
      refine r_iload dX5_findLoan_175 rfl ?_
      refine r_iald dX5_findLoan_177 hm.1 ?_
      replace hm := hm.2
      refine r_if_eq (tgt := 198) dX5_findLoan_178 rfl (fun hc => ?_) (fun hc => ?_)
      · replace hm := hm.1 hc
        obtain ⟨x3, e_x3⟩ : ∃ y : Int32, y = v4 + 1 := ⟨_, rfl⟩
        replace hm := hm x3 e_x3
        refine r_iinc (L' := [some (tR 5 0 (some 14)), none, none, none, some (tI x3)]) dX5_findLoan_198 rfl (by rw [e_x3]; rfl) (by decide) rfl ?_
        refine r_goto (tgt := 164) dX5_findLoan_201 rfl ?_
        refine r_keep (L' := [some (tR 5 0 (some 14)), none, none, none, some (tI x3)]) [true, false, false, false, true] rfl ?_
        exact hk164 _ _ hm
      · replace hm := hm.2 hc
        refine r_keep (L' := [some (tR 5 0 (some 14)), none, none, none, some (tI v4)]) [true, false, false, false, true] rfl ?_
        exact hk181 _ _ hm
def m_X5_findLoan_161  (Q : Int32 → Hp → Prop) (h : Hp) : Prop := ∃ n164, m_X5_findLoan_164 n164 (m_X5_findLoan_181 Q) Q 0 h
set_option maxHeartbeats 4000000 in
set_option maxRecDepth 100000 in
theorem s_X5_findLoan_161 {l : Launch} {G : Cx} {d : Nat} {h0 : Hp} (hd : 10 ≤ d) {Q : Int32 → Hp → Prop} {h : Hp} (hm : m_X5_findLoan_161 Q h) : Rn l G d 0 0 MX5_findLoan h0 (qI Q) 161 [some (tR 5 0 (some 14))] [] h 0 0 := by
  unfold m_X5_findLoan_161 at hm
  refine r_iconst (v := 0) dX5_findLoan_161 rfl ?_
  refine r_istore (L' := [some (tR 5 0 (some 14)), none, none, none, some (tI 0)]) dX5_findLoan_162 (by decide) rfl ?_
  refine r_keep (L' := [some (tR 5 0 (some 14)), none, none, none, some (tI 0)]) [true, false, false, false, true] rfl ?_
  obtain ⟨n, hm⟩ := hm
  refine s_X5_findLoan_164 hd ?_ hm
  · exact (fun _ _ hm => s_X5_findLoan_181 hd hm)
def m_X5_findLoan_136 (k67 : Int32 → Int32 → Int32 → Hp → Prop) (k161 : Hp → Prop) (Q : Int32 → Hp → Prop) (v2 : Int32) (v3 : Int32) (v4 : Int32) (v5 : Int32) (h : Hp) : Prop := (¬ v5 = 0 → ∀ x4 : Int32, x4 = ((v3 - (hI h 14 4)) &&& (hI h 14 4)) → ∀ x5 : Int32, x5 = v4 + 1 → k67 v2 x4 x5 h) ∧ (v5 = 0 → Q (-1) h)
set_option maxHeartbeats 4000000 in
set_option maxRecDepth 100000 in
theorem s_X5_findLoan_136 {l : Launch} {G : Cx} {d : Nat} {h0 : Hp} (hd : 10 ≤ d) {k67 : Int32 → Int32 → Int32 → Hp → Prop} {k161 : Hp → Prop} {Q : Int32 → Hp → Prop} (hk67 : ∀ (v2 : Int32) (v3 : Int32) (v4 : Int32) (hh : Hp), k67 v2 v3 v4 hh → Rn l G d 0 0 MX5_findLoan h0 (qI Q) 67 [some (tR 5 0 (some 14)), none, some (tI v2), some (tI v3), some (tI v4)] [] hh 0 0) (hk161 : ∀ (hh : Hp), k161 hh → Rn l G d 0 0 MX5_findLoan h0 (qI Q) 161 [some (tR 5 0 (some 14))] [] hh 0 0) {v2 : Int32} {v3 : Int32} {v4 : Int32} {v5 : Int32} {h : Hp} (hm : m_X5_findLoan_136 k67 k161 Q v2 v3 v4 v5 h) : Rn l G d 0 0 MX5_findLoan h0 (qI Q) 136 [some (tR 5 0 (some 14)), none, some (tI v2), some (tI v3), some (tI v4), some (tI v5)] [] h 0 0 := by
  unfold m_X5_findLoan_136 at hm
  refine r_iload dX5_findLoan_136 rfl ?_
  refine r_if_ne (tgt := 143) dX5_findLoan_138 rfl (fun hc => ?_) (fun hc => ?_)
  · replace hm := hm.1 hc
    refine r_iload_n dX5_findLoan_143 rfl rfl ?_
    refine r_aload_n dX5_findLoan_144 rfl rfl ?_
    refine r_getI (k := 4) cl_5 dX5_findLoan_145 t_147 (Or.inl rfl) gf_5_4 ?_
    refine r_isub dX5_findLoan_148 ?_
    refine r_aload_n dX5_findLoan_149 rfl rfl ?_
    refine r_getI (k := 4) cl_5 dX5_findLoan_150 t_147 (Or.inl rfl) gf_5_4 ?_
    refine r_iand dX5_findLoan_153 ?_
    refine r_nmI (fun x4 e_x4 => ?_)
    replace hm := hm x4 e_x4
    refine r_istore_n (L' := [some (tR 5 0 (some 14)), none, some (tI v2), some (tI x4), some (tI v4), some (tI v5)]) dX5_findLoan_154 rfl (by decide) rfl ?_
    obtain ⟨x5, e_x5⟩ : ∃ y : Int32, y = v4 + 1 := ⟨_, rfl⟩
    replace hm := hm x5 e_x5
    refine r_iinc (L' := [some (tR 5 0 (some 14)), none, some (tI v2), some (tI x4), some (tI x5), some (tI v5)]) dX5_findLoan_155 rfl (by rw [e_x5]; rfl) (by decide) rfl ?_
    refine r_goto (tgt := 67) dX5_findLoan_158 rfl ?_
    refine r_keep (L' := [some (tR 5 0 (some 14)), none, some (tI v2), some (tI x4), some (tI x5)]) [true, false, true, true, true] rfl ?_
    exact hk67 _ _ _ _ hm
  · replace hm := hm.2 hc
    refine r_iconst (v := (-1)) dX5_findLoan_141 rfl ?_
    exact r_ireturn dX5_findLoan_142 rfl ⟨by decide, by decide⟩ ⟨_, rfl, hm⟩
def m_X5_findLoan_84 : Nat → (Int32 → Int32 → Int32 → Int32 → Hp → Prop) → (Int32 → Hp → Prop) → Int32 → Int32 → Int32 → Int32 → Int32 → Hp → Prop
  | 0, _, _, _, _, _, _, _, _ => False
  | n + 1, k136, Q, v2, v3, v4, v5, v6, h => ((hI h 14 6) ≤ v6 → k136 v2 v3 v4 v5 h) ∧ (¬ (hI h 14 6) ≤ v6 → vp_in v6 8 ∧ (∀ x6 : Int32, x6 = (hI h 17 (ix v6)) → vp_in x6 8 ∧ (m_X5_borrowersOf x6 h (fun (x7 : Int32) (h8 : Hp) => vp_in x6 8 ∧ (vp_in x6 8 ∧ (∀ x9 : Int32, x9 = (v5 ||| (hI (wI h8 20 (ix x6) ((hI h 20 (ix x6)) &&& x7)) 20 (ix x6))) → ∀ x10 : Int32, x10 = v6 + 1 → m_X5_findLoan_84 n k136 Q v2 v3 v4 x9 x10 (wI h8 20 (ix x6) ((hI h 20 (ix x6)) &&& x7))))))))
set_option maxHeartbeats 4000000 in
set_option maxRecDepth 100000 in
theorem s_X5_findLoan_84 {l : Launch} {G : Cx} {d : Nat} {h0 : Hp} (hd : 10 ≤ d) {k136 : Int32 → Int32 → Int32 → Int32 → Hp → Prop} {Q : Int32 → Hp → Prop} (hk136 : ∀ (v2 : Int32) (v3 : Int32) (v4 : Int32) (v5 : Int32) (hh : Hp), k136 v2 v3 v4 v5 hh → Rn l G d 0 0 MX5_findLoan h0 (qI Q) 136 [some (tR 5 0 (some 14)), none, some (tI v2), some (tI v3), some (tI v4), some (tI v5)] [] hh 0 0) : ∀ {n : Nat} {v2 : Int32} {v3 : Int32} {v4 : Int32} {v5 : Int32} {v6 : Int32} {h : Hp}, m_X5_findLoan_84 n k136 Q v2 v3 v4 v5 v6 h → Rn l G d 0 0 MX5_findLoan h0 (qI Q) 84 [some (tR 5 0 (some 14)), none, some (tI v2), some (tI v3), some (tI v4), some (tI v5), some (tI v6)] [] h 0 0 := by
  intro n
  induction n with
  | zero => intro v2 v3 v4 v5 v6 h hm; exact hm.elim
  | succ n ih =>
    intro v2 v3 v4 v5 v6 h hm
    have hk84 := fun (v2 : Int32) (v3 : Int32) (v4 : Int32) (v5 : Int32) (v6 : Int32) (hh : Hp) (hm : m_X5_findLoan_84 n k136 Q v2 v3 v4 v5 v6 hh) => ih hm
    rw [m_X5_findLoan_84] at hm
    refine r_iload dX5_findLoan_84 rfl ?_
    refine r_aload_n dX5_findLoan_86 rfl rfl ?_
    refine r_getI (k := 6) cl_5 dX5_findLoan_87 t_149 (Or.inl rfl) gf_5_6 ?_
    refine r_icmp_ge (tgt := 136) dX5_findLoan_90 rfl (fun hc => ?_) (fun hc => ?_)
    · replace hm := hm.1 hc
      refine r_keep (L' := [some (tR 5 0 (some 14)), none, some (tI v2), some (tI v3), some (tI v4), some (tI v5)]) [true, false, true, true, true, true] rfl ?_
      exact hk136 _ _ _ _ _ hm
    · replace hm := hm.2 hc
      refine r_aload_n dX5_findLoan_93 rfl rfl ?_
      refine r_getC (k := 5) cl_5 dX5_findLoan_94 t_148 gf_5_5.1 gf_5_5.2 (gc_5_5 _) ?_
      refine r_iload dX5_findLoan_97 rfl ?_
      refine r_iald dX5_findLoan_99 hm.1 ?_
      replace hm := hm.2
      refine r_nmI (fun x6 e_x6 => ?_)
      replace hm := hm x6 e_x6
      refine r_istore (L' := [some (tR 5 0 (some 14)), none, some (tI v2), some (tI v3), some (tI v4), some (tI v5), some (tI v6), some (tI x6)]) dX5_findLoan_100 (by decide) rfl ?_
      refine r_aload_n dX5_findLoan_102 rfl rfl ?_
      refine r_getC (k := 9) cl_5 dX5_findLoan_103 t_152 gf_5_9.1 gf_5_9.2 (gc_5_9 _) ?_
      refine r_iload dX5_findLoan_106 rfl ?_
      refine r_dup2 dX5_findLoan_108 rfl cv_cat1R ?_
      refine r_iald dX5_findLoan_109 hm.1 ?_
      replace hm := hm.2
      refine r_aload_n dX5_findLoan_110 rfl rfl ?_
      refine r_iload dX5_findLoan_111 rfl ?_
      refine r_callVI (d' := d - 1) (as := [tI x6]) (st := [tI (hI h 20 (ix x6)), tI x6, tR 40 8 (some 20)]) cl_5 dX5_findLoan_113 mi_X5_borrowersOf t_1155 t_1017 t_1018 rfl rfl (Nat.le_of_ble_eq_true rfl) (by omega) ⟨by decide, by decide⟩ ⟨rfl, rfl⟩ (s_X5_borrowersOf (by omega) hm) (fun x7 h8 hm => ?_)
      refine r_iand dX5_findLoan_116 ?_
      refine r_iast dX5_findLoan_117 hm.1 ?_
      replace hm := hm.2
      refine r_iload dX5_findLoan_118 rfl ?_
      refine r_aload_n dX5_findLoan_120 rfl rfl ?_
      refine r_getC (k := 9) cl_5 dX5_findLoan_121 t_152 gf_5_9.1 gf_5_9.2 (gc_5_9 _) ?_
      refine r_iload dX5_findLoan_124 rfl ?_
      refine r_iald dX5_findLoan_126 hm.1 ?_
      replace hm := hm.2
      refine r_ior dX5_findLoan_127 ?_
      refine r_nmI (fun x9 e_x9 => ?_)
      replace hm := hm x9 e_x9
      refine r_istore (L' := [some (tR 5 0 (some 14)), none, some (tI v2), some (tI v3), some (tI v4), some (tI x9), some (tI v6), some (tI x6)]) dX5_findLoan_128 (by decide) rfl ?_
      obtain ⟨x10, e_x10⟩ : ∃ y : Int32, y = v6 + 1 := ⟨_, rfl⟩
      replace hm := hm x10 e_x10
      refine r_iinc (L' := [some (tR 5 0 (some 14)), none, some (tI v2), some (tI v3), some (tI v4), some (tI x9), some (tI x10), some (tI x6)]) dX5_findLoan_130 rfl (by rw [e_x10]; rfl) (by decide) rfl ?_
      refine r_goto (tgt := 84) dX5_findLoan_133 rfl ?_
      refine r_keep (L' := [some (tR 5 0 (some 14)), none, some (tI v2), some (tI v3), some (tI v4), some (tI x9), some (tI x10)]) [true, false, true, true, true, true, true] rfl ?_
      exact hk84 _ _ _ _ _ _ hm
def m_X5_findLoan_67 : Nat → (Hp → Prop) → (Int32 → Hp → Prop) → Int32 → Int32 → Int32 → Hp → Prop
  | 0, _, _, _, _, _, _ => False
  | n + 1, k161, Q, v2, v3, v4, h => (v2 ≤ v4 → k161 h) ∧ (¬ v2 ≤ v4 → m_X5_weigh v3 h (fun (h12 : Hp) => ∃ n84, m_X5_findLoan_84 n84 (m_X5_findLoan_136 (fun (v2 : Int32) (v3 : Int32) (v4 : Int32) (hh : Hp) => m_X5_findLoan_67 n k161 Q v2 v3 v4 hh) k161 Q) Q v2 v3 v4 0 0 h12))
set_option maxHeartbeats 4000000 in
set_option maxRecDepth 100000 in
theorem s_X5_findLoan_67 {l : Launch} {G : Cx} {d : Nat} {h0 : Hp} (hd : 10 ≤ d) {k161 : Hp → Prop} {Q : Int32 → Hp → Prop} (hk161 : ∀ (hh : Hp), k161 hh → Rn l G d 0 0 MX5_findLoan h0 (qI Q) 161 [some (tR 5 0 (some 14))] [] hh 0 0) : ∀ {n : Nat} {v2 : Int32} {v3 : Int32} {v4 : Int32} {h : Hp}, m_X5_findLoan_67 n k161 Q v2 v3 v4 h → Rn l G d 0 0 MX5_findLoan h0 (qI Q) 67 [some (tR 5 0 (some 14)), none, some (tI v2), some (tI v3), some (tI v4)] [] h 0 0 := by
  intro n
  induction n with
  | zero => intro v2 v3 v4 h hm; exact hm.elim
  | succ n ih =>
    intro v2 v3 v4 h hm
    have hk67 := fun (v2 : Int32) (v3 : Int32) (v4 : Int32) (hh : Hp) (hm : m_X5_findLoan_67 n k161 Q v2 v3 v4 hh) => ih hm
    rw [m_X5_findLoan_67] at hm
    refine r_iload dX5_findLoan_67 rfl ?_
    refine r_iload_n dX5_findLoan_69 rfl rfl ?_
    refine r_icmp_ge (tgt := 161) dX5_findLoan_70 rfl (fun hc => ?_) (fun hc => ?_)
    · replace hm := hm.1 hc
      refine r_keep (L' := [some (tR 5 0 (some 14))]) [true] rfl ?_
      exact hk161 _ hm
    · replace hm := hm.2 hc
      refine r_aload_n dX5_findLoan_73 rfl rfl ?_
      refine r_iload_n dX5_findLoan_74 rfl rfl ?_
      refine r_callVU (d' := d - 1) (as := [tI v3]) (st := []) cl_5 dX5_findLoan_75 mi_X5_weigh t_1154 t_993 t_994 rfl rfl (Nat.le_of_ble_eq_true rfl) (by omega) ⟨by decide, by decide⟩ ⟨rfl, rfl⟩ (s_X5_weigh (by omega) hm) (fun h12 hm => ?_)
      refine r_iconst (v := 0) dX5_findLoan_78 rfl ?_
      refine r_istore (L' := [some (tR 5 0 (some 14)), none, some (tI v2), some (tI v3), some (tI v4), some (tI 0)]) dX5_findLoan_79 (by decide) rfl ?_
      refine r_iconst (v := 0) dX5_findLoan_81 rfl ?_
      refine r_istore (L' := [some (tR 5 0 (some 14)), none, some (tI v2), some (tI v3), some (tI v4), some (tI 0), some (tI 0)]) dX5_findLoan_82 (by decide) rfl ?_
      refine r_keep (L' := [some (tR 5 0 (some 14)), none, some (tI v2), some (tI v3), some (tI v4), some (tI 0), some (tI 0)]) [true, false, true, true, true, true, true] rfl ?_
      obtain ⟨n, hm⟩ := hm
      refine s_X5_findLoan_84 hd ?_ hm
      · exact (fun _ _ _ _ _ hm => s_X5_findLoan_136 hd hk67 hk161 hm)
def m_X5_findLoan_52  (Q : Int32 → Hp → Prop) (h : Hp) : Prop := m_J6_bitCount_0f7a4 (hI h 14 4) h (fun (x13 : Int32) (h14 : Hp) => ∀ x15 : Int32, x15 = (1 <<< (x13 &&& 31)) → ∃ n67, m_X5_findLoan_67 n67 (m_X5_findLoan_161 Q) Q x15 0 0 h14)
set_option maxHeartbeats 4000000 in
set_option maxRecDepth 100000 in
theorem s_X5_findLoan_52 {l : Launch} {G : Cx} {d : Nat} {h0 : Hp} (hd : 10 ≤ d) {Q : Int32 → Hp → Prop} {h : Hp} (hm : m_X5_findLoan_52 Q h) : Rn l G d 0 0 MX5_findLoan h0 (qI Q) 52 [some (tR 5 0 (some 14))] [] h 0 0 := by
  unfold m_X5_findLoan_52 at hm
  refine r_iconst (v := 1) dX5_findLoan_52 rfl ?_
  refine r_aload_n dX5_findLoan_53 rfl rfl ?_
  refine r_getI (k := 4) cl_5 dX5_findLoan_54 t_147 (Or.inl rfl) gf_5_4 ?_
  refine r_callSI (d' := d - 1) (as := [tI (hI h 14 4)]) (st := [tI 1]) dX5_findLoan_57 mi_J6_bitCount_0f7a4 t_1153 t_862 rfl rfl (Nat.le_of_ble_eq_true rfl) (by omega) ⟨by decide, by decide⟩ ⟨rfl, rfl⟩ (s_J6_bitCount_0f7a4 (by omega) hm) (fun x13 h14 hm => ?_)
  refine r_ishl dX5_findLoan_60 ?_
  refine r_nmI (fun x15 e_x15 => ?_)
  replace hm := hm x15 e_x15
  refine r_istore_n (L' := [some (tR 5 0 (some 14)), none, some (tI x15)]) dX5_findLoan_61 rfl (by decide) rfl ?_
  refine r_iconst (v := 0) dX5_findLoan_62 rfl ?_
  refine r_istore_n (L' := [some (tR 5 0 (some 14)), none, some (tI x15), some (tI 0)]) dX5_findLoan_63 rfl (by decide) rfl ?_
  refine r_iconst (v := 0) dX5_findLoan_64 rfl ?_
  refine r_istore (L' := [some (tR 5 0 (some 14)), none, some (tI x15), some (tI 0), some (tI 0)]) dX5_findLoan_65 (by decide) rfl ?_
  refine r_keep (L' := [some (tR 5 0 (some 14)), none, some (tI x15), some (tI 0), some (tI 0)]) [true, false, true, true, true] rfl ?_
  obtain ⟨n, hm⟩ := hm
  refine s_X5_findLoan_67 hd ?_ hm
  · exact (fun _ hm => s_X5_findLoan_161 hd hm)
def m_X5_findLoan_24 : Nat → (Hp → Prop) → (Int32 → Hp → Prop) → Int32 → Hp → Prop
  | 0, _, _, _, _ => False
  | n + 1, k52, Q, v2, h => ((hI h 14 6) ≤ v2 → k52 h) ∧ (¬ (hI h 14 6) ≤ v2 → vp_in v2 8 ∧ (vp_in (hI h 17 (ix v2)) 8 ∧ (∀ x16 : Int32, x16 = v2 + 1 → m_X5_findLoan_24 n k52 Q x16 (wI h 20 (ix (hI h 17 (ix v2))) 255))))
set_option maxHeartbeats 4000000 in
set_option maxRecDepth 100000 in
theorem s_X5_findLoan_24 {l : Launch} {G : Cx} {d : Nat} {h0 : Hp} (hd : 10 ≤ d) {k52 : Hp → Prop} {Q : Int32 → Hp → Prop} (hk52 : ∀ (hh : Hp), k52 hh → Rn l G d 0 0 MX5_findLoan h0 (qI Q) 52 [some (tR 5 0 (some 14))] [] hh 0 0) : ∀ {n : Nat} {v2 : Int32} {h : Hp}, m_X5_findLoan_24 n k52 Q v2 h → Rn l G d 0 0 MX5_findLoan h0 (qI Q) 24 [some (tR 5 0 (some 14)), none, some (tI v2)] [] h 0 0 := by
  intro n
  induction n with
  | zero => intro v2 h hm; exact hm.elim
  | succ n ih =>
    intro v2 h hm
    have hk24 := fun (v2 : Int32) (hh : Hp) (hm : m_X5_findLoan_24 n k52 Q v2 hh) => ih hm
    rw [m_X5_findLoan_24] at hm
    refine r_iload_n dX5_findLoan_24 rfl rfl ?_
    refine r_aload_n dX5_findLoan_25 rfl rfl ?_
    refine r_getI (k := 6) cl_5 dX5_findLoan_26 t_149 (Or.inl rfl) gf_5_6 ?_
    refine r_icmp_ge (tgt := 52) dX5_findLoan_29 rfl (fun hc => ?_) (fun hc => ?_)
    · replace hm := hm.1 hc
      refine r_keep (L' := [some (tR 5 0 (some 14))]) [true] rfl ?_
      exact hk52 _ hm
    · replace hm := hm.2 hc
      refine r_aload_n dX5_findLoan_32 rfl rfl ?_
      refine r_getC (k := 9) cl_5 dX5_findLoan_33 t_152 gf_5_9.1 gf_5_9.2 (gc_5_9 _) ?_
      refine r_aload_n dX5_findLoan_36 rfl rfl ?_
      refine r_getC (k := 5) cl_5 dX5_findLoan_37 t_148 gf_5_5.1 gf_5_5.2 (gc_5_5 _) ?_
      refine r_iload_n dX5_findLoan_40 rfl rfl ?_
      refine r_iald dX5_findLoan_41 hm.1 ?_
      replace hm := hm.2
      refine r_sipush (v := 255) dX5_findLoan_42 rfl ?_
      refine r_iast dX5_findLoan_45 hm.1 ?_
      replace hm := hm.2
      obtain ⟨x16, e_x16⟩ : ∃ y : Int32, y = v2 + 1 := ⟨_, rfl⟩
      replace hm := hm x16 e_x16
      refine r_iinc (L' := [some (tR 5 0 (some 14)), none, some (tI x16)]) dX5_findLoan_46 rfl (by rw [e_x16]; rfl) (by decide) rfl ?_
      refine r_goto (tgt := 24) dX5_findLoan_49 rfl ?_
      refine r_keep (L' := [some (tR 5 0 (some 14)), none, some (tI x16)]) [true, false, true] rfl ?_
      exact hk24 _ _ hm
def m_X5_findLoan (v1 : Nat) (h : Hp) (Q : Int32 → Hp → Prop) : Prop := m_X0_isLooked v1 h (fun (x17 : Int32) (h18 : Hp) => (¬ x17 = 0 → m_X5_take v1 h18 (fun (h20 : Hp) => m_J7_fill_53178 20 8 0 h20 (fun (h22 : Hp) => ∃ n24, m_X5_findLoan_24 n24 (m_X5_findLoan_52 Q) Q 0 h22))) ∧ (x17 = 0 → Q (-1) h18))
set_option maxHeartbeats 4000000 in
set_option maxRecDepth 100000 in
theorem s_X5_findLoan {l : Launch} {G : Cx} {d : Nat} (hd : 10 ≤ d) {v1 : Nat} {h : Hp} {Q : Int32 → Hp → Prop} (hm : m_X5_findLoan v1 h Q) : Ct l G d 0 0 yX5_findLoan MX5_findLoan [tR 5 0 (some 14), tR 0 0 (some v1)] h (qI Q) := by
  unfold m_X5_findLoan at hm
  refine Ct.of (L := [some (tR 5 0 (some 14)), some (tR 0 0 (some v1))]) (by decide) rfl rfl (Nat.le_of_ble_eq_true rfl) rfl ?_
  refine r_aload_n dX5_findLoan_0 rfl rfl ?_
  refine r_callVI (d' := d - 1) (as := []) (st := []) cl_0 dX5_findLoan_1 mi_X0_isLooked t_1151 t_949 t_950 rfl rfl (Nat.le_of_ble_eq_true rfl) (by omega) ⟨by decide, by decide⟩ ⟨rfl, rfl⟩ (s_X0_isLooked (by omega) hm) (fun x17 h18 hm => ?_)
  refine r_if_ne (tgt := 9) dX5_findLoan_4 rfl (fun hc => ?_) (fun hc => ?_)
  · replace hm := hm.1 hc
    refine r_aload_n dX5_findLoan_9 rfl rfl ?_
    refine r_aload_n dX5_findLoan_10 rfl rfl ?_
    refine r_callVU (d' := d - 1) (as := [tR 0 0 (some v1)]) (st := []) cl_5 dX5_findLoan_11 mi_X5_take t_1152 t_976 t_977 rfl rfl (Nat.le_of_ble_eq_true rfl) (by omega) ⟨by decide, by decide⟩ ⟨rfl, rfl⟩ (s_X5_take (by omega) hm) (fun h20 hm => ?_)
    refine r_aload_n dX5_findLoan_14 rfl rfl ?_
    refine r_getC (k := 9) cl_5 dX5_findLoan_15 t_152 gf_5_9.1 gf_5_9.2 (gc_5_9 _) ?_
    refine r_iconst (v := 0) dX5_findLoan_18 rfl ?_
    refine r_callSU (d' := d - 1) (as := [tR 40 8 (some 20), tI 0]) (st := []) dX5_findLoan_19 mi_J7_fill_53178 t_979 t_413 rfl rfl (Nat.le_of_ble_eq_true rfl) (by omega) ⟨by decide, by decide⟩ ⟨rfl, rfl⟩ (s_J7_fill_53178 (by omega) hm) (fun h22 hm => ?_)
    refine r_iconst (v := 0) dX5_findLoan_22 rfl ?_
    refine r_istore_n (L' := [some (tR 5 0 (some 14)), some (tR 0 0 (some v1)), some (tI 0)]) dX5_findLoan_23 rfl (by decide) rfl ?_
    refine r_keep (L' := [some (tR 5 0 (some 14)), none, some (tI 0)]) [true, false, true] rfl ?_
    obtain ⟨n, hm⟩ := hm
    refine s_X5_findLoan_24 hd ?_ hm
    · exact (fun _ hm => s_X5_findLoan_52 hd hm)
  · replace hm := hm.2 hc
    refine r_iconst (v := (-1)) dX5_findLoan_7 rfl ?_
    exact r_ireturn dX5_findLoan_8 rfl ⟨by decide, by decide⟩ ⟨_, rfl, hm⟩
theorem dX6_init_0 : decode cX6_init 0 = .ok (.aload_n 0, 1) := rfl
theorem dX6_init_1 : decode cX6_init 1 = .ok (.invokespecial 3, 3) := rfl
theorem dX6_init_4 : decode cX6_init 4 = .ok (.aload_n 0, 1) := rfl
theorem dX6_init_5 : decode cX6_init 5 = .ok (.bipush 96, 2) := by decide +kernel
theorem dX6_init_7 : decode cX6_init 7 = .ok (.newarray .int, 2) := rfl
theorem dX6_init_9 : decode cX6_init 9 = .ok (.putfield 11, 3) := rfl
theorem dX6_init_12 : decode cX6_init 12 = .ok (.return_, 1) := rfl
def m_X6_init (v0 : Nat) (h : Hp) (Q : Hp → Prop) : Prop := ∀ a1 : Nat, a1 = hN h → ∀ h2 : Hp, h2 = nw h (40, 96) → Q (wR h2 v0 0 (some a1))
set_option maxHeartbeats 4000000 in
set_option maxRecDepth 100000 in
theorem s_X6_init {l : Launch} {G : Cx} {d : Nat} (hd : 2 ≤ d) {v0 : Nat} {h : Hp} {Q : Hp → Prop} (hm : m_X6_init v0 h Q) : Ct l G d 1 96 yX6_init MX6_init [tR 26 0 (some v0)] h (qV Q) := by
  unfold m_X6_init at hm
  refine Ct.of (L := [some (tR 26 0 (some v0))]) (by decide) rfl rfl (Nat.le_of_ble_eq_true rfl) rfl ?_
  refine r_aload_n dX6_init_0 rfl rfl ?_
  refine r_objInit dX6_init_1 t_771 t_29 t_30 (by omega) (Nat.le_of_ble_eq_true rfl) ?_
  refine r_aload_n dX6_init_4 rfl rfl ?_
  refine r_bipush (v := 96) dX6_init_5 rfl ?_
  refine r_newI (N := 96) dX6_init_7 t_61 (by decide) rfl (by decide) ⟨by decide, by decide⟩ ?_
  refine r_nmA (fun a1 e_a1 h2 e_h2 => ?_)
  replace hm := hm a1 e_a1 h2 e_h2
  refine r_putR0 (k := 0) cl_6 dX6_init_9 t_772 (Or.inr rfl) gf_6_0.1 gf_6_0.2 (fun z => absurd z (by decide)) pf_6_0.1 (Or.inr ⟨pf_6_0.2, rfl, rfl⟩) ?_
  exact r_return dX6_init_12 rfl ⟨by decide, by decide⟩ ⟨rfl, hm⟩
theorem dX6_readForm_0 : decode cX6_readForm 0 = .ok (.aload_n 0, 1) := rfl
theorem dX6_readForm_1 : decode cX6_readForm 1 = .ok (.getfield 11, 3) := rfl
theorem dX6_readForm_4 : decode cX6_readForm 4 = .ok (.iload_n 2, 1) := rfl
theorem dX6_readForm_5 : decode cX6_readForm 5 = .ok (.aload_n 1, 1) := rfl
theorem dX6_readForm_6 : decode cX6_readForm 6 = .ok (.ldc 60, 2) := rfl
theorem dX6_readForm_8 : decode cX6_readForm 8 = .ok (.invokevirtual 62, 3) := rfl
theorem dX6_readForm_11 : decode cX6_readForm 11 = .ok (.iastore, 1) := rfl
theorem dX6_readForm_12 : decode cX6_readForm 12 = .ok (.aload_n 0, 1) := rfl
theorem dX6_readForm_13 : decode cX6_readForm 13 = .ok (.getfield 11, 3) := rfl
theorem dX6_readForm_16 : decode cX6_readForm 16 = .ok (.iload_n 2, 1) := rfl
theorem dX6_readForm_17 : decode cX6_readForm 17 = .ok (.iconst 1, 1) := rfl
theorem dX6_readForm_18 : decode cX6_readForm 18 = .ok (.iadd, 1) := rfl
theorem dX6_readForm_19 : decode cX6_readForm 19 = .ok (.iconst (-1), 1) := rfl
theorem dX6_readForm_20 : decode cX6_readForm 20 = .ok (.iastore, 1) := rfl
theorem dX6_readForm_21 : decode cX6_readForm 21 = .ok (.aload_n 0, 1) := rfl
theorem dX6_readForm_22 : decode cX6_readForm 22 = .ok (.getfield 11, 3) := rfl
theorem dX6_readForm_25 : decode cX6_readForm 25 = .ok (.iload_n 2, 1) := rfl
theorem dX6_readForm_26 : decode cX6_readForm 26 = .ok (.iaload, 1) := rfl
theorem dX6_readForm_27 : decode cX6_readForm 27 = .ok (.iconst (-1), 1) := rfl
theorem dX6_readForm_28 : decode cX6_readForm 28 = .ok (.if_icmp .ne 5, 3) := by decide +kernel
theorem dX6_readForm_31 : decode cX6_readForm 31 = .ok (.iconst 0, 1) := rfl
theorem dX6_readForm_32 : decode cX6_readForm 32 = .ok (.ireturn, 1) := rfl
theorem dX6_readForm_33 : decode cX6_readForm 33 = .ok (.aload_n 1, 1) := rfl
theorem dX6_readForm_34 : decode cX6_readForm 34 = .ok (.ldc 66, 2) := rfl
theorem dX6_readForm_36 : decode cX6_readForm 36 = .ok (.invokevirtual 43, 3) := rfl
theorem dX6_readForm_39 : decode cX6_readForm 39 = .ok (.ifCond .ne 5, 3) := by decide +kernel
theorem dX6_readForm_42 : decode cX6_readForm 42 = .ok (.iconst 1, 1) := rfl
theorem dX6_readForm_43 : decode cX6_readForm 43 = .ok (.ireturn, 1) := rfl
theorem dX6_readForm_44 : decode cX6_readForm 44 = .ok (.aload_n 1, 1) := rfl
theorem dX6_readForm_45 : decode cX6_readForm 45 = .ok (.invokevirtual 46, 3) := rfl
theorem dX6_readForm_48 : decode cX6_readForm 48 = .ok (.aload_n 0, 1) := rfl
theorem dX6_readForm_49 : decode cX6_readForm 49 = .ok (.getfield 11, 3) := rfl
theorem dX6_readForm_52 : decode cX6_readForm 52 = .ok (.iload_n 2, 1) := rfl
theorem dX6_readForm_53 : decode cX6_readForm 53 = .ok (.iconst 1, 1) := rfl
theorem dX6_readForm_54 : decode cX6_readForm 54 = .ok (.iadd, 1) := rfl
theorem dX6_readForm_55 : decode cX6_readForm 55 = .ok (.aload_n 1, 1) := rfl
theorem dX6_readForm_56 : decode cX6_readForm 56 = .ok (.ldc 68, 2) := rfl
theorem dX6_readForm_58 : decode cX6_readForm 58 = .ok (.invokevirtual 62, 3) := rfl
theorem dX6_readForm_61 : decode cX6_readForm 61 = .ok (.iastore, 1) := rfl
theorem dX6_readForm_62 : decode cX6_readForm 62 = .ok (.aload_n 0, 1) := rfl
theorem dX6_readForm_63 : decode cX6_readForm 63 = .ok (.getfield 11, 3) := rfl
theorem dX6_readForm_66 : decode cX6_readForm 66 = .ok (.iload_n 2, 1) := rfl
theorem dX6_readForm_67 : decode cX6_readForm 67 = .ok (.iconst 1, 1) := rfl
theorem dX6_readForm_68 : decode cX6_readForm 68 = .ok (.iadd, 1) := rfl
theorem dX6_readForm_69 : decode cX6_readForm 69 = .ok (.iaload, 1) := rfl
theorem dX6_readForm_70 : decode cX6_readForm 70 = .ok (.iconst (-1), 1) := rfl
theorem dX6_readForm_71 : decode cX6_readForm 71 = .ok (.if_icmp .eq 7, 3) := by decide +kernel
theorem dX6_readForm_74 : decode cX6_readForm 74 = .ok (.iconst 1, 1) := rfl
theorem dX6_readForm_75 : decode cX6_readForm 75 = .ok (.goto 4, 3) := by decide +kernel
theorem dX6_readForm_78 : decode cX6_readForm 78 = .ok (.iconst 0, 1) := rfl
theorem dX6_readForm_79 : decode cX6_readForm 79 = .ok (.ireturn, 1) := rfl
def m_X6_readForm (v0 : Nat) (v2 : Int32) (h : Hp) (Q : Int32 → Hp → Prop) : Prop := m_X10_takeOneOf 11 h (fun (x1 : Int32) (h2 : Hp) => vp_in v2 96 ∧ (vp_in (v2 + 1) 96 ∧ (vp_in v2 96 ∧ ((¬ (hI (wI (wI h2 (v0 + 1) (ix v2) x1) (v0 + 1) (ix (v2 + 1)) (-1)) (v0 + 1) (ix v2)) = (-1) → m_X10_isWord 12 (wI (wI h2 (v0 + 1) (ix v2) x1) (v0 + 1) (ix (v2 + 1)) (-1)) (fun (x3 : Int32) (h4 : Hp) => (¬ x3 = 0 → m_X10_advance h4 (fun (h6 : Hp) => m_X10_takeOneOf 2 h6 (fun (x7 : Int32) (h8 : Hp) => vp_in (v2 + 1) 96 ∧ (vp_in (v2 + 1) 96 ∧ (((hI (wI h8 (v0 + 1) (ix (v2 + 1)) x7) (v0 + 1) (ix (v2 + 1))) = (-1) → Q 0 (wI h8 (v0 + 1) (ix (v2 + 1)) x7)) ∧ (¬ (hI (wI h8 (v0 + 1) (ix (v2 + 1)) x7) (v0 + 1) (ix (v2 + 1))) = (-1) → Q 1 (wI h8 (v0 + 1) (ix (v2 + 1)) x7))))))) ∧ (x3 = 0 → Q 1 h4))) ∧ ((hI (wI (wI h2 (v0 + 1) (ix v2) x1) (v0 + 1) (ix (v2 + 1)) (-1)) (v0 + 1) (ix v2)) = (-1) → Q 0 (wI (wI h2 (v0 + 1) (ix v2) x1) (v0 + 1) (ix (v2 + 1)) (-1)))))))
set_option maxHeartbeats 4000000 in
set_option maxRecDepth 100000 in
theorem s_X6_readForm {l : Launch} {G : Cx} {d : Nat} (hd : 14 ≤ d) {v0 : Nat} {v2 : Int32} {h : Hp} {Q : Int32 → Hp → Prop} (hm : m_X6_readForm v0 v2 h Q) : Ct l G d 0 0 yX6_readForm MX6_readForm [tR 6 0 (some v0), tR 10 0 (some 2), tI v2] h (qI Q) := by
  unfold m_X6_readForm at hm
  refine Ct.of (L := [some (tR 6 0 (some v0)), some (tR 10 0 (some 2)), some (tI v2)]) (by decide) rfl rfl (Nat.le_of_ble_eq_true rfl) rfl ?_
  refine r_aload_n dX6_readForm_0 rfl rfl ?_
  refine r_getC (k := 0) cl_6 dX6_readForm_1 t_772 gf_6_0.1 gf_6_0.2 (gc_6_0 _) ?_
  refine r_iload_n dX6_readForm_4 rfl rfl ?_
  refine r_aload_n dX6_readForm_5 rfl rfl ?_
  refine r_ldcS (i := 11) (tx := "pass gift sale hire any ") dX6_readForm_6 (by decide) (by decide) ?_
  refine r_callVI (d' := d - 1) (as := [tS 11]) (st := [tI v2, tR 40 96 (some (v0 + 1))]) cl_10 dX6_readForm_8 mi_X10_takeOneOf t_798 t_607 t_608 rfl rfl (Nat.le_of_ble_eq_true rfl) (by omega) ⟨by decide, by decide⟩ ⟨rfl, rfl⟩ (s_X10_takeOneOf (by omega) (by decide) hm) (fun x1 h2 hm => ?_)
  refine r_iast dX6_readForm_11 hm.1 ?_
  replace hm := hm.2
  refine r_aload_n dX6_readForm_12 rfl rfl ?_
  refine r_getC (k := 0) cl_6 dX6_readForm_13 t_772 gf_6_0.1 gf_6_0.2 (gc_6_0 _) ?_
  refine r_iload_n dX6_readForm_16 rfl rfl ?_
  refine r_iconst (v := 1) dX6_readForm_17 rfl ?_
  refine r_iadd dX6_readForm_18 ?_
  refine r_iconst (v := (-1)) dX6_readForm_19 rfl ?_
  refine r_iast dX6_readForm_20 hm.1 ?_
  replace hm := hm.2
  refine r_aload_n dX6_readForm_21 rfl rfl ?_
  refine r_getC (k := 0) cl_6 dX6_readForm_22 t_772 gf_6_0.1 gf_6_0.2 (gc_6_0 _) ?_
  refine r_iload_n dX6_readForm_25 rfl rfl ?_
  refine r_iald dX6_readForm_26 hm.1 ?_
  replace hm := hm.2
  refine r_iconst (v := (-1)) dX6_readForm_27 rfl ?_
  refine r_icmp_ne (tgt := 33) dX6_readForm_28 rfl (fun hc => ?_) (fun hc => ?_)
  · replace hm := hm.1 hc
    refine r_aload_n dX6_readForm_33 rfl rfl ?_
    refine r_ldcS (i := 12) (tx := "of ") dX6_readForm_34 (by decide) (by decide) ?_
    refine r_callVI (d' := d - 1) (as := [tS 12]) (st := []) cl_10 dX6_readForm_36 mi_X10_isWord t_800 t_631 t_632 rfl rfl (Nat.le_of_ble_eq_true rfl) (by omega) ⟨by decide, by decide⟩ ⟨rfl, rfl⟩ (s_X10_isWord (by omega) (by decide) hm) (fun x3 h4 hm => ?_)
    refine r_if_ne (tgt := 44) dX6_readForm_39 rfl (fun hc => ?_) (fun hc => ?_)
    · replace hm := hm.1 hc
      refine r_aload_n dX6_readForm_44 rfl rfl ?_
      refine r_callVU (d' := d - 1) (as := []) (st := []) cl_10 dX6_readForm_45 mi_X10_advance t_801 t_516 t_517 rfl rfl (Nat.le_of_ble_eq_true rfl) (by omega) ⟨by decide, by decide⟩ ⟨rfl, rfl⟩ (s_X10_advance (by omega) hm) (fun h6 hm => ?_)
      refine r_aload_n dX6_readForm_48 rfl rfl ?_
      refine r_getC (k := 0) cl_6 dX6_readForm_49 t_772 gf_6_0.1 gf_6_0.2 (gc_6_0 _) ?_
      refine r_iload_n dX6_readForm_52 rfl rfl ?_
      refine r_iconst (v := 1) dX6_readForm_53 rfl ?_
      refine r_iadd dX6_readForm_54 ?_
      refine r_aload_n dX6_readForm_55 rfl rfl ?_
      refine r_ldcS (i := 2) (tx := "coin mule cloth house work grain ") dX6_readForm_56 (by decide) (by decide) ?_
      refine r_callVI (d' := d - 1) (as := [tS 2]) (st := [tI (v2 + 1), tR 40 96 (some (v0 + 1))]) cl_10 dX6_readForm_58 mi_X10_takeOneOf t_798 t_607 t_608 rfl rfl (Nat.le_of_ble_eq_true rfl) (by omega) ⟨by decide, by decide⟩ ⟨rfl, rfl⟩ (s_X10_takeOneOf (by omega) (by decide) hm) (fun x7 h8 hm => ?_)
      refine r_iast dX6_readForm_61 hm.1 ?_
      replace hm := hm.2
      refine r_aload_n dX6_readForm_62 rfl rfl ?_
      refine r_getC (k := 0) cl_6 dX6_readForm_63 t_772 gf_6_0.1 gf_6_0.2 (gc_6_0 _) ?_
      refine r_iload_n dX6_readForm_66 rfl rfl ?_
      refine r_iconst (v := 1) dX6_readForm_67 rfl ?_
      refine r_iadd dX6_readForm_68 ?_
      refine r_iald dX6_readForm_69 hm.1 ?_
      replace hm := hm.2
      refine r_iconst (v := (-1)) dX6_readForm_70 rfl ?_
      refine r_icmp_eq (tgt := 78) dX6_readForm_71 rfl (fun hc => ?_) (fun hc => ?_)
      · replace hm := hm.1 hc
        refine r_iconst (v := 0) dX6_readForm_78 rfl ?_
        exact r_bret dX6_readForm_79 rfl ⟨by decide, by decide⟩ (by unfold bz; decide) ⟨_, rfl, hm⟩
      · replace hm := hm.2 hc
        refine r_iconst (v := 1) dX6_readForm_74 rfl ?_
        refine r_goto (tgt := 79) dX6_readForm_75 rfl ?_
        exact r_bret dX6_readForm_79 rfl ⟨by decide, by decide⟩ (by unfold bz; decide) ⟨_, rfl, hm⟩
    · replace hm := hm.2 hc
      refine r_iconst (v := 1) dX6_readForm_42 rfl ?_
      exact r_bret dX6_readForm_43 rfl ⟨by decide, by decide⟩ (by unfold bz; decide) ⟨_, rfl, hm⟩
  · replace hm := hm.2 hc
    refine r_iconst (v := 0) dX6_readForm_31 rfl ?_
    exact r_bret dX6_readForm_32 rfl ⟨by decide, by decide⟩ (by unfold bz; decide) ⟨_, rfl, hm⟩
theorem dX6_readTies_0 : decode cX6_readTies 0 = .ok (.iconst 0, 1) := rfl
theorem dX6_readTies_1 : decode cX6_readTies 1 = .ok (.istore_n 3, 1) := rfl
theorem dX6_readTies_2 : decode cX6_readTies 2 = .ok (.iload_n 3, 1) := rfl
theorem dX6_readTies_3 : decode cX6_readTies 3 = .ok (.sipush 600, 3) := by decide +kernel
theorem dX6_readTies_6 : decode cX6_readTies 6 = .ok (.if_icmp .ge 41, 3) := by decide +kernel
theorem dX6_readTies_9 : decode cX6_readTies 9 = .ok (.aload_n 1, 1) := rfl
theorem dX6_readTies_10 : decode cX6_readTies 10 = .ok (.ldc 70, 2) := rfl
theorem dX6_readTies_12 : decode cX6_readTies 12 = .ok (.invokevirtual 72, 3) := rfl
theorem dX6_readTies_15 : decode cX6_readTies 15 = .ok (.istore 4, 2) := rfl
theorem dX6_readTies_17 : decode cX6_readTies 17 = .ok (.iload 4, 2) := rfl
theorem dX6_readTies_19 : decode cX6_readTies 19 = .ok (.iconst (-1), 1) := rfl
theorem dX6_readTies_20 : decode cX6_readTies 20 = .ok (.if_icmp .ne 4, 3) := by decide +kernel
theorem dX6_readTies_23 : decode cX6_readTies 23 = .ok (.return_, 1) := rfl
theorem dX6_readTies_24 : decode cX6_readTies 24 = .ok (.aload_n 0, 1) := rfl
theorem dX6_readTies_25 : decode cX6_readTies 25 = .ok (.getfield 11, 3) := rfl
theorem dX6_readTies_28 : decode cX6_readTies 28 = .ok (.iload_n 2, 1) := rfl
theorem dX6_readTies_29 : decode cX6_readTies 29 = .ok (.dup2, 1) := rfl
theorem dX6_readTies_30 : decode cX6_readTies 30 = .ok (.iaload, 1) := rfl
theorem dX6_readTies_31 : decode cX6_readTies 31 = .ok (.iconst 1, 1) := rfl
theorem dX6_readTies_32 : decode cX6_readTies 32 = .ok (.iload 4, 2) := rfl
theorem dX6_readTies_34 : decode cX6_readTies 34 = .ok (.ishl, 1) := rfl
theorem dX6_readTies_35 : decode cX6_readTies 35 = .ok (.ior, 1) := rfl
theorem dX6_readTies_36 : decode cX6_readTies 36 = .ok (.iastore, 1) := rfl
theorem dX6_readTies_37 : decode cX6_readTies 37 = .ok (.aload_n 1, 1) := rfl
theorem dX6_readTies_38 : decode cX6_readTies 38 = .ok (.invokevirtual 46, 3) := rfl
theorem dX6_readTies_41 : decode cX6_readTies 41 = .ok (.iinc 3 1, 3) := by decide +kernel
theorem dX6_readTies_44 : decode cX6_readTies 44 = .ok (.goto (-42), 3) := by decide +kernel
theorem dX6_readTies_47 : decode cX6_readTies 47 = .ok (.return_, 1) := rfl
def m_X6_readTies_2 : Nat → (Hp → Prop) → Nat → Int32 → Int32 → Hp → Prop
  | 0, _, _, _, _, _ => False
  | n + 1, Q, v0, v2, v3, h => (600 ≤ v3 → Q h) ∧ (¬ 600 ≤ v3 → m_X10_placeIn 14 h (fun (x1 : Int32) (h2 : Hp) => (¬ x1 = (-1) → vp_in v2 96 ∧ (vp_in v2 96 ∧ (m_X10_advance (wI h2 (v0 + 1) (ix v2) ((hI h2 (v0 + 1) (ix v2)) ||| (1 <<< (x1 &&& 31)))) (fun (h4 : Hp) => ∀ x5 : Int32, x5 = v3 + 1 → m_X6_readTies_2 n Q v0 v2 x5 h4)))) ∧ (x1 = (-1) → Q h2)))
set_option maxHeartbeats 4000000 in
set_option maxRecDepth 100000 in
theorem s_X6_readTies_2 {l : Launch} {G : Cx} {d : Nat} {h0 : Hp} (hd : 12 ≤ d) {Q : Hp → Prop} : ∀ {n : Nat} {v0 : Nat} {v2 : Int32} {v3 : Int32} {h : Hp}, m_X6_readTies_2 n Q v0 v2 v3 h → Rn l G d 0 0 MX6_readTies h0 (qV Q) 2 [some (tR 6 0 (some v0)), some (tR 10 0 (some 2)), some (tI v2), some (tI v3)] [] h 0 0 := by
  intro n
  induction n with
  | zero => intro v0 v2 v3 h hm; exact hm.elim
  | succ n ih =>
    intro v0 v2 v3 h hm
    have hk2 := fun (v0 : Nat) (v2 : Int32) (v3 : Int32) (hh : Hp) (hm : m_X6_readTies_2 n Q v0 v2 v3 hh) => ih hm
    rw [m_X6_readTies_2] at hm
    refine r_iload_n dX6_readTies_2 rfl rfl ?_
    refine r_sipush (v := 600) dX6_readTies_3 rfl ?_
    refine r_icmp_ge (tgt := 47) dX6_readTies_6 rfl (fun hc => ?_) (fun hc => ?_)
    · replace hm := hm.1 hc
      exact r_return dX6_readTies_47 rfl ⟨by decide, by decide⟩ ⟨rfl, hm⟩
    · replace hm := hm.2 hc
      refine r_aload_n dX6_readTies_9 rfl rfl ?_
      refine r_ldcS (i := 14) (tx := "back same more ") dX6_readTies_10 (by decide) (by decide) ?_
      refine r_callVI (d' := d - 1) (as := [tS 14]) (st := []) cl_10 dX6_readTies_12 mi_X10_placeIn t_809 t_541 t_542 rfl rfl (Nat.le_of_ble_eq_true rfl) (by omega) ⟨by decide, by decide⟩ ⟨rfl, rfl⟩ (s_X10_placeIn (by omega) (by decide) hm) (fun x1 h2 hm => ?_)
      refine r_istore (L' := [some (tR 6 0 (some v0)), some (tR 10 0 (some 2)), some (tI v2), some (tI v3), some (tI x1)]) dX6_readTies_15 (by decide) rfl ?_
      refine r_iload dX6_readTies_17 rfl ?_
      refine r_iconst (v := (-1)) dX6_readTies_19 rfl ?_
      refine r_icmp_ne (tgt := 24) dX6_readTies_20 rfl (fun hc => ?_) (fun hc => ?_)
      · replace hm := hm.1 hc
        refine r_aload_n dX6_readTies_24 rfl rfl ?_
        refine r_getC (k := 0) cl_6 dX6_readTies_25 t_772 gf_6_0.1 gf_6_0.2 (gc_6_0 _) ?_
        refine r_iload_n dX6_readTies_28 rfl rfl ?_
        refine r_dup2 dX6_readTies_29 rfl cv_cat1R ?_
        refine r_iald dX6_readTies_30 hm.1 ?_
        replace hm := hm.2
        refine r_iconst (v := 1) dX6_readTies_31 rfl ?_
        refine r_iload dX6_readTies_32 rfl ?_
        refine r_ishl dX6_readTies_34 ?_
        refine r_ior dX6_readTies_35 ?_
        refine r_iast dX6_readTies_36 hm.1 ?_
        replace hm := hm.2
        refine r_aload_n dX6_readTies_37 rfl rfl ?_
        refine r_callVU (d' := d - 1) (as := []) (st := []) cl_10 dX6_readTies_38 mi_X10_advance t_801 t_516 t_517 rfl rfl (Nat.le_of_ble_eq_true rfl) (by omega) ⟨by decide, by decide⟩ ⟨rfl, rfl⟩ (s_X10_advance (by omega) hm) (fun h4 hm => ?_)
        obtain ⟨x5, e_x5⟩ : ∃ y : Int32, y = v3 + 1 := ⟨_, rfl⟩
        replace hm := hm x5 e_x5
        refine r_iinc (L' := [some (tR 6 0 (some v0)), some (tR 10 0 (some 2)), some (tI v2), some (tI x5), some (tI x1)]) dX6_readTies_41 rfl (by rw [e_x5]; rfl) (by decide) rfl ?_
        refine r_goto (tgt := 2) dX6_readTies_44 rfl ?_
        refine r_keep (L' := [some (tR 6 0 (some v0)), some (tR 10 0 (some 2)), some (tI v2), some (tI x5)]) [true, true, true, true] rfl ?_
        exact hk2 _ _ _ _ hm
      · replace hm := hm.2 hc
        exact r_return dX6_readTies_23 rfl ⟨by decide, by decide⟩ ⟨rfl, hm⟩
def m_X6_readTies (v0 : Nat) (v2 : Int32) (h : Hp) (Q : Hp → Prop) : Prop := ∃ n2, m_X6_readTies_2 n2 Q v0 v2 0 h
set_option maxHeartbeats 4000000 in
set_option maxRecDepth 100000 in
theorem s_X6_readTies {l : Launch} {G : Cx} {d : Nat} (hd : 12 ≤ d) {v0 : Nat} {v2 : Int32} {h : Hp} {Q : Hp → Prop} (hm : m_X6_readTies v0 v2 h Q) : Ct l G d 0 0 yX6_readTies MX6_readTies [tR 6 0 (some v0), tR 10 0 (some 2), tI v2] h (qV Q) := by
  unfold m_X6_readTies at hm
  refine Ct.of (L := [some (tR 6 0 (some v0)), some (tR 10 0 (some 2)), some (tI v2)]) (by decide) rfl rfl (Nat.le_of_ble_eq_true rfl) rfl ?_
  refine r_iconst (v := 0) dX6_readTies_0 rfl ?_
  refine r_istore_n (L' := [some (tR 6 0 (some v0)), some (tR 10 0 (some 2)), some (tI v2), some (tI 0)]) dX6_readTies_1 rfl (by decide) rfl ?_
  refine r_keep (L' := [some (tR 6 0 (some v0)), some (tR 10 0 (some 2)), some (tI v2), some (tI 0)]) [true, true, true, true] rfl ?_
  obtain ⟨n, hm⟩ := hm
  refine s_X6_readTies_2 hd hm
theorem dX6_readWithin_0 : decode cX6_readWithin 0 = .ok (.aload_n 1, 1) := rfl
theorem dX6_readWithin_1 : decode cX6_readWithin 1 = .ok (.ldc 75, 2) := rfl
theorem dX6_readWithin_3 : decode cX6_readWithin 3 = .ok (.invokevirtual 43, 3) := rfl
theorem dX6_readWithin_6 : decode cX6_readWithin 6 = .ok (.ifCond .ne 5, 3) := by decide +kernel
theorem dX6_readWithin_9 : decode cX6_readWithin 9 = .ok (.iconst 1, 1) := rfl
theorem dX6_readWithin_10 : decode cX6_readWithin 10 = .ok (.ireturn, 1) := rfl
theorem dX6_readWithin_11 : decode cX6_readWithin 11 = .ok (.aload_n 1, 1) := rfl
theorem dX6_readWithin_12 : decode cX6_readWithin 12 = .ok (.invokevirtual 46, 3) := rfl
theorem dX6_readWithin_15 : decode cX6_readWithin 15 = .ok (.aload_n 0, 1) := rfl
theorem dX6_readWithin_16 : decode cX6_readWithin 16 = .ok (.getfield 11, 3) := rfl
theorem dX6_readWithin_19 : decode cX6_readWithin 19 = .ok (.iload_n 2, 1) := rfl
theorem dX6_readWithin_20 : decode cX6_readWithin 20 = .ok (.aload_n 1, 1) := rfl
theorem dX6_readWithin_21 : decode cX6_readWithin 21 = .ok (.iconst 0, 1) := rfl
theorem dX6_readWithin_22 : decode cX6_readWithin 22 = .ok (.sipush 9999, 3) := by decide +kernel
theorem dX6_readWithin_25 : decode cX6_readWithin 25 = .ok (.invokevirtual 77, 3) := rfl
theorem dX6_readWithin_28 : decode cX6_readWithin 28 = .ok (.iastore, 1) := rfl
theorem dX6_readWithin_29 : decode cX6_readWithin 29 = .ok (.aload_n 0, 1) := rfl
theorem dX6_readWithin_30 : decode cX6_readWithin 30 = .ok (.getfield 11, 3) := rfl
theorem dX6_readWithin_33 : decode cX6_readWithin 33 = .ok (.iload_n 2, 1) := rfl
theorem dX6_readWithin_34 : decode cX6_readWithin 34 = .ok (.iaload, 1) := rfl
theorem dX6_readWithin_35 : decode cX6_readWithin 35 = .ok (.iconst (-1), 1) := rfl
theorem dX6_readWithin_36 : decode cX6_readWithin 36 = .ok (.if_icmp .eq 7, 3) := by decide +kernel
theorem dX6_readWithin_39 : decode cX6_readWithin 39 = .ok (.iconst 1, 1) := rfl
theorem dX6_readWithin_40 : decode cX6_readWithin 40 = .ok (.goto 4, 3) := by decide +kernel
theorem dX6_readWithin_43 : decode cX6_readWithin 43 = .ok (.iconst 0, 1) := rfl
theorem dX6_readWithin_44 : decode cX6_readWithin 44 = .ok (.ireturn, 1) := rfl
def m_X6_readWithin (v0 : Nat) (v2 : Int32) (h : Hp) (Q : Int32 → Hp → Prop) : Prop := m_X10_isWord 15 h (fun (x1 : Int32) (h2 : Hp) => (¬ x1 = 0 → m_X10_advance h2 (fun (h4 : Hp) => m_X10_takeNumber 0 9999 h4 (fun (x5 : Int32) (h6 : Hp) => vp_in v2 96 ∧ (vp_in v2 96 ∧ (((hI (wI h6 (v0 + 1) (ix v2) x5) (v0 + 1) (ix v2)) = (-1) → Q 0 (wI h6 (v0 + 1) (ix v2) x5)) ∧ (¬ (hI (wI h6 (v0 + 1) (ix v2) x5) (v0 + 1) (ix v2)) = (-1) → Q 1 (wI h6 (v0 + 1) (ix v2) x5))))))) ∧ (x1 = 0 → Q 1 h2))
set_option maxHeartbeats 4000000 in
set_option maxRecDepth 100000 in
theorem s_X6_readWithin {l : Launch} {G : Cx} {d : Nat} (hd : 14 ≤ d) {v0 : Nat} {v2 : Int32} {h : Hp} {Q : Int32 → Hp → Prop} (hm : m_X6_readWithin v0 v2 h Q) : Ct l G d 0 0 yX6_readWithin MX6_readWithin [tR 6 0 (some v0), tR 10 0 (some 2), tI v2] h (qI Q) := by
  unfold m_X6_readWithin at hm
  refine Ct.of (L := [some (tR 6 0 (some v0)), some (tR 10 0 (some 2)), some (tI v2)]) (by decide) rfl rfl (Nat.le_of_ble_eq_true rfl) rfl ?_
  refine r_aload_n dX6_readWithin_0 rfl rfl ?_
  refine r_ldcS (i := 15) (tx := "within ") dX6_readWithin_1 (by decide) (by decide) ?_
  refine r_callVI (d' := d - 1) (as := [tS 15]) (st := []) cl_10 dX6_readWithin_3 mi_X10_isWord t_800 t_631 t_632 rfl rfl (Nat.le_of_ble_eq_true rfl) (by omega) ⟨by decide, by decide⟩ ⟨rfl, rfl⟩ (s_X10_isWord (by omega) (by decide) hm) (fun x1 h2 hm => ?_)
  refine r_if_ne (tgt := 11) dX6_readWithin_6 rfl (fun hc => ?_) (fun hc => ?_)
  · replace hm := hm.1 hc
    refine r_aload_n dX6_readWithin_11 rfl rfl ?_
    refine r_callVU (d' := d - 1) (as := []) (st := []) cl_10 dX6_readWithin_12 mi_X10_advance t_801 t_516 t_517 rfl rfl (Nat.le_of_ble_eq_true rfl) (by omega) ⟨by decide, by decide⟩ ⟨rfl, rfl⟩ (s_X10_advance (by omega) hm) (fun h4 hm => ?_)
    refine r_aload_n dX6_readWithin_15 rfl rfl ?_
    refine r_getC (k := 0) cl_6 dX6_readWithin_16 t_772 gf_6_0.1 gf_6_0.2 (gc_6_0 _) ?_
    refine r_iload_n dX6_readWithin_19 rfl rfl ?_
    refine r_aload_n dX6_readWithin_20 rfl rfl ?_
    refine r_iconst (v := 0) dX6_readWithin_21 rfl ?_
    refine r_sipush (v := 9999) dX6_readWithin_22 rfl ?_
    refine r_callVI (d' := d - 1) (as := [tI 0, tI 9999]) (st := [tI v2, tR 40 96 (some (v0 + 1))]) cl_10 dX6_readWithin_25 mi_X10_takeNumber t_815 t_618 t_619 rfl rfl (Nat.le_of_ble_eq_true rfl) (by omega) ⟨by decide, by decide⟩ ⟨rfl, rfl⟩ (s_X10_takeNumber (by omega) hm) (fun x5 h6 hm => ?_)
    refine r_iast dX6_readWithin_28 hm.1 ?_
    replace hm := hm.2
    refine r_aload_n dX6_readWithin_29 rfl rfl ?_
    refine r_getC (k := 0) cl_6 dX6_readWithin_30 t_772 gf_6_0.1 gf_6_0.2 (gc_6_0 _) ?_
    refine r_iload_n dX6_readWithin_33 rfl rfl ?_
    refine r_iald dX6_readWithin_34 hm.1 ?_
    replace hm := hm.2
    refine r_iconst (v := (-1)) dX6_readWithin_35 rfl ?_
    refine r_icmp_eq (tgt := 43) dX6_readWithin_36 rfl (fun hc => ?_) (fun hc => ?_)
    · replace hm := hm.1 hc
      refine r_iconst (v := 0) dX6_readWithin_43 rfl ?_
      exact r_bret dX6_readWithin_44 rfl ⟨by decide, by decide⟩ (by unfold bz; decide) ⟨_, rfl, hm⟩
    · replace hm := hm.2 hc
      refine r_iconst (v := 1) dX6_readWithin_39 rfl ?_
      refine r_goto (tgt := 44) dX6_readWithin_40 rfl ?_
      exact r_bret dX6_readWithin_44 rfl ⟨by decide, by decide⟩ (by unfold bz; decide) ⟨_, rfl, hm⟩
  · replace hm := hm.2 hc
    refine r_iconst (v := 1) dX6_readWithin_9 rfl ?_
    exact r_bret dX6_readWithin_10 rfl ⟨by decide, by decide⟩ (by unfold bz; decide) ⟨_, rfl, hm⟩
theorem dX6_readStatement_0 : decode cX6_readStatement 0 = .ok (.aload_n 0, 1) := by decide +kernel
theorem dX6_readStatement_1 : decode cX6_readStatement 1 = .ok (.getfield 11, 3) := by decide +kernel
theorem dX6_readStatement_4 : decode cX6_readStatement 4 = .ok (.iload_n 2, 1) := by decide +kernel
theorem dX6_readStatement_5 : decode cX6_readStatement 5 = .ok (.iconst 2, 1) := by decide +kernel
theorem dX6_readStatement_6 : decode cX6_readStatement 6 = .ok (.iadd, 1) := by decide +kernel
theorem dX6_readStatement_7 : decode cX6_readStatement 7 = .ok (.iconst (-1), 1) := by decide +kernel
theorem dX6_readStatement_8 : decode cX6_readStatement 8 = .ok (.iastore, 1) := by decide +kernel
theorem dX6_readStatement_9 : decode cX6_readStatement 9 = .ok (.aload_n 0, 1) := by decide +kernel
theorem dX6_readStatement_10 : decode cX6_readStatement 10 = .ok (.getfield 11, 3) := by decide +kernel
theorem dX6_readStatement_13 : decode cX6_readStatement 13 = .ok (.iload_n 2, 1) := by decide +kernel
theorem dX6_readStatement_14 : decode cX6_readStatement 14 = .ok (.iconst 3, 1) := by decide +kernel
theorem dX6_readStatement_15 : decode cX6_readStatement 15 = .ok (.iadd, 1) := by decide +kernel
theorem dX6_readStatement_16 : decode cX6_readStatement 16 = .ok (.iconst (-1), 1) := by decide +kernel
theorem dX6_readStatement_17 : decode cX6_readStatement 17 = .ok (.iastore, 1) := by decide +kernel
theorem dX6_readStatement_18 : decode cX6_readStatement 18 = .ok (.aload_n 0, 1) := by decide +kernel
theorem dX6_readStatement_19 : decode cX6_readStatement 19 = .ok (.getfield 11, 3) := by decide +kernel
theorem dX6_readStatement_22 : decode cX6_readStatement 22 = .ok (.iload_n 2, 1) := by decide +kernel
theorem dX6_readStatement_23 : decode cX6_readStatement 23 = .ok (.iconst 4, 1) := by decide +kernel
theorem dX6_readStatement_24 : decode cX6_readStatement 24 = .ok (.iadd, 1) := by decide +kernel
theorem dX6_readStatement_25 : decode cX6_readStatement 25 = .ok (.iconst 0, 1) := by decide +kernel
theorem dX6_readStatement_26 : decode cX6_readStatement 26 = .ok (.iastore, 1) := by decide +kernel
theorem dX6_readStatement_27 : decode cX6_readStatement 27 = .ok (.aload_n 0, 1) := by decide +kernel
theorem dX6_readStatement_28 : decode cX6_readStatement 28 = .ok (.getfield 11, 3) := by decide +kernel
theorem dX6_readStatement_31 : decode cX6_readStatement 31 = .ok (.iload_n 2, 1) := by decide +kernel
theorem dX6_readStatement_32 : decode cX6_readStatement 32 = .ok (.iconst 5, 1) := by decide +kernel
theorem dX6_readStatement_33 : decode cX6_readStatement 33 = .ok (.iadd, 1) := by decide +kernel
theorem dX6_readStatement_34 : decode cX6_readStatement 34 = .ok (.iconst (-1), 1) := by decide +kernel
theorem dX6_readStatement_35 : decode cX6_readStatement 35 = .ok (.iastore, 1) := by decide +kernel
theorem dX6_readStatement_36 : decode cX6_readStatement 36 = .ok (.aload_n 1, 1) := by decide +kernel
theorem dX6_readStatement_37 : decode cX6_readStatement 37 = .ok (.ldc 32, 2) := by decide +kernel
theorem dX6_readStatement_39 : decode cX6_readStatement 39 = .ok (.invokevirtual 34, 3) := by decide +kernel
theorem dX6_readStatement_42 : decode cX6_readStatement 42 = .ok (.ifCond .eq 14, 3) := by decide +kernel
theorem dX6_readStatement_45 : decode cX6_readStatement 45 = .ok (.aload_n 0, 1) := by decide +kernel
theorem dX6_readStatement_46 : decode cX6_readStatement 46 = .ok (.aload_n 1, 1) := by decide +kernel
theorem dX6_readStatement_47 : decode cX6_readStatement 47 = .ok (.iload_n 2, 1) := by decide +kernel
theorem dX6_readStatement_48 : decode cX6_readStatement 48 = .ok (.iconst 0, 1) := by decide +kernel
theorem dX6_readStatement_49 : decode cX6_readStatement 49 = .ok (.iadd, 1) := by decide +kernel
theorem dX6_readStatement_50 : decode cX6_readStatement 50 = .ok (.invokevirtual 38, 3) := by decide +kernel
theorem dX6_readStatement_53 : decode cX6_readStatement 53 = .ok (.ifCond .ne 5, 3) := by decide +kernel
theorem dX6_readStatement_56 : decode cX6_readStatement 56 = .ok (.iconst 0, 1) := by decide +kernel
theorem dX6_readStatement_57 : decode cX6_readStatement 57 = .ok (.ireturn, 1) := by decide +kernel
theorem dX6_readStatement_58 : decode cX6_readStatement 58 = .ok (.aload_n 1, 1) := by decide +kernel
theorem dX6_readStatement_59 : decode cX6_readStatement 59 = .ok (.ldc 41, 2) := by decide +kernel
theorem dX6_readStatement_61 : decode cX6_readStatement 61 = .ok (.invokevirtual 43, 3) := by decide +kernel
theorem dX6_readStatement_64 : decode cX6_readStatement 64 = .ok (.ifCond .eq 41, 3) := by decide +kernel
theorem dX6_readStatement_67 : decode cX6_readStatement 67 = .ok (.aload_n 1, 1) := by decide +kernel
theorem dX6_readStatement_68 : decode cX6_readStatement 68 = .ok (.invokevirtual 46, 3) := by decide +kernel
theorem dX6_readStatement_71 : decode cX6_readStatement 71 = .ok (.aload_n 0, 1) := by decide +kernel
theorem dX6_readStatement_72 : decode cX6_readStatement 72 = .ok (.aload_n 1, 1) := by decide +kernel
theorem dX6_readStatement_73 : decode cX6_readStatement 73 = .ok (.iload_n 2, 1) := by decide +kernel
theorem dX6_readStatement_74 : decode cX6_readStatement 74 = .ok (.iconst 2, 1) := by decide +kernel
theorem dX6_readStatement_75 : decode cX6_readStatement 75 = .ok (.iadd, 1) := by decide +kernel
theorem dX6_readStatement_76 : decode cX6_readStatement 76 = .ok (.invokevirtual 38, 3) := by decide +kernel
theorem dX6_readStatement_79 : decode cX6_readStatement 79 = .ok (.ifCond .ne 5, 3) := by decide +kernel
theorem dX6_readStatement_82 : decode cX6_readStatement 82 = .ok (.iconst 0, 1) := by decide +kernel
theorem dX6_readStatement_83 : decode cX6_readStatement 83 = .ok (.ireturn, 1) := by decide +kernel
theorem dX6_readStatement_84 : decode cX6_readStatement 84 = .ok (.aload_n 0, 1) := by decide +kernel
theorem dX6_readStatement_85 : decode cX6_readStatement 85 = .ok (.aload_n 1, 1) := by decide +kernel
theorem dX6_readStatement_86 : decode cX6_readStatement 86 = .ok (.iload_n 2, 1) := by decide +kernel
theorem dX6_readStatement_87 : decode cX6_readStatement 87 = .ok (.iconst 4, 1) := by decide +kernel
theorem dX6_readStatement_88 : decode cX6_readStatement 88 = .ok (.iadd, 1) := by decide +kernel
theorem dX6_readStatement_89 : decode cX6_readStatement 89 = .ok (.invokevirtual 49, 3) := by decide +kernel
theorem dX6_readStatement_92 : decode cX6_readStatement 92 = .ok (.aload_n 0, 1) := by decide +kernel
theorem dX6_readStatement_93 : decode cX6_readStatement 93 = .ok (.aload_n 1, 1) := by decide +kernel
theorem dX6_readStatement_94 : decode cX6_readStatement 94 = .ok (.iload_n 2, 1) := by decide +kernel
theorem dX6_readStatement_95 : decode cX6_readStatement 95 = .ok (.iconst 5, 1) := by decide +kernel
theorem dX6_readStatement_96 : decode cX6_readStatement 96 = .ok (.iadd, 1) := by decide +kernel
theorem dX6_readStatement_97 : decode cX6_readStatement 97 = .ok (.invokevirtual 53, 3) := by decide +kernel
theorem dX6_readStatement_100 : decode cX6_readStatement 100 = .ok (.ifCond .ne 5, 3) := by decide +kernel
theorem dX6_readStatement_103 : decode cX6_readStatement 103 = .ok (.iconst 0, 1) := by decide +kernel
theorem dX6_readStatement_104 : decode cX6_readStatement 104 = .ok (.ireturn, 1) := by decide +kernel
theorem dX6_readStatement_105 : decode cX6_readStatement 105 = .ok (.aload_n 1, 1) := by decide +kernel
theorem dX6_readStatement_106 : decode cX6_readStatement 106 = .ok (.bipush 59, 2) := by decide +kernel
theorem dX6_readStatement_108 : decode cX6_readStatement 108 = .ok (.invokevirtual 56, 3) := by decide +kernel
theorem dX6_readStatement_111 : decode cX6_readStatement 111 = .ok (.ireturn, 1) := by decide +kernel
def m_X6_readStatement_105  (Q : Int32 → Hp → Prop) (h : Hp) : Prop := m_X10_takeSign 59 h (fun (x1 : Int32) (h2 : Hp) => bz x1 ∧ Q x1 h2)
set_option maxHeartbeats 4000000 in
set_option maxRecDepth 100000 in
theorem s_X6_readStatement_105 {l : Launch} {G : Cx} {d : Nat} {h0 : Hp} (hd : 16 ≤ d) {Q : Int32 → Hp → Prop} {h : Hp} (hm : m_X6_readStatement_105 Q h) : Rn l G d 0 0 MX6_readStatement h0 (qI Q) 105 [none, some (tR 10 0 (some 2))] [] h 0 0 := by
  unfold m_X6_readStatement_105 at hm
  refine r_aload_n dX6_readStatement_105 rfl rfl ?_
  refine r_bipush (v := 59) dX6_readStatement_106 rfl ?_
  refine r_callVI (d' := d - 1) (as := [tI 59]) (st := []) cl_10 dX6_readStatement_108 mi_X10_takeSign t_816 t_679 t_680 rfl rfl (Nat.le_of_ble_eq_true rfl) (by omega) ⟨by decide, by decide⟩ ⟨rfl, rfl⟩ (s_X10_takeSign (by omega) hm) (fun x1 h2 hm => ?_)
  exact r_bret dX6_readStatement_111 rfl ⟨by decide, by decide⟩ hm.1 ⟨_, rfl, hm.2⟩
def m_X6_readStatement (v0 : Nat) (v2 : Int32) (h : Hp) (Q : Int32 → Hp → Prop) : Prop := vp_in (v2 + 2) 96 ∧ (vp_in (v2 + 3) 96 ∧ (vp_in (v2 + 4) 96 ∧ (vp_in (v2 + 5) 96 ∧ (m_X10_takeWord 10 (wI (wI (wI (wI h (v0 + 1) (ix (v2 + 2)) (-1)) (v0 + 1) (ix (v2 + 3)) (-1)) (v0 + 1) (ix (v2 + 4)) 0) (v0 + 1) (ix (v2 + 5)) (-1)) (fun (x3 : Int32) (h4 : Hp) => (x3 = 0 → Q 0 h4) ∧ (¬ x3 = 0 → m_X6_readForm v0 (v2 + 0) h4 (fun (x5 : Int32) (h6 : Hp) => (¬ x5 = 0 → m_X10_isWord 13 h6 (fun (x7 : Int32) (h8 : Hp) => (x7 = 0 → m_X6_readStatement_105 Q h8) ∧ (¬ x7 = 0 → m_X10_advance h8 (fun (h10 : Hp) => m_X6_readForm v0 (v2 + 2) h10 (fun (x11 : Int32) (h12 : Hp) => (¬ x11 = 0 → m_X6_readTies v0 (v2 + 4) h12 (fun (h14 : Hp) => m_X6_readWithin v0 (v2 + 5) h14 (fun (x15 : Int32) (h16 : Hp) => (¬ x15 = 0 → m_X6_readStatement_105 Q h16) ∧ (x15 = 0 → Q 0 h16)))) ∧ (x11 = 0 → Q 0 h12)))))) ∧ (x5 = 0 → Q 0 h6))))))))
set_option maxHeartbeats 4000000 in
set_option maxRecDepth 100000 in
theorem s_X6_readStatement {l : Launch} {G : Cx} {d : Nat} (hd : 16 ≤ d) {v0 : Nat} {v2 : Int32} {h : Hp} {Q : Int32 → Hp → Prop} (hm : m_X6_readStatement v0 v2 h Q) : Ct l G d 0 0 yX6_readStatement MX6_readStatement [tR 6 0 (some v0), tR 10 0 (some 2), tI v2] h (qI Q) := by
  unfold m_X6_readStatement at hm
  refine Ct.of (L := [some (tR 6 0 (some v0)), some (tR 10 0 (some 2)), some (tI v2)]) (by decide) rfl rfl (Nat.le_of_ble_eq_true rfl) rfl ?_
  refine r_aload_n dX6_readStatement_0 rfl rfl ?_
  refine r_getC (k := 0) cl_6 dX6_readStatement_1 t_772 gf_6_0.1 gf_6_0.2 (gc_6_0 _) ?_
  refine r_iload_n dX6_readStatement_4 rfl rfl ?_
  refine r_iconst (v := 2) dX6_readStatement_5 rfl ?_
  refine r_iadd dX6_readStatement_6 ?_
  refine r_iconst (v := (-1)) dX6_readStatement_7 rfl ?_
  refine r_iast dX6_readStatement_8 hm.1 ?_
  replace hm := hm.2
  refine r_aload_n dX6_readStatement_9 rfl rfl ?_
  refine r_getC (k := 0) cl_6 dX6_readStatement_10 t_772 gf_6_0.1 gf_6_0.2 (gc_6_0 _) ?_
  refine r_iload_n dX6_readStatement_13 rfl rfl ?_
  refine r_iconst (v := 3) dX6_readStatement_14 rfl ?_
  refine r_iadd dX6_readStatement_15 ?_
  refine r_iconst (v := (-1)) dX6_readStatement_16 rfl ?_
  refine r_iast dX6_readStatement_17 hm.1 ?_
  replace hm := hm.2
  refine r_aload_n dX6_readStatement_18 rfl rfl ?_
  refine r_getC (k := 0) cl_6 dX6_readStatement_19 t_772 gf_6_0.1 gf_6_0.2 (gc_6_0 _) ?_
  refine r_iload_n dX6_readStatement_22 rfl rfl ?_
  refine r_iconst (v := 4) dX6_readStatement_23 rfl ?_
  refine r_iadd dX6_readStatement_24 ?_
  refine r_iconst (v := 0) dX6_readStatement_25 rfl ?_
  refine r_iast dX6_readStatement_26 hm.1 ?_
  replace hm := hm.2
  refine r_aload_n dX6_readStatement_27 rfl rfl ?_
  refine r_getC (k := 0) cl_6 dX6_readStatement_28 t_772 gf_6_0.1 gf_6_0.2 (gc_6_0 _) ?_
  refine r_iload_n dX6_readStatement_31 rfl rfl ?_
  refine r_iconst (v := 5) dX6_readStatement_32 rfl ?_
  refine r_iadd dX6_readStatement_33 ?_
  refine r_iconst (v := (-1)) dX6_readStatement_34 rfl ?_
  refine r_iast dX6_readStatement_35 hm.1 ?_
  replace hm := hm.2
  refine r_aload_n dX6_readStatement_36 rfl rfl ?_
  refine r_ldcS (i := 10) (tx := "bar ") dX6_readStatement_37 (by decide) (by decide) ?_
  refine r_callVI (d' := d - 1) (as := [tS 10]) (st := []) cl_10 dX6_readStatement_39 mi_X10_takeWord t_792 t_627 t_628 rfl rfl (Nat.le_of_ble_eq_true rfl) (by omega) ⟨by decide, by decide⟩ ⟨rfl, rfl⟩ (s_X10_takeWord (by omega) (by decide) hm) (fun x3 h4 hm => ?_)
  refine r_if_eq (tgt := 56) dX6_readStatement_42 rfl (fun hc => ?_) (fun hc => ?_)
  · replace hm := hm.1 hc
    refine r_iconst (v := 0) dX6_readStatement_56 rfl ?_
    exact r_bret dX6_readStatement_57 rfl ⟨by decide, by decide⟩ (by unfold bz; decide) ⟨_, rfl, hm⟩
  · replace hm := hm.2 hc
    refine r_aload_n dX6_readStatement_45 rfl rfl ?_
    refine r_aload_n dX6_readStatement_46 rfl rfl ?_
    refine r_iload_n dX6_readStatement_47 rfl rfl ?_
    refine r_iconst (v := 0) dX6_readStatement_48 rfl ?_
    refine r_iadd dX6_readStatement_49 ?_
    refine r_callVI (d' := d - 1) (as := [tR 10 0 (some 2), tI (v2 + 0)]) (st := []) cl_6 dX6_readStatement_50 mi_X6_readForm t_793 t_795 ts_24 rfl rfl (Nat.le_of_ble_eq_true rfl) (by omega) ⟨by decide, by decide⟩ ⟨rfl, rfl⟩ (s_X6_readForm (by omega) hm) (fun x5 h6 hm => ?_)
    refine r_if_ne (tgt := 58) dX6_readStatement_53 rfl (fun hc => ?_) (fun hc => ?_)
    · replace hm := hm.1 hc
      refine r_aload_n dX6_readStatement_58 rfl rfl ?_
      refine r_ldcS (i := 13) (tx := "then ") dX6_readStatement_59 (by decide) (by decide) ?_
      refine r_callVI (d' := d - 1) (as := [tS 13]) (st := []) cl_10 dX6_readStatement_61 mi_X10_isWord t_800 t_631 t_632 rfl rfl (Nat.le_of_ble_eq_true rfl) (by omega) ⟨by decide, by decide⟩ ⟨rfl, rfl⟩ (s_X10_isWord (by omega) (by decide) hm) (fun x7 h8 hm => ?_)
      refine r_if_eq (tgt := 105) dX6_readStatement_64 rfl (fun hc => ?_) (fun hc => ?_)
      · replace hm := hm.1 hc
        refine r_keep (L' := [none, some (tR 10 0 (some 2))]) [false, true] rfl ?_
        exact s_X6_readStatement_105 hd hm
      · replace hm := hm.2 hc
        refine r_aload_n dX6_readStatement_67 rfl rfl ?_
        refine r_callVU (d' := d - 1) (as := []) (st := []) cl_10 dX6_readStatement_68 mi_X10_advance t_801 t_516 t_517 rfl rfl (Nat.le_of_ble_eq_true rfl) (by omega) ⟨by decide, by decide⟩ ⟨rfl, rfl⟩ (s_X10_advance (by omega) hm) (fun h10 hm => ?_)
        refine r_aload_n dX6_readStatement_71 rfl rfl ?_
        refine r_aload_n dX6_readStatement_72 rfl rfl ?_
        refine r_iload_n dX6_readStatement_73 rfl rfl ?_
        refine r_iconst (v := 2) dX6_readStatement_74 rfl ?_
        refine r_iadd dX6_readStatement_75 ?_
        refine r_callVI (d' := d - 1) (as := [tR 10 0 (some 2), tI (v2 + 2)]) (st := []) cl_6 dX6_readStatement_76 mi_X6_readForm t_793 t_795 ts_24 rfl rfl (Nat.le_of_ble_eq_true rfl) (by omega) ⟨by decide, by decide⟩ ⟨rfl, rfl⟩ (s_X6_readForm (by omega) hm) (fun x11 h12 hm => ?_)
        refine r_if_ne (tgt := 84) dX6_readStatement_79 rfl (fun hc => ?_) (fun hc => ?_)
        · replace hm := hm.1 hc
          refine r_aload_n dX6_readStatement_84 rfl rfl ?_
          refine r_aload_n dX6_readStatement_85 rfl rfl ?_
          refine r_iload_n dX6_readStatement_86 rfl rfl ?_
          refine r_iconst (v := 4) dX6_readStatement_87 rfl ?_
          refine r_iadd dX6_readStatement_88 ?_
          refine r_callVU (d' := d - 1) (as := [tR 10 0 (some 2), tI (v2 + 4)]) (st := []) cl_6 dX6_readStatement_89 mi_X6_readTies t_804 t_806 ts_25 rfl rfl (Nat.le_of_ble_eq_true rfl) (by omega) ⟨by decide, by decide⟩ ⟨rfl, rfl⟩ (s_X6_readTies (by omega) hm) (fun h14 hm => ?_)
          refine r_aload_n dX6_readStatement_92 rfl rfl ?_
          refine r_aload_n dX6_readStatement_93 rfl rfl ?_
          refine r_iload_n dX6_readStatement_94 rfl rfl ?_
          refine r_iconst (v := 5) dX6_readStatement_95 rfl ?_
          refine r_iadd dX6_readStatement_96 ?_
          refine r_callVI (d' := d - 1) (as := [tR 10 0 (some 2), tI (v2 + 5)]) (st := []) cl_6 dX6_readStatement_97 mi_X6_readWithin t_810 t_812 ts_26 rfl rfl (Nat.le_of_ble_eq_true rfl) (by omega) ⟨by decide, by decide⟩ ⟨rfl, rfl⟩ (s_X6_readWithin (by omega) hm) (fun x15 h16 hm => ?_)
          refine r_if_ne (tgt := 105) dX6_readStatement_100 rfl (fun hc => ?_) (fun hc => ?_)
          · replace hm := hm.1 hc
            refine r_keep (L' := [none, some (tR 10 0 (some 2))]) [false, true] rfl ?_
            exact s_X6_readStatement_105 hd hm
          · replace hm := hm.2 hc
            refine r_iconst (v := 0) dX6_readStatement_103 rfl ?_
            exact r_bret dX6_readStatement_104 rfl ⟨by decide, by decide⟩ (by unfold bz; decide) ⟨_, rfl, hm⟩
        · replace hm := hm.2 hc
          refine r_iconst (v := 0) dX6_readStatement_82 rfl ?_
          exact r_bret dX6_readStatement_83 rfl ⟨by decide, by decide⟩ (by unfold bz; decide) ⟨_, rfl, hm⟩
    · replace hm := hm.2 hc
      refine r_iconst (v := 0) dX6_readStatement_56 rfl ?_
      exact r_bret dX6_readStatement_57 rfl ⟨by decide, by decide⟩ (by unfold bz; decide) ⟨_, rfl, hm⟩
