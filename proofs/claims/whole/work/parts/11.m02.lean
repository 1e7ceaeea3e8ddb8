theorem dX3_init_0 : decode cX3_init 0 = .ok (.aload_n 0, 1) := rfl
theorem dX3_init_1 : decode cX3_init 1 = .ok (.invokespecial 3, 3) := rfl
theorem dX3_init_4 : decode cX3_init 4 = .ok (.aload_n 0, 1) := rfl
theorem dX3_init_5 : decode cX3_init 5 = .ok (.sipush 576, 3) := by decide +kernel
theorem dX3_init_8 : decode cX3_init 8 = .ok (.newarray .int, 2) := rfl
theorem dX3_init_10 : decode cX3_init 10 = .ok (.putfield 9, 3) := rfl
theorem dX3_init_13 : decode cX3_init 13 = .ok (.aload_n 0, 1) := rfl
theorem dX3_init_14 : decode cX3_init 14 = .ok (.aload_n 1, 1) := rfl
theorem dX3_init_15 : decode cX3_init 15 = .ok (.putfield 15, 3) := rfl
theorem dX3_init_18 : decode cX3_init 18 = .ok (.return_, 1) := rfl
def m_X3_init (v0 : Nat) (v1 : Nat) (v1n : Nat) (h : Hp) (Q : Hp → Prop) : Prop := ∀ a1 : Nat, a1 = hN h → ∀ h2 : Hp, h2 = nw h (40, 576) → Q (wR (wR h2 v0 1 (some a1)) v0 0 (some v1))
set_option maxHeartbeats 4000000 in
set_option maxRecDepth 100000 in
theorem s_X3_init {l : Launch} {G : Cx} {d : Nat} (hd : 2 ≤ d) {v0 : Nat} {v1 : Nat} {v1n : Nat} {h : Hp} {Q : Hp → Prop} (hm : m_X3_init v0 v1 v1n h Q) : Ct l G d 1 576 yX3_init MX3_init [tR 23 0 (some v0), tR 40 v1n (some v1)] h (qV Q) := by
  unfold m_X3_init at hm
  refine Ct.of (L := [some (tR 23 0 (some v0)), some (tR 40 v1n (some v1))]) (by decide) rfl rfl (Nat.le_of_ble_eq_true rfl) rfl ?_
  refine r_aload_n dX3_init_0 rfl rfl ?_
  refine r_objInit dX3_init_1 t_239 t_29 t_30 (by omega) (Nat.le_of_ble_eq_true rfl) ?_
  refine r_aload_n dX3_init_4 rfl rfl ?_
  refine r_sipush (v := 576) dX3_init_5 rfl ?_
  refine r_newI (N := 576) dX3_init_8 t_61 (by decide) rfl (by decide) ⟨by decide, by decide⟩ ?_
  refine r_nmA (fun a1 e_a1 h2 e_h2 => ?_)
  replace hm := hm a1 e_a1 h2 e_h2
  refine r_putR0 (k := 1) cl_3 dX3_init_10 t_241 (Or.inr rfl) gf_3_1.1 gf_3_1.2 (fun z => absurd z (by decide)) pf_3_1.1 (Or.inr ⟨pf_3_1.2, rfl, rfl⟩) ?_
  refine r_aload_n dX3_init_13 rfl rfl ?_
  refine r_aload_n dX3_init_14 rfl rfl ?_
  refine r_putR0 (k := 0) cl_3 dX3_init_15 t_240 (Or.inr rfl) gf_3_0.1 gf_3_0.2 (fun z => absurd z (by decide)) pf_3_0.1 (Or.inr ⟨pf_3_0.2, rfl, rfl⟩) ?_
  exact r_return dX3_init_18 rfl ⟨by decide, by decide⟩ ⟨rfl, hm⟩
theorem dX3_hearAlso_0 : decode cX3_hearAlso 0 = .ok (.aload_n 0, 1) := rfl
theorem dX3_hearAlso_1 : decode cX3_hearAlso 1 = .ok (.getfield 18, 3) := rfl
theorem dX3_hearAlso_4 : decode cX3_hearAlso 4 = .ok (.aload_n 1, 1) := rfl
theorem dX3_hearAlso_5 : decode cX3_hearAlso 5 = .ok (.getfield 35, 3) := rfl
theorem dX3_hearAlso_8 : decode cX3_hearAlso 8 = .ok (.iadd, 1) := rfl
theorem dX3_hearAlso_9 : decode cX3_hearAlso 9 = .ok (.bipush 8, 2) := by decide +kernel
theorem dX3_hearAlso_11 : decode cX3_hearAlso 11 = .ok (.imul, 1) := rfl
theorem dX3_hearAlso_12 : decode cX3_hearAlso 12 = .ok (.aload_n 0, 1) := rfl
theorem dX3_hearAlso_13 : decode cX3_hearAlso 13 = .ok (.getfield 9, 3) := rfl
theorem dX3_hearAlso_16 : decode cX3_hearAlso 16 = .ok (.arraylength, 1) := rfl
theorem dX3_hearAlso_17 : decode cX3_hearAlso 17 = .ok (.if_icmp .gt 42, 3) := by decide +kernel
theorem dX3_hearAlso_20 : decode cX3_hearAlso 20 = .ok (.aload_n 1, 1) := rfl
theorem dX3_hearAlso_21 : decode cX3_hearAlso 21 = .ok (.getfield 38, 3) := rfl
theorem dX3_hearAlso_24 : decode cX3_hearAlso 24 = .ok (.iconst 0, 1) := rfl
theorem dX3_hearAlso_25 : decode cX3_hearAlso 25 = .ok (.aload_n 0, 1) := rfl
theorem dX3_hearAlso_26 : decode cX3_hearAlso 26 = .ok (.getfield 9, 3) := rfl
theorem dX3_hearAlso_29 : decode cX3_hearAlso 29 = .ok (.aload_n 0, 1) := rfl
theorem dX3_hearAlso_30 : decode cX3_hearAlso 30 = .ok (.getfield 18, 3) := rfl
theorem dX3_hearAlso_33 : decode cX3_hearAlso 33 = .ok (.bipush 8, 2) := by decide +kernel
theorem dX3_hearAlso_35 : decode cX3_hearAlso 35 = .ok (.imul, 1) := rfl
theorem dX3_hearAlso_36 : decode cX3_hearAlso 36 = .ok (.aload_n 1, 1) := rfl
theorem dX3_hearAlso_37 : decode cX3_hearAlso 37 = .ok (.getfield 35, 3) := rfl
theorem dX3_hearAlso_40 : decode cX3_hearAlso 40 = .ok (.bipush 8, 2) := by decide +kernel
theorem dX3_hearAlso_42 : decode cX3_hearAlso 42 = .ok (.imul, 1) := rfl
theorem dX3_hearAlso_43 : decode cX3_hearAlso 43 = .ok (.invokestatic 39, 3) := rfl
theorem dX3_hearAlso_46 : decode cX3_hearAlso 46 = .ok (.aload_n 0, 1) := rfl
theorem dX3_hearAlso_47 : decode cX3_hearAlso 47 = .ok (.dup, 1) := rfl
theorem dX3_hearAlso_48 : decode cX3_hearAlso 48 = .ok (.getfield 18, 3) := rfl
theorem dX3_hearAlso_51 : decode cX3_hearAlso 51 = .ok (.aload_n 1, 1) := rfl
theorem dX3_hearAlso_52 : decode cX3_hearAlso 52 = .ok (.getfield 35, 3) := rfl
theorem dX3_hearAlso_55 : decode cX3_hearAlso 55 = .ok (.iadd, 1) := rfl
theorem dX3_hearAlso_56 : decode cX3_hearAlso 56 = .ok (.putfield 18, 3) := rfl
theorem dX3_hearAlso_59 : decode cX3_hearAlso 59 = .ok (.return_, 1) := rfl
def m_X3_hearAlso (v1 : Nat) (h : Hp) (Q : Hp → Prop) : Prop := (576 < (((hI h 30 2) + (hI h v1 2)) * 8) → Q h) ∧ (¬ 576 < (((hI h 30 2) + (hI h v1 2)) * 8) → ¬ (0 : Int32) < 0 ∧ ¬ ((hI h 30 2) * 8) < 0 ∧ ¬ ((hI h v1 2) * 8) < 0 ∧ ix (0 : Int32) + ix ((hI h v1 2) * 8) ≤ 96 ∧ ix ((hI h 30 2) * 8) + ix ((hI h v1 2) * 8) ≤ 576 ∧ (Q (wI (cpI h (v1 + 1) (ix (0 : Int32)) 31 (ix ((hI h 30 2) * 8)) (ix ((hI h v1 2) * 8))) 30 2 ((hI (cpI h (v1 + 1) (ix (0 : Int32)) 31 (ix ((hI h 30 2) * 8)) (ix ((hI h v1 2) * 8))) 30 2) + (hI (cpI h (v1 + 1) (ix (0 : Int32)) 31 (ix ((hI h 30 2) * 8)) (ix ((hI h v1 2) * 8))) v1 2)))))
set_option maxHeartbeats 4000000 in
set_option maxRecDepth 100000 in
theorem s_X3_hearAlso {l : Launch} {G : Cx} {d : Nat} (hd : 2 ≤ d) {v1 : Nat} {h : Hp} {Q : Hp → Prop} (hm : m_X3_hearAlso v1 h Q) : Ct l G d 0 0 yX3_hearAlso MX3_hearAlso [tR 3 0 (some 30), tR 1 0 (some v1)] h (qV Q) := by
  unfold m_X3_hearAlso at hm
  refine Ct.of (L := [some (tR 3 0 (some 30)), some (tR 1 0 (some v1))]) (by decide) rfl rfl (Nat.le_of_ble_eq_true rfl) rfl ?_
  refine r_aload_n dX3_hearAlso_0 rfl rfl ?_
  refine r_getI (k := 2) cl_3 dX3_hearAlso_1 t_242 (Or.inl rfl) gf_3_2 ?_
  refine r_aload_n dX3_hearAlso_4 rfl rfl ?_
  refine r_getI (k := 2) cl_1 dX3_hearAlso_5 t_442 (Or.inl rfl) gf_1_2 ?_
  refine r_iadd dX3_hearAlso_8 ?_
  refine r_bipush (v := 8) dX3_hearAlso_9 rfl ?_
  refine r_imul dX3_hearAlso_11 ?_
  refine r_aload_n dX3_hearAlso_12 rfl rfl ?_
  refine r_getC (k := 1) cl_3 dX3_hearAlso_13 t_241 gf_3_1.1 gf_3_1.2 (gc_3_1 _) ?_
  refine r_alen (ti := 0) (ty := .int) dX3_hearAlso_16 rfl (by decide) rfl ?_
  refine r_icmp_gt (tgt := 59) dX3_hearAlso_17 rfl (fun hc => ?_) (fun hc => ?_)
  · replace hm := hm.1 hc
    exact r_return dX3_hearAlso_59 rfl ⟨by decide, by decide⟩ ⟨rfl, hm⟩
  · replace hm := hm.2 hc
    refine r_aload_n dX3_hearAlso_20 rfl rfl ?_
    refine r_getC (k := 9) cl_1 dX3_hearAlso_21 t_469 gf_1_9.1 gf_1_9.2 (gc_1_9 _) ?_
    refine r_iconst (v := 0) dX3_hearAlso_24 rfl ?_
    refine r_aload_n dX3_hearAlso_25 rfl rfl ?_
    refine r_getC (k := 1) cl_3 dX3_hearAlso_26 t_241 gf_3_1.1 gf_3_1.2 (gc_3_1 _) ?_
    refine r_aload_n dX3_hearAlso_29 rfl rfl ?_
    refine r_getI (k := 2) cl_3 dX3_hearAlso_30 t_242 (Or.inl rfl) gf_3_2 ?_
    refine r_bipush (v := 8) dX3_hearAlso_33 rfl ?_
    refine r_imul dX3_hearAlso_35 ?_
    refine r_aload_n dX3_hearAlso_36 rfl rfl ?_
    refine r_getI (k := 2) cl_1 dX3_hearAlso_37 t_442 (Or.inl rfl) gf_1_2 ?_
    refine r_bipush (v := 8) dX3_hearAlso_40 rfl ?_
    refine r_imul dX3_hearAlso_42 ?_
    obtain ⟨g1, g2, g3, g4, g5, hm⟩ := hm
    refine r_copy dX3_hearAlso_43 t_1073 t_652 t_651 t_19 g1 g2 g3 g4 g5 (by omega) (Nat.le_of_ble_eq_true rfl) ?_
    refine r_aload_n dX3_hearAlso_46 rfl rfl ?_
    refine r_dup dX3_hearAlso_47 cv_cat1R ?_
    refine r_getI (k := 2) cl_3 dX3_hearAlso_48 t_242 (Or.inl rfl) gf_3_2 ?_
    refine r_aload_n dX3_hearAlso_51 rfl rfl ?_
    refine r_getI (k := 2) cl_1 dX3_hearAlso_52 t_442 (Or.inl rfl) gf_1_2 ?_
    refine r_iadd dX3_hearAlso_55 ?_
    refine r_putI0 (k := 2) cl_3 dX3_hearAlso_56 t_242 (Or.inl rfl) gf_3_2 pf_3_2.1 (Or.inl pf_3_2.2) ?_
    exact r_return dX3_hearAlso_59 rfl ⟨by decide, by decide⟩ ⟨rfl, hm⟩
theorem dX3_hear_0 : decode cX3_hear 0 = .ok (.aload_n 0, 1) := rfl
theorem dX3_hear_1 : decode cX3_hear 1 = .ok (.iconst 0, 1) := rfl
theorem dX3_hear_2 : decode cX3_hear 2 = .ok (.putfield 18, 3) := rfl
theorem dX3_hear_5 : decode cX3_hear 5 = .ok (.iconst 0, 1) := rfl
theorem dX3_hear_6 : decode cX3_hear 6 = .ok (.istore_n 2, 1) := rfl
theorem dX3_hear_7 : decode cX3_hear 7 = .ok (.iload_n 2, 1) := rfl
theorem dX3_hear_8 : decode cX3_hear 8 = .ok (.aload_n 1, 1) := rfl
theorem dX3_hear_9 : decode cX3_hear 9 = .ok (.getfield 22, 3) := rfl
theorem dX3_hear_12 : decode cX3_hear 12 = .ok (.if_icmp .ge 19, 3) := by decide +kernel
theorem dX3_hear_15 : decode cX3_hear 15 = .ok (.aload_n 0, 1) := rfl
theorem dX3_hear_16 : decode cX3_hear 16 = .ok (.aload_n 1, 1) := rfl
theorem dX3_hear_17 : decode cX3_hear 17 = .ok (.getfield 27, 3) := rfl
theorem dX3_hear_20 : decode cX3_hear 20 = .ok (.iload_n 2, 1) := rfl
theorem dX3_hear_21 : decode cX3_hear 21 = .ok (.aaload, 1) := rfl
theorem dX3_hear_22 : decode cX3_hear 22 = .ok (.invokevirtual 31, 3) := rfl
theorem dX3_hear_25 : decode cX3_hear 25 = .ok (.iinc 2 1, 3) := by decide +kernel
theorem dX3_hear_28 : decode cX3_hear 28 = .ok (.goto (-21), 3) := by decide +kernel
theorem dX3_hear_31 : decode cX3_hear 31 = .ok (.return_, 1) := rfl
def m_X3_hear_7 : Nat → (Hp → Prop) → Nat → Int32 → Hp → Prop
  | 0, _, _, _, _ => False
  | n + 1, Q, v1, v2, h => ((hI h v1 1) ≤ v2 → Q h) ∧ (¬ (hI h v1 1) ≤ v2 → vp_in v2 6 ∧ ∃ b1 : Nat, hR h (v1 + 1) (ix v2) = some b1 ∧ (m_X3_hearAlso b1 h (fun (h3 : Hp) => ∀ x4 : Int32, x4 = v2 + 1 → m_X3_hear_7 n Q v1 x4 h3)))
set_option maxHeartbeats 4000000 in
set_option maxRecDepth 100000 in
theorem s_X3_hear_7 {l : Launch} {G : Cx} {d : Nat} {h0 : Hp} (hd : 4 ≤ d) {Q : Hp → Prop} : ∀ {n : Nat} {v1 : Nat} {v2 : Int32} {h : Hp}, m_X3_hear_7 n Q v1 v2 h → Rn l G d 0 0 MX3_hear h0 (qV Q) 7 [some (tR 3 0 (some 30)), some (tR 0 0 (some v1)), some (tI v2)] [] h 0 0 := by
  intro n
  induction n with
  | zero => intro v1 v2 h hm; exact hm.elim
  | succ n ih =>
    intro v1 v2 h hm
    have hk7 := fun (v1 : Nat) (v2 : Int32) (hh : Hp) (hm : m_X3_hear_7 n Q v1 v2 hh) => ih hm
    rw [m_X3_hear_7] at hm
    refine r_iload_n dX3_hear_7 rfl rfl ?_
    refine r_aload_n dX3_hear_8 rfl rfl ?_
    refine r_getI (k := 1) cl_0 dX3_hear_9 t_126 (Or.inl rfl) gf_0_1 ?_
    refine r_icmp_ge (tgt := 31) dX3_hear_12 rfl (fun hc => ?_) (fun hc => ?_)
    · replace hm := hm.1 hc
      exact r_return dX3_hear_31 rfl ⟨by decide, by decide⟩ ⟨rfl, hm⟩
    · replace hm := hm.2 hc
      refine r_aload_n dX3_hear_15 rfl rfl ?_
      refine r_aload_n dX3_hear_16 rfl rfl ?_
      refine r_getC (k := 0) cl_0 dX3_hear_17 t_122 gf_0_0.1 gf_0_0.2 (gc_0_0 _) ?_
      refine r_iload_n dX3_hear_20 rfl rfl ?_
      obtain ⟨hi_b1, b1, hb_b1, hm⟩ := hm
      refine r_aaldS (kd := 1) (ti := 5) (cn := RX1) dX3_hear_21 rfl hi_b1 hb_b1 ?_
      refine r_callVU (d' := d - 1) (as := [tR 1 0 (some b1)]) (st := []) cl_3 dX3_hear_22 mi_X3_hearAlso t_1069 t_1071 ts_40 rfl rfl (Nat.le_of_ble_eq_true rfl) (by omega) ⟨by decide, by decide⟩ ⟨rfl, rfl⟩ (s_X3_hearAlso (by omega) hm) (fun h3 hm => ?_)
      obtain ⟨x4, e_x4⟩ : ∃ y : Int32, y = v2 + 1 := ⟨_, rfl⟩
      replace hm := hm x4 e_x4
      refine r_iinc (L' := [some (tR 3 0 (some 30)), some (tR 0 0 (some v1)), some (tI x4)]) dX3_hear_25 rfl (by rw [e_x4]; rfl) (by decide) rfl ?_
      refine r_goto (tgt := 7) dX3_hear_28 rfl ?_
      refine r_keep (L' := [some (tR 3 0 (some 30)), some (tR 0 0 (some v1)), some (tI x4)]) [true, true, true] rfl ?_
      exact hk7 _ _ _ hm
def m_X3_hear (v1 : Nat) (h : Hp) (Q : Hp → Prop) : Prop := ∃ n7, m_X3_hear_7 n7 Q v1 0 (wI h 30 2 0)
set_option maxHeartbeats 4000000 in
set_option maxRecDepth 100000 in
theorem s_X3_hear {l : Launch} {G : Cx} {d : Nat} (hd : 4 ≤ d) {v1 : Nat} {h : Hp} {Q : Hp → Prop} (hm : m_X3_hear v1 h Q) : Ct l G d 0 0 yX3_hear MX3_hear [tR 3 0 (some 30), tR 0 0 (some v1)] h (qV Q) := by
  unfold m_X3_hear at hm
  refine Ct.of (L := [some (tR 3 0 (some 30)), some (tR 0 0 (some v1))]) (by decide) rfl rfl (Nat.le_of_ble_eq_true rfl) rfl ?_
  refine r_aload_n dX3_hear_0 rfl rfl ?_
  refine r_iconst (v := 0) dX3_hear_1 rfl ?_
  refine r_putI0 (k := 2) cl_3 dX3_hear_2 t_242 (Or.inl rfl) gf_3_2 pf_3_2.1 (Or.inl pf_3_2.2) ?_
  refine r_iconst (v := 0) dX3_hear_5 rfl ?_
  refine r_istore_n (L' := [some (tR 3 0 (some 30)), some (tR 0 0 (some v1)), some (tI 0)]) dX3_hear_6 rfl (by decide) rfl ?_
  refine r_keep (L' := [some (tR 3 0 (some 30)), some (tR 0 0 (some v1)), some (tI 0)]) [true, true, true] rfl ?_
  obtain ⟨n, hm⟩ := hm
  refine s_X3_hear_7 hd hm
theorem dX3_hearPair_0 : decode cX3_hearPair 0 = .ok (.aload_n 0, 1) := rfl
theorem dX3_hearPair_1 : decode cX3_hearPair 1 = .ok (.iconst 0, 1) := rfl
theorem dX3_hearPair_2 : decode cX3_hearPair 2 = .ok (.putfield 18, 3) := rfl
theorem dX3_hearPair_5 : decode cX3_hearPair 5 = .ok (.aload_n 0, 1) := rfl
theorem dX3_hearPair_6 : decode cX3_hearPair 6 = .ok (.aload_n 1, 1) := rfl
theorem dX3_hearPair_7 : decode cX3_hearPair 7 = .ok (.invokevirtual 31, 3) := rfl
theorem dX3_hearPair_10 : decode cX3_hearPair 10 = .ok (.aload_n 2, 1) := rfl
theorem dX3_hearPair_11 : decode cX3_hearPair 11 = .ok (.aload_n 1, 1) := rfl
theorem dX3_hearPair_12 : decode cX3_hearPair 12 = .ok (.if_acmp .eq 8, 3) := by decide +kernel
theorem dX3_hearPair_15 : decode cX3_hearPair 15 = .ok (.aload_n 0, 1) := rfl
theorem dX3_hearPair_16 : decode cX3_hearPair 16 = .ok (.aload_n 2, 1) := rfl
theorem dX3_hearPair_17 : decode cX3_hearPair 17 = .ok (.invokevirtual 31, 3) := rfl
theorem dX3_hearPair_20 : decode cX3_hearPair 20 = .ok (.return_, 1) := rfl
def m_X3_hearPair (v1 : Nat) (v2 : Nat) (h : Hp) (Q : Hp → Prop) : Prop := m_X3_hearAlso v1 (wI h 30 2 0) (fun (h2 : Hp) => ((some v2) = (some v1) → Q h2) ∧ (¬ (some v2) = (some v1) → m_X3_hearAlso v2 h2 (fun (h4 : Hp) => Q h4)))
set_option maxHeartbeats 4000000 in
set_option maxRecDepth 100000 in
theorem s_X3_hearPair {l : Launch} {G : Cx} {d : Nat} (hd : 4 ≤ d) {v1 : Nat} {v2 : Nat} {h : Hp} {Q : Hp → Prop} (hm : m_X3_hearPair v1 v2 h Q) : Ct l G d 0 0 yX3_hearPair MX3_hearPair [tR 3 0 (some 30), tR 1 0 (some v1), tR 1 0 (some v2)] h (qV Q) := by
  unfold m_X3_hearPair at hm
  refine Ct.of (L := [some (tR 3 0 (some 30)), some (tR 1 0 (some v1)), some (tR 1 0 (some v2))]) (by decide) rfl rfl (Nat.le_of_ble_eq_true rfl) rfl ?_
  refine r_aload_n dX3_hearPair_0 rfl rfl ?_
  refine r_iconst (v := 0) dX3_hearPair_1 rfl ?_
  refine r_putI0 (k := 2) cl_3 dX3_hearPair_2 t_242 (Or.inl rfl) gf_3_2 pf_3_2.1 (Or.inl pf_3_2.2) ?_
  refine r_aload_n dX3_hearPair_5 rfl rfl ?_
  refine r_aload_n dX3_hearPair_6 rfl rfl ?_
  refine r_callVU (d' := d - 1) (as := [tR 1 0 (some v1)]) (st := []) cl_3 dX3_hearPair_7 mi_X3_hearAlso t_1069 t_1071 ts_40 rfl rfl (Nat.le_of_ble_eq_true rfl) (by omega) ⟨by decide, by decide⟩ ⟨rfl, rfl⟩ (s_X3_hearAlso (by omega) hm) (fun h2 hm => ?_)
  refine r_aload_n dX3_hearPair_10 rfl rfl ?_
  refine r_aload_n dX3_hearPair_11 rfl rfl ?_
  refine r_acmp_eq (tgt := 20) dX3_hearPair_12 rfl (fun hc => ?_) (fun hc => ?_)
  · replace hm := hm.1 hc
    exact r_return dX3_hearPair_20 rfl ⟨by decide, by decide⟩ ⟨rfl, hm⟩
  · replace hm := hm.2 hc
    refine r_aload_n dX3_hearPair_15 rfl rfl ?_
    refine r_aload_n dX3_hearPair_16 rfl rfl ?_
    refine r_callVU (d' := d - 1) (as := [tR 1 0 (some v2)]) (st := []) cl_3 dX3_hearPair_17 mi_X3_hearAlso t_1069 t_1071 ts_40 rfl rfl (Nat.le_of_ble_eq_true rfl) (by omega) ⟨by decide, by decide⟩ ⟨rfl, rfl⟩ (s_X3_hearAlso (by omega) hm) (fun h4 hm => ?_)
    exact r_return dX3_hearPair_20 rfl ⟨by decide, by decide⟩ ⟨rfl, hm⟩
theorem dX3_isOf_0 : decode cX3_isOf 0 = .ok (.iload_n 1, 1) := rfl
theorem dX3_isOf_1 : decode cX3_isOf 1 = .ok (.bipush 8, 2) := by decide +kernel
theorem dX3_isOf_3 : decode cX3_isOf 3 = .ok (.imul, 1) := rfl
theorem dX3_isOf_4 : decode cX3_isOf 4 = .ok (.istore 4, 2) := rfl
theorem dX3_isOf_6 : decode cX3_isOf 6 = .ok (.iload_n 2, 1) := rfl
theorem dX3_isOf_7 : decode cX3_isOf 7 = .ok (.iconst 4, 1) := rfl
theorem dX3_isOf_8 : decode cX3_isOf 8 = .ok (.if_icmp .eq 16, 3) := by decide +kernel
theorem dX3_isOf_11 : decode cX3_isOf 11 = .ok (.aload_n 0, 1) := rfl
theorem dX3_isOf_12 : decode cX3_isOf 12 = .ok (.getfield 9, 3) := rfl
theorem dX3_isOf_15 : decode cX3_isOf 15 = .ok (.iload 4, 2) := rfl
theorem dX3_isOf_17 : decode cX3_isOf 17 = .ok (.iconst 0, 1) := rfl
theorem dX3_isOf_18 : decode cX3_isOf 18 = .ok (.iadd, 1) := rfl
theorem dX3_isOf_19 : decode cX3_isOf 19 = .ok (.iaload, 1) := rfl
theorem dX3_isOf_20 : decode cX3_isOf 20 = .ok (.iload_n 2, 1) := rfl
theorem dX3_isOf_21 : decode cX3_isOf 21 = .ok (.if_icmp .ne 25, 3) := by decide +kernel
theorem dX3_isOf_24 : decode cX3_isOf 24 = .ok (.iload_n 3, 1) := rfl
theorem dX3_isOf_25 : decode cX3_isOf 25 = .ok (.iconst (-1), 1) := rfl
theorem dX3_isOf_26 : decode cX3_isOf 26 = .ok (.if_icmp .eq 16, 3) := by decide +kernel
theorem dX3_isOf_29 : decode cX3_isOf 29 = .ok (.aload_n 0, 1) := rfl
theorem dX3_isOf_30 : decode cX3_isOf 30 = .ok (.getfield 9, 3) := rfl
theorem dX3_isOf_33 : decode cX3_isOf 33 = .ok (.iload 4, 2) := rfl
theorem dX3_isOf_35 : decode cX3_isOf 35 = .ok (.iconst 3, 1) := rfl
theorem dX3_isOf_36 : decode cX3_isOf 36 = .ok (.iadd, 1) := rfl
theorem dX3_isOf_37 : decode cX3_isOf 37 = .ok (.iaload, 1) := rfl
theorem dX3_isOf_38 : decode cX3_isOf 38 = .ok (.iload_n 3, 1) := rfl
theorem dX3_isOf_39 : decode cX3_isOf 39 = .ok (.if_icmp .ne 7, 3) := by decide +kernel
theorem dX3_isOf_42 : decode cX3_isOf 42 = .ok (.iconst 1, 1) := rfl
theorem dX3_isOf_43 : decode cX3_isOf 43 = .ok (.goto 4, 3) := by decide +kernel
theorem dX3_isOf_46 : decode cX3_isOf 46 = .ok (.iconst 0, 1) := rfl
theorem dX3_isOf_47 : decode cX3_isOf 47 = .ok (.ireturn, 1) := rfl
def m_X3_isOf_24  (Q : Int32 → Hp → Prop) (v3 : Int32) (v4 : Int32) (h : Hp) : Prop := (v3 = (-1) → Q 1 h) ∧ (¬ v3 = (-1) → vp_in (v4 + 3) 576 ∧ ((¬ (hI h 31 (ix (v4 + 3))) = v3 → Q 0 h) ∧ ((hI h 31 (ix (v4 + 3))) = v3 → Q 1 h)))
set_option maxHeartbeats 4000000 in
set_option maxRecDepth 100000 in
theorem s_X3_isOf_24 {l : Launch} {G : Cx} {d : Nat} {h0 : Hp} (hd : 2 ≤ d) {Q : Int32 → Hp → Prop} {v3 : Int32} {v4 : Int32} {h : Hp} (hm : m_X3_isOf_24 Q v3 v4 h) : Rn l G d 0 0 MX3_isOf h0 (qI Q) 24 [some (tR 3 0 (some 30)), none, none, some (tI v3), some (tI v4)] [] h 0 0 := by
  unfold m_X3_isOf_24 at hm
  refine r_iload_n dX3_isOf_24 rfl rfl ?_
  refine r_iconst (v := (-1)) dX3_isOf_25 rfl ?_
  refine r_icmp_eq (tgt := 42) dX3_isOf_26 rfl (fun hc => ?_) (fun hc => ?_)
  · replace hm := hm.1 hc
    refine r_iconst (v := 1) dX3_isOf_42 rfl ?_
    refine r_goto (tgt := 47) dX3_isOf_43 rfl ?_
    exact r_bret dX3_isOf_47 rfl ⟨by decide, by decide⟩ (by unfold bz; decide) ⟨_, rfl, hm⟩
  · replace hm := hm.2 hc
    refine r_aload_n dX3_isOf_29 rfl rfl ?_
    refine r_getC (k := 1) cl_3 dX3_isOf_30 t_241 gf_3_1.1 gf_3_1.2 (gc_3_1 _) ?_
    refine r_iload dX3_isOf_33 rfl ?_
    refine r_iconst (v := 3) dX3_isOf_35 rfl ?_
    refine r_iadd dX3_isOf_36 ?_
    refine r_iald dX3_isOf_37 hm.1 ?_
    replace hm := hm.2
    refine r_iload_n dX3_isOf_38 rfl rfl ?_
    refine r_icmp_ne (tgt := 46) dX3_isOf_39 rfl (fun hc => ?_) (fun hc => ?_)
    · replace hm := hm.1 hc
      refine r_iconst (v := 0) dX3_isOf_46 rfl ?_
      exact r_bret dX3_isOf_47 rfl ⟨by decide, by decide⟩ (by unfold bz; decide) ⟨_, rfl, hm⟩
    · replace hm := hm.2 hc
      refine r_iconst (v := 1) dX3_isOf_42 rfl ?_
      refine r_goto (tgt := 47) dX3_isOf_43 rfl ?_
      exact r_bret dX3_isOf_47 rfl ⟨by decide, by decide⟩ (by unfold bz; decide) ⟨_, rfl, hm⟩
def m_X3_isOf (v1 : Int32) (v2 : Int32) (v3 : Int32) (h : Hp) (Q : Int32 → Hp → Prop) : Prop := ∀ x1 : Int32, x1 = (v1 * 8) → (v2 = 4 → m_X3_isOf_24 Q v3 x1 h) ∧ (¬ v2 = 4 → vp_in (x1 + 0) 576 ∧ ((¬ (hI h 31 (ix (x1 + 0))) = v2 → Q 0 h) ∧ ((hI h 31 (ix (x1 + 0))) = v2 → m_X3_isOf_24 Q v3 x1 h)))
set_option maxHeartbeats 4000000 in
set_option maxRecDepth 100000 in
theorem s_X3_isOf {l : Launch} {G : Cx} {d : Nat} (hd : 2 ≤ d) {v1 : Int32} {v2 : Int32} {v3 : Int32} {h : Hp} {Q : Int32 → Hp → Prop} (hm : m_X3_isOf v1 v2 v3 h Q) : Ct l G d 0 0 yX3_isOf MX3_isOf [tR 3 0 (some 30), tI v1, tI v2, tI v3] h (qI Q) := by
  unfold m_X3_isOf at hm
  refine Ct.of (L := [some (tR 3 0 (some 30)), some (tI v1), some (tI v2), some (tI v3)]) (by decide) rfl rfl (Nat.le_of_ble_eq_true rfl) rfl ?_
  refine r_iload_n dX3_isOf_0 rfl rfl ?_
  refine r_bipush (v := 8) dX3_isOf_1 rfl ?_
  refine r_imul dX3_isOf_3 ?_
  refine r_nmI (fun x1 e_x1 => ?_)
  replace hm := hm x1 e_x1
  refine r_istore (L' := [some (tR 3 0 (some 30)), some (tI v1), some (tI v2), some (tI v3), some (tI x1)]) dX3_isOf_4 (by decide) rfl ?_
  refine r_iload_n dX3_isOf_6 rfl rfl ?_
  refine r_iconst (v := 4) dX3_isOf_7 rfl ?_
  refine r_icmp_eq (tgt := 24) dX3_isOf_8 rfl (fun hc => ?_) (fun hc => ?_)
  · replace hm := hm.1 hc
    refine r_keep (L' := [some (tR 3 0 (some 30)), none, none, some (tI v3), some (tI x1)]) [true, false, false, true, true] rfl ?_
    exact s_X3_isOf_24 hd hm
  · replace hm := hm.2 hc
    refine r_aload_n dX3_isOf_11 rfl rfl ?_
    refine r_getC (k := 1) cl_3 dX3_isOf_12 t_241 gf_3_1.1 gf_3_1.2 (gc_3_1 _) ?_
    refine r_iload dX3_isOf_15 rfl ?_
    refine r_iconst (v := 0) dX3_isOf_17 rfl ?_
    refine r_iadd dX3_isOf_18 ?_
    refine r_iald dX3_isOf_19 hm.1 ?_
    replace hm := hm.2
    refine r_iload_n dX3_isOf_20 rfl rfl ?_
    refine r_icmp_ne (tgt := 46) dX3_isOf_21 rfl (fun hc => ?_) (fun hc => ?_)
    · replace hm := hm.1 hc
      refine r_iconst (v := 0) dX3_isOf_46 rfl ?_
      exact r_bret dX3_isOf_47 rfl ⟨by decide, by decide⟩ (by unfold bz; decide) ⟨_, rfl, hm⟩
    · replace hm := hm.2 hc
      refine r_keep (L' := [some (tR 3 0 (some 30)), none, none, some (tI v3), some (tI x1)]) [true, false, false, true, true] rfl ?_
      exact s_X3_isOf_24 hd hm
theorem dX3_isLater_0 : decode cX3_isLater 0 = .ok (.aload_n 0, 1) := rfl
theorem dX3_isLater_1 : decode cX3_isLater 1 = .ok (.getfield 9, 3) := rfl
theorem dX3_isLater_4 : decode cX3_isLater 4 = .ok (.iload_n 2, 1) := rfl
theorem dX3_isLater_5 : decode cX3_isLater 5 = .ok (.bipush 8, 2) := by decide +kernel
theorem dX3_isLater_7 : decode cX3_isLater 7 = .ok (.imul, 1) := rfl
theorem dX3_isLater_8 : decode cX3_isLater 8 = .ok (.bipush 6, 2) := by decide +kernel
theorem dX3_isLater_10 : decode cX3_isLater 10 = .ok (.iadd, 1) := rfl
theorem dX3_isLater_11 : decode cX3_isLater 11 = .ok (.iaload, 1) := rfl
theorem dX3_isLater_12 : decode cX3_isLater 12 = .ok (.aload_n 0, 1) := rfl
theorem dX3_isLater_13 : decode cX3_isLater 13 = .ok (.getfield 9, 3) := rfl
theorem dX3_isLater_16 : decode cX3_isLater 16 = .ok (.iload_n 1, 1) := rfl
theorem dX3_isLater_17 : decode cX3_isLater 17 = .ok (.bipush 8, 2) := by decide +kernel
theorem dX3_isLater_19 : decode cX3_isLater 19 = .ok (.imul, 1) := rfl
theorem dX3_isLater_20 : decode cX3_isLater 20 = .ok (.bipush 6, 2) := by decide +kernel
theorem dX3_isLater_22 : decode cX3_isLater 22 = .ok (.iadd, 1) := rfl
theorem dX3_isLater_23 : decode cX3_isLater 23 = .ok (.iaload, 1) := rfl
theorem dX3_isLater_24 : decode cX3_isLater 24 = .ok (.isub, 1) := rfl
theorem dX3_isLater_25 : decode cX3_isLater 25 = .ok (.istore 4, 2) := rfl
theorem dX3_isLater_27 : decode cX3_isLater 27 = .ok (.iload 4, 2) := rfl
theorem dX3_isLater_29 : decode cX3_isLater 29 = .ok (.ifCond .gt 13, 3) := by decide +kernel
theorem dX3_isLater_32 : decode cX3_isLater 32 = .ok (.iload 4, 2) := rfl
theorem dX3_isLater_34 : decode cX3_isLater 34 = .ok (.ifCond .ne 23, 3) := by decide +kernel
theorem dX3_isLater_37 : decode cX3_isLater 37 = .ok (.iload_n 2, 1) := rfl
theorem dX3_isLater_38 : decode cX3_isLater 38 = .ok (.iload_n 1, 1) := rfl
theorem dX3_isLater_39 : decode cX3_isLater 39 = .ok (.if_icmp .le 18, 3) := by decide +kernel
theorem dX3_isLater_42 : decode cX3_isLater 42 = .ok (.iload_n 3, 1) := rfl
theorem dX3_isLater_43 : decode cX3_isLater 43 = .ok (.iconst (-1), 1) := rfl
theorem dX3_isLater_44 : decode cX3_isLater 44 = .ok (.if_icmp .eq 9, 3) := by decide +kernel
theorem dX3_isLater_47 : decode cX3_isLater 47 = .ok (.iload 4, 2) := rfl
theorem dX3_isLater_49 : decode cX3_isLater 49 = .ok (.iload_n 3, 1) := rfl
theorem dX3_isLater_50 : decode cX3_isLater 50 = .ok (.if_icmp .gt 7, 3) := by decide +kernel
theorem dX3_isLater_53 : decode cX3_isLater 53 = .ok (.iconst 1, 1) := rfl
theorem dX3_isLater_54 : decode cX3_isLater 54 = .ok (.goto 4, 3) := by decide +kernel
theorem dX3_isLater_57 : decode cX3_isLater 57 = .ok (.iconst 0, 1) := rfl
theorem dX3_isLater_58 : decode cX3_isLater 58 = .ok (.ireturn, 1) := rfl
def m_X3_isLater_42  (Q : Int32 → Hp → Prop) (v3 : Int32) (v4 : Int32) (h : Hp) : Prop := (v3 = (-1) → Q 1 h) ∧ (¬ v3 = (-1) → (v3 < v4 → Q 0 h) ∧ (¬ v3 < v4 → Q 1 h))
set_option maxHeartbeats 4000000 in
set_option maxRecDepth 100000 in
theorem s_X3_isLater_42 {l : Launch} {G : Cx} {d : Nat} {h0 : Hp} (hd : 2 ≤ d) {Q : Int32 → Hp → Prop} {v3 : Int32} {v4 : Int32} {h : Hp} (hm : m_X3_isLater_42 Q v3 v4 h) : Rn l G d 0 0 MX3_isLater h0 (qI Q) 42 [none, none, none, some (tI v3), some (tI v4)] [] h 0 0 := by
  unfold m_X3_isLater_42 at hm
  refine r_iload_n dX3_isLater_42 rfl rfl ?_
  refine r_iconst (v := (-1)) dX3_isLater_43 rfl ?_
  refine r_icmp_eq (tgt := 53) dX3_isLater_44 rfl (fun hc => ?_) (fun hc => ?_)
  · replace hm := hm.1 hc
    refine r_iconst (v := 1) dX3_isLater_53 rfl ?_
    refine r_goto (tgt := 58) dX3_isLater_54 rfl ?_
    exact r_bret dX3_isLater_58 rfl ⟨by decide, by decide⟩ (by unfold bz; decide) ⟨_, rfl, hm⟩
  · replace hm := hm.2 hc
    refine r_iload dX3_isLater_47 rfl ?_
    refine r_iload_n dX3_isLater_49 rfl rfl ?_
    refine r_icmp_gt (tgt := 57) dX3_isLater_50 rfl (fun hc => ?_) (fun hc => ?_)
    · replace hm := hm.1 hc
      refine r_iconst (v := 0) dX3_isLater_57 rfl ?_
      exact r_bret dX3_isLater_58 rfl ⟨by decide, by decide⟩ (by unfold bz; decide) ⟨_, rfl, hm⟩
    · replace hm := hm.2 hc
      refine r_iconst (v := 1) dX3_isLater_53 rfl ?_
      refine r_goto (tgt := 58) dX3_isLater_54 rfl ?_
      exact r_bret dX3_isLater_58 rfl ⟨by decide, by decide⟩ (by unfold bz; decide) ⟨_, rfl, hm⟩
def m_X3_isLater (v1 : Int32) (v2 : Int32) (v3 : Int32) (h : Hp) (Q : Int32 → Hp → Prop) : Prop := vp_in ((v2 * 8) + 6) 576 ∧ (vp_in ((v1 * 8) + 6) 576 ∧ (∀ x1 : Int32, x1 = ((hI h 31 (ix ((v2 * 8) + 6))) - (hI h 31 (ix ((v1 * 8) + 6)))) → (0 < x1 → m_X3_isLater_42 Q v3 x1 h) ∧ (¬ 0 < x1 → (¬ x1 = 0 → Q 0 h) ∧ (x1 = 0 → (v2 ≤ v1 → Q 0 h) ∧ (¬ v2 ≤ v1 → m_X3_isLater_42 Q v3 x1 h)))))
set_option maxHeartbeats 4000000 in
set_option maxRecDepth 100000 in
theorem s_X3_isLater {l : Launch} {G : Cx} {d : Nat} (hd : 2 ≤ d) {v1 : Int32} {v2 : Int32} {v3 : Int32} {h : Hp} {Q : Int32 → Hp → Prop} (hm : m_X3_isLater v1 v2 v3 h Q) : Ct l G d 0 0 yX3_isLater MX3_isLater [tR 3 0 (some 30), tI v1, tI v2, tI v3] h (qI Q) := by
  unfold m_X3_isLater at hm
  refine Ct.of (L := [some (tR 3 0 (some 30)), some (tI v1), some (tI v2), some (tI v3)]) (by decide) rfl rfl (Nat.le_of_ble_eq_true rfl) rfl ?_
  refine r_aload_n dX3_isLater_0 rfl rfl ?_
  refine r_getC (k := 1) cl_3 dX3_isLater_1 t_241 gf_3_1.1 gf_3_1.2 (gc_3_1 _) ?_
  refine r_iload_n dX3_isLater_4 rfl rfl ?_
  refine r_bipush (v := 8) dX3_isLater_5 rfl ?_
  refine r_imul dX3_isLater_7 ?_
  refine r_bipush (v := 6) dX3_isLater_8 rfl ?_
  refine r_iadd dX3_isLater_10 ?_
  refine r_iald dX3_isLater_11 hm.1 ?_
  replace hm := hm.2
  refine r_aload_n dX3_isLater_12 rfl rfl ?_
  refine r_getC (k := 1) cl_3 dX3_isLater_13 t_241 gf_3_1.1 gf_3_1.2 (gc_3_1 _) ?_
  refine r_iload_n dX3_isLater_16 rfl rfl ?_
  refine r_bipush (v := 8) dX3_isLater_17 rfl ?_
  refine r_imul dX3_isLater_19 ?_
  refine r_bipush (v := 6) dX3_isLater_20 rfl ?_
  refine r_iadd dX3_isLater_22 ?_
  refine r_iald dX3_isLater_23 hm.1 ?_
  replace hm := hm.2
  refine r_isub dX3_isLater_24 ?_
  refine r_nmI (fun x1 e_x1 => ?_)
  replace hm := hm x1 e_x1
  refine r_istore (L' := [some (tR 3 0 (some 30)), some (tI v1), some (tI v2), some (tI v3), some (tI x1)]) dX3_isLater_25 (by decide) rfl ?_
  refine r_iload dX3_isLater_27 rfl ?_
  refine r_if_gt (tgt := 42) dX3_isLater_29 rfl (fun hc => ?_) (fun hc => ?_)
  · replace hm := hm.1 hc
    refine r_keep (L' := [none, none, none, some (tI v3), some (tI x1)]) [false, false, false, true, true] rfl ?_
    exact s_X3_isLater_42 hd hm
  · replace hm := hm.2 hc
    refine r_iload dX3_isLater_32 rfl ?_
    refine r_if_ne (tgt := 57) dX3_isLater_34 rfl (fun hc => ?_) (fun hc => ?_)
    · replace hm := hm.1 hc
      refine r_iconst (v := 0) dX3_isLater_57 rfl ?_
      exact r_bret dX3_isLater_58 rfl ⟨by decide, by decide⟩ (by unfold bz; decide) ⟨_, rfl, hm⟩
    · replace hm := hm.2 hc
      refine r_iload_n dX3_isLater_37 rfl rfl ?_
      refine r_iload_n dX3_isLater_38 rfl rfl ?_
      refine r_icmp_le (tgt := 57) dX3_isLater_39 rfl (fun hc => ?_) (fun hc => ?_)
      · replace hm := hm.1 hc
        refine r_iconst (v := 0) dX3_isLater_57 rfl ?_
        exact r_bret dX3_isLater_58 rfl ⟨by decide, by decide⟩ (by unfold bz; decide) ⟨_, rfl, hm⟩
      · replace hm := hm.2 hc
        refine r_keep (L' := [none, none, none, some (tI v3), some (tI x1)]) [false, false, false, true, true] rfl ?_
        exact s_X3_isLater_42 hd hm
theorem dX3_isTied_0 : decode cX3_isTied 0 = .ok (.iload_n 3, 1) := by decide +kernel
theorem dX3_isTied_1 : decode cX3_isTied 1 = .ok (.iconst 2, 1) := by decide +kernel
theorem dX3_isTied_2 : decode cX3_isTied 2 = .ok (.iand, 1) := by decide +kernel
theorem dX3_isTied_3 : decode cX3_isTied 3 = .ok (.ifCond .eq 24, 3) := by decide +kernel
theorem dX3_isTied_6 : decode cX3_isTied 6 = .ok (.aload_n 0, 1) := by decide +kernel
theorem dX3_isTied_7 : decode cX3_isTied 7 = .ok (.getfield 9, 3) := by decide +kernel
theorem dX3_isTied_10 : decode cX3_isTied 10 = .ok (.iload_n 1, 1) := by decide +kernel
theorem dX3_isTied_11 : decode cX3_isTied 11 = .ok (.iconst 3, 1) := by decide +kernel
theorem dX3_isTied_12 : decode cX3_isTied 12 = .ok (.iadd, 1) := by decide +kernel
theorem dX3_isTied_13 : decode cX3_isTied 13 = .ok (.iaload, 1) := by decide +kernel
theorem dX3_isTied_14 : decode cX3_isTied 14 = .ok (.aload_n 0, 1) := by decide +kernel
theorem dX3_isTied_15 : decode cX3_isTied 15 = .ok (.getfield 9, 3) := by decide +kernel
theorem dX3_isTied_18 : decode cX3_isTied 18 = .ok (.iload_n 2, 1) := by decide +kernel
theorem dX3_isTied_19 : decode cX3_isTied 19 = .ok (.iconst 3, 1) := by decide +kernel
theorem dX3_isTied_20 : decode cX3_isTied 20 = .ok (.iadd, 1) := by decide +kernel
theorem dX3_isTied_21 : decode cX3_isTied 21 = .ok (.iaload, 1) := by decide +kernel
theorem dX3_isTied_22 : decode cX3_isTied 22 = .ok (.if_icmp .eq 5, 3) := by decide +kernel
theorem dX3_isTied_25 : decode cX3_isTied 25 = .ok (.iconst 0, 1) := by decide +kernel
theorem dX3_isTied_26 : decode cX3_isTied 26 = .ok (.ireturn, 1) := by decide +kernel
theorem dX3_isTied_27 : decode cX3_isTied 27 = .ok (.iload_n 3, 1) := by decide +kernel
theorem dX3_isTied_28 : decode cX3_isTied 28 = .ok (.iconst 4, 1) := by decide +kernel
theorem dX3_isTied_29 : decode cX3_isTied 29 = .ok (.iand, 1) := by decide +kernel
theorem dX3_isTied_30 : decode cX3_isTied 30 = .ok (.ifCond .eq 24, 3) := by decide +kernel
theorem dX3_isTied_33 : decode cX3_isTied 33 = .ok (.aload_n 0, 1) := by decide +kernel
theorem dX3_isTied_34 : decode cX3_isTied 34 = .ok (.getfield 9, 3) := by decide +kernel
theorem dX3_isTied_37 : decode cX3_isTied 37 = .ok (.iload_n 2, 1) := by decide +kernel
theorem dX3_isTied_38 : decode cX3_isTied 38 = .ok (.iconst 5, 1) := by decide +kernel
theorem dX3_isTied_39 : decode cX3_isTied 39 = .ok (.iadd, 1) := by decide +kernel
theorem dX3_isTied_40 : decode cX3_isTied 40 = .ok (.iaload, 1) := by decide +kernel
theorem dX3_isTied_41 : decode cX3_isTied 41 = .ok (.aload_n 0, 1) := by decide +kernel
theorem dX3_isTied_42 : decode cX3_isTied 42 = .ok (.getfield 9, 3) := by decide +kernel
theorem dX3_isTied_45 : decode cX3_isTied 45 = .ok (.iload_n 1, 1) := by decide +kernel
theorem dX3_isTied_46 : decode cX3_isTied 46 = .ok (.iconst 5, 1) := by decide +kernel
theorem dX3_isTied_47 : decode cX3_isTied 47 = .ok (.iadd, 1) := by decide +kernel
theorem dX3_isTied_48 : decode cX3_isTied 48 = .ok (.iaload, 1) := by decide +kernel
theorem dX3_isTied_49 : decode cX3_isTied 49 = .ok (.if_icmp .gt 5, 3) := by decide +kernel
theorem dX3_isTied_52 : decode cX3_isTied 52 = .ok (.iconst 0, 1) := by decide +kernel
theorem dX3_isTied_53 : decode cX3_isTied 53 = .ok (.ireturn, 1) := by decide +kernel
theorem dX3_isTied_54 : decode cX3_isTied 54 = .ok (.iload_n 3, 1) := by decide +kernel
theorem dX3_isTied_55 : decode cX3_isTied 55 = .ok (.iconst 1, 1) := by decide +kernel
theorem dX3_isTied_56 : decode cX3_isTied 56 = .ok (.iand, 1) := by decide +kernel
theorem dX3_isTied_57 : decode cX3_isTied 57 = .ok (.ifCond .eq 61, 3) := by decide +kernel
theorem dX3_isTied_60 : decode cX3_isTied 60 = .ok (.aload_n 0, 1) := by decide +kernel
theorem dX3_isTied_61 : decode cX3_isTied 61 = .ok (.getfield 15, 3) := by decide +kernel
theorem dX3_isTied_64 : decode cX3_isTied 64 = .ok (.aload_n 0, 1) := by decide +kernel
theorem dX3_isTied_65 : decode cX3_isTied 65 = .ok (.getfield 9, 3) := by decide +kernel
theorem dX3_isTied_68 : decode cX3_isTied 68 = .ok (.iload_n 2, 1) := by decide +kernel
theorem dX3_isTied_69 : decode cX3_isTied 69 = .ok (.iconst 2, 1) := by decide +kernel
theorem dX3_isTied_70 : decode cX3_isTied 70 = .ok (.iadd, 1) := by decide +kernel
theorem dX3_isTied_71 : decode cX3_isTied 71 = .ok (.iaload, 1) := by decide +kernel
theorem dX3_isTied_72 : decode cX3_isTied 72 = .ok (.iaload, 1) := by decide +kernel
theorem dX3_isTied_73 : decode cX3_isTied 73 = .ok (.aload_n 0, 1) := by decide +kernel
theorem dX3_isTied_74 : decode cX3_isTied 74 = .ok (.getfield 15, 3) := by decide +kernel
theorem dX3_isTied_77 : decode cX3_isTied 77 = .ok (.aload_n 0, 1) := by decide +kernel
theorem dX3_isTied_78 : decode cX3_isTied 78 = .ok (.getfield 9, 3) := by decide +kernel
theorem dX3_isTied_81 : decode cX3_isTied 81 = .ok (.iload_n 1, 1) := by decide +kernel
theorem dX3_isTied_82 : decode cX3_isTied 82 = .ok (.iconst 1, 1) := by decide +kernel
theorem dX3_isTied_83 : decode cX3_isTied 83 = .ok (.iadd, 1) := by decide +kernel
theorem dX3_isTied_84 : decode cX3_isTied 84 = .ok (.iaload, 1) := by decide +kernel
theorem dX3_isTied_85 : decode cX3_isTied 85 = .ok (.iaload, 1) := by decide +kernel
theorem dX3_isTied_86 : decode cX3_isTied 86 = .ok (.if_icmp .ne 36, 3) := by decide +kernel
theorem dX3_isTied_89 : decode cX3_isTied 89 = .ok (.aload_n 0, 1) := by decide +kernel
theorem dX3_isTied_90 : decode cX3_isTied 90 = .ok (.getfield 15, 3) := by decide +kernel
theorem dX3_isTied_93 : decode cX3_isTied 93 = .ok (.aload_n 0, 1) := by decide +kernel
theorem dX3_isTied_94 : decode cX3_isTied 94 = .ok (.getfield 9, 3) := by decide +kernel
theorem dX3_isTied_97 : decode cX3_isTied 97 = .ok (.iload_n 2, 1) := by decide +kernel
theorem dX3_isTied_98 : decode cX3_isTied 98 = .ok (.iconst 1, 1) := by decide +kernel
theorem dX3_isTied_99 : decode cX3_isTied 99 = .ok (.iadd, 1) := by decide +kernel
theorem dX3_isTied_100 : decode cX3_isTied 100 = .ok (.iaload, 1) := by decide +kernel
theorem dX3_isTied_101 : decode cX3_isTied 101 = .ok (.iaload, 1) := by decide +kernel
theorem dX3_isTied_102 : decode cX3_isTied 102 = .ok (.aload_n 0, 1) := by decide +kernel
theorem dX3_isTied_103 : decode cX3_isTied 103 = .ok (.getfield 15, 3) := by decide +kernel
theorem dX3_isTied_106 : decode cX3_isTied 106 = .ok (.aload_n 0, 1) := by decide +kernel
theorem dX3_isTied_107 : decode cX3_isTied 107 = .ok (.getfield 9, 3) := by decide +kernel
theorem dX3_isTied_110 : decode cX3_isTied 110 = .ok (.iload_n 1, 1) := by decide +kernel
theorem dX3_isTied_111 : decode cX3_isTied 111 = .ok (.iconst 2, 1) := by decide +kernel
theorem dX3_isTied_112 : decode cX3_isTied 112 = .ok (.iadd, 1) := by decide +kernel
theorem dX3_isTied_113 : decode cX3_isTied 113 = .ok (.iaload, 1) := by decide +kernel
theorem dX3_isTied_114 : decode cX3_isTied 114 = .ok (.iaload, 1) := by decide +kernel
theorem dX3_isTied_115 : decode cX3_isTied 115 = .ok (.if_icmp .ne 7, 3) := by decide +kernel
theorem dX3_isTied_118 : decode cX3_isTied 118 = .ok (.iconst 1, 1) := by decide +kernel
theorem dX3_isTied_119 : decode cX3_isTied 119 = .ok (.goto 4, 3) := by decide +kernel
theorem dX3_isTied_122 : decode cX3_isTied 122 = .ok (.iconst 0, 1) := by decide +kernel
theorem dX3_isTied_123 : decode cX3_isTied 123 = .ok (.ireturn, 1) := by decide +kernel
def m_X3_isTied_54  (Q : Int32 → Hp → Prop) (v1 : Int32) (v2 : Int32) (v3 : Int32) (h : Hp) : Prop := ((v3 &&& 1) = 0 → Q 1 h) ∧ (¬ (v3 &&& 1) = 0 → vp_in (v2 + 2) 576 ∧ (vp_in (hI h 31 (ix (v2 + 2))) 8 ∧ (vp_in (v1 + 1) 576 ∧ (vp_in (hI h 31 (ix (v1 + 1))) 8 ∧ ((¬ (hI h 1 (ix (hI h 31 (ix (v2 + 2))))) = (hI h 1 (ix (hI h 31 (ix (v1 + 1))))) → Q 0 h) ∧ ((hI h 1 (ix (hI h 31 (ix (v2 + 2))))) = (hI h 1 (ix (hI h 31 (ix (v1 + 1))))) → vp_in (v2 + 1) 576 ∧ (vp_in (hI h 31 (ix (v2 + 1))) 8 ∧ (vp_in (v1 + 2) 576 ∧ (vp_in (hI h 31 (ix (v1 + 2))) 8 ∧ ((¬ (hI h 1 (ix (hI h 31 (ix (v2 + 1))))) = (hI h 1 (ix (hI h 31 (ix (v1 + 2))))) → Q 0 h) ∧ ((hI h 1 (ix (hI h 31 (ix (v2 + 1))))) = (hI h 1 (ix (hI h 31 (ix (v1 + 2))))) → Q 1 h)))))))))))
set_option maxHeartbeats 4000000 in
set_option maxRecDepth 100000 in
theorem s_X3_isTied_54 {l : Launch} {G : Cx} {d : Nat} {h0 : Hp} (hd : 2 ≤ d) {Q : Int32 → Hp → Prop} {v1 : Int32} {v2 : Int32} {v3 : Int32} {h : Hp} (hm : m_X3_isTied_54 Q v1 v2 v3 h) : Rn l G d 0 0 MX3_isTied h0 (qI Q) 54 [some (tR 3 0 (some 30)), some (tI v1), some (tI v2), some (tI v3)] [] h 0 0 := by
  unfold m_X3_isTied_54 at hm
  refine r_iload_n dX3_isTied_54 rfl rfl ?_
  refine r_iconst (v := 1) dX3_isTied_55 rfl ?_
  refine r_iand dX3_isTied_56 ?_
  refine r_if_eq (tgt := 118) dX3_isTied_57 rfl (fun hc => ?_) (fun hc => ?_)
  · replace hm := hm.1 hc
    refine r_iconst (v := 1) dX3_isTied_118 rfl ?_
    refine r_goto (tgt := 123) dX3_isTied_119 rfl ?_
    exact r_bret dX3_isTied_123 rfl ⟨by decide, by decide⟩ (by unfold bz; decide) ⟨_, rfl, hm⟩
  · replace hm := hm.2 hc
    refine r_aload_n dX3_isTied_60 rfl rfl ?_
    refine r_getC (k := 0) cl_3 dX3_isTied_61 t_240 gf_3_0.1 gf_3_0.2 (gc_3_0 _) ?_
    refine r_aload_n dX3_isTied_64 rfl rfl ?_
    refine r_getC (k := 1) cl_3 dX3_isTied_65 t_241 gf_3_1.1 gf_3_1.2 (gc_3_1 _) ?_
    refine r_iload_n dX3_isTied_68 rfl rfl ?_
    refine r_iconst (v := 2) dX3_isTied_69 rfl ?_
    refine r_iadd dX3_isTied_70 ?_
    refine r_iald dX3_isTied_71 hm.1 ?_
    replace hm := hm.2
    refine r_iald dX3_isTied_72 hm.1 ?_
    replace hm := hm.2
    refine r_aload_n dX3_isTied_73 rfl rfl ?_
    refine r_getC (k := 0) cl_3 dX3_isTied_74 t_240 gf_3_0.1 gf_3_0.2 (gc_3_0 _) ?_
    refine r_aload_n dX3_isTied_77 rfl rfl ?_
    refine r_getC (k := 1) cl_3 dX3_isTied_78 t_241 gf_3_1.1 gf_3_1.2 (gc_3_1 _) ?_
    refine r_iload_n dX3_isTied_81 rfl rfl ?_
    refine r_iconst (v := 1) dX3_isTied_82 rfl ?_
    refine r_iadd dX3_isTied_83 ?_
    refine r_iald dX3_isTied_84 hm.1 ?_
    replace hm := hm.2
    refine r_iald dX3_isTied_85 hm.1 ?_
    replace hm := hm.2
    refine r_icmp_ne (tgt := 122) dX3_isTied_86 rfl (fun hc => ?_) (fun hc => ?_)
    · replace hm := hm.1 hc
      refine r_iconst (v := 0) dX3_isTied_122 rfl ?_
      exact r_bret dX3_isTied_123 rfl ⟨by decide, by decide⟩ (by unfold bz; decide) ⟨_, rfl, hm⟩
    · replace hm := hm.2 hc
      refine r_aload_n dX3_isTied_89 rfl rfl ?_
      refine r_getC (k := 0) cl_3 dX3_isTied_90 t_240 gf_3_0.1 gf_3_0.2 (gc_3_0 _) ?_
      refine r_aload_n dX3_isTied_93 rfl rfl ?_
      refine r_getC (k := 1) cl_3 dX3_isTied_94 t_241 gf_3_1.1 gf_3_1.2 (gc_3_1 _) ?_
      refine r_iload_n dX3_isTied_97 rfl rfl ?_
      refine r_iconst (v := 1) dX3_isTied_98 rfl ?_
      refine r_iadd dX3_isTied_99 ?_
      refine r_iald dX3_isTied_100 hm.1 ?_
      replace hm := hm.2
      refine r_iald dX3_isTied_101 hm.1 ?_
      replace hm := hm.2
      refine r_aload_n dX3_isTied_102 rfl rfl ?_
      refine r_getC (k := 0) cl_3 dX3_isTied_103 t_240 gf_3_0.1 gf_3_0.2 (gc_3_0 _) ?_
      refine r_aload_n dX3_isTied_106 rfl rfl ?_
      refine r_getC (k := 1) cl_3 dX3_isTied_107 t_241 gf_3_1.1 gf_3_1.2 (gc_3_1 _) ?_
      refine r_iload_n dX3_isTied_110 rfl rfl ?_
      refine r_iconst (v := 2) dX3_isTied_111 rfl ?_
      refine r_iadd dX3_isTied_112 ?_
      refine r_iald dX3_isTied_113 hm.1 ?_
      replace hm := hm.2
      refine r_iald dX3_isTied_114 hm.1 ?_
      replace hm := hm.2
      refine r_icmp_ne (tgt := 122) dX3_isTied_115 rfl (fun hc => ?_) (fun hc => ?_)
      · replace hm := hm.1 hc
        refine r_iconst (v := 0) dX3_isTied_122 rfl ?_
        exact r_bret dX3_isTied_123 rfl ⟨by decide, by decide⟩ (by unfold bz; decide) ⟨_, rfl, hm⟩
      · replace hm := hm.2 hc
        refine r_iconst (v := 1) dX3_isTied_118 rfl ?_
        refine r_goto (tgt := 123) dX3_isTied_119 rfl ?_
        exact r_bret dX3_isTied_123 rfl ⟨by decide, by decide⟩ (by unfold bz; decide) ⟨_, rfl, hm⟩
def m_X3_isTied_27  (Q : Int32 → Hp → Prop) (v1 : Int32) (v2 : Int32) (v3 : Int32) (h : Hp) : Prop := ((v3 &&& 4) = 0 → m_X3_isTied_54 Q v1 v2 v3 h) ∧ (¬ (v3 &&& 4) = 0 → vp_in (v2 + 5) 576 ∧ (vp_in (v1 + 5) 576 ∧ (((hI h 31 (ix (v1 + 5))) < (hI h 31 (ix (v2 + 5))) → m_X3_isTied_54 Q v1 v2 v3 h) ∧ (¬ (hI h 31 (ix (v1 + 5))) < (hI h 31 (ix (v2 + 5))) → Q 0 h))))
set_option maxHeartbeats 4000000 in
set_option maxRecDepth 100000 in
theorem s_X3_isTied_27 {l : Launch} {G : Cx} {d : Nat} {h0 : Hp} (hd : 2 ≤ d) {Q : Int32 → Hp → Prop} {v1 : Int32} {v2 : Int32} {v3 : Int32} {h : Hp} (hm : m_X3_isTied_27 Q v1 v2 v3 h) : Rn l G d 0 0 MX3_isTied h0 (qI Q) 27 [some (tR 3 0 (some 30)), some (tI v1), some (tI v2), some (tI v3)] [] h 0 0 := by
  unfold m_X3_isTied_27 at hm
  refine r_iload_n dX3_isTied_27 rfl rfl ?_
  refine r_iconst (v := 4) dX3_isTied_28 rfl ?_
  refine r_iand dX3_isTied_29 ?_
  refine r_if_eq (tgt := 54) dX3_isTied_30 rfl (fun hc => ?_) (fun hc => ?_)
  · replace hm := hm.1 hc
    refine r_keep (L' := [some (tR 3 0 (some 30)), some (tI v1), some (tI v2), some (tI v3)]) [true, true, true, true] rfl ?_
    exact s_X3_isTied_54 hd hm
  · replace hm := hm.2 hc
    refine r_aload_n dX3_isTied_33 rfl rfl ?_
    refine r_getC (k := 1) cl_3 dX3_isTied_34 t_241 gf_3_1.1 gf_3_1.2 (gc_3_1 _) ?_
    refine r_iload_n dX3_isTied_37 rfl rfl ?_
    refine r_iconst (v := 5) dX3_isTied_38 rfl ?_
    refine r_iadd dX3_isTied_39 ?_
    refine r_iald dX3_isTied_40 hm.1 ?_
    replace hm := hm.2
    refine r_aload_n dX3_isTied_41 rfl rfl ?_
    refine r_getC (k := 1) cl_3 dX3_isTied_42 t_241 gf_3_1.1 gf_3_1.2 (gc_3_1 _) ?_
    refine r_iload_n dX3_isTied_45 rfl rfl ?_
    refine r_iconst (v := 5) dX3_isTied_46 rfl ?_
    refine r_iadd dX3_isTied_47 ?_
    refine r_iald dX3_isTied_48 hm.1 ?_
    replace hm := hm.2
    refine r_icmp_gt (tgt := 54) dX3_isTied_49 rfl (fun hc => ?_) (fun hc => ?_)
    · replace hm := hm.1 hc
      refine r_keep (L' := [some (tR 3 0 (some 30)), some (tI v1), some (tI v2), some (tI v3)]) [true, true, true, true] rfl ?_
      exact s_X3_isTied_54 hd hm
    · replace hm := hm.2 hc
      refine r_iconst (v := 0) dX3_isTied_52 rfl ?_
      exact r_bret dX3_isTied_53 rfl ⟨by decide, by decide⟩ (by unfold bz; decide) ⟨_, rfl, hm⟩
def m_X3_isTied (v1 : Int32) (v2 : Int32) (v3 : Int32) (h : Hp) (Q : Int32 → Hp → Prop) : Prop := ((v3 &&& 2) = 0 → m_X3_isTied_27 Q v1 v2 v3 h) ∧ (¬ (v3 &&& 2) = 0 → vp_in (v1 + 3) 576 ∧ (vp_in (v2 + 3) 576 ∧ (((hI h 31 (ix (v1 + 3))) = (hI h 31 (ix (v2 + 3))) → m_X3_isTied_27 Q v1 v2 v3 h) ∧ (¬ (hI h 31 (ix (v1 + 3))) = (hI h 31 (ix (v2 + 3))) → Q 0 h))))
set_option maxHeartbeats 4000000 in
set_option maxRecDepth 100000 in
theorem s_X3_isTied {l : Launch} {G : Cx} {d : Nat} (hd : 2 ≤ d) {v1 : Int32} {v2 : Int32} {v3 : Int32} {h : Hp} {Q : Int32 → Hp → Prop} (hm : m_X3_isTied v1 v2 v3 h Q) : Ct l G d 0 0 yX3_isTied MX3_isTied [tR 3 0 (some 30), tI v1, tI v2, tI v3] h (qI Q) := by
  unfold m_X3_isTied at hm
  refine Ct.of (L := [some (tR 3 0 (some 30)), some (tI v1), some (tI v2), some (tI v3)]) (by decide) rfl rfl (Nat.le_of_ble_eq_true rfl) rfl ?_
  refine r_iload_n dX3_isTied_0 rfl rfl ?_
  refine r_iconst (v := 2) dX3_isTied_1 rfl ?_
  refine r_iand dX3_isTied_2 ?_
  refine r_if_eq (tgt := 27) dX3_isTied_3 rfl (fun hc => ?_) (fun hc => ?_)
  · replace hm := hm.1 hc
    refine r_keep (L' := [some (tR 3 0 (some 30)), some (tI v1), some (tI v2), some (tI v3)]) [true, true, true, true] rfl ?_
    exact s_X3_isTied_27 hd hm
  · replace hm := hm.2 hc
    refine r_aload_n dX3_isTied_6 rfl rfl ?_
    refine r_getC (k := 1) cl_3 dX3_isTied_7 t_241 gf_3_1.1 gf_3_1.2 (gc_3_1 _) ?_
    refine r_iload_n dX3_isTied_10 rfl rfl ?_
    refine r_iconst (v := 3) dX3_isTied_11 rfl ?_
    refine r_iadd dX3_isTied_12 ?_
    refine r_iald dX3_isTied_13 hm.1 ?_
    replace hm := hm.2
    refine r_aload_n dX3_isTied_14 rfl rfl ?_
    refine r_getC (k := 1) cl_3 dX3_isTied_15 t_241 gf_3_1.1 gf_3_1.2 (gc_3_1 _) ?_
    refine r_iload_n dX3_isTied_18 rfl rfl ?_
    refine r_iconst (v := 3) dX3_isTied_19 rfl ?_
    refine r_iadd dX3_isTied_20 ?_
    refine r_iald dX3_isTied_21 hm.1 ?_
    replace hm := hm.2
    refine r_icmp_eq (tgt := 27) dX3_isTied_22 rfl (fun hc => ?_) (fun hc => ?_)
    · replace hm := hm.1 hc
      refine r_keep (L' := [some (tR 3 0 (some 30)), some (tI v1), some (tI v2), some (tI v3)]) [true, true, true, true] rfl ?_
      exact s_X3_isTied_27 hd hm
    · replace hm := hm.2 hc
      refine r_iconst (v := 0) dX3_isTied_25 rfl ?_
      exact r_bret dX3_isTied_26 rfl ⟨by decide, by decide⟩ (by unfold bz; decide) ⟨_, rfl, hm⟩
theorem dX3_findSecond_0 : decode cX3_findSecond 0 = .ok (.iconst 0, 1) := rfl
theorem dX3_findSecond_1 : decode cX3_findSecond 1 = .ok (.istore 4, 2) := rfl
theorem dX3_findSecond_3 : decode cX3_findSecond 3 = .ok (.iload 4, 2) := rfl
theorem dX3_findSecond_5 : decode cX3_findSecond 5 = .ok (.aload_n 0, 1) := rfl
theorem dX3_findSecond_6 : decode cX3_findSecond 6 = .ok (.getfield 18, 3) := rfl
theorem dX3_findSecond_9 : decode cX3_findSecond 9 = .ok (.if_icmp .ge 67, 3) := by decide +kernel
theorem dX3_findSecond_12 : decode cX3_findSecond 12 = .ok (.aload_n 0, 1) := rfl
theorem dX3_findSecond_13 : decode cX3_findSecond 13 = .ok (.iload 4, 2) := rfl
theorem dX3_findSecond_15 : decode cX3_findSecond 15 = .ok (.aload_n 1, 1) := rfl
theorem dX3_findSecond_16 : decode cX3_findSecond 16 = .ok (.iload_n 2, 1) := rfl
theorem dX3_findSecond_17 : decode cX3_findSecond 17 = .ok (.iconst 2, 1) := rfl
theorem dX3_findSecond_18 : decode cX3_findSecond 18 = .ok (.iadd, 1) := rfl
theorem dX3_findSecond_19 : decode cX3_findSecond 19 = .ok (.iaload, 1) := rfl
theorem dX3_findSecond_20 : decode cX3_findSecond 20 = .ok (.aload_n 1, 1) := rfl
theorem dX3_findSecond_21 : decode cX3_findSecond 21 = .ok (.iload_n 2, 1) := rfl
theorem dX3_findSecond_22 : decode cX3_findSecond 22 = .ok (.iconst 3, 1) := rfl
theorem dX3_findSecond_23 : decode cX3_findSecond 23 = .ok (.iadd, 1) := rfl
theorem dX3_findSecond_24 : decode cX3_findSecond 24 = .ok (.iaload, 1) := rfl
theorem dX3_findSecond_25 : decode cX3_findSecond 25 = .ok (.invokevirtual 55, 3) := rfl
theorem dX3_findSecond_28 : decode cX3_findSecond 28 = .ok (.ifCond .eq 42, 3) := by decide +kernel
theorem dX3_findSecond_31 : decode cX3_findSecond 31 = .ok (.aload_n 0, 1) := rfl
theorem dX3_findSecond_32 : decode cX3_findSecond 32 = .ok (.iload_n 3, 1) := rfl
theorem dX3_findSecond_33 : decode cX3_findSecond 33 = .ok (.iload 4, 2) := rfl
theorem dX3_findSecond_35 : decode cX3_findSecond 35 = .ok (.aload_n 1, 1) := rfl
theorem dX3_findSecond_36 : decode cX3_findSecond 36 = .ok (.iload_n 2, 1) := rfl
theorem dX3_findSecond_37 : decode cX3_findSecond 37 = .ok (.iconst 5, 1) := rfl
theorem dX3_findSecond_38 : decode cX3_findSecond 38 = .ok (.iadd, 1) := rfl
theorem dX3_findSecond_39 : decode cX3_findSecond 39 = .ok (.iaload, 1) := rfl
theorem dX3_findSecond_40 : decode cX3_findSecond 40 = .ok (.invokevirtual 69, 3) := rfl
theorem dX3_findSecond_43 : decode cX3_findSecond 43 = .ok (.ifCond .eq 27, 3) := by decide +kernel
theorem dX3_findSecond_46 : decode cX3_findSecond 46 = .ok (.aload_n 0, 1) := rfl
theorem dX3_findSecond_47 : decode cX3_findSecond 47 = .ok (.iload_n 3, 1) := rfl
theorem dX3_findSecond_48 : decode cX3_findSecond 48 = .ok (.bipush 8, 2) := by decide +kernel
theorem dX3_findSecond_50 : decode cX3_findSecond 50 = .ok (.imul, 1) := rfl
theorem dX3_findSecond_51 : decode cX3_findSecond 51 = .ok (.iload 4, 2) := rfl
theorem dX3_findSecond_53 : decode cX3_findSecond 53 = .ok (.bipush 8, 2) := by decide +kernel
theorem dX3_findSecond_55 : decode cX3_findSecond 55 = .ok (.imul, 1) := rfl
theorem dX3_findSecond_56 : decode cX3_findSecond 56 = .ok (.aload_n 1, 1) := rfl
theorem dX3_findSecond_57 : decode cX3_findSecond 57 = .ok (.iload_n 2, 1) := rfl
theorem dX3_findSecond_58 : decode cX3_findSecond 58 = .ok (.iconst 4, 1) := rfl
theorem dX3_findSecond_59 : decode cX3_findSecond 59 = .ok (.iadd, 1) := rfl
theorem dX3_findSecond_60 : decode cX3_findSecond 60 = .ok (.iaload, 1) := rfl
theorem dX3_findSecond_61 : decode cX3_findSecond 61 = .ok (.invokevirtual 72, 3) := rfl
theorem dX3_findSecond_64 : decode cX3_findSecond 64 = .ok (.ifCond .eq 6, 3) := by decide +kernel
theorem dX3_findSecond_67 : decode cX3_findSecond 67 = .ok (.iload 4, 2) := rfl
theorem dX3_findSecond_69 : decode cX3_findSecond 69 = .ok (.ireturn, 1) := rfl
theorem dX3_findSecond_70 : decode cX3_findSecond 70 = .ok (.iinc 4 1, 3) := by decide +kernel
theorem dX3_findSecond_73 : decode cX3_findSecond 73 = .ok (.goto (-70), 3) := by decide +kernel
theorem dX3_findSecond_76 : decode cX3_findSecond 76 = .ok (.iconst (-1), 1) := rfl
theorem dX3_findSecond_77 : decode cX3_findSecond 77 = .ok (.ireturn, 1) := rfl
def m_X3_findSecond_70 (k3 : Nat → Nat → Int32 → Int32 → Int32 → Hp → Prop) (Q : Int32 → Hp → Prop) (v1n : Nat) (v1 : Nat) (v2 : Int32) (v3 : Int32) (v4 : Int32) (h : Hp) : Prop := ∀ x1 : Int32, x1 = v4 + 1 → k3 v1n v1 v2 v3 x1 h
set_option maxHeartbeats 4000000 in
set_option maxRecDepth 100000 in
theorem s_X3_findSecond_70 {l : Launch} {G : Cx} {d : Nat} {h0 : Hp} (hd : 4 ≤ d) {k3 : Nat → Nat → Int32 → Int32 → Int32 → Hp → Prop} {Q : Int32 → Hp → Prop} (hk3 : ∀ (v1n : Nat) (v1 : Nat) (v2 : Int32) (v3 : Int32) (v4 : Int32) (hh : Hp), k3 v1n v1 v2 v3 v4 hh → Rn l G d 0 0 MX3_findSecond h0 (qI Q) 3 [some (tR 3 0 (some 30)), some (tR 40 v1n (some v1)), some (tI v2), some (tI v3), some (tI v4)] [] hh 0 0) {v1n : Nat} {v1 : Nat} {v2 : Int32} {v3 : Int32} {v4 : Int32} {h : Hp} (hm : m_X3_findSecond_70 k3 Q v1n v1 v2 v3 v4 h) : Rn l G d 0 0 MX3_findSecond h0 (qI Q) 70 [some (tR 3 0 (some 30)), some (tR 40 v1n (some v1)), some (tI v2), some (tI v3), some (tI v4)] [] h 0 0 := by
  unfold m_X3_findSecond_70 at hm
  obtain ⟨x1, e_x1⟩ : ∃ y : Int32, y = v4 + 1 := ⟨_, rfl⟩
  replace hm := hm x1 e_x1
  refine r_iinc (L' := [some (tR 3 0 (some 30)), some (tR 40 v1n (some v1)), some (tI v2), some (tI v3), some (tI x1)]) dX3_findSecond_70 rfl (by rw [e_x1]; rfl) (by decide) rfl ?_
  refine r_goto (tgt := 3) dX3_findSecond_73 rfl ?_
  refine r_keep (L' := [some (tR 3 0 (some 30)), some (tR 40 v1n (some v1)), some (tI v2), some (tI v3), some (tI x1)]) [true, true, true, true, true] rfl ?_
  exact hk3 _ _ _ _ _ _ hm
def m_X3_findSecond_3 : Nat → (Int32 → Hp → Prop) → Nat → Nat → Int32 → Int32 → Int32 → Hp → Prop
  | 0, _, _, _, _, _, _, _ => False
  | n + 1, Q, v1n, v1, v2, v3, v4, h => ((hI h 30 2) ≤ v4 → Q (-1) h) ∧ (¬ (hI h 30 2) ≤ v4 → vp_in (v2 + 2) v1n ∧ (vp_in (v2 + 3) v1n ∧ (m_X3_isOf v4 (hI h v1 (ix (v2 + 2))) (hI h v1 (ix (v2 + 3))) h (fun (x2 : Int32) (h3 : Hp) => (x2 = 0 → m_X3_findSecond_70 (fun (v1n : Nat) (v1 : Nat) (v2 : Int32) (v3 : Int32) (v4 : Int32) (hh : Hp) => m_X3_findSecond_3 n Q v1n v1 v2 v3 v4 hh) Q v1n v1 v2 v3 v4 h3) ∧ (¬ x2 = 0 → vp_in (v2 + 5) v1n ∧ (m_X3_isLater v3 v4 (hI h3 v1 (ix (v2 + 5))) h3 (fun (x4 : Int32) (h5 : Hp) => (x4 = 0 → m_X3_findSecond_70 (fun (v1n : Nat) (v1 : Nat) (v2 : Int32) (v3 : Int32) (v4 : Int32) (hh : Hp) => m_X3_findSecond_3 n Q v1n v1 v2 v3 v4 hh) Q v1n v1 v2 v3 v4 h5) ∧ (¬ x4 = 0 → vp_in (v2 + 4) v1n ∧ (m_X3_isTied (v3 * 8) (v4 * 8) (hI h5 v1 (ix (v2 + 4))) h5 (fun (x6 : Int32) (h7 : Hp) => (x6 = 0 → m_X3_findSecond_70 (fun (v1n : Nat) (v1 : Nat) (v2 : Int32) (v3 : Int32) (v4 : Int32) (hh : Hp) => m_X3_findSecond_3 n Q v1n v1 v2 v3 v4 hh) Q v1n v1 v2 v3 v4 h7) ∧ (¬ x6 = 0 → Q v4 h7)))))))))))
set_option maxHeartbeats 4000000 in
set_option maxRecDepth 100000 in
theorem s_X3_findSecond_3 {l : Launch} {G : Cx} {d : Nat} {h0 : Hp} (hd : 4 ≤ d) {Q : Int32 → Hp → Prop} : ∀ {n : Nat} {v1n : Nat} {v1 : Nat} {v2 : Int32} {v3 : Int32} {v4 : Int32} {h : Hp}, m_X3_findSecond_3 n Q v1n v1 v2 v3 v4 h → Rn l G d 0 0 MX3_findSecond h0 (qI Q) 3 [some (tR 3 0 (some 30)), some (tR 40 v1n (some v1)), some (tI v2), some (tI v3), some (tI v4)] [] h 0 0 := by
  intro n
  induction n with
  | zero => intro v1n v1 v2 v3 v4 h hm; exact hm.elim
  | succ n ih =>
    intro v1n v1 v2 v3 v4 h hm
    have hk3 := fun (v1n : Nat) (v1 : Nat) (v2 : Int32) (v3 : Int32) (v4 : Int32) (hh : Hp) (hm : m_X3_findSecond_3 n Q v1n v1 v2 v3 v4 hh) => ih hm
    rw [m_X3_findSecond_3] at hm
    refine r_iload dX3_findSecond_3 rfl ?_
    refine r_aload_n dX3_findSecond_5 rfl rfl ?_
    refine r_getI (k := 2) cl_3 dX3_findSecond_6 t_242 (Or.inl rfl) gf_3_2 ?_
    refine r_icmp_ge (tgt := 76) dX3_findSecond_9 rfl (fun hc => ?_) (fun hc => ?_)
    · replace hm := hm.1 hc
      refine r_iconst (v := (-1)) dX3_findSecond_76 rfl ?_
      exact r_ireturn dX3_findSecond_77 rfl ⟨by decide, by decide⟩ ⟨_, rfl, hm⟩
    · replace hm := hm.2 hc
      refine r_aload_n dX3_findSecond_12 rfl rfl ?_
      refine r_iload dX3_findSecond_13 rfl ?_
      refine r_aload_n dX3_findSecond_15 rfl rfl ?_
      refine r_iload_n dX3_findSecond_16 rfl rfl ?_
      refine r_iconst (v := 2) dX3_findSecond_17 rfl ?_
      refine r_iadd dX3_findSecond_18 ?_
      refine r_iald dX3_findSecond_19 hm.1 ?_
      replace hm := hm.2
      refine r_aload_n dX3_findSecond_20 rfl rfl ?_
      refine r_iload_n dX3_findSecond_21 rfl rfl ?_
      refine r_iconst (v := 3) dX3_findSecond_22 rfl ?_
      refine r_iadd dX3_findSecond_23 ?_
      refine r_iald dX3_findSecond_24 hm.1 ?_
      replace hm := hm.2
      refine r_callVI (d' := d - 1) (as := [tI v4, tI (hI h v1 (ix (v2 + 2))), tI (hI h v1 (ix (v2 + 3)))]) (st := []) cl_3 dX3_findSecond_25 mi_X3_isOf t_1082 t_1084 ts_42 rfl rfl (Nat.le_of_ble_eq_true rfl) (by omega) ⟨by decide, by decide⟩ ⟨rfl, rfl⟩ (s_X3_isOf (by omega) hm) (fun x2 h3 hm => ?_)
      refine r_if_eq (tgt := 70) dX3_findSecond_28 rfl (fun hc => ?_) (fun hc => ?_)
      · replace hm := hm.1 hc
        refine r_keep (L' := [some (tR 3 0 (some 30)), some (tR 40 v1n (some v1)), some (tI v2), some (tI v3), some (tI v4)]) [true, true, true, true, true] rfl ?_
        exact s_X3_findSecond_70 hd hk3 hm
      · replace hm := hm.2 hc
        refine r_aload_n dX3_findSecond_31 rfl rfl ?_
        refine r_iload_n dX3_findSecond_32 rfl rfl ?_
        refine r_iload dX3_findSecond_33 rfl ?_
        refine r_aload_n dX3_findSecond_35 rfl rfl ?_
        refine r_iload_n dX3_findSecond_36 rfl rfl ?_
        refine r_iconst (v := 5) dX3_findSecond_37 rfl ?_
        refine r_iadd dX3_findSecond_38 ?_
        refine r_iald dX3_findSecond_39 hm.1 ?_
        replace hm := hm.2
        refine r_callVI (d' := d - 1) (as := [tI v3, tI v4, tI (hI h3 v1 (ix (v2 + 5)))]) (st := []) cl_3 dX3_findSecond_40 mi_X3_isLater t_1090 t_1092 ts_44 rfl rfl (Nat.le_of_ble_eq_true rfl) (by omega) ⟨by decide, by decide⟩ ⟨rfl, rfl⟩ (s_X3_isLater (by omega) hm) (fun x4 h5 hm => ?_)
        refine r_if_eq (tgt := 70) dX3_findSecond_43 rfl (fun hc => ?_) (fun hc => ?_)
        · replace hm := hm.1 hc
          refine r_keep (L' := [some (tR 3 0 (some 30)), some (tR 40 v1n (some v1)), some (tI v2), some (tI v3), some (tI v4)]) [true, true, true, true, true] rfl ?_
          exact s_X3_findSecond_70 hd hk3 hm
        · replace hm := hm.2 hc
          refine r_aload_n dX3_findSecond_46 rfl rfl ?_
          refine r_iload_n dX3_findSecond_47 rfl rfl ?_
          refine r_bipush (v := 8) dX3_findSecond_48 rfl ?_
          refine r_imul dX3_findSecond_50 ?_
          refine r_iload dX3_findSecond_51 rfl ?_
          refine r_bipush (v := 8) dX3_findSecond_53 rfl ?_
          refine r_imul dX3_findSecond_55 ?_
          refine r_aload_n dX3_findSecond_56 rfl rfl ?_
          refine r_iload_n dX3_findSecond_57 rfl rfl ?_
          refine r_iconst (v := 4) dX3_findSecond_58 rfl ?_
          refine r_iadd dX3_findSecond_59 ?_
          refine r_iald dX3_findSecond_60 hm.1 ?_
          replace hm := hm.2
          refine r_callVI (d' := d - 1) (as := [tI (v3 * 8), tI (v4 * 8), tI (hI h5 v1 (ix (v2 + 4)))]) (st := []) cl_3 dX3_findSecond_61 mi_X3_isTied t_1094 t_1096 ts_45 rfl rfl (Nat.le_of_ble_eq_true rfl) (by omega) ⟨by decide, by decide⟩ ⟨rfl, rfl⟩ (s_X3_isTied (by omega) hm) (fun x6 h7 hm => ?_)
          refine r_if_eq (tgt := 70) dX3_findSecond_64 rfl (fun hc => ?_) (fun hc => ?_)
          · replace hm := hm.1 hc
            refine r_keep (L' := [some (tR 3 0 (some 30)), some (tR 40 v1n (some v1)), some (tI v2), some (tI v3), some (tI v4)]) [true, true, true, true, true] rfl ?_
            exact s_X3_findSecond_70 hd hk3 hm
          · replace hm := hm.2 hc
            refine r_iload dX3_findSecond_67 rfl ?_
            exact r_ireturn dX3_findSecond_69 rfl ⟨by decide, by decide⟩ ⟨_, rfl, hm⟩
def m_X3_findSecond (v1 : Nat) (v1n : Nat) (v2 : Int32) (v3 : Int32) (h : Hp) (Q : Int32 → Hp → Prop) : Prop := ∃ n3, m_X3_findSecond_3 n3 Q v1n v1 v2 v3 0 h
set_option maxHeartbeats 4000000 in
set_option maxRecDepth 100000 in
theorem s_X3_findSecond {l : Launch} {G : Cx} {d : Nat} (hd : 4 ≤ d) {v1 : Nat} {v1n : Nat} {v2 : Int32} {v3 : Int32} {h : Hp} {Q : Int32 → Hp → Prop} (hm : m_X3_findSecond v1 v1n v2 v3 h Q) : Ct l G d 0 0 yX3_findSecond MX3_findSecond [tR 3 0 (some 30), tR 40 v1n (some v1), tI v2, tI v3] h (qI Q) := by
  unfold m_X3_findSecond at hm
  refine Ct.of (L := [some (tR 3 0 (some 30)), some (tR 40 v1n (some v1)), some (tI v2), some (tI v3)]) (by decide) rfl rfl (Nat.le_of_ble_eq_true rfl) rfl ?_
  refine r_iconst (v := 0) dX3_findSecond_0 rfl ?_
  refine r_istore (L' := [some (tR 3 0 (some 30)), some (tR 40 v1n (some v1)), some (tI v2), some (tI v3), some (tI 0)]) dX3_findSecond_1 (by decide) rfl ?_
  refine r_keep (L' := [some (tR 3 0 (some 30)), some (tR 40 v1n (some v1)), some (tI v2), some (tI v3), some (tI 0)]) [true, true, true, true, true] rfl ?_
  obtain ⟨n, hm⟩ := hm
  refine s_X3_findSecond_3 hd hm
theorem dX3_findLeaves_0 : decode cX3_findLeaves 0 = .ok (.aload_n 1, 1) := by decide +kernel
theorem dX3_findLeaves_1 : decode cX3_findLeaves 1 = .ok (.iload_n 2, 1) := by decide +kernel
theorem dX3_findLeaves_2 : decode cX3_findLeaves 2 = .ok (.iconst 2, 1) := by decide +kernel
theorem dX3_findLeaves_3 : decode cX3_findLeaves 3 = .ok (.iadd, 1) := by decide +kernel
theorem dX3_findLeaves_4 : decode cX3_findLeaves 4 = .ok (.iaload, 1) := by decide +kernel
theorem dX3_findLeaves_5 : decode cX3_findLeaves 5 = .ok (.iconst (-1), 1) := by decide +kernel
theorem dX3_findLeaves_6 : decode cX3_findLeaves 6 = .ok (.if_icmp .ne 7, 3) := by decide +kernel
theorem dX3_findLeaves_9 : decode cX3_findLeaves 9 = .ok (.iconst 1, 1) := by decide +kernel
theorem dX3_findLeaves_10 : decode cX3_findLeaves 10 = .ok (.goto 4, 3) := by decide +kernel
theorem dX3_findLeaves_13 : decode cX3_findLeaves 13 = .ok (.iconst 0, 1) := by decide +kernel
theorem dX3_findLeaves_14 : decode cX3_findLeaves 14 = .ok (.istore_n 3, 1) := by decide +kernel
theorem dX3_findLeaves_15 : decode cX3_findLeaves 15 = .ok (.iconst 0, 1) := by decide +kernel
theorem dX3_findLeaves_16 : decode cX3_findLeaves 16 = .ok (.istore 4, 2) := by decide +kernel
theorem dX3_findLeaves_18 : decode cX3_findLeaves 18 = .ok (.iload 4, 2) := by decide +kernel
theorem dX3_findLeaves_20 : decode cX3_findLeaves 20 = .ok (.aload_n 0, 1) := by decide +kernel
theorem dX3_findLeaves_21 : decode cX3_findLeaves 21 = .ok (.getfield 18, 3) := by decide +kernel
theorem dX3_findLeaves_24 : decode cX3_findLeaves 24 = .ok (.if_icmp .ge 70, 3) := by decide +kernel
theorem dX3_findLeaves_27 : decode cX3_findLeaves 27 = .ok (.aload_n 0, 1) := by decide +kernel
theorem dX3_findLeaves_28 : decode cX3_findLeaves 28 = .ok (.iload 4, 2) := by decide +kernel
theorem dX3_findLeaves_30 : decode cX3_findLeaves 30 = .ok (.aload_n 1, 1) := by decide +kernel
theorem dX3_findLeaves_31 : decode cX3_findLeaves 31 = .ok (.iload_n 2, 1) := by decide +kernel
theorem dX3_findLeaves_32 : decode cX3_findLeaves 32 = .ok (.iconst 0, 1) := by decide +kernel
theorem dX3_findLeaves_33 : decode cX3_findLeaves 33 = .ok (.iadd, 1) := by decide +kernel
theorem dX3_findLeaves_34 : decode cX3_findLeaves 34 = .ok (.iaload, 1) := by decide +kernel
theorem dX3_findLeaves_35 : decode cX3_findLeaves 35 = .ok (.aload_n 1, 1) := by decide +kernel
theorem dX3_findLeaves_36 : decode cX3_findLeaves 36 = .ok (.iload_n 2, 1) := by decide +kernel
theorem dX3_findLeaves_37 : decode cX3_findLeaves 37 = .ok (.iconst 1, 1) := by decide +kernel
theorem dX3_findLeaves_38 : decode cX3_findLeaves 38 = .ok (.iadd, 1) := by decide +kernel
theorem dX3_findLeaves_39 : decode cX3_findLeaves 39 = .ok (.iaload, 1) := by decide +kernel
theorem dX3_findLeaves_40 : decode cX3_findLeaves 40 = .ok (.invokevirtual 55, 3) := by decide +kernel
theorem dX3_findLeaves_43 : decode cX3_findLeaves 43 = .ok (.ifCond .eq 45, 3) := by decide +kernel
theorem dX3_findLeaves_46 : decode cX3_findLeaves 46 = .ok (.iload_n 3, 1) := by decide +kernel
theorem dX3_findLeaves_47 : decode cX3_findLeaves 47 = .ok (.ifCond .eq 7, 3) := by decide +kernel
theorem dX3_findLeaves_50 : decode cX3_findLeaves 50 = .ok (.iconst (-1), 1) := by decide +kernel
theorem dX3_findLeaves_51 : decode cX3_findLeaves 51 = .ok (.goto 11, 3) := by decide +kernel
theorem dX3_findLeaves_54 : decode cX3_findLeaves 54 = .ok (.aload_n 0, 1) := by decide +kernel
theorem dX3_findLeaves_55 : decode cX3_findLeaves 55 = .ok (.aload_n 1, 1) := by decide +kernel
theorem dX3_findLeaves_56 : decode cX3_findLeaves 56 = .ok (.iload_n 2, 1) := by decide +kernel
theorem dX3_findLeaves_57 : decode cX3_findLeaves 57 = .ok (.iload 4, 2) := by decide +kernel
theorem dX3_findLeaves_59 : decode cX3_findLeaves 59 = .ok (.invokevirtual 59, 3) := by decide +kernel
theorem dX3_findLeaves_62 : decode cX3_findLeaves 62 = .ok (.istore 5, 2) := by decide +kernel
theorem dX3_findLeaves_64 : decode cX3_findLeaves 64 = .ok (.iload_n 3, 1) := by decide +kernel
theorem dX3_findLeaves_65 : decode cX3_findLeaves 65 = .ok (.ifCond .ne 9, 3) := by decide +kernel
theorem dX3_findLeaves_68 : decode cX3_findLeaves 68 = .ok (.iload 5, 2) := by decide +kernel
theorem dX3_findLeaves_70 : decode cX3_findLeaves 70 = .ok (.iconst (-1), 1) := by decide +kernel
theorem dX3_findLeaves_71 : decode cX3_findLeaves 71 = .ok (.if_icmp .eq 17, 3) := by decide +kernel
theorem dX3_findLeaves_74 : decode cX3_findLeaves 74 = .ok (.aload_n 0, 1) := by decide +kernel
theorem dX3_findLeaves_75 : decode cX3_findLeaves 75 = .ok (.iload 4, 2) := by decide +kernel
theorem dX3_findLeaves_77 : decode cX3_findLeaves 77 = .ok (.putfield 63, 3) := by decide +kernel
theorem dX3_findLeaves_80 : decode cX3_findLeaves 80 = .ok (.aload_n 0, 1) := by decide +kernel
theorem dX3_findLeaves_81 : decode cX3_findLeaves 81 = .ok (.iload 5, 2) := by decide +kernel
theorem dX3_findLeaves_83 : decode cX3_findLeaves 83 = .ok (.putfield 66, 3) := by decide +kernel
theorem dX3_findLeaves_86 : decode cX3_findLeaves 86 = .ok (.iconst 1, 1) := by decide +kernel
theorem dX3_findLeaves_87 : decode cX3_findLeaves 87 = .ok (.ireturn, 1) := by decide +kernel
theorem dX3_findLeaves_88 : decode cX3_findLeaves 88 = .ok (.iinc 4 1, 3) := by decide +kernel
theorem dX3_findLeaves_91 : decode cX3_findLeaves 91 = .ok (.goto (-73), 3) := by decide +kernel
theorem dX3_findLeaves_94 : decode cX3_findLeaves 94 = .ok (.iconst 0, 1) := by decide +kernel
theorem dX3_findLeaves_95 : decode cX3_findLeaves 95 = .ok (.ireturn, 1) := by decide +kernel
def m_X3_findLeaves_88 (k18 : Nat → Nat → Int32 → Int32 → Int32 → Hp → Prop) (k74 : Int32 → Int32 → Hp → Prop) (Q : Int32 → Hp → Prop) (v1n : Nat) (v1 : Nat) (v2 : Int32) (v3 : Int32) (v4 : Int32) (h : Hp) : Prop := ∀ x1 : Int32, x1 = v4 + 1 → k18 v1n v1 v2 v3 x1 h
set_option maxHeartbeats 4000000 in
set_option maxRecDepth 100000 in
theorem s_X3_findLeaves_88 {l : Launch} {G : Cx} {d : Nat} {h0 : Hp} (hd : 6 ≤ d) {k18 : Nat → Nat → Int32 → Int32 → Int32 → Hp → Prop} {k74 : Int32 → Int32 → Hp → Prop} {Q : Int32 → Hp → Prop} (hk18 : ∀ (v1n : Nat) (v1 : Nat) (v2 : Int32) (v3 : Int32) (v4 : Int32) (hh : Hp), k18 v1n v1 v2 v3 v4 hh → Rn l G d 0 0 MX3_findLeaves h0 (qI Q) 18 [some (tR 3 0 (some 30)), some (tR 40 v1n (some v1)), some (tI v2), some (tI v3), some (tI v4)] [] hh 0 0) (hk74 : ∀ (v4 : Int32) (v5 : Int32) (hh : Hp), k74 v4 v5 hh → Rn l G d 0 0 MX3_findLeaves h0 (qI Q) 74 [some (tR 3 0 (some 30)), none, none, none, some (tI v4), some (tI v5)] [] hh 0 0) {v1n : Nat} {v1 : Nat} {v2 : Int32} {v3 : Int32} {v4 : Int32} {h : Hp} (hm : m_X3_findLeaves_88 k18 k74 Q v1n v1 v2 v3 v4 h) : Rn l G d 0 0 MX3_findLeaves h0 (qI Q) 88 [some (tR 3 0 (some 30)), some (tR 40 v1n (some v1)), some (tI v2), some (tI v3), some (tI v4)] [] h 0 0 := by
  unfold m_X3_findLeaves_88 at hm
  obtain ⟨x1, e_x1⟩ : ∃ y : Int32, y = v4 + 1 := ⟨_, rfl⟩
  replace hm := hm x1 e_x1
  refine r_iinc (L' := [some (tR 3 0 (some 30)), some (tR 40 v1n (some v1)), some (tI v2), some (tI v3), some (tI x1)]) dX3_findLeaves_88 rfl (by rw [e_x1]; rfl) (by decide) rfl ?_
  refine r_goto (tgt := 18) dX3_findLeaves_91 rfl ?_
  refine r_keep (L' := [some (tR 3 0 (some 30)), some (tR 40 v1n (some v1)), some (tI v2), some (tI v3), some (tI x1)]) [true, true, true, true, true] rfl ?_
  exact hk18 _ _ _ _ _ _ hm
def m_X3_findLeaves_74  (Q : Int32 → Hp → Prop) (v4 : Int32) (v5 : Int32) (h : Hp) : Prop := Q 1 (wI (wI h 30 3 v4) 30 4 v5)
set_option maxHeartbeats 4000000 in
set_option maxRecDepth 100000 in
theorem s_X3_findLeaves_74 {l : Launch} {G : Cx} {d : Nat} {h0 : Hp} (hd : 6 ≤ d) {Q : Int32 → Hp → Prop} {v4 : Int32} {v5 : Int32} {h : Hp} (hm : m_X3_findLeaves_74 Q v4 v5 h) : Rn l G d 0 0 MX3_findLeaves h0 (qI Q) 74 [some (tR 3 0 (some 30)), none, none, none, some (tI v4), some (tI v5)] [] h 0 0 := by
  unfold m_X3_findLeaves_74 at hm
  refine r_aload_n dX3_findLeaves_74 rfl rfl ?_
  refine r_iload dX3_findLeaves_75 rfl ?_
  refine r_putI0 (k := 3) cl_3 dX3_findLeaves_77 t_243 (Or.inl rfl) gf_3_3 pf_3_3.1 (Or.inl pf_3_3.2) ?_
  refine r_aload_n dX3_findLeaves_80 rfl rfl ?_
  refine r_iload dX3_findLeaves_81 rfl ?_
  refine r_putI0 (k := 4) cl_3 dX3_findLeaves_83 t_245 (Or.inl rfl) gf_3_4 pf_3_4.1 (Or.inl pf_3_4.2) ?_
  refine r_iconst (v := 1) dX3_findLeaves_86 rfl ?_
  exact r_bret dX3_findLeaves_87 rfl ⟨by decide, by decide⟩ (by unfold bz; decide) ⟨_, rfl, hm⟩
def m_X3_findLeaves_62 (k18 : Nat → Nat → Int32 → Int32 → Int32 → Hp → Prop) (k74 : Int32 → Int32 → Hp → Prop) (Q : Int32 → Hp → Prop) (v1n : Nat) (v1 : Nat) (v2 : Int32) (v3 : Int32) (v4 : Int32) (s0 : Int32) (h : Hp) : Prop := (¬ v3 = 0 → k74 v4 s0 h) ∧ (v3 = 0 → (s0 = (-1) → m_X3_findLeaves_88 k18 k74 Q v1n v1 v2 v3 v4 h) ∧ (¬ s0 = (-1) → k74 v4 s0 h))
set_option maxHeartbeats 4000000 in
set_option maxRecDepth 100000 in
theorem s_X3_findLeaves_62 {l : Launch} {G : Cx} {d : Nat} {h0 : Hp} (hd : 6 ≤ d) {k18 : Nat → Nat → Int32 → Int32 → Int32 → Hp → Prop} {k74 : Int32 → Int32 → Hp → Prop} {Q : Int32 → Hp → Prop} (hk18 : ∀ (v1n : Nat) (v1 : Nat) (v2 : Int32) (v3 : Int32) (v4 : Int32) (hh : Hp), k18 v1n v1 v2 v3 v4 hh → Rn l G d 0 0 MX3_findLeaves h0 (qI Q) 18 [some (tR 3 0 (some 30)), some (tR 40 v1n (some v1)), some (tI v2), some (tI v3), some (tI v4)] [] hh 0 0) (hk74 : ∀ (v4 : Int32) (v5 : Int32) (hh : Hp), k74 v4 v5 hh → Rn l G d 0 0 MX3_findLeaves h0 (qI Q) 74 [some (tR 3 0 (some 30)), none, none, none, some (tI v4), some (tI v5)] [] hh 0 0) {v1n : Nat} {v1 : Nat} {v2 : Int32} {v3 : Int32} {v4 : Int32} {s0 : Int32} {h : Hp} (hm : m_X3_findLeaves_62 k18 k74 Q v1n v1 v2 v3 v4 s0 h) : Rn l G d 0 0 MX3_findLeaves h0 (qI Q) 62 [some (tR 3 0 (some 30)), some (tR 40 v1n (some v1)), some (tI v2), some (tI v3), some (tI v4)] [tI s0] h 0 0 := by
  unfold m_X3_findLeaves_62 at hm
  refine r_istore (L' := [some (tR 3 0 (some 30)), some (tR 40 v1n (some v1)), some (tI v2), some (tI v3), some (tI v4), some (tI s0)]) dX3_findLeaves_62 (by decide) rfl ?_
  refine r_iload_n dX3_findLeaves_64 rfl rfl ?_
  refine r_if_ne (tgt := 74) dX3_findLeaves_65 rfl (fun hc => ?_) (fun hc => ?_)
  · replace hm := hm.1 hc
    refine r_keep (L' := [some (tR 3 0 (some 30)), none, none, none, some (tI v4), some (tI s0)]) [true, false, false, false, true, true] rfl ?_
    exact hk74 _ _ _ hm
  · replace hm := hm.2 hc
    refine r_iload dX3_findLeaves_68 rfl ?_
    refine r_iconst (v := (-1)) dX3_findLeaves_70 rfl ?_
    refine r_icmp_eq (tgt := 88) dX3_findLeaves_71 rfl (fun hc => ?_) (fun hc => ?_)
    · replace hm := hm.1 hc
      refine r_keep (L' := [some (tR 3 0 (some 30)), some (tR 40 v1n (some v1)), some (tI v2), some (tI v3), some (tI v4)]) [true, true, true, true, true] rfl ?_
      exact s_X3_findLeaves_88 hd hk18 hk74 hm
    · replace hm := hm.2 hc
      refine r_keep (L' := [some (tR 3 0 (some 30)), none, none, none, some (tI v4), some (tI s0)]) [true, false, false, false, true, true] rfl ?_
      exact hk74 _ _ _ hm
def m_X3_findLeaves_18 : Nat → (Int32 → Int32 → Hp → Prop) → (Int32 → Hp → Prop) → Nat → Nat → Int32 → Int32 → Int32 → Hp → Prop
  | 0, _, _, _, _, _, _, _, _ => False
  | n + 1, k74, Q, v1n, v1, v2, v3, v4, h => ((hI h 30 2) ≤ v4 → Q 0 h) ∧ (¬ (hI h 30 2) ≤ v4 → vp_in (v2 + 0) v1n ∧ (vp_in (v2 + 1) v1n ∧ (m_X3_isOf v4 (hI h v1 (ix (v2 + 0))) (hI h v1 (ix (v2 + 1))) h (fun (x2 : Int32) (h3 : Hp) => (x2 = 0 → m_X3_findLeaves_88 (fun (v1n : Nat) (v1 : Nat) (v2 : Int32) (v3 : Int32) (v4 : Int32) (hh : Hp) => m_X3_findLeaves_18 n k74 Q v1n v1 v2 v3 v4 hh) k74 Q v1n v1 v2 v3 v4 h3) ∧ (¬ x2 = 0 → (v3 = 0 → m_X3_findSecond v1 v1n v2 v4 h3 (fun (x4 : Int32) (h5 : Hp) => m_X3_findLeaves_62 (fun (v1n : Nat) (v1 : Nat) (v2 : Int32) (v3 : Int32) (v4 : Int32) (hh : Hp) => m_X3_findLeaves_18 n k74 Q v1n v1 v2 v3 v4 hh) k74 Q v1n v1 v2 v3 v4 x4 h5)) ∧ (¬ v3 = 0 → m_X3_findLeaves_62 (fun (v1n : Nat) (v1 : Nat) (v2 : Int32) (v3 : Int32) (v4 : Int32) (hh : Hp) => m_X3_findLeaves_18 n k74 Q v1n v1 v2 v3 v4 hh) k74 Q v1n v1 v2 v3 v4 (-1) h3))))))
set_option maxHeartbeats 4000000 in
set_option maxRecDepth 100000 in
theorem s_X3_findLeaves_18 {l : Launch} {G : Cx} {d : Nat} {h0 : Hp} (hd : 6 ≤ d) {k74 : Int32 → Int32 → Hp → Prop} {Q : Int32 → Hp → Prop} (hk74 : ∀ (v4 : Int32) (v5 : Int32) (hh : Hp), k74 v4 v5 hh → Rn l G d 0 0 MX3_findLeaves h0 (qI Q) 74 [some (tR 3 0 (some 30)), none, none, none, some (tI v4), some (tI v5)] [] hh 0 0) : ∀ {n : Nat} {v1n : Nat} {v1 : Nat} {v2 : Int32} {v3 : Int32} {v4 : Int32} {h : Hp}, m_X3_findLeaves_18 n k74 Q v1n v1 v2 v3 v4 h → Rn l G d 0 0 MX3_findLeaves h0 (qI Q) 18 [some (tR 3 0 (some 30)), some (tR 40 v1n (some v1)), some (tI v2), some (tI v3), some (tI v4)] [] h 0 0 := by
  intro n
  induction n with
  | zero => intro v1n v1 v2 v3 v4 h hm; exact hm.elim
  | succ n ih =>
    intro v1n v1 v2 v3 v4 h hm
    have hk18 := fun (v1n : Nat) (v1 : Nat) (v2 : Int32) (v3 : Int32) (v4 : Int32) (hh : Hp) (hm : m_X3_findLeaves_18 n k74 Q v1n v1 v2 v3 v4 hh) => ih hm
    rw [m_X3_findLeaves_18] at hm
    refine r_iload dX3_findLeaves_18 rfl ?_
    refine r_aload_n dX3_findLeaves_20 rfl rfl ?_
    refine r_getI (k := 2) cl_3 dX3_findLeaves_21 t_242 (Or.inl rfl) gf_3_2 ?_
    refine r_icmp_ge (tgt := 94) dX3_findLeaves_24 rfl (fun hc => ?_) (fun hc => ?_)
    · replace hm := hm.1 hc
      refine r_iconst (v := 0) dX3_findLeaves_94 rfl ?_
      exact r_bret dX3_findLeaves_95 rfl ⟨by decide, by decide⟩ (by unfold bz; decide) ⟨_, rfl, hm⟩
    · replace hm := hm.2 hc
      refine r_aload_n dX3_findLeaves_27 rfl rfl ?_
      refine r_iload dX3_findLeaves_28 rfl ?_
      refine r_aload_n dX3_findLeaves_30 rfl rfl ?_
      refine r_iload_n dX3_findLeaves_31 rfl rfl ?_
      refine r_iconst (v := 0) dX3_findLeaves_32 rfl ?_
      refine r_iadd dX3_findLeaves_33 ?_
      refine r_iald dX3_findLeaves_34 hm.1 ?_
      replace hm := hm.2
      refine r_aload_n dX3_findLeaves_35 rfl rfl ?_
      refine r_iload_n dX3_findLeaves_36 rfl rfl ?_
      refine r_iconst (v := 1) dX3_findLeaves_37 rfl ?_
      refine r_iadd dX3_findLeaves_38 ?_
      refine r_iald dX3_findLeaves_39 hm.1 ?_
      replace hm := hm.2
      refine r_callVI (d' := d - 1) (as := [tI v4, tI (hI h v1 (ix (v2 + 0))), tI (hI h v1 (ix (v2 + 1)))]) (st := []) cl_3 dX3_findLeaves_40 mi_X3_isOf t_1082 t_1084 ts_42 rfl rfl (Nat.le_of_ble_eq_true rfl) (by omega) ⟨by decide, by decide⟩ ⟨rfl, rfl⟩ (s_X3_isOf (by omega) hm) (fun x2 h3 hm => ?_)
      refine r_if_eq (tgt := 88) dX3_findLeaves_43 rfl (fun hc => ?_) (fun hc => ?_)
      · replace hm := hm.1 hc
        refine r_keep (L' := [some (tR 3 0 (some 30)), some (tR 40 v1n (some v1)), some (tI v2), some (tI v3), some (tI v4)]) [true, true, true, true, true] rfl ?_
        exact s_X3_findLeaves_88 hd hk18 hk74 hm
      · replace hm := hm.2 hc
        refine r_iload_n dX3_findLeaves_46 rfl rfl ?_
        refine r_if_eq (tgt := 54) dX3_findLeaves_47 rfl (fun hc => ?_) (fun hc => ?_)
        · replace hm := hm.1 hc
          refine r_aload_n dX3_findLeaves_54 rfl rfl ?_
          refine r_aload_n dX3_findLeaves_55 rfl rfl ?_
          refine r_iload_n dX3_findLeaves_56 rfl rfl ?_
          refine r_iload dX3_findLeaves_57 rfl ?_
          refine r_callVI (d' := d - 1) (as := [tR 40 v1n (some v1), tI v2, tI v4]) (st := []) cl_3 dX3_findLeaves_59 mi_X3_findSecond t_1086 t_1088 ts_43 rfl rfl (Nat.le_of_ble_eq_true rfl) (by omega) ⟨by decide, by decide⟩ ⟨rfl, rfl⟩ (s_X3_findSecond (by omega) hm) (fun x4 h5 hm => ?_)
          refine r_keep (L' := [some (tR 3 0 (some 30)), some (tR 40 v1n (some v1)), some (tI v2), some (tI v3), some (tI v4)]) [true, true, true, true, true] rfl ?_
          exact s_X3_findLeaves_62 hd hk18 hk74 hm
        · replace hm := hm.2 hc
          refine r_iconst (v := (-1)) dX3_findLeaves_50 rfl ?_
          refine r_goto (tgt := 62) dX3_findLeaves_51 rfl ?_
          refine r_keep (L' := [some (tR 3 0 (some 30)), some (tR 40 v1n (some v1)), some (tI v2), some (tI v3), some (tI v4)]) [true, true, true, true, true] rfl ?_
          exact s_X3_findLeaves_62 hd hk18 hk74 hm
def m_X3_findLeaves_14  (Q : Int32 → Hp → Prop) (v1n : Nat) (v1 : Nat) (v2 : Int32) (s0 : Int32) (h : Hp) : Prop := ∃ n18, m_X3_findLeaves_18 n18 (m_X3_findLeaves_74 Q) Q v1n v1 v2 s0 0 h
set_option maxHeartbeats 4000000 in
set_option maxRecDepth 100000 in
theorem s_X3_findLeaves_14 {l : Launch} {G : Cx} {d : Nat} {h0 : Hp} (hd : 6 ≤ d) {Q : Int32 → Hp → Prop} {v1n : Nat} {v1 : Nat} {v2 : Int32} {s0 : Int32} {h : Hp} (hm : m_X3_findLeaves_14 Q v1n v1 v2 s0 h) : Rn l G d 0 0 MX3_findLeaves h0 (qI Q) 14 [some (tR 3 0 (some 30)), some (tR 40 v1n (some v1)), some (tI v2)] [tI s0] h 0 0 := by
  unfold m_X3_findLeaves_14 at hm
  refine r_istore_n (L' := [some (tR 3 0 (some 30)), some (tR 40 v1n (some v1)), some (tI v2), some (tI s0)]) dX3_findLeaves_14 rfl (by decide) rfl ?_
  refine r_iconst (v := 0) dX3_findLeaves_15 rfl ?_
  refine r_istore (L' := [some (tR 3 0 (some 30)), some (tR 40 v1n (some v1)), some (tI v2), some (tI s0), some (tI 0)]) dX3_findLeaves_16 (by decide) rfl ?_
  refine r_keep (L' := [some (tR 3 0 (some 30)), some (tR 40 v1n (some v1)), some (tI v2), some (tI s0), some (tI 0)]) [true, true, true, true, true] rfl ?_
  obtain ⟨n, hm⟩ := hm
  refine s_X3_findLeaves_18 hd ?_ hm
  · exact (fun _ _ _ hm => s_X3_findLeaves_74 hd hm)
def m_X3_findLeaves (v1 : Nat) (v1n : Nat) (v2 : Int32) (h : Hp) (Q : Int32 → Hp → Prop) : Prop := vp_in (v2 + 2) v1n ∧ ((¬ (hI h v1 (ix (v2 + 2))) = (-1) → m_X3_findLeaves_14 Q v1n v1 v2 0 h) ∧ ((hI h v1 (ix (v2 + 2))) = (-1) → m_X3_findLeaves_14 Q v1n v1 v2 1 h))
set_option maxHeartbeats 4000000 in
set_option maxRecDepth 100000 in
theorem s_X3_findLeaves {l : Launch} {G : Cx} {d : Nat} (hd : 6 ≤ d) {v1 : Nat} {v1n : Nat} {v2 : Int32} {h : Hp} {Q : Int32 → Hp → Prop} (hm : m_X3_findLeaves v1 v1n v2 h Q) : Ct l G d 0 0 yX3_findLeaves MX3_findLeaves [tR 3 0 (some 30), tR 40 v1n (some v1), tI v2] h (qI Q) := by
  unfold m_X3_findLeaves at hm
  refine Ct.of (L := [some (tR 3 0 (some 30)), some (tR 40 v1n (some v1)), some (tI v2)]) (by decide) rfl rfl (Nat.le_of_ble_eq_true rfl) rfl ?_
  refine r_aload_n dX3_findLeaves_0 rfl rfl ?_
  refine r_iload_n dX3_findLeaves_1 rfl rfl ?_
  refine r_iconst (v := 2) dX3_findLeaves_2 rfl ?_
  refine r_iadd dX3_findLeaves_3 ?_
  refine r_iald dX3_findLeaves_4 hm.1 ?_
  replace hm := hm.2
  refine r_iconst (v := (-1)) dX3_findLeaves_5 rfl ?_
  refine r_icmp_ne (tgt := 13) dX3_findLeaves_6 rfl (fun hc => ?_) (fun hc => ?_)
  · replace hm := hm.1 hc
    refine r_iconst (v := 0) dX3_findLeaves_13 rfl ?_
    refine r_keep (L' := [some (tR 3 0 (some 30)), some (tR 40 v1n (some v1)), some (tI v2)]) [true, true, true] rfl ?_
    exact s_X3_findLeaves_14 hd hm
  · replace hm := hm.2 hc
    refine r_iconst (v := 1) dX3_findLeaves_9 rfl ?_
    refine r_goto (tgt := 14) dX3_findLeaves_10 rfl ?_
    refine r_keep (L' := [some (tR 3 0 (some 30)), some (tR 40 v1n (some v1)), some (tI v2)]) [true, true, true] rfl ?_
    exact s_X3_findLeaves_14 hd hm
theorem dX3_firstThatBars_0 : decode cX3_firstThatBars 0 = .ok (.iconst 0, 1) := rfl
theorem dX3_firstThatBars_1 : decode cX3_firstThatBars 1 = .ok (.istore_n 2, 1) := rfl
theorem dX3_firstThatBars_2 : decode cX3_firstThatBars 2 = .ok (.iload_n 2, 1) := rfl
theorem dX3_firstThatBars_3 : decode cX3_firstThatBars 3 = .ok (.aload_n 1, 1) := rfl
theorem dX3_firstThatBars_4 : decode cX3_firstThatBars 4 = .ok (.getfield 45, 3) := rfl
theorem dX3_firstThatBars_7 : decode cX3_firstThatBars 7 = .ok (.if_icmp .ge 26, 3) := by decide +kernel
theorem dX3_firstThatBars_10 : decode cX3_firstThatBars 10 = .ok (.aload_n 0, 1) := rfl
theorem dX3_firstThatBars_11 : decode cX3_firstThatBars 11 = .ok (.aload_n 1, 1) := rfl
theorem dX3_firstThatBars_12 : decode cX3_firstThatBars 12 = .ok (.getfield 48, 3) := rfl
theorem dX3_firstThatBars_15 : decode cX3_firstThatBars 15 = .ok (.iload_n 2, 1) := rfl
theorem dX3_firstThatBars_16 : decode cX3_firstThatBars 16 = .ok (.bipush 6, 2) := by decide +kernel
theorem dX3_firstThatBars_18 : decode cX3_firstThatBars 18 = .ok (.imul, 1) := rfl
theorem dX3_firstThatBars_19 : decode cX3_firstThatBars 19 = .ok (.invokevirtual 51, 3) := rfl
theorem dX3_firstThatBars_22 : decode cX3_firstThatBars 22 = .ok (.ifCond .eq 5, 3) := by decide +kernel
theorem dX3_firstThatBars_25 : decode cX3_firstThatBars 25 = .ok (.iload_n 2, 1) := rfl
theorem dX3_firstThatBars_26 : decode cX3_firstThatBars 26 = .ok (.ireturn, 1) := rfl
theorem dX3_firstThatBars_27 : decode cX3_firstThatBars 27 = .ok (.iinc 2 1, 3) := by decide +kernel
theorem dX3_firstThatBars_30 : decode cX3_firstThatBars 30 = .ok (.goto (-28), 3) := by decide +kernel
theorem dX3_firstThatBars_33 : decode cX3_firstThatBars 33 = .ok (.iconst (-1), 1) := rfl
theorem dX3_firstThatBars_34 : decode cX3_firstThatBars 34 = .ok (.ireturn, 1) := rfl
def m_X3_firstThatBars_2 : Nat → (Int32 → Hp → Prop) → Nat → Int32 → Hp → Prop
  | 0, _, _, _, _ => False
  | n + 1, Q, v1, v2, h => ((hI h v1 1) ≤ v2 → Q (-1) h) ∧ (¬ (hI h v1 1) ≤ v2 → m_X3_findLeaves (v1 + 1) 96 (v2 * 6) h (fun (x1 : Int32) (h2 : Hp) => (x1 = 0 → ∀ x3 : Int32, x3 = v2 + 1 → m_X3_firstThatBars_2 n Q v1 x3 h2) ∧ (¬ x1 = 0 → Q v2 h2)))
set_option maxHeartbeats 4000000 in
set_option maxRecDepth 100000 in
theorem s_X3_firstThatBars_2 {l : Launch} {G : Cx} {d : Nat} {h0 : Hp} (hd : 8 ≤ d) {Q : Int32 → Hp → Prop} : ∀ {n : Nat} {v1 : Nat} {v2 : Int32} {h : Hp}, m_X3_firstThatBars_2 n Q v1 v2 h → Rn l G d 0 0 MX3_firstThatBars h0 (qI Q) 2 [some (tR 3 0 (some 30)), some (tR 6 0 (some v1)), some (tI v2)] [] h 0 0 := by
  intro n
  induction n with
  | zero => intro v1 v2 h hm; exact hm.elim
  | succ n ih =>
    intro v1 v2 h hm
    have hk2 := fun (v1 : Nat) (v2 : Int32) (hh : Hp) (hm : m_X3_firstThatBars_2 n Q v1 v2 hh) => ih hm
    rw [m_X3_firstThatBars_2] at hm
    refine r_iload_n dX3_firstThatBars_2 rfl rfl ?_
    refine r_aload_n dX3_firstThatBars_3 rfl rfl ?_
    refine r_getI (k := 1) cl_6 dX3_firstThatBars_4 t_775 (Or.inl rfl) gf_6_1 ?_
    refine r_icmp_ge (tgt := 33) dX3_firstThatBars_7 rfl (fun hc => ?_) (fun hc => ?_)
    · replace hm := hm.1 hc
      refine r_iconst (v := (-1)) dX3_firstThatBars_33 rfl ?_
      exact r_ireturn dX3_firstThatBars_34 rfl ⟨by decide, by decide⟩ ⟨_, rfl, hm⟩
    · replace hm := hm.2 hc
      refine r_aload_n dX3_firstThatBars_10 rfl rfl ?_
      refine r_aload_n dX3_firstThatBars_11 rfl rfl ?_
      refine r_getC (k := 0) cl_6 dX3_firstThatBars_12 t_773 gf_6_0.1 gf_6_0.2 (gc_6_0 _) ?_
      refine r_iload_n dX3_firstThatBars_15 rfl rfl ?_
      refine r_bipush (v := 6) dX3_firstThatBars_16 rfl ?_
      refine r_imul dX3_firstThatBars_18 ?_
      refine r_callVI (d' := d - 1) (as := [tR 40 96 (some (v1 + 1)), tI (v2 * 6)]) (st := []) cl_3 dX3_firstThatBars_19 mi_X3_findLeaves t_1078 t_1080 ts_41 rfl rfl (Nat.le_of_ble_eq_true rfl) (by omega) ⟨by decide, by decide⟩ ⟨rfl, rfl⟩ (s_X3_findLeaves (by omega) hm) (fun x1 h2 hm => ?_)
      refine r_if_eq (tgt := 27) dX3_firstThatBars_22 rfl (fun hc => ?_) (fun hc => ?_)
      · replace hm := hm.1 hc
        obtain ⟨x3, e_x3⟩ : ∃ y : Int32, y = v2 + 1 := ⟨_, rfl⟩
        replace hm := hm x3 e_x3
        refine r_iinc (L' := [some (tR 3 0 (some 30)), some (tR 6 0 (some v1)), some (tI x3)]) dX3_firstThatBars_27 rfl (by rw [e_x3]; rfl) (by decide) rfl ?_
        refine r_goto (tgt := 2) dX3_firstThatBars_30 rfl ?_
        refine r_keep (L' := [some (tR 3 0 (some 30)), some (tR 6 0 (some v1)), some (tI x3)]) [true, true, true] rfl ?_
        exact hk2 _ _ _ hm
      · replace hm := hm.2 hc
        refine r_iload_n dX3_firstThatBars_25 rfl rfl ?_
        exact r_ireturn dX3_firstThatBars_26 rfl ⟨by decide, by decide⟩ ⟨_, rfl, hm⟩
def m_X3_firstThatBars (v1 : Nat) (h : Hp) (Q : Int32 → Hp → Prop) : Prop := ∃ n2, m_X3_firstThatBars_2 n2 Q v1 0 h
set_option maxHeartbeats 4000000 in
set_option maxRecDepth 100000 in
theorem s_X3_firstThatBars {l : Launch} {G : Cx} {d : Nat} (hd : 8 ≤ d) {v1 : Nat} {h : Hp} {Q : Int32 → Hp → Prop} (hm : m_X3_firstThatBars v1 h Q) : Ct l G d 0 0 yX3_firstThatBars MX3_firstThatBars [tR 3 0 (some 30), tR 6 0 (some v1)] h (qI Q) := by
  unfold m_X3_firstThatBars at hm
  refine Ct.of (L := [some (tR 3 0 (some 30)), some (tR 6 0 (some v1))]) (by decide) rfl rfl (Nat.le_of_ble_eq_true rfl) rfl ?_
  refine r_iconst (v := 0) dX3_firstThatBars_0 rfl ?_
  refine r_istore_n (L' := [some (tR 3 0 (some 30)), some (tR 6 0 (some v1)), some (tI 0)]) dX3_firstThatBars_1 rfl (by decide) rfl ?_
  refine r_keep (L' := [some (tR 3 0 (some 30)), some (tR 6 0 (some v1)), some (tI 0)]) [true, true, true] rfl ?_
  obtain ⟨n, hm⟩ := hm
  refine s_X3_firstThatBars_2 hd hm
theorem dX4_init_0 : decode cX4_init 0 = .ok (.aload_n 0, 1) := rfl
theorem dX4_init_1 : decode cX4_init 1 = .ok (.invokespecial 3, 3) := rfl
theorem dX4_init_4 : decode cX4_init 4 = .ok (.aload_n 0, 1) := rfl
theorem dX4_init_5 : decode cX4_init 5 = .ok (.bipush 72, 2) := by decide +kernel
theorem dX4_init_7 : decode cX4_init 7 = .ok (.newarray .int, 2) := rfl
theorem dX4_init_9 : decode cX4_init 9 = .ok (.putfield 9, 3) := rfl
theorem dX4_init_12 : decode cX4_init 12 = .ok (.aload_n 0, 1) := rfl
theorem dX4_init_13 : decode cX4_init 13 = .ok (.bipush 72, 2) := by decide +kernel
theorem dX4_init_15 : decode cX4_init 15 = .ok (.newarray .int, 2) := rfl
theorem dX4_init_17 : decode cX4_init 17 = .ok (.putfield 15, 3) := rfl
theorem dX4_init_20 : decode cX4_init 20 = .ok (.aload_n 0, 1) := rfl
theorem dX4_init_21 : decode cX4_init 21 = .ok (.bipush 72, 2) := by decide +kernel
theorem dX4_init_23 : decode cX4_init 23 = .ok (.newarray .long, 2) := rfl
theorem dX4_init_25 : decode cX4_init 25 = .ok (.putfield 18, 3) := rfl
theorem dX4_init_28 : decode cX4_init 28 = .ok (.aload_n 0, 1) := rfl
theorem dX4_init_29 : decode cX4_init 29 = .ok (.bipush 24, 2) := by decide +kernel
theorem dX4_init_31 : decode cX4_init 31 = .ok (.newarray .int, 2) := rfl
theorem dX4_init_33 : decode cX4_init 33 = .ok (.putfield 22, 3) := rfl
theorem dX4_init_36 : decode cX4_init 36 = .ok (.aload_n 0, 1) := rfl
theorem dX4_init_37 : decode cX4_init 37 = .ok (.new 25, 3) := rfl
theorem dX4_init_40 : decode cX4_init 40 = .ok (.dup, 1) := rfl
theorem dX4_init_41 : decode cX4_init 41 = .ok (.invokespecial 27, 3) := rfl
theorem dX4_init_44 : decode cX4_init 44 = .ok (.putfield 28, 3) := rfl
theorem dX4_init_47 : decode cX4_init 47 = .ok (.aload_n 0, 1) := rfl
theorem dX4_init_48 : decode cX4_init 48 = .ok (.bipush 24, 2) := by decide +kernel
theorem dX4_init_50 : decode cX4_init 50 = .ok (.newarray .int, 2) := rfl
theorem dX4_init_52 : decode cX4_init 52 = .ok (.putfield 32, 3) := rfl
theorem dX4_init_55 : decode cX4_init 55 = .ok (.return_, 1) := rfl
def m_X4_init (v0 : Nat) (h : Hp) (Q : Hp → Prop) : Prop := ∀ a1 : Nat, a1 = hN h → ∀ h2 : Hp, h2 = nw h (40, 72) → ∀ a3 : Nat, a3 = hN (wR h2 v0 0 (some a1)) → ∀ h4 : Hp, h4 = nw (wR h2 v0 0 (some a1)) (40, 72) → ∀ a5 : Nat, a5 = hN (wR h4 v0 1 (some a3)) → ∀ h6 : Hp, h6 = nw (wR h4 v0 1 (some a3)) (43, 72) → ∀ a7 : Nat, a7 = hN (wR h6 v0 2 (some a5)) → ∀ h8 : Hp, h8 = nw (wR h6 v0 2 (some a5)) (40, 24) → ∀ a9 : Nat, a9 = hN (wR h8 v0 4 (some a7)) → ∀ h10 : Hp, h10 = nw (wR h8 v0 4 (some a7)) (20, 0) → m_X0_init a9 h10 (fun h12 => hN h ≤ a9 ∧ sealOK h12 a9 0 ∧ ∀ h13 : Hp, h13 = wT h12 a9 (0, 0) → ∀ a14 : Nat, a14 = hN (wR h13 v0 5 (some a9)) → ∀ h15 : Hp, h15 = nw (wR h13 v0 5 (some a9)) (40, 24) → Q (wR h15 v0 6 (some a14)))
set_option maxHeartbeats 4000000 in
set_option maxRecDepth 100000 in
theorem s_X4_init {l : Launch} {G : Cx} {d : Nat} (hd : 4 ≤ d) {v0 : Nat} {h : Hp} {Q : Hp → Prop} (hm : m_X4_init v0 h Q) : Ct l G d 7 272 yX4_init MX4_init [tR 24 0 (some v0)] h (qV Q) := by
  unfold m_X4_init at hm
  refine Ct.of (L := [some (tR 24 0 (some v0))]) (by decide) rfl rfl (Nat.le_of_ble_eq_true rfl) rfl ?_
  refine r_aload_n dX4_init_0 rfl rfl ?_
  refine r_objInit dX4_init_1 t_319 t_29 t_30 (by omega) (Nat.le_of_ble_eq_true rfl) ?_
  refine r_aload_n dX4_init_4 rfl rfl ?_
  refine r_bipush (v := 72) dX4_init_5 rfl ?_
  refine r_newI (N := 72) dX4_init_7 t_61 (by decide) rfl (by decide) ⟨by decide, by decide⟩ ?_
  refine r_nmA (fun a1 e_a1 h2 e_h2 => ?_)
  replace hm := hm a1 e_a1 h2 e_h2
  refine r_putR0 (k := 0) cl_4 dX4_init_9 t_322 (Or.inr rfl) gf_4_0.1 gf_4_0.2 (fun z => absurd z (by decide)) pf_4_0.1 (Or.inr ⟨pf_4_0.2, rfl, rfl⟩) ?_
  refine r_aload_n dX4_init_12 rfl rfl ?_
  refine r_bipush (v := 72) dX4_init_13 rfl ?_
  refine r_newI (N := 72) dX4_init_15 t_61 (by decide) rfl (by decide) ⟨by decide, by decide⟩ ?_
  refine r_nmA (fun a3 e_a3 h4 e_h4 => ?_)
  replace hm := hm a3 e_a3 h4 e_h4
  refine r_putR0 (k := 1) cl_4 dX4_init_17 t_323 (Or.inr rfl) gf_4_1.1 gf_4_1.2 (fun z => absurd z (by decide)) pf_4_1.1 (Or.inr ⟨pf_4_1.2, rfl, rfl⟩) ?_
  refine r_aload_n dX4_init_20 rfl rfl ?_
  refine r_bipush (v := 72) dX4_init_21 rfl ?_
  refine r_newJ (N := 72) dX4_init_23 t_206 (by decide) rfl (by decide) ⟨by decide, by decide⟩ ?_
  refine r_nmA (fun a5 e_a5 h6 e_h6 => ?_)
  replace hm := hm a5 e_a5 h6 e_h6
  refine r_putR0 (k := 2) cl_4 dX4_init_25 t_324 (Or.inr rfl) gf_4_2.1 gf_4_2.2 (fun z => absurd z (by decide)) pf_4_2.1 (Or.inr ⟨pf_4_2.2, rfl, rfl⟩) ?_
  refine r_aload_n dX4_init_28 rfl rfl ?_
  refine r_bipush (v := 24) dX4_init_29 rfl ?_
  refine r_newI (N := 24) dX4_init_31 t_61 (by decide) rfl (by decide) ⟨by decide, by decide⟩ ?_
  refine r_nmA (fun a7 e_a7 h8 e_h8 => ?_)
  replace hm := hm a7 e_a7 h8 e_h8
  refine r_putR0 (k := 4) cl_4 dX4_init_33 t_326 (Or.inr rfl) gf_4_4.1 gf_4_4.2 (fun z => absurd z (by decide)) pf_4_4.1 (Or.inr ⟨pf_4_4.2, rfl, rfl⟩) ?_
  refine r_aload_n dX4_init_36 rfl rfl ?_
  refine r_new cl_0 dX4_init_37 t_320 (N := 2) rfl t_115 t_5 ⟨by decide, by decide⟩ ?_
  refine r_nmA (fun a9 e_a9 h10 e_h10 => ?_)
  replace hm := hm a9 e_a9 h10 e_h10
  refine r_dup dX4_init_40 cv_cat1R ?_
  refine r_callINU (d' := d - 1) (ci := 0) (host := RX11) (as := []) (st := [tR 20 0 (some a9), tR 24 0 (some v0)]) (mc' := 1) (ms' := 6) dX4_init_41 mi_X0_init rfl (by decide) t_117 rfl rfl rfl (Nat.le_of_ble_eq_true rfl) (by omega) ⟨by decide, by decide⟩ ⟨rfl, rfl⟩ (s_X0_init (by omega) hm) (fun h12 hm => ?_)
  obtain ⟨hz, hs, hm⟩ := hm
  refine r_seal (by decide) hz hs (by simp [noK]) (by simp [noK]) ?_
  refine r_nmH (fun h13 e_h13 => ?_)
  replace hm := hm h13 e_h13
  refine r_putR0 (k := 5) cl_4 dX4_init_44 t_328 (Or.inr rfl) gf_4_5.1 gf_4_5.2 (fun z => absurd z (by decide)) pf_4_5.1 (Or.inr ⟨pf_4_5.2, rfl, rfl⟩) ?_
  refine r_aload_n dX4_init_47 rfl rfl ?_
  refine r_bipush (v := 24) dX4_init_48 rfl ?_
  refine r_newI (N := 24) dX4_init_50 t_61 (by decide) rfl (by decide) ⟨by decide, by decide⟩ ?_
  refine r_nmA (fun a14 e_a14 h15 e_h15 => ?_)
  replace hm := hm a14 e_a14 h15 e_h15
  refine r_putR0 (k := 6) cl_4 dX4_init_52 t_330 (Or.inr rfl) gf_4_6.1 gf_4_6.2 (fun z => absurd z (by decide)) pf_4_6.1 (Or.inr ⟨pf_4_6.2, rfl, rfl⟩) ?_
  exact r_return dX4_init_55 rfl ⟨by decide, by decide⟩ ⟨rfl, hm⟩
theorem dX4_giveSlots_0 : decode cX4_giveSlots 0 = .ok (.iconst 0, 1) := by decide +kernel
theorem dX4_giveSlots_1 : decode cX4_giveSlots 1 = .ok (.istore_n 3, 1) := by decide +kernel
theorem dX4_giveSlots_2 : decode cX4_giveSlots 2 = .ok (.iload_n 3, 1) := by decide +kernel
theorem dX4_giveSlots_3 : decode cX4_giveSlots 3 = .ok (.aload_n 1, 1) := by decide +kernel
theorem dX4_giveSlots_4 : decode cX4_giveSlots 4 = .ok (.getfield 77, 3) := by decide +kernel
theorem dX4_giveSlots_7 : decode cX4_giveSlots 7 = .ok (.if_icmp .ge 137, 3) := by decide +kernel
theorem dX4_giveSlots_10 : decode cX4_giveSlots 10 = .ok (.iload_n 3, 1) := by decide +kernel
theorem dX4_giveSlots_11 : decode cX4_giveSlots 11 = .ok (.bipush 6, 2) := by decide +kernel
theorem dX4_giveSlots_13 : decode cX4_giveSlots 13 = .ok (.imul, 1) := by decide +kernel
theorem dX4_giveSlots_14 : decode cX4_giveSlots 14 = .ok (.istore 4, 2) := by decide +kernel
theorem dX4_giveSlots_16 : decode cX4_giveSlots 16 = .ok (.aload_n 1, 1) := by decide +kernel
theorem dX4_giveSlots_17 : decode cX4_giveSlots 17 = .ok (.getfield 80, 3) := by decide +kernel
theorem dX4_giveSlots_20 : decode cX4_giveSlots 20 = .ok (.iload 4, 2) := by decide +kernel
theorem dX4_giveSlots_22 : decode cX4_giveSlots 22 = .ok (.iconst 0, 1) := by decide +kernel
theorem dX4_giveSlots_23 : decode cX4_giveSlots 23 = .ok (.iadd, 1) := by decide +kernel
theorem dX4_giveSlots_24 : decode cX4_giveSlots 24 = .ok (.iaload, 1) := by decide +kernel
theorem dX4_giveSlots_25 : decode cX4_giveSlots 25 = .ok (.bipush 8, 2) := by decide +kernel
theorem dX4_giveSlots_27 : decode cX4_giveSlots 27 = .ok (.imul, 1) := by decide +kernel
theorem dX4_giveSlots_28 : decode cX4_giveSlots 28 = .ok (.aload_n 1, 1) := by decide +kernel
theorem dX4_giveSlots_29 : decode cX4_giveSlots 29 = .ok (.getfield 80, 3) := by decide +kernel
theorem dX4_giveSlots_32 : decode cX4_giveSlots 32 = .ok (.iload 4, 2) := by decide +kernel
theorem dX4_giveSlots_34 : decode cX4_giveSlots 34 = .ok (.iconst 1, 1) := by decide +kernel
theorem dX4_giveSlots_35 : decode cX4_giveSlots 35 = .ok (.iadd, 1) := by decide +kernel
theorem dX4_giveSlots_36 : decode cX4_giveSlots 36 = .ok (.iaload, 1) := by decide +kernel
theorem dX4_giveSlots_37 : decode cX4_giveSlots 37 = .ok (.iadd, 1) := by decide +kernel
theorem dX4_giveSlots_38 : decode cX4_giveSlots 38 = .ok (.istore 5, 2) := by decide +kernel
theorem dX4_giveSlots_40 : decode cX4_giveSlots 40 = .ok (.iload 5, 2) := by decide +kernel
theorem dX4_giveSlots_42 : decode cX4_giveSlots 42 = .ok (.bipush 8, 2) := by decide +kernel
theorem dX4_giveSlots_44 : decode cX4_giveSlots 44 = .ok (.imul, 1) := by decide +kernel
theorem dX4_giveSlots_45 : decode cX4_giveSlots 45 = .ok (.aload_n 1, 1) := by decide +kernel
theorem dX4_giveSlots_46 : decode cX4_giveSlots 46 = .ok (.getfield 80, 3) := by decide +kernel
theorem dX4_giveSlots_49 : decode cX4_giveSlots 49 = .ok (.iload 4, 2) := by decide +kernel
theorem dX4_giveSlots_51 : decode cX4_giveSlots 51 = .ok (.iconst 2, 1) := by decide +kernel
theorem dX4_giveSlots_52 : decode cX4_giveSlots 52 = .ok (.iadd, 1) := by decide +kernel
theorem dX4_giveSlots_53 : decode cX4_giveSlots 53 = .ok (.iaload, 1) := by decide +kernel
theorem dX4_giveSlots_54 : decode cX4_giveSlots 54 = .ok (.iadd, 1) := by decide +kernel
theorem dX4_giveSlots_55 : decode cX4_giveSlots 55 = .ok (.bipush 6, 2) := by decide +kernel
theorem dX4_giveSlots_57 : decode cX4_giveSlots 57 = .ok (.imul, 1) := by decide +kernel
theorem dX4_giveSlots_58 : decode cX4_giveSlots 58 = .ok (.aload_n 1, 1) := by decide +kernel
theorem dX4_giveSlots_59 : decode cX4_giveSlots 59 = .ok (.getfield 80, 3) := by decide +kernel
theorem dX4_giveSlots_62 : decode cX4_giveSlots 62 = .ok (.iload 4, 2) := by decide +kernel
theorem dX4_giveSlots_64 : decode cX4_giveSlots 64 = .ok (.iconst 3, 1) := by decide +kernel
theorem dX4_giveSlots_65 : decode cX4_giveSlots 65 = .ok (.iadd, 1) := by decide +kernel
theorem dX4_giveSlots_66 : decode cX4_giveSlots 66 = .ok (.iaload, 1) := by decide +kernel
theorem dX4_giveSlots_67 : decode cX4_giveSlots 67 = .ok (.iadd, 1) := by decide +kernel
theorem dX4_giveSlots_68 : decode cX4_giveSlots 68 = .ok (.istore 5, 2) := by decide +kernel
theorem dX4_giveSlots_70 : decode cX4_giveSlots 70 = .ok (.iconst 0, 1) := by decide +kernel
theorem dX4_giveSlots_71 : decode cX4_giveSlots 71 = .ok (.istore 6, 2) := by decide +kernel
theorem dX4_giveSlots_73 : decode cX4_giveSlots 73 = .ok (.iload 6, 2) := by decide +kernel
theorem dX4_giveSlots_75 : decode cX4_giveSlots 75 = .ok (.aload_n 0, 1) := by decide +kernel
theorem dX4_giveSlots_76 : decode cX4_giveSlots 76 = .ok (.getfield 35, 3) := by decide +kernel
theorem dX4_giveSlots_79 : decode cX4_giveSlots 79 = .ok (.if_icmp .ge 21, 3) := by decide +kernel
theorem dX4_giveSlots_82 : decode cX4_giveSlots 82 = .ok (.aload_n 0, 1) := by decide +kernel
theorem dX4_giveSlots_83 : decode cX4_giveSlots 83 = .ok (.getfield 9, 3) := by decide +kernel
theorem dX4_giveSlots_86 : decode cX4_giveSlots 86 = .ok (.iload 6, 2) := by decide +kernel
theorem dX4_giveSlots_88 : decode cX4_giveSlots 88 = .ok (.iaload, 1) := by decide +kernel
theorem dX4_giveSlots_89 : decode cX4_giveSlots 89 = .ok (.iload 5, 2) := by decide +kernel
theorem dX4_giveSlots_91 : decode cX4_giveSlots 91 = .ok (.if_icmp .eq 9, 3) := by decide +kernel
theorem dX4_giveSlots_94 : decode cX4_giveSlots 94 = .ok (.iinc 6 1, 3) := by decide +kernel
theorem dX4_giveSlots_97 : decode cX4_giveSlots 97 = .ok (.goto (-24), 3) := by decide +kernel
theorem dX4_giveSlots_100 : decode cX4_giveSlots 100 = .ok (.iload 6, 2) := by decide +kernel
theorem dX4_giveSlots_102 : decode cX4_giveSlots 102 = .ok (.aload_n 0, 1) := by decide +kernel
theorem dX4_giveSlots_103 : decode cX4_giveSlots 103 = .ok (.getfield 35, 3) := by decide +kernel
theorem dX4_giveSlots_106 : decode cX4_giveSlots 106 = .ok (.if_icmp .ne 22, 3) := by decide +kernel
theorem dX4_giveSlots_109 : decode cX4_giveSlots 109 = .ok (.aload_n 0, 1) := by decide +kernel
theorem dX4_giveSlots_110 : decode cX4_giveSlots 110 = .ok (.getfield 9, 3) := by decide +kernel
theorem dX4_giveSlots_113 : decode cX4_giveSlots 113 = .ok (.iload 6, 2) := by decide +kernel
theorem dX4_giveSlots_115 : decode cX4_giveSlots 115 = .ok (.iload 5, 2) := by decide +kernel
theorem dX4_giveSlots_117 : decode cX4_giveSlots 117 = .ok (.iastore, 1) := by decide +kernel
theorem dX4_giveSlots_118 : decode cX4_giveSlots 118 = .ok (.aload_n 0, 1) := by decide +kernel
theorem dX4_giveSlots_119 : decode cX4_giveSlots 119 = .ok (.dup, 1) := by decide +kernel
theorem dX4_giveSlots_120 : decode cX4_giveSlots 120 = .ok (.getfield 35, 3) := by decide +kernel
theorem dX4_giveSlots_123 : decode cX4_giveSlots 123 = .ok (.iconst 1, 1) := by decide +kernel
theorem dX4_giveSlots_124 : decode cX4_giveSlots 124 = .ok (.iadd, 1) := by decide +kernel
theorem dX4_giveSlots_125 : decode cX4_giveSlots 125 = .ok (.putfield 35, 3) := by decide +kernel
theorem dX4_giveSlots_128 : decode cX4_giveSlots 128 = .ok (.aload_n 0, 1) := by decide +kernel
theorem dX4_giveSlots_129 : decode cX4_giveSlots 129 = .ok (.getfield 15, 3) := by decide +kernel
theorem dX4_giveSlots_132 : decode cX4_giveSlots 132 = .ok (.iload_n 2, 1) := by decide +kernel
theorem dX4_giveSlots_133 : decode cX4_giveSlots 133 = .ok (.iload_n 3, 1) := by decide +kernel
theorem dX4_giveSlots_134 : decode cX4_giveSlots 134 = .ok (.iadd, 1) := by decide +kernel
theorem dX4_giveSlots_135 : decode cX4_giveSlots 135 = .ok (.iload 6, 2) := by decide +kernel
theorem dX4_giveSlots_137 : decode cX4_giveSlots 137 = .ok (.iastore, 1) := by decide +kernel
theorem dX4_giveSlots_138 : decode cX4_giveSlots 138 = .ok (.iinc 3 1, 3) := by decide +kernel
theorem dX4_giveSlots_141 : decode cX4_giveSlots 141 = .ok (.goto (-139), 3) := by decide +kernel
theorem dX4_giveSlots_144 : decode cX4_giveSlots 144 = .ok (.return_, 1) := by decide +kernel
def m_X4_giveSlots_128 (k2 : Nat → Int32 → Int32 → Hp → Prop) (Q : Hp → Prop) (v1 : Nat) (v2 : Int32) (v3 : Int32) (v6 : Int32) (h : Hp) : Prop := vp_in (v2 + v3) 72 ∧ (∀ x1 : Int32, x1 = v3 + 1 → k2 v1 v2 x1 (wI h 45 (ix (v2 + v3)) v6))
set_option maxHeartbeats 4000000 in
set_option maxRecDepth 100000 in
theorem s_X4_giveSlots_128 {l : Launch} {G : Cx} {d : Nat} {h0 : Hp} (hd : 2 ≤ d) {k2 : Nat → Int32 → Int32 → Hp → Prop} {Q : Hp → Prop} (hk2 : ∀ (v1 : Nat) (v2 : Int32) (v3 : Int32) (hh : Hp), k2 v1 v2 v3 hh → Rn l G d 0 0 MX4_giveSlots h0 (qV Q) 2 [some (tR 4 0 (some 43)), some (tR 1 0 (some v1)), some (tI v2), some (tI v3)] [] hh 0 0) {v1 : Nat} {v2 : Int32} {v3 : Int32} {v6 : Int32} {h : Hp} (hm : m_X4_giveSlots_128 k2 Q v1 v2 v3 v6 h) : Rn l G d 0 0 MX4_giveSlots h0 (qV Q) 128 [some (tR 4 0 (some 43)), some (tR 1 0 (some v1)), some (tI v2), some (tI v3), none, none, some (tI v6)] [] h 0 0 := by
  unfold m_X4_giveSlots_128 at hm
  refine r_aload_n dX4_giveSlots_128 rfl rfl ?_
  refine r_getC (k := 1) cl_4 dX4_giveSlots_129 t_323 gf_4_1.1 gf_4_1.2 (gc_4_1 _) ?_
  refine r_iload_n dX4_giveSlots_132 rfl rfl ?_
  refine r_iload_n dX4_giveSlots_133 rfl rfl ?_
  refine r_iadd dX4_giveSlots_134 ?_
  refine r_iload dX4_giveSlots_135 rfl ?_
  refine r_iast dX4_giveSlots_137 hm.1 ?_
  replace hm := hm.2
  obtain ⟨x1, e_x1⟩ : ∃ y : Int32, y = v3 + 1 := ⟨_, rfl⟩
  replace hm := hm x1 e_x1
  refine r_iinc (L' := [some (tR 4 0 (some 43)), some (tR 1 0 (some v1)), some (tI v2), some (tI x1), none, none, some (tI v6)]) dX4_giveSlots_138 rfl (by rw [e_x1]; rfl) (by decide) rfl ?_
  refine r_goto (tgt := 2) dX4_giveSlots_141 rfl ?_
  refine r_keep (L' := [some (tR 4 0 (some 43)), some (tR 1 0 (some v1)), some (tI v2), some (tI x1)]) [true, true, true, true] rfl ?_
  exact hk2 _ _ _ _ hm
def m_X4_giveSlots_100 (k2 : Nat → Int32 → Int32 → Hp → Prop) (Q : Hp → Prop) (v1 : Nat) (v2 : Int32) (v3 : Int32) (v5 : Int32) (v6 : Int32) (h : Hp) : Prop := (¬ v6 = (hI h 43 3) → m_X4_giveSlots_128 k2 Q v1 v2 v3 v6 h) ∧ (v6 = (hI h 43 3) → vp_in v6 72 ∧ (m_X4_giveSlots_128 k2 Q v1 v2 v3 v6 (wI (wI h 44 (ix v6) v5) 43 3 ((hI (wI h 44 (ix v6) v5) 43 3) + 1))))
set_option maxHeartbeats 4000000 in
set_option maxRecDepth 100000 in
theorem s_X4_giveSlots_100 {l : Launch} {G : Cx} {d : Nat} {h0 : Hp} (hd : 2 ≤ d) {k2 : Nat → Int32 → Int32 → Hp → Prop} {Q : Hp → Prop} (hk2 : ∀ (v1 : Nat) (v2 : Int32) (v3 : Int32) (hh : Hp), k2 v1 v2 v3 hh → Rn l G d 0 0 MX4_giveSlots h0 (qV Q) 2 [some (tR 4 0 (some 43)), some (tR 1 0 (some v1)), some (tI v2), some (tI v3)] [] hh 0 0) {v1 : Nat} {v2 : Int32} {v3 : Int32} {v5 : Int32} {v6 : Int32} {h : Hp} (hm : m_X4_giveSlots_100 k2 Q v1 v2 v3 v5 v6 h) : Rn l G d 0 0 MX4_giveSlots h0 (qV Q) 100 [some (tR 4 0 (some 43)), some (tR 1 0 (some v1)), some (tI v2), some (tI v3), none, some (tI v5), some (tI v6)] [] h 0 0 := by
  unfold m_X4_giveSlots_100 at hm
  refine r_iload dX4_giveSlots_100 rfl ?_
  refine r_aload_n dX4_giveSlots_102 rfl rfl ?_
  refine r_getI (k := 3) cl_4 dX4_giveSlots_103 t_325 (Or.inl rfl) gf_4_3 ?_
  refine r_icmp_ne (tgt := 128) dX4_giveSlots_106 rfl (fun hc => ?_) (fun hc => ?_)
  · replace hm := hm.1 hc
    refine r_keep (L' := [some (tR 4 0 (some 43)), some (tR 1 0 (some v1)), some (tI v2), some (tI v3), none, none, some (tI v6)]) [true, true, true, true, false, false, true] rfl ?_
    exact s_X4_giveSlots_128 hd hk2 hm
  · replace hm := hm.2 hc
    refine r_aload_n dX4_giveSlots_109 rfl rfl ?_
    refine r_getC (k := 0) cl_4 dX4_giveSlots_110 t_322 gf_4_0.1 gf_4_0.2 (gc_4_0 _) ?_
    refine r_iload dX4_giveSlots_113 rfl ?_
    refine r_iload dX4_giveSlots_115 rfl ?_
    refine r_iast dX4_giveSlots_117 hm.1 ?_
    replace hm := hm.2
    refine r_aload_n dX4_giveSlots_118 rfl rfl ?_
    refine r_dup dX4_giveSlots_119 cv_cat1R ?_
    refine r_getI (k := 3) cl_4 dX4_giveSlots_120 t_325 (Or.inl rfl) gf_4_3 ?_
    refine r_iconst (v := 1) dX4_giveSlots_123 rfl ?_
    refine r_iadd dX4_giveSlots_124 ?_
    refine r_putI0 (k := 3) cl_4 dX4_giveSlots_125 t_325 (Or.inl rfl) gf_4_3 pf_4_3.1 (Or.inl pf_4_3.2) ?_
    refine r_keep (L' := [some (tR 4 0 (some 43)), some (tR 1 0 (some v1)), some (tI v2), some (tI v3), none, none, some (tI v6)]) [true, true, true, true, false, false, true] rfl ?_
    exact s_X4_giveSlots_128 hd hk2 hm
def m_X4_giveSlots_73 : Nat → (Nat → Int32 → Int32 → Int32 → Int32 → Hp → Prop) → (Hp → Prop) → Nat → Int32 → Int32 → Int32 → Int32 → Hp → Prop
  | 0, _, _, _, _, _, _, _, _ => False
  | n + 1, k100, Q, v1, v2, v3, v5, v6, h => ((hI h 43 3) ≤ v6 → k100 v1 v2 v3 v5 v6 h) ∧ (¬ (hI h 43 3) ≤ v6 → vp_in v6 72 ∧ (((hI h 44 (ix v6)) = v5 → k100 v1 v2 v3 v5 v6 h) ∧ (¬ (hI h 44 (ix v6)) = v5 → ∀ x2 : Int32, x2 = v6 + 1 → m_X4_giveSlots_73 n k100 Q v1 v2 v3 v5 x2 h)))
set_option maxHeartbeats 4000000 in
set_option maxRecDepth 100000 in
theorem s_X4_giveSlots_73 {l : Launch} {G : Cx} {d : Nat} {h0 : Hp} (hd : 2 ≤ d) {k100 : Nat → Int32 → Int32 → Int32 → Int32 → Hp → Prop} {Q : Hp → Prop} (hk100 : ∀ (v1 : Nat) (v2 : Int32) (v3 : Int32) (v5 : Int32) (v6 : Int32) (hh : Hp), k100 v1 v2 v3 v5 v6 hh → Rn l G d 0 0 MX4_giveSlots h0 (qV Q) 100 [some (tR 4 0 (some 43)), some (tR 1 0 (some v1)), some (tI v2), some (tI v3), none, some (tI v5), some (tI v6)] [] hh 0 0) : ∀ {n : Nat} {v1 : Nat} {v2 : Int32} {v3 : Int32} {v5 : Int32} {v6 : Int32} {h : Hp}, m_X4_giveSlots_73 n k100 Q v1 v2 v3 v5 v6 h → Rn l G d 0 0 MX4_giveSlots h0 (qV Q) 73 [some (tR 4 0 (some 43)), some (tR 1 0 (some v1)), some (tI v2), some (tI v3), none, some (tI v5), some (tI v6)] [] h 0 0 := by
  intro n
  induction n with
  | zero => intro v1 v2 v3 v5 v6 h hm; exact hm.elim
  | succ n ih =>
    intro v1 v2 v3 v5 v6 h hm
    have hk73 := fun (v1 : Nat) (v2 : Int32) (v3 : Int32) (v5 : Int32) (v6 : Int32) (hh : Hp) (hm : m_X4_giveSlots_73 n k100 Q v1 v2 v3 v5 v6 hh) => ih hm
    rw [m_X4_giveSlots_73] at hm
    refine r_iload dX4_giveSlots_73 rfl ?_
    refine r_aload_n dX4_giveSlots_75 rfl rfl ?_
    refine r_getI (k := 3) cl_4 dX4_giveSlots_76 t_325 (Or.inl rfl) gf_4_3 ?_
    refine r_icmp_ge (tgt := 100) dX4_giveSlots_79 rfl (fun hc => ?_) (fun hc => ?_)
    · replace hm := hm.1 hc
      refine r_keep (L' := [some (tR 4 0 (some 43)), some (tR 1 0 (some v1)), some (tI v2), some (tI v3), none, some (tI v5), some (tI v6)]) [true, true, true, true, false, true, true] rfl ?_
      exact hk100 _ _ _ _ _ _ hm
    · replace hm := hm.2 hc
      refine r_aload_n dX4_giveSlots_82 rfl rfl ?_
      refine r_getC (k := 0) cl_4 dX4_giveSlots_83 t_322 gf_4_0.1 gf_4_0.2 (gc_4_0 _) ?_
      refine r_iload dX4_giveSlots_86 rfl ?_
      refine r_iald dX4_giveSlots_88 hm.1 ?_
      replace hm := hm.2
      refine r_iload dX4_giveSlots_89 rfl ?_
      refine r_icmp_eq (tgt := 100) dX4_giveSlots_91 rfl (fun hc => ?_) (fun hc => ?_)
      · replace hm := hm.1 hc
        refine r_keep (L' := [some (tR 4 0 (some 43)), some (tR 1 0 (some v1)), some (tI v2), some (tI v3), none, some (tI v5), some (tI v6)]) [true, true, true, true, false, true, true] rfl ?_
        exact hk100 _ _ _ _ _ _ hm
      · replace hm := hm.2 hc
        obtain ⟨x2, e_x2⟩ : ∃ y : Int32, y = v6 + 1 := ⟨_, rfl⟩
        replace hm := hm x2 e_x2
        refine r_iinc (L' := [some (tR 4 0 (some 43)), some (tR 1 0 (some v1)), some (tI v2), some (tI v3), none, some (tI v5), some (tI x2)]) dX4_giveSlots_94 rfl (by rw [e_x2]; rfl) (by decide) rfl ?_
        refine r_goto (tgt := 73) dX4_giveSlots_97 rfl ?_
        refine r_keep (L' := [some (tR 4 0 (some 43)), some (tR 1 0 (some v1)), some (tI v2), some (tI v3), none, some (tI v5), some (tI x2)]) [true, true, true, true, false, true, true] rfl ?_
        exact hk73 _ _ _ _ _ _ hm
def m_X4_giveSlots_2 : Nat → (Hp → Prop) → Nat → Int32 → Int32 → Hp → Prop
  | 0, _, _, _, _, _ => False
  | n + 1, Q, v1, v2, v3, h => ((hI h v1 6) ≤ v3 → Q h) ∧ (¬ (hI h v1 6) ≤ v3 → ∀ x3 : Int32, x3 = (v3 * 6) → vp_in (x3 + 0) 216 ∧ (vp_in (x3 + 1) 216 ∧ (∀ x4 : Int32, x4 = (((hI h (v1 + 2) (ix (x3 + 0))) * 8) + (hI h (v1 + 2) (ix (x3 + 1)))) → vp_in (x3 + 2) 216 ∧ (vp_in (x3 + 3) 216 ∧ (∀ x5 : Int32, x5 = ((((x4 * 8) + (hI h (v1 + 2) (ix (x3 + 2)))) * 6) + (hI h (v1 + 2) (ix (x3 + 3)))) → ∃ n73, m_X4_giveSlots_73 n73 (m_X4_giveSlots_100 (fun (v1 : Nat) (v2 : Int32) (v3 : Int32) (hh : Hp) => m_X4_giveSlots_2 n Q v1 v2 v3 hh) Q) Q v1 v2 v3 x5 0 h)))))
set_option maxHeartbeats 4000000 in
set_option maxRecDepth 100000 in
theorem s_X4_giveSlots_2 {l : Launch} {G : Cx} {d : Nat} {h0 : Hp} (hd : 2 ≤ d) {Q : Hp → Prop} : ∀ {n : Nat} {v1 : Nat} {v2 : Int32} {v3 : Int32} {h : Hp}, m_X4_giveSlots_2 n Q v1 v2 v3 h → Rn l G d 0 0 MX4_giveSlots h0 (qV Q) 2 [some (tR 4 0 (some 43)), some (tR 1 0 (some v1)), some (tI v2), some (tI v3)] [] h 0 0 := by
  intro n
  induction n with
  | zero => intro v1 v2 v3 h hm; exact hm.elim
  | succ n ih =>
    intro v1 v2 v3 h hm
    have hk2 := fun (v1 : Nat) (v2 : Int32) (v3 : Int32) (hh : Hp) (hm : m_X4_giveSlots_2 n Q v1 v2 v3 hh) => ih hm
    rw [m_X4_giveSlots_2] at hm
    refine r_iload_n dX4_giveSlots_2 rfl rfl ?_
    refine r_aload_n dX4_giveSlots_3 rfl rfl ?_
    refine r_getI (k := 6) cl_1 dX4_giveSlots_4 t_462 (Or.inl rfl) gf_1_6 ?_
    refine r_icmp_ge (tgt := 144) dX4_giveSlots_7 rfl (fun hc => ?_) (fun hc => ?_)
    · replace hm := hm.1 hc
      exact r_return dX4_giveSlots_144 rfl ⟨by decide, by decide⟩ ⟨rfl, hm⟩
    · replace hm := hm.2 hc
      refine r_iload_n dX4_giveSlots_10 rfl rfl ?_
      refine r_bipush (v := 6) dX4_giveSlots_11 rfl ?_
      refine r_imul dX4_giveSlots_13 ?_
      refine r_nmI (fun x3 e_x3 => ?_)
      replace hm := hm x3 e_x3
      refine r_istore (L' := [some (tR 4 0 (some 43)), some (tR 1 0 (some v1)), some (tI v2), some (tI v3), some (tI x3)]) dX4_giveSlots_14 (by decide) rfl ?_
      refine r_aload_n dX4_giveSlots_16 rfl rfl ?_
      refine r_getC (k := 10) cl_1 dX4_giveSlots_17 t_473 gf_1_10.1 gf_1_10.2 (gc_1_10 _) ?_
      refine r_iload dX4_giveSlots_20 rfl ?_
      refine r_iconst (v := 0) dX4_giveSlots_22 rfl ?_
      refine r_iadd dX4_giveSlots_23 ?_
      refine r_iald dX4_giveSlots_24 hm.1 ?_
      replace hm := hm.2
      refine r_bipush (v := 8) dX4_giveSlots_25 rfl ?_
      refine r_imul dX4_giveSlots_27 ?_
      refine r_aload_n dX4_giveSlots_28 rfl rfl ?_
      refine r_getC (k := 10) cl_1 dX4_giveSlots_29 t_473 gf_1_10.1 gf_1_10.2 (gc_1_10 _) ?_
      refine r_iload dX4_giveSlots_32 rfl ?_
      refine r_iconst (v := 1) dX4_giveSlots_34 rfl ?_
      refine r_iadd dX4_giveSlots_35 ?_
      refine r_iald dX4_giveSlots_36 hm.1 ?_
      replace hm := hm.2
      refine r_iadd dX4_giveSlots_37 ?_
      refine r_nmI (fun x4 e_x4 => ?_)
      replace hm := hm x4 e_x4
      refine r_istore (L' := [some (tR 4 0 (some 43)), some (tR 1 0 (some v1)), some (tI v2), some (tI v3), some (tI x3), some (tI x4)]) dX4_giveSlots_38 (by decide) rfl ?_
      refine r_iload dX4_giveSlots_40 rfl ?_
      refine r_bipush (v := 8) dX4_giveSlots_42 rfl ?_
      refine r_imul dX4_giveSlots_44 ?_
      refine r_aload_n dX4_giveSlots_45 rfl rfl ?_
      refine r_getC (k := 10) cl_1 dX4_giveSlots_46 t_473 gf_1_10.1 gf_1_10.2 (gc_1_10 _) ?_
      refine r_iload dX4_giveSlots_49 rfl ?_
      refine r_iconst (v := 2) dX4_giveSlots_51 rfl ?_
      refine r_iadd dX4_giveSlots_52 ?_
      refine r_iald dX4_giveSlots_53 hm.1 ?_
      replace hm := hm.2
      refine r_iadd dX4_giveSlots_54 ?_
      refine r_bipush (v := 6) dX4_giveSlots_55 rfl ?_
      refine r_imul dX4_giveSlots_57 ?_
      refine r_aload_n dX4_giveSlots_58 rfl rfl ?_
      refine r_getC (k := 10) cl_1 dX4_giveSlots_59 t_473 gf_1_10.1 gf_1_10.2 (gc_1_10 _) ?_
      refine r_iload dX4_giveSlots_62 rfl ?_
      refine r_iconst (v := 3) dX4_giveSlots_64 rfl ?_
      refine r_iadd dX4_giveSlots_65 ?_
      refine r_iald dX4_giveSlots_66 hm.1 ?_
      replace hm := hm.2
      refine r_iadd dX4_giveSlots_67 ?_
      refine r_nmI (fun x5 e_x5 => ?_)
      replace hm := hm x5 e_x5
      refine r_istore (L' := [some (tR 4 0 (some 43)), some (tR 1 0 (some v1)), some (tI v2), some (tI v3), some (tI x3), some (tI x5)]) dX4_giveSlots_68 (by decide) rfl ?_
      refine r_iconst (v := 0) dX4_giveSlots_70 rfl ?_
      refine r_istore (L' := [some (tR 4 0 (some 43)), some (tR 1 0 (some v1)), some (tI v2), some (tI v3), some (tI x3), some (tI x5), some (tI 0)]) dX4_giveSlots_71 (by decide) rfl ?_
      refine r_keep (L' := [some (tR 4 0 (some 43)), some (tR 1 0 (some v1)), some (tI v2), some (tI v3), none, some (tI x5), some (tI 0)]) [true, true, true, true, false, true, true] rfl ?_
      obtain ⟨n, hm⟩ := hm
      refine s_X4_giveSlots_73 hd ?_ hm
      · exact (fun _ _ _ _ _ _ hm => s_X4_giveSlots_100 hd hk2 hm)
def m_X4_giveSlots (v1 : Nat) (v2 : Int32) (h : Hp) (Q : Hp → Prop) : Prop := ∃ n2, m_X4_giveSlots_2 n2 Q v1 v2 0 h
set_option maxHeartbeats 4000000 in
set_option maxRecDepth 100000 in
theorem s_X4_giveSlots {l : Launch} {G : Cx} {d : Nat} (hd : 2 ≤ d) {v1 : Nat} {v2 : Int32} {h : Hp} {Q : Hp → Prop} (hm : m_X4_giveSlots v1 v2 h Q) : Ct l G d 0 0 yX4_giveSlots MX4_giveSlots [tR 4 0 (some 43), tR 1 0 (some v1), tI v2] h (qV Q) := by
  unfold m_X4_giveSlots at hm
  refine Ct.of (L := [some (tR 4 0 (some 43)), some (tR 1 0 (some v1)), some (tI v2)]) (by decide) rfl rfl (Nat.le_of_ble_eq_true rfl) rfl ?_
  refine r_iconst (v := 0) dX4_giveSlots_0 rfl ?_
  refine r_istore_n (L' := [some (tR 4 0 (some 43)), some (tR 1 0 (some v1)), some (tI v2), some (tI 0)]) dX4_giveSlots_1 rfl (by decide) rfl ?_
  refine r_keep (L' := [some (tR 4 0 (some 43)), some (tR 1 0 (some v1)), some (tI v2), some (tI 0)]) [true, true, true, true] rfl ?_
  obtain ⟨n, hm⟩ := hm
  refine s_X4_giveSlots_2 hd hm
theorem dJ7_fill_d0a16_0 : decode cJ7_fill_d0a16 0 = .ok (.iconst 0, 1) := rfl
theorem dJ7_fill_d0a16_1 : decode cJ7_fill_d0a16 1 = .ok (.istore_n 3, 1) := rfl
theorem dJ7_fill_d0a16_2 : decode cJ7_fill_d0a16 2 = .ok (.aload_n 0, 1) := rfl
theorem dJ7_fill_d0a16_3 : decode cJ7_fill_d0a16 3 = .ok (.arraylength, 1) := rfl
theorem dJ7_fill_d0a16_4 : decode cJ7_fill_d0a16 4 = .ok (.istore 4, 2) := rfl
theorem dJ7_fill_d0a16_6 : decode cJ7_fill_d0a16 6 = .ok (.iload_n 3, 1) := rfl
theorem dJ7_fill_d0a16_7 : decode cJ7_fill_d0a16 7 = .ok (.iload 4, 2) := rfl
theorem dJ7_fill_d0a16_9 : decode cJ7_fill_d0a16 9 = .ok (.if_icmp .ge 13, 3) := by decide +kernel
theorem dJ7_fill_d0a16_12 : decode cJ7_fill_d0a16 12 = .ok (.aload_n 0, 1) := rfl
theorem dJ7_fill_d0a16_13 : decode cJ7_fill_d0a16 13 = .ok (.iload_n 3, 1) := rfl
theorem dJ7_fill_d0a16_14 : decode cJ7_fill_d0a16 14 = .ok (.lload_n 1, 1) := rfl
theorem dJ7_fill_d0a16_15 : decode cJ7_fill_d0a16 15 = .ok (.lastore, 1) := rfl
theorem dJ7_fill_d0a16_16 : decode cJ7_fill_d0a16 16 = .ok (.iinc 3 1, 3) := by decide +kernel
theorem dJ7_fill_d0a16_19 : decode cJ7_fill_d0a16 19 = .ok (.goto (-13), 3) := by decide +kernel
theorem dJ7_fill_d0a16_22 : decode cJ7_fill_d0a16 22 = .ok (.return_, 1) := rfl
def m_J7_fill_d0a16_6 : Nat → (Hp → Prop) → Nat → Nat → Int64 → Int32 → Int32 → Hp → Prop
  | 0, _, _, _, _, _, _, _ => False
  | n + 1, Q, v0n, v0, v1, v3, v4, h => (v4 ≤ v3 → Q h) ∧ (¬ v4 ≤ v3 → vp_in v3 v0n ∧ (∀ x1 : Int32, x1 = v3 + 1 → m_J7_fill_d0a16_6 n Q v0n v0 v1 x1 v4 (wJ h v0 (ix v3) v1)))
set_option maxHeartbeats 4000000 in
set_option maxRecDepth 100000 in
theorem s_J7_fill_d0a16_6 {l : Launch} {G : Cx} {d : Nat} {h0 : Hp} (hd : 2 ≤ d) {Q : Hp → Prop} : ∀ {n : Nat} {v0n : Nat} {v0 : Nat} {v1 : Int64} {v3 : Int32} {v4 : Int32} {h : Hp}, m_J7_fill_d0a16_6 n Q v0n v0 v1 v3 v4 h → Rn l G d 0 0 MJ7_fill_d0a16 h0 (qV Q) 6 [some (tR 43 v0n (some v0)), some (tJ v1), none, some (tI v3), some (tI v4)] [] h 0 0 := by
  intro n
  induction n with
  | zero => intro v0n v0 v1 v3 v4 h hm; exact hm.elim
  | succ n ih =>
    intro v0n v0 v1 v3 v4 h hm
    have hk6 := fun (v0n : Nat) (v0 : Nat) (v1 : Int64) (v3 : Int32) (v4 : Int32) (hh : Hp) (hm : m_J7_fill_d0a16_6 n Q v0n v0 v1 v3 v4 hh) => ih hm
    rw [m_J7_fill_d0a16_6] at hm
    refine r_iload_n dJ7_fill_d0a16_6 rfl rfl ?_
    refine r_iload dJ7_fill_d0a16_7 rfl ?_
    refine r_icmp_ge (tgt := 22) dJ7_fill_d0a16_9 rfl (fun hc => ?_) (fun hc => ?_)
    · replace hm := hm.1 hc
      exact r_return dJ7_fill_d0a16_22 rfl ⟨by decide, by decide⟩ ⟨rfl, hm⟩
    · replace hm := hm.2 hc
      refine r_aload_n dJ7_fill_d0a16_12 rfl rfl ?_
      refine r_iload_n dJ7_fill_d0a16_13 rfl rfl ?_
      refine r_lload_n dJ7_fill_d0a16_14 rfl rfl ?_
      refine r_last dJ7_fill_d0a16_15 hm.1 ?_
      replace hm := hm.2
      obtain ⟨x1, e_x1⟩ : ∃ y : Int32, y = v3 + 1 := ⟨_, rfl⟩
      replace hm := hm x1 e_x1
      refine r_iinc (L' := [some (tR 43 v0n (some v0)), some (tJ v1), none, some (tI x1), some (tI v4)]) dJ7_fill_d0a16_16 rfl (by rw [e_x1]; rfl) (by decide) rfl ?_
      refine r_goto (tgt := 6) dJ7_fill_d0a16_19 rfl ?_
      refine r_keep (L' := [some (tR 43 v0n (some v0)), some (tJ v1), none, some (tI x1), some (tI v4)]) [true, true, false, true, true] rfl ?_
      exact hk6 _ _ _ _ _ _ hm
def m_J7_fill_d0a16 (v0 : Nat) (v0n : Nat) (v1 : Int64) (h : Hp) (Q : Hp → Prop) : Prop := ∀ x2 : Int32, x2 = (Int32.ofNat v0n) → ∃ n6, m_J7_fill_d0a16_6 n6 Q v0n v0 v1 0 x2 h
set_option maxHeartbeats 4000000 in
set_option maxRecDepth 100000 in
theorem s_J7_fill_d0a16 {l : Launch} {G : Cx} {d : Nat} (hd : 2 ≤ d) {v0 : Nat} {v0n : Nat} {v1 : Int64} {h : Hp} {Q : Hp → Prop} (hm : m_J7_fill_d0a16 v0 v0n v1 h Q) : Ct l G d 0 0 yJ7_fill_d0a16 MJ7_fill_d0a16 [tR 43 v0n (some v0), tJ v1] h (qV Q) := by
  unfold m_J7_fill_d0a16 at hm
  refine Ct.of (L := [some (tR 43 v0n (some v0)), some (tJ v1), none]) (by decide) rfl rfl (Nat.le_of_ble_eq_true rfl) rfl ?_
  refine r_iconst (v := 0) dJ7_fill_d0a16_0 rfl ?_
  refine r_istore_n (L' := [some (tR 43 v0n (some v0)), some (tJ v1), none, some (tI 0)]) dJ7_fill_d0a16_1 rfl (by decide) rfl ?_
  refine r_aload_n dJ7_fill_d0a16_2 rfl rfl ?_
  refine r_alen (ti := 3) (ty := .long) dJ7_fill_d0a16_3 rfl (by decide) rfl ?_
  refine r_nmI (fun x2 e_x2 => ?_)
  replace hm := hm x2 e_x2
  refine r_istore (L' := [some (tR 43 v0n (some v0)), some (tJ v1), none, some (tI 0), some (tI x2)]) dJ7_fill_d0a16_4 (by decide) rfl ?_
  refine r_keep (L' := [some (tR 43 v0n (some v0)), some (tJ v1), none, some (tI 0), some (tI x2)]) [true, true, false, true, true] rfl ?_
  obtain ⟨n, hm⟩ := hm
  refine s_J7_fill_d0a16_6 hd hm
theorem dX4_pour_0 : decode cX4_pour 0 = .ok (.iconst 0, 1) := rfl
theorem dX4_pour_1 : decode cX4_pour 1 = .ok (.istore 5, 2) := rfl
theorem dX4_pour_3 : decode cX4_pour 3 = .ok (.iload 5, 2) := rfl
theorem dX4_pour_5 : decode cX4_pour 5 = .ok (.aload_n 1, 1) := rfl
theorem dX4_pour_6 : decode cX4_pour 6 = .ok (.getfield 77, 3) := rfl
theorem dX4_pour_9 : decode cX4_pour 9 = .ok (.if_icmp .ge 47, 3) := by decide +kernel
theorem dX4_pour_12 : decode cX4_pour 12 = .ok (.aload_n 1, 1) := rfl
theorem dX4_pour_13 : decode cX4_pour 13 = .ok (.iload 5, 2) := rfl
theorem dX4_pour_15 : decode cX4_pour 15 = .ok (.iload_n 3, 1) := rfl
theorem dX4_pour_16 : decode cX4_pour 16 = .ok (.invokevirtual 83, 3) := rfl
theorem dX4_pour_19 : decode cX4_pour 19 = .ok (.ifCond .eq 31, 3) := by decide +kernel
theorem dX4_pour_22 : decode cX4_pour 22 = .ok (.aload_n 0, 1) := rfl
theorem dX4_pour_23 : decode cX4_pour 23 = .ok (.getfield 18, 3) := rfl
theorem dX4_pour_26 : decode cX4_pour 26 = .ok (.aload_n 0, 1) := rfl
theorem dX4_pour_27 : decode cX4_pour 27 = .ok (.getfield 15, 3) := rfl
theorem dX4_pour_30 : decode cX4_pour 30 = .ok (.iload_n 2, 1) := rfl
theorem dX4_pour_31 : decode cX4_pour 31 = .ok (.iload 5, 2) := rfl
theorem dX4_pour_33 : decode cX4_pour 33 = .ok (.iadd, 1) := rfl
theorem dX4_pour_34 : decode cX4_pour 34 = .ok (.iaload, 1) := rfl
theorem dX4_pour_35 : decode cX4_pour 35 = .ok (.dup2, 1) := rfl
theorem dX4_pour_36 : decode cX4_pour 36 = .ok (.laload, 1) := rfl
theorem dX4_pour_37 : decode cX4_pour 37 = .ok (.iload 4, 2) := rfl
theorem dX4_pour_39 : decode cX4_pour 39 = .ok (.i2l, 1) := rfl
theorem dX4_pour_40 : decode cX4_pour 40 = .ok (.aload_n 1, 1) := rfl
theorem dX4_pour_41 : decode cX4_pour 41 = .ok (.getfield 87, 3) := rfl
theorem dX4_pour_44 : decode cX4_pour 44 = .ok (.iload 5, 2) := rfl
theorem dX4_pour_46 : decode cX4_pour 46 = .ok (.laload, 1) := rfl
theorem dX4_pour_47 : decode cX4_pour 47 = .ok (.lmul, 1) := rfl
theorem dX4_pour_48 : decode cX4_pour 48 = .ok (.ladd, 1) := rfl
theorem dX4_pour_49 : decode cX4_pour 49 = .ok (.lastore, 1) := rfl
theorem dX4_pour_50 : decode cX4_pour 50 = .ok (.iinc 5 1, 3) := by decide +kernel
theorem dX4_pour_53 : decode cX4_pour 53 = .ok (.goto (-50), 3) := by decide +kernel
theorem dX4_pour_56 : decode cX4_pour 56 = .ok (.return_, 1) := rfl
def m_X4_pour_50 (k3 : Nat → Int32 → Int32 → Int32 → Int32 → Hp → Prop) (Q : Hp → Prop) (v1 : Nat) (v2 : Int32) (v3 : Int32) (v4 : Int32) (v5 : Int32) (h : Hp) : Prop := ∀ x1 : Int32, x1 = v5 + 1 → k3 v1 v2 v3 v4 x1 h
set_option maxHeartbeats 4000000 in
set_option maxRecDepth 100000 in
theorem s_X4_pour_50 {l : Launch} {G : Cx} {d : Nat} {h0 : Hp} (hd : 4 ≤ d) {k3 : Nat → Int32 → Int32 → Int32 → Int32 → Hp → Prop} {Q : Hp → Prop} (hk3 : ∀ (v1 : Nat) (v2 : Int32) (v3 : Int32) (v4 : Int32) (v5 : Int32) (hh : Hp), k3 v1 v2 v3 v4 v5 hh → Rn l G d 0 0 MX4_pour h0 (qV Q) 3 [some (tR 4 0 (some 43)), some (tR 1 0 (some v1)), some (tI v2), some (tI v3), some (tI v4), some (tI v5)] [] hh 0 0) {v1 : Nat} {v2 : Int32} {v3 : Int32} {v4 : Int32} {v5 : Int32} {h : Hp} (hm : m_X4_pour_50 k3 Q v1 v2 v3 v4 v5 h) : Rn l G d 0 0 MX4_pour h0 (qV Q) 50 [some (tR 4 0 (some 43)), some (tR 1 0 (some v1)), some (tI v2), some (tI v3), some (tI v4), some (tI v5)] [] h 0 0 := by
  unfold m_X4_pour_50 at hm
  obtain ⟨x1, e_x1⟩ : ∃ y : Int32, y = v5 + 1 := ⟨_, rfl⟩
  replace hm := hm x1 e_x1
  refine r_iinc (L' := [some (tR 4 0 (some 43)), some (tR 1 0 (some v1)), some (tI v2), some (tI v3), some (tI v4), some (tI x1)]) dX4_pour_50 rfl (by rw [e_x1]; rfl) (by decide) rfl ?_
  refine r_goto (tgt := 3) dX4_pour_53 rfl ?_
  refine r_keep (L' := [some (tR 4 0 (some 43)), some (tR 1 0 (some v1)), some (tI v2), some (tI v3), some (tI v4), some (tI x1)]) [true, true, true, true, true, true] rfl ?_
  exact hk3 _ _ _ _ _ _ hm
def m_X4_pour_3 : Nat → (Hp → Prop) → Nat → Int32 → Int32 → Int32 → Int32 → Hp → Prop
  | 0, _, _, _, _, _, _, _ => False
  | n + 1, Q, v1, v2, v3, v4, v5, h => ((hI h v1 6) ≤ v5 → Q h) ∧ (¬ (hI h v1 6) ≤ v5 → m_X1_isPassing v1 v5 v3 h (fun (x2 : Int32) (h3 : Hp) => (x2 = 0 → m_X4_pour_50 (fun (v1 : Nat) (v2 : Int32) (v3 : Int32) (v4 : Int32) (v5 : Int32) (hh : Hp) => m_X4_pour_3 n Q v1 v2 v3 v4 v5 hh) Q v1 v2 v3 v4 v5 h3) ∧ (¬ x2 = 0 → vp_in (v2 + v5) 72 ∧ (vp_in (hI h3 45 (ix (v2 + v5))) 72 ∧ (vp_in v5 36 ∧ (vp_in (hI h3 45 (ix (v2 + v5))) 72 ∧ (m_X4_pour_50 (fun (v1 : Nat) (v2 : Int32) (v3 : Int32) (v4 : Int32) (v5 : Int32) (hh : Hp) => m_X4_pour_3 n Q v1 v2 v3 v4 v5 hh) Q v1 v2 v3 v4 v5 (wJ h3 46 (ix (hI h3 45 (ix (v2 + v5)))) ((hJ h3 46 (ix (hI h3 45 (ix (v2 + v5))))) + (v4.toInt64 * (hJ h3 (v1 + 3) (ix v5))))))))))))
set_option maxHeartbeats 4000000 in
set_option maxRecDepth 100000 in
theorem s_X4_pour_3 {l : Launch} {G : Cx} {d : Nat} {h0 : Hp} (hd : 4 ≤ d) {Q : Hp → Prop} : ∀ {n : Nat} {v1 : Nat} {v2 : Int32} {v3 : Int32} {v4 : Int32} {v5 : Int32} {h : Hp}, m_X4_pour_3 n Q v1 v2 v3 v4 v5 h → Rn l G d 0 0 MX4_pour h0 (qV Q) 3 [some (tR 4 0 (some 43)), some (tR 1 0 (some v1)), some (tI v2), some (tI v3), some (tI v4), some (tI v5)] [] h 0 0 := by
  intro n
  induction n with
  | zero => intro v1 v2 v3 v4 v5 h hm; exact hm.elim
  | succ n ih =>
    intro v1 v2 v3 v4 v5 h hm
    have hk3 := fun (v1 : Nat) (v2 : Int32) (v3 : Int32) (v4 : Int32) (v5 : Int32) (hh : Hp) (hm : m_X4_pour_3 n Q v1 v2 v3 v4 v5 hh) => ih hm
    rw [m_X4_pour_3] at hm
    refine r_iload dX4_pour_3 rfl ?_
    refine r_aload_n dX4_pour_5 rfl rfl ?_
    refine r_getI (k := 6) cl_1 dX4_pour_6 t_462 (Or.inl rfl) gf_1_6 ?_
    refine r_icmp_ge (tgt := 56) dX4_pour_9 rfl (fun hc => ?_) (fun hc => ?_)
    · replace hm := hm.1 hc
      exact r_return dX4_pour_56 rfl ⟨by decide, by decide⟩ ⟨rfl, hm⟩
    · replace hm := hm.2 hc
      refine r_aload_n dX4_pour_12 rfl rfl ?_
      refine r_iload dX4_pour_13 rfl ?_
      refine r_iload_n dX4_pour_15 rfl rfl ?_
      refine r_callVI (d' := d - 1) (as := [tI v5, tI v3]) (st := []) cl_1 dX4_pour_16 mi_X1_isPassing t_874 t_875 t_876 rfl rfl (Nat.le_of_ble_eq_true rfl) (by omega) ⟨by decide, by decide⟩ ⟨rfl, rfl⟩ (s_X1_isPassing (by omega) hm) (fun x2 h3 hm => ?_)
      refine r_if_eq (tgt := 50) dX4_pour_19 rfl (fun hc => ?_) (fun hc => ?_)
      · replace hm := hm.1 hc
        refine r_keep (L' := [some (tR 4 0 (some 43)), some (tR 1 0 (some v1)), some (tI v2), some (tI v3), some (tI v4), some (tI v5)]) [true, true, true, true, true, true] rfl ?_
        exact s_X4_pour_50 hd hk3 hm
      · replace hm := hm.2 hc
        refine r_aload_n dX4_pour_22 rfl rfl ?_
        refine r_getC (k := 2) cl_4 dX4_pour_23 t_324 gf_4_2.1 gf_4_2.2 (gc_4_2 _) ?_
        refine r_aload_n dX4_pour_26 rfl rfl ?_
        refine r_getC (k := 1) cl_4 dX4_pour_27 t_323 gf_4_1.1 gf_4_1.2 (gc_4_1 _) ?_
        refine r_iload_n dX4_pour_30 rfl rfl ?_
        refine r_iload dX4_pour_31 rfl ?_
        refine r_iadd dX4_pour_33 ?_
        refine r_iald dX4_pour_34 hm.1 ?_
        replace hm := hm.2
        refine r_dup2 dX4_pour_35 rfl cv_cat1R ?_
        refine r_lald dX4_pour_36 hm.1 ?_
        replace hm := hm.2
        refine r_iload dX4_pour_37 rfl ?_
        refine r_i2l dX4_pour_39 ?_
        refine r_aload_n dX4_pour_40 rfl rfl ?_
        refine r_getC (k := 11) cl_1 dX4_pour_41 t_477 gf_1_11.1 gf_1_11.2 (gc_1_11 _) ?_
        refine r_iload dX4_pour_44 rfl ?_
        refine r_lald dX4_pour_46 hm.1 ?_
        replace hm := hm.2
        refine r_lmul dX4_pour_47 ?_
        refine r_ladd dX4_pour_48 ?_
        refine r_last dX4_pour_49 hm.1 ?_
        replace hm := hm.2
        refine r_keep (L' := [some (tR 4 0 (some 43)), some (tR 1 0 (some v1)), some (tI v2), some (tI v3), some (tI v4), some (tI v5)]) [true, true, true, true, true, true] rfl ?_
        exact s_X4_pour_50 hd hk3 hm
def m_X4_pour (v1 : Nat) (v2 : Int32) (v3 : Int32) (v4 : Int32) (h : Hp) (Q : Hp → Prop) : Prop := ∃ n3, m_X4_pour_3 n3 Q v1 v2 v3 v4 0 h
set_option maxHeartbeats 4000000 in
set_option maxRecDepth 100000 in
theorem s_X4_pour {l : Launch} {G : Cx} {d : Nat} (hd : 4 ≤ d) {v1 : Nat} {v2 : Int32} {v3 : Int32} {v4 : Int32} {h : Hp} {Q : Hp → Prop} (hm : m_X4_pour v1 v2 v3 v4 h Q) : Ct l G d 0 0 yX4_pour MX4_pour [tR 4 0 (some 43), tR 1 0 (some v1), tI v2, tI v3, tI v4] h (qV Q) := by
  unfold m_X4_pour at hm
  refine Ct.of (L := [some (tR 4 0 (some 43)), some (tR 1 0 (some v1)), some (tI v2), some (tI v3), some (tI v4)]) (by decide) rfl rfl (Nat.le_of_ble_eq_true rfl) rfl ?_
  refine r_iconst (v := 0) dX4_pour_0 rfl ?_
  refine r_istore (L' := [some (tR 4 0 (some 43)), some (tR 1 0 (some v1)), some (tI v2), some (tI v3), some (tI v4), some (tI 0)]) dX4_pour_1 (by decide) rfl ?_
  refine r_keep (L' := [some (tR 4 0 (some 43)), some (tR 1 0 (some v1)), some (tI v2), some (tI v3), some (tI v4), some (tI 0)]) [true, true, true, true, true, true] rfl ?_
  obtain ⟨n, hm⟩ := hm
  refine s_X4_pour_3 hd hm
theorem dX4_isLevel_0 : decode cX4_isLevel 0 = .ok (.iconst 0, 1) := rfl
theorem dX4_isLevel_1 : decode cX4_isLevel 1 = .ok (.istore_n 1, 1) := rfl
theorem dX4_isLevel_2 : decode cX4_isLevel 2 = .ok (.iload_n 1, 1) := rfl
theorem dX4_isLevel_3 : decode cX4_isLevel 3 = .ok (.aload_n 0, 1) := rfl
theorem dX4_isLevel_4 : decode cX4_isLevel 4 = .ok (.getfield 35, 3) := rfl
theorem dX4_isLevel_7 : decode cX4_isLevel 7 = .ok (.if_icmp .ge 22, 3) := by decide +kernel
theorem dX4_isLevel_10 : decode cX4_isLevel 10 = .ok (.aload_n 0, 1) := rfl
theorem dX4_isLevel_11 : decode cX4_isLevel 11 = .ok (.getfield 18, 3) := rfl
theorem dX4_isLevel_14 : decode cX4_isLevel 14 = .ok (.iload_n 1, 1) := rfl
theorem dX4_isLevel_15 : decode cX4_isLevel 15 = .ok (.laload, 1) := rfl
theorem dX4_isLevel_16 : decode cX4_isLevel 16 = .ok (.lconst 0, 1) := rfl
theorem dX4_isLevel_17 : decode cX4_isLevel 17 = .ok (.lcmp, 1) := rfl
theorem dX4_isLevel_18 : decode cX4_isLevel 18 = .ok (.ifCond .eq 5, 3) := by decide +kernel
theorem dX4_isLevel_21 : decode cX4_isLevel 21 = .ok (.iconst 0, 1) := rfl
theorem dX4_isLevel_22 : decode cX4_isLevel 22 = .ok (.ireturn, 1) := rfl
theorem dX4_isLevel_23 : decode cX4_isLevel 23 = .ok (.iinc 1 1, 3) := by decide +kernel
theorem dX4_isLevel_26 : decode cX4_isLevel 26 = .ok (.goto (-24), 3) := by decide +kernel
theorem dX4_isLevel_29 : decode cX4_isLevel 29 = .ok (.iconst 1, 1) := rfl
theorem dX4_isLevel_30 : decode cX4_isLevel 30 = .ok (.ireturn, 1) := rfl
def m_X4_isLevel_2 : Nat → (Int32 → Hp → Prop) → Int32 → Hp → Prop
  | 0, _, _, _ => False
  | n + 1, Q, v1, h => ((hI h 43 3) ≤ v1 → Q 1 h) ∧ (¬ (hI h 43 3) ≤ v1 → vp_in v1 72 ∧ (((lg_cmp (hJ h 46 (ix v1)) 0) = 0 → ∀ x1 : Int32, x1 = v1 + 1 → m_X4_isLevel_2 n Q x1 h) ∧ (¬ (lg_cmp (hJ h 46 (ix v1)) 0) = 0 → Q 0 h)))
set_option maxHeartbeats 4000000 in
set_option maxRecDepth 100000 in
theorem s_X4_isLevel_2 {l : Launch} {G : Cx} {d : Nat} {h0 : Hp} (hd : 2 ≤ d) {Q : Int32 → Hp → Prop} : ∀ {n : Nat} {v1 : Int32} {h : Hp}, m_X4_isLevel_2 n Q v1 h → Rn l G d 0 0 MX4_isLevel h0 (qI Q) 2 [some (tR 4 0 (some 43)), some (tI v1)] [] h 0 0 := by
  intro n
  induction n with
  | zero => intro v1 h hm; exact hm.elim
  | succ n ih =>
    intro v1 h hm
    have hk2 := fun (v1 : Int32) (hh : Hp) (hm : m_X4_isLevel_2 n Q v1 hh) => ih hm
    rw [m_X4_isLevel_2] at hm
    refine r_iload_n dX4_isLevel_2 rfl rfl ?_
    refine r_aload_n dX4_isLevel_3 rfl rfl ?_
    refine r_getI (k := 3) cl_4 dX4_isLevel_4 t_325 (Or.inl rfl) gf_4_3 ?_
    refine r_icmp_ge (tgt := 29) dX4_isLevel_7 rfl (fun hc => ?_) (fun hc => ?_)
    · replace hm := hm.1 hc
      refine r_iconst (v := 1) dX4_isLevel_29 rfl ?_
      exact r_bret dX4_isLevel_30 rfl ⟨by decide, by decide⟩ (by unfold bz; decide) ⟨_, rfl, hm⟩
    · replace hm := hm.2 hc
      refine r_aload_n dX4_isLevel_10 rfl rfl ?_
      refine r_getC (k := 2) cl_4 dX4_isLevel_11 t_324 gf_4_2.1 gf_4_2.2 (gc_4_2 _) ?_
      refine r_iload_n dX4_isLevel_14 rfl rfl ?_
      refine r_lald dX4_isLevel_15 hm.1 ?_
      replace hm := hm.2
      refine r_lconst (v := 0) dX4_isLevel_16 rfl ?_
      refine r_lcmp dX4_isLevel_17 ?_
      refine r_if_eq (tgt := 23) dX4_isLevel_18 rfl (fun hc => ?_) (fun hc => ?_)
      · replace hm := hm.1 hc
        obtain ⟨x1, e_x1⟩ : ∃ y : Int32, y = v1 + 1 := ⟨_, rfl⟩
        replace hm := hm x1 e_x1
        refine r_iinc (L' := [some (tR 4 0 (some 43)), some (tI x1)]) dX4_isLevel_23 rfl (by rw [e_x1]; rfl) (by decide) rfl ?_
        refine r_goto (tgt := 2) dX4_isLevel_26 rfl ?_
        refine r_keep (L' := [some (tR 4 0 (some 43)), some (tI x1)]) [true, true] rfl ?_
        exact hk2 _ _ hm
      · replace hm := hm.2 hc
        refine r_iconst (v := 0) dX4_isLevel_21 rfl ?_
        exact r_bret dX4_isLevel_22 rfl ⟨by decide, by decide⟩ (by unfold bz; decide) ⟨_, rfl, hm⟩
def m_X4_isLevel  (h : Hp) (Q : Int32 → Hp → Prop) : Prop := ∃ n2, m_X4_isLevel_2 n2 Q 0 h
set_option maxHeartbeats 4000000 in
set_option maxRecDepth 100000 in
theorem s_X4_isLevel {l : Launch} {G : Cx} {d : Nat} (hd : 2 ≤ d) {h : Hp} {Q : Int32 → Hp → Prop} (hm : m_X4_isLevel h Q) : Ct l G d 0 0 yX4_isLevel MX4_isLevel [tR 4 0 (some 43)] h (qI Q) := by
  unfold m_X4_isLevel at hm
  refine Ct.of (L := [some (tR 4 0 (some 43))]) (by decide) rfl rfl (Nat.le_of_ble_eq_true rfl) rfl ?_
  refine r_iconst (v := 0) dX4_isLevel_0 rfl ?_
  refine r_istore_n (L' := [some (tR 4 0 (some 43)), some (tI 0)]) dX4_isLevel_1 rfl (by decide) rfl ?_
  refine r_keep (L' := [some (tR 4 0 (some 43)), some (tI 0)]) [true, true] rfl ?_
  obtain ⟨n, hm⟩ := hm
  refine s_X4_isLevel_2 hd hm
theorem dX4_firstApart_0 : decode cX4_firstApart 0 = .ok (.aload_n 0, 1) := by decide +kernel
theorem dX4_firstApart_1 : decode cX4_firstApart 1 = .ok (.iconst 0, 1) := by decide +kernel
theorem dX4_firstApart_2 : decode cX4_firstApart 2 = .ok (.putfield 35, 3) := by decide +kernel
theorem dX4_firstApart_5 : decode cX4_firstApart 5 = .ok (.aload_n 0, 1) := by decide +kernel
theorem dX4_firstApart_6 : decode cX4_firstApart 6 = .ok (.aload_n 1, 1) := by decide +kernel
theorem dX4_firstApart_7 : decode cX4_firstApart 7 = .ok (.iconst 0, 1) := by decide +kernel
theorem dX4_firstApart_8 : decode cX4_firstApart 8 = .ok (.invokevirtual 39, 3) := by decide +kernel
theorem dX4_firstApart_11 : decode cX4_firstApart 11 = .ok (.aload_n 0, 1) := by decide +kernel
theorem dX4_firstApart_12 : decode cX4_firstApart 12 = .ok (.aload_n 2, 1) := by decide +kernel
theorem dX4_firstApart_13 : decode cX4_firstApart 13 = .ok (.bipush 36, 2) := by decide +kernel
theorem dX4_firstApart_15 : decode cX4_firstApart 15 = .ok (.invokevirtual 39, 3) := by decide +kernel
theorem dX4_firstApart_18 : decode cX4_firstApart 18 = .ok (.aload_n 1, 1) := by decide +kernel
theorem dX4_firstApart_19 : decode cX4_firstApart 19 = .ok (.getfield 43, 3) := by decide +kernel
theorem dX4_firstApart_22 : decode cX4_firstApart 22 = .ok (.aload_n 2, 1) := by decide +kernel
theorem dX4_firstApart_23 : decode cX4_firstApart 23 = .ok (.getfield 43, 3) := by decide +kernel
theorem dX4_firstApart_26 : decode cX4_firstApart 26 = .ok (.invokestatic 48, 3) := by decide +kernel
theorem dX4_firstApart_29 : decode cX4_firstApart 29 = .ok (.istore_n 3, 1) := by decide +kernel
theorem dX4_firstApart_30 : decode cX4_firstApart 30 = .ok (.aload_n 1, 1) := by decide +kernel
theorem dX4_firstApart_31 : decode cX4_firstApart 31 = .ok (.getfield 54, 3) := by decide +kernel
theorem dX4_firstApart_34 : decode cX4_firstApart 34 = .ok (.aload_n 2, 1) := by decide +kernel
theorem dX4_firstApart_35 : decode cX4_firstApart 35 = .ok (.getfield 54, 3) := by decide +kernel
theorem dX4_firstApart_38 : decode cX4_firstApart 38 = .ok (.ior, 1) := by decide +kernel
theorem dX4_firstApart_39 : decode cX4_firstApart 39 = .ok (.iconst 1, 1) := by decide +kernel
theorem dX4_firstApart_40 : decode cX4_firstApart 40 = .ok (.iload_n 3, 1) := by decide +kernel
theorem dX4_firstApart_41 : decode cX4_firstApart 41 = .ok (.ishl, 1) := by decide +kernel
theorem dX4_firstApart_42 : decode cX4_firstApart 42 = .ok (.iconst 1, 1) := by decide +kernel
theorem dX4_firstApart_43 : decode cX4_firstApart 43 = .ok (.isub, 1) := by decide +kernel
theorem dX4_firstApart_44 : decode cX4_firstApart 44 = .ok (.iconst 5, 1) := by decide +kernel
theorem dX4_firstApart_45 : decode cX4_firstApart 45 = .ok (.ishl, 1) := by decide +kernel
theorem dX4_firstApart_46 : decode cX4_firstApart 46 = .ok (.ior, 1) := by decide +kernel
theorem dX4_firstApart_47 : decode cX4_firstApart 47 = .ok (.istore 4, 2) := by decide +kernel
theorem dX4_firstApart_49 : decode cX4_firstApart 49 = .ok (.iconst 1, 1) := by decide +kernel
theorem dX4_firstApart_50 : decode cX4_firstApart 50 = .ok (.iload 4, 2) := by decide +kernel
theorem dX4_firstApart_52 : decode cX4_firstApart 52 = .ok (.invokestatic 57, 3) := by decide +kernel
theorem dX4_firstApart_55 : decode cX4_firstApart 55 = .ok (.ishl, 1) := by decide +kernel
theorem dX4_firstApart_56 : decode cX4_firstApart 56 = .ok (.istore 5, 2) := by decide +kernel
theorem dX4_firstApart_58 : decode cX4_firstApart 58 = .ok (.iconst 0, 1) := by decide +kernel
theorem dX4_firstApart_59 : decode cX4_firstApart 59 = .ok (.istore 6, 2) := by decide +kernel
theorem dX4_firstApart_61 : decode cX4_firstApart 61 = .ok (.iconst 0, 1) := by decide +kernel
theorem dX4_firstApart_62 : decode cX4_firstApart 62 = .ok (.istore 7, 2) := by decide +kernel
theorem dX4_firstApart_64 : decode cX4_firstApart 64 = .ok (.iload 7, 2) := by decide +kernel
theorem dX4_firstApart_66 : decode cX4_firstApart 66 = .ok (.iload 5, 2) := by decide +kernel
theorem dX4_firstApart_68 : decode cX4_firstApart 68 = .ok (.if_icmp .ge 56, 3) := by decide +kernel
theorem dX4_firstApart_71 : decode cX4_firstApart 71 = .ok (.aload_n 0, 1) := by decide +kernel
theorem dX4_firstApart_72 : decode cX4_firstApart 72 = .ok (.getfield 18, 3) := by decide +kernel
theorem dX4_firstApart_75 : decode cX4_firstApart 75 = .ok (.lconst 0, 1) := by decide +kernel
theorem dX4_firstApart_76 : decode cX4_firstApart 76 = .ok (.invokestatic 63, 3) := by decide +kernel
theorem dX4_firstApart_79 : decode cX4_firstApart 79 = .ok (.aload_n 0, 1) := by decide +kernel
theorem dX4_firstApart_80 : decode cX4_firstApart 80 = .ok (.aload_n 1, 1) := by decide +kernel
theorem dX4_firstApart_81 : decode cX4_firstApart 81 = .ok (.iconst 0, 1) := by decide +kernel
theorem dX4_firstApart_82 : decode cX4_firstApart 82 = .ok (.iload 6, 2) := by decide +kernel
theorem dX4_firstApart_84 : decode cX4_firstApart 84 = .ok (.iconst 1, 1) := by decide +kernel
theorem dX4_firstApart_85 : decode cX4_firstApart 85 = .ok (.invokevirtual 69, 3) := by decide +kernel
theorem dX4_firstApart_88 : decode cX4_firstApart 88 = .ok (.aload_n 0, 1) := by decide +kernel
theorem dX4_firstApart_89 : decode cX4_firstApart 89 = .ok (.aload_n 2, 1) := by decide +kernel
theorem dX4_firstApart_90 : decode cX4_firstApart 90 = .ok (.bipush 36, 2) := by decide +kernel
theorem dX4_firstApart_92 : decode cX4_firstApart 92 = .ok (.iload 6, 2) := by decide +kernel
theorem dX4_firstApart_94 : decode cX4_firstApart 94 = .ok (.iconst (-1), 1) := by decide +kernel
theorem dX4_firstApart_95 : decode cX4_firstApart 95 = .ok (.invokevirtual 69, 3) := by decide +kernel
theorem dX4_firstApart_98 : decode cX4_firstApart 98 = .ok (.aload_n 0, 1) := by decide +kernel
theorem dX4_firstApart_99 : decode cX4_firstApart 99 = .ok (.invokevirtual 73, 3) := by decide +kernel
theorem dX4_firstApart_102 : decode cX4_firstApart 102 = .ok (.ifCond .ne 6, 3) := by decide +kernel
theorem dX4_firstApart_105 : decode cX4_firstApart 105 = .ok (.iload 6, 2) := by decide +kernel
theorem dX4_firstApart_107 : decode cX4_firstApart 107 = .ok (.ireturn, 1) := by decide +kernel
theorem dX4_firstApart_108 : decode cX4_firstApart 108 = .ok (.iload 6, 2) := by decide +kernel
theorem dX4_firstApart_110 : decode cX4_firstApart 110 = .ok (.iload 4, 2) := by decide +kernel
theorem dX4_firstApart_112 : decode cX4_firstApart 112 = .ok (.isub, 1) := by decide +kernel
theorem dX4_firstApart_113 : decode cX4_firstApart 113 = .ok (.iload 4, 2) := by decide +kernel
theorem dX4_firstApart_115 : decode cX4_firstApart 115 = .ok (.iand, 1) := by decide +kernel
theorem dX4_firstApart_116 : decode cX4_firstApart 116 = .ok (.istore 6, 2) := by decide +kernel
theorem dX4_firstApart_118 : decode cX4_firstApart 118 = .ok (.iinc 7 1, 3) := by decide +kernel
theorem dX4_firstApart_121 : decode cX4_firstApart 121 = .ok (.goto (-57), 3) := by decide +kernel
theorem dX4_firstApart_124 : decode cX4_firstApart 124 = .ok (.iconst (-1), 1) := by decide +kernel
theorem dX4_firstApart_125 : decode cX4_firstApart 125 = .ok (.ireturn, 1) := by decide +kernel
def m_X4_firstApart_64 : Nat → (Int32 → Hp → Prop) → Nat → Nat → Int32 → Int32 → Int32 → Int32 → Hp → Prop
  | 0, _, _, _, _, _, _, _, _ => False
  | n + 1, Q, v1, v2, v4, v5, v6, v7, h => (v5 ≤ v7 → Q (-1) h) ∧ (¬ v5 ≤ v7 → m_J7_fill_d0a16 46 72 0 h (fun (h2 : Hp) => m_X4_pour v1 0 v6 1 h2 (fun (h4 : Hp) => m_X4_pour v2 36 v6 (-1) h4 (fun (h6 : Hp) => m_X4_isLevel h6 (fun (x7 : Int32) (h8 : Hp) => (¬ x7 = 0 → ∀ x9 : Int32, x9 = ((v6 - v4) &&& v4) → ∀ x10 : Int32, x10 = v7 + 1 → m_X4_firstApart_64 n Q v1 v2 v4 v5 x9 x10 h8) ∧ (x7 = 0 → Q v6 h8))))))
set_option maxHeartbeats 4000000 in
set_option maxRecDepth 100000 in
theorem s_X4_firstApart_64 {l : Launch} {G : Cx} {d : Nat} {h0 : Hp} (hd : 6 ≤ d) {Q : Int32 → Hp → Prop} : ∀ {n : Nat} {v1 : Nat} {v2 : Nat} {v4 : Int32} {v5 : Int32} {v6 : Int32} {v7 : Int32} {h : Hp}, m_X4_firstApart_64 n Q v1 v2 v4 v5 v6 v7 h → Rn l G d 0 0 MX4_firstApart h0 (qI Q) 64 [some (tR 4 0 (some 43)), some (tR 1 0 (some v1)), some (tR 1 0 (some v2)), none, some (tI v4), some (tI v5), some (tI v6), some (tI v7)] [] h 0 0 := by
  intro n
  induction n with
  | zero => intro v1 v2 v4 v5 v6 v7 h hm; exact hm.elim
  | succ n ih =>
    intro v1 v2 v4 v5 v6 v7 h hm
    have hk64 := fun (v1 : Nat) (v2 : Nat) (v4 : Int32) (v5 : Int32) (v6 : Int32) (v7 : Int32) (hh : Hp) (hm : m_X4_firstApart_64 n Q v1 v2 v4 v5 v6 v7 hh) => ih hm
    rw [m_X4_firstApart_64] at hm
    refine r_iload dX4_firstApart_64 rfl ?_
    refine r_iload dX4_firstApart_66 rfl ?_
    refine r_icmp_ge (tgt := 124) dX4_firstApart_68 rfl (fun hc => ?_) (fun hc => ?_)
    · replace hm := hm.1 hc
      refine r_iconst (v := (-1)) dX4_firstApart_124 rfl ?_
      exact r_ireturn dX4_firstApart_125 rfl ⟨by decide, by decide⟩ ⟨_, rfl, hm⟩
    · replace hm := hm.2 hc
      refine r_aload_n dX4_firstApart_71 rfl rfl ?_
      refine r_getC (k := 2) cl_4 dX4_firstApart_72 t_324 gf_4_2.1 gf_4_2.2 (gc_4_2 _) ?_
      refine r_lconst (v := 0) dX4_firstApart_75 rfl ?_
      refine r_callSU (d' := d - 1) (as := [tR 43 72 (some 46), tJ 0]) (st := []) dX4_firstApart_76 mi_J7_fill_d0a16 t_867 t_868 rfl rfl (Nat.le_of_ble_eq_true rfl) (by omega) ⟨by decide, by decide⟩ ⟨rfl, rfl⟩ (s_J7_fill_d0a16 (by omega) hm) (fun h2 hm => ?_)
      refine r_aload_n dX4_firstApart_79 rfl rfl ?_
      refine r_aload_n dX4_firstApart_80 rfl rfl ?_
      refine r_iconst (v := 0) dX4_firstApart_81 rfl ?_
      refine r_iload dX4_firstApart_82 rfl ?_
      refine r_iconst (v := 1) dX4_firstApart_84 rfl ?_
      refine r_callVU (d' := d - 1) (as := [tR 1 0 (some v1), tI 0, tI v6, tI 1]) (st := []) cl_4 dX4_firstApart_85 mi_X4_pour t_870 t_872 ts_28 rfl rfl (Nat.le_of_ble_eq_true rfl) (by omega) ⟨by decide, by decide⟩ ⟨rfl, rfl⟩ (s_X4_pour (by omega) hm) (fun h4 hm => ?_)
      refine r_aload_n dX4_firstApart_88 rfl rfl ?_
      refine r_aload_n dX4_firstApart_89 rfl rfl ?_
      refine r_bipush (v := 36) dX4_firstApart_90 rfl ?_
      refine r_iload dX4_firstApart_92 rfl ?_
      refine r_iconst (v := (-1)) dX4_firstApart_94 rfl ?_
      refine r_callVU (d' := d - 1) (as := [tR 1 0 (some v2), tI 36, tI v6, tI (-1)]) (st := []) cl_4 dX4_firstApart_95 mi_X4_pour t_870 t_872 ts_28 rfl rfl (Nat.le_of_ble_eq_true rfl) (by omega) ⟨by decide, by decide⟩ ⟨rfl, rfl⟩ (s_X4_pour (by omega) hm) (fun h6 hm => ?_)
      refine r_aload_n dX4_firstApart_98 rfl rfl ?_
      refine r_callVI (d' := d - 1) (as := []) (st := []) cl_4 dX4_firstApart_99 mi_X4_isLevel t_878 t_880 ts_29 rfl rfl (Nat.le_of_ble_eq_true rfl) (by omega) ⟨by decide, by decide⟩ ⟨rfl, rfl⟩ (s_X4_isLevel (by omega) hm) (fun x7 h8 hm => ?_)
      refine r_if_ne (tgt := 108) dX4_firstApart_102 rfl (fun hc => ?_) (fun hc => ?_)
      · replace hm := hm.1 hc
        refine r_iload dX4_firstApart_108 rfl ?_
        refine r_iload dX4_firstApart_110 rfl ?_
        refine r_isub dX4_firstApart_112 ?_
        refine r_iload dX4_firstApart_113 rfl ?_
        refine r_iand dX4_firstApart_115 ?_
        refine r_nmI (fun x9 e_x9 => ?_)
        replace hm := hm x9 e_x9
        refine r_istore (L' := [some (tR 4 0 (some 43)), some (tR 1 0 (some v1)), some (tR 1 0 (some v2)), none, some (tI v4), some (tI v5), some (tI x9), some (tI v7)]) dX4_firstApart_116 (by decide) rfl ?_
        obtain ⟨x10, e_x10⟩ : ∃ y : Int32, y = v7 + 1 := ⟨_, rfl⟩
        replace hm := hm x10 e_x10
        refine r_iinc (L' := [some (tR 4 0 (some 43)), some (tR 1 0 (some v1)), some (tR 1 0 (some v2)), none, some (tI v4), some (tI v5), some (tI x9), some (tI x10)]) dX4_firstApart_118 rfl (by rw [e_x10]; rfl) (by decide) rfl ?_
        refine r_goto (tgt := 64) dX4_firstApart_121 rfl ?_
        refine r_keep (L' := [some (tR 4 0 (some 43)), some (tR 1 0 (some v1)), some (tR 1 0 (some v2)), none, some (tI v4), some (tI v5), some (tI x9), some (tI x10)]) [true, true, true, false, true, true, true, true] rfl ?_
        exact hk64 _ _ _ _ _ _ _ hm
      · replace hm := hm.2 hc
        refine r_iload dX4_firstApart_105 rfl ?_
        exact r_ireturn dX4_firstApart_107 rfl ⟨by decide, by decide⟩ ⟨_, rfl, hm⟩
def m_X4_firstApart (v1 : Nat) (v2 : Nat) (h : Hp) (Q : Int32 → Hp → Prop) : Prop := m_X4_giveSlots v1 0 (wI h 43 3 0) (fun (h12 : Hp) => m_X4_giveSlots v2 36 h12 (fun (h14 : Hp) => ∀ x15 : Int32, x15 = (if (hI h14 v1 3) < (hI h14 v2 3) then (hI h14 v2 3) else (hI h14 v1 3)) → ∀ x16 : Int32, x16 = (((hI h14 v1 4) ||| (hI h14 v2 4)) ||| (((1 <<< (x15 &&& 31)) - 1) <<< (5 &&& 31))) → m_J6_bitCount_0f7a4 x16 h14 (fun (x17 : Int32) (h18 : Hp) => ∀ x19 : Int32, x19 = (1 <<< (x17 &&& 31)) → ∃ n64, m_X4_firstApart_64 n64 Q v1 v2 x16 x19 0 0 h18)))
set_option maxHeartbeats 4000000 in
set_option maxRecDepth 100000 in
theorem s_X4_firstApart {l : Launch} {G : Cx} {d : Nat} (hd : 6 ≤ d) {v1 : Nat} {v2 : Nat} {h : Hp} {Q : Int32 → Hp → Prop} (hm : m_X4_firstApart v1 v2 h Q) : Ct l G d 0 0 yX4_firstApart MX4_firstApart [tR 4 0 (some 43), tR 1 0 (some v1), tR 1 0 (some v2)] h (qI Q) := by
  unfold m_X4_firstApart at hm
  refine Ct.of (L := [some (tR 4 0 (some 43)), some (tR 1 0 (some v1)), some (tR 1 0 (some v2))]) (by decide) rfl rfl (Nat.le_of_ble_eq_true rfl) rfl ?_
  refine r_aload_n dX4_firstApart_0 rfl rfl ?_
  refine r_iconst (v := 0) dX4_firstApart_1 rfl ?_
  refine r_putI0 (k := 3) cl_4 dX4_firstApart_2 t_325 (Or.inl rfl) gf_4_3 pf_4_3.1 (Or.inl pf_4_3.2) ?_
  refine r_aload_n dX4_firstApart_5 rfl rfl ?_
  refine r_aload_n dX4_firstApart_6 rfl rfl ?_
  refine r_iconst (v := 0) dX4_firstApart_7 rfl ?_
  refine r_callVU (d' := d - 1) (as := [tR 1 0 (some v1), tI 0]) (st := []) cl_4 dX4_firstApart_8 mi_X4_giveSlots t_854 t_856 ts_27 rfl rfl (Nat.le_of_ble_eq_true rfl) (by omega) ⟨by decide, by decide⟩ ⟨rfl, rfl⟩ (s_X4_giveSlots (by omega) hm) (fun h12 hm => ?_)
  refine r_aload_n dX4_firstApart_11 rfl rfl ?_
  refine r_aload_n dX4_firstApart_12 rfl rfl ?_
  refine r_bipush (v := 36) dX4_firstApart_13 rfl ?_
  refine r_callVU (d' := d - 1) (as := [tR 1 0 (some v2), tI 36]) (st := []) cl_4 dX4_firstApart_15 mi_X4_giveSlots t_854 t_856 ts_27 rfl rfl (Nat.le_of_ble_eq_true rfl) (by omega) ⟨by decide, by decide⟩ ⟨rfl, rfl⟩ (s_X4_giveSlots (by omega) hm) (fun h14 hm => ?_)
  refine r_aload_n dX4_firstApart_18 rfl rfl ?_
  refine r_getI (k := 3) cl_1 dX4_firstApart_19 t_447 (Or.inl rfl) gf_1_3 ?_
  refine r_aload_n dX4_firstApart_22 rfl rfl ?_
  refine r_getI (k := 3) cl_1 dX4_firstApart_23 t_447 (Or.inl rfl) gf_1_3 ?_
  refine r_mmax dX4_firstApart_26 t_858 t_859 t_14 t_860 (by omega) ⟨by decide, by decide⟩ (Nat.le_of_ble_eq_true rfl) ?_
  refine r_nmI (fun x15 e_x15 => ?_)
  replace hm := hm x15 e_x15
  refine r_istore_n (L' := [some (tR 4 0 (some 43)), some (tR 1 0 (some v1)), some (tR 1 0 (some v2)), some (tI x15)]) dX4_firstApart_29 rfl (by decide) rfl ?_
  refine r_aload_n dX4_firstApart_30 rfl rfl ?_
  refine r_getI (k := 4) cl_1 dX4_firstApart_31 t_453 (Or.inl rfl) gf_1_4 ?_
  refine r_aload_n dX4_firstApart_34 rfl rfl ?_
  refine r_getI (k := 4) cl_1 dX4_firstApart_35 t_453 (Or.inl rfl) gf_1_4 ?_
  refine r_ior dX4_firstApart_38 ?_
  refine r_iconst (v := 1) dX4_firstApart_39 rfl ?_
  refine r_iload_n dX4_firstApart_40 rfl rfl ?_
  refine r_ishl dX4_firstApart_41 ?_
  refine r_iconst (v := 1) dX4_firstApart_42 rfl ?_
  refine r_isub dX4_firstApart_43 ?_
  refine r_iconst (v := 5) dX4_firstApart_44 rfl ?_
  refine r_ishl dX4_firstApart_45 ?_
  refine r_ior dX4_firstApart_46 ?_
  refine r_nmI (fun x16 e_x16 => ?_)
  replace hm := hm x16 e_x16
  refine r_istore (L' := [some (tR 4 0 (some 43)), some (tR 1 0 (some v1)), some (tR 1 0 (some v2)), some (tI x15), some (tI x16)]) dX4_firstApart_47 (by decide) rfl ?_
  refine r_iconst (v := 1) dX4_firstApart_49 rfl ?_
  refine r_iload dX4_firstApart_50 rfl ?_
  refine r_callSI (d' := d - 1) (as := [tI x16]) (st := [tI 1]) dX4_firstApart_52 mi_J6_bitCount_0f7a4 t_861 t_862 rfl rfl (Nat.le_of_ble_eq_true rfl) (by omega) ⟨by decide, by decide⟩ ⟨rfl, rfl⟩ (s_J6_bitCount_0f7a4 (by omega) hm) (fun x17 h18 hm => ?_)
  refine r_ishl dX4_firstApart_55 ?_
  refine r_nmI (fun x19 e_x19 => ?_)
  replace hm := hm x19 e_x19
  refine r_istore (L' := [some (tR 4 0 (some 43)), some (tR 1 0 (some v1)), some (tR 1 0 (some v2)), some (tI x15), some (tI x16), some (tI x19)]) dX4_firstApart_56 (by decide) rfl ?_
  refine r_iconst (v := 0) dX4_firstApart_58 rfl ?_
  refine r_istore (L' := [some (tR 4 0 (some 43)), some (tR 1 0 (some v1)), some (tR 1 0 (some v2)), some (tI x15), some (tI x16), some (tI x19), some (tI 0)]) dX4_firstApart_59 (by decide) rfl ?_
  refine r_iconst (v := 0) dX4_firstApart_61 rfl ?_
  refine r_istore (L' := [some (tR 4 0 (some 43)), some (tR 1 0 (some v1)), some (tR 1 0 (some v2)), some (tI x15), some (tI x16), some (tI x19), some (tI 0), some (tI 0)]) dX4_firstApart_62 (by decide) rfl ?_
  refine r_keep (L' := [some (tR 4 0 (some 43)), some (tR 1 0 (some v1)), some (tR 1 0 (some v2)), none, some (tI x16), some (tI x19), some (tI 0), some (tI 0)]) [true, true, true, false, true, true, true, true] rfl ?_
  obtain ⟨n, hm⟩ := hm
  refine s_X4_firstApart_64 hd hm
theorem dX4_hangTogether_0 : decode cX4_hangTogether 0 = .ok (.aload_n 1, 1) := rfl
theorem dX4_hangTogether_1 : decode cX4_hangTogether 1 = .ok (.getfield 102, 3) := rfl
theorem dX4_hangTogether_4 : decode cX4_hangTogether 4 = .ok (.aload_n 2, 1) := rfl
theorem dX4_hangTogether_5 : decode cX4_hangTogether 5 = .ok (.getfield 102, 3) := rfl
theorem dX4_hangTogether_8 : decode cX4_hangTogether 8 = .ok (.iand, 1) := rfl
theorem dX4_hangTogether_9 : decode cX4_hangTogether 9 = .ok (.bipush (-2), 2) := by decide +kernel
theorem dX4_hangTogether_11 : decode cX4_hangTogether 11 = .ok (.iand, 1) := rfl
theorem dX4_hangTogether_12 : decode cX4_hangTogether 12 = .ok (.istore 4, 2) := rfl
theorem dX4_hangTogether_14 : decode cX4_hangTogether 14 = .ok (.iload 4, 2) := rfl
theorem dX4_hangTogether_16 : decode cX4_hangTogether 16 = .ok (.ifCond .eq 45, 3) := by decide +kernel
theorem dX4_hangTogether_19 : decode cX4_hangTogether 19 = .ok (.aload_n 0, 1) := rfl
theorem dX4_hangTogether_20 : decode cX4_hangTogether 20 = .ok (.getfield 32, 3) := rfl
theorem dX4_hangTogether_23 : decode cX4_hangTogether 23 = .ok (.aload_n 1, 1) := rfl
theorem dX4_hangTogether_24 : decode cX4_hangTogether 24 = .ok (.getfield 105, 3) := rfl
theorem dX4_hangTogether_27 : decode cX4_hangTogether 27 = .ok (.iaload, 1) := rfl
theorem dX4_hangTogether_28 : decode cX4_hangTogether 28 = .ok (.aload_n 0, 1) := rfl
theorem dX4_hangTogether_29 : decode cX4_hangTogether 29 = .ok (.getfield 32, 3) := rfl
theorem dX4_hangTogether_32 : decode cX4_hangTogether 32 = .ok (.aload_n 2, 1) := rfl
theorem dX4_hangTogether_33 : decode cX4_hangTogether 33 = .ok (.getfield 105, 3) := rfl
theorem dX4_hangTogether_36 : decode cX4_hangTogether 36 = .ok (.iaload, 1) := rfl
theorem dX4_hangTogether_37 : decode cX4_hangTogether 37 = .ok (.iand, 1) := rfl
theorem dX4_hangTogether_38 : decode cX4_hangTogether 38 = .ok (.ifCond .eq 23, 3) := by decide +kernel
theorem dX4_hangTogether_41 : decode cX4_hangTogether 41 = .ok (.aload_n 1, 1) := rfl
theorem dX4_hangTogether_42 : decode cX4_hangTogether 42 = .ok (.getfield 108, 3) := rfl
theorem dX4_hangTogether_45 : decode cX4_hangTogether 45 = .ok (.aload_n 2, 1) := rfl
theorem dX4_hangTogether_46 : decode cX4_hangTogether 46 = .ok (.getfield 108, 3) := rfl
theorem dX4_hangTogether_49 : decode cX4_hangTogether 49 = .ok (.isub, 1) := rfl
theorem dX4_hangTogether_50 : decode cX4_hangTogether 50 = .ok (.invokestatic 111, 3) := rfl
theorem dX4_hangTogether_53 : decode cX4_hangTogether 53 = .ok (.iload_n 3, 1) := rfl
theorem dX4_hangTogether_54 : decode cX4_hangTogether 54 = .ok (.if_icmp .gt 7, 3) := by decide +kernel
theorem dX4_hangTogether_57 : decode cX4_hangTogether 57 = .ok (.iconst 1, 1) := rfl
theorem dX4_hangTogether_58 : decode cX4_hangTogether 58 = .ok (.goto 4, 3) := by decide +kernel
theorem dX4_hangTogether_61 : decode cX4_hangTogether 61 = .ok (.iconst 0, 1) := rfl
theorem dX4_hangTogether_62 : decode cX4_hangTogether 62 = .ok (.ireturn, 1) := rfl
def m_X4_hangTogether (v1 : Nat) (v2 : Nat) (v3 : Int32) (h : Hp) (Q : Int32 → Hp → Prop) : Prop := ∀ x1 : Int32, x1 = (((hI h v1 5) &&& (hI h v2 5)) &&& (-2)) → (x1 = 0 → Q 0 h) ∧ (¬ x1 = 0 → vp_in (hI h v1 0) 24 ∧ (vp_in (hI h v2 0) 24 ∧ ((((hI h 50 (ix (hI h v1 0))) &&& (hI h 50 (ix (hI h v2 0)))) = 0 → Q 0 h) ∧ (¬ ((hI h 50 (ix (hI h v1 0))) &&& (hI h 50 (ix (hI h v2 0)))) = 0 → (v3 < (if 0 ≤ ((hI h v1 1) - (hI h v2 1)) then ((hI h v1 1) - (hI h v2 1)) else 0 - ((hI h v1 1) - (hI h v2 1))) → Q 0 h) ∧ (¬ v3 < (if 0 ≤ ((hI h v1 1) - (hI h v2 1)) then ((hI h v1 1) - (hI h v2 1)) else 0 - ((hI h v1 1) - (hI h v2 1))) → Q 1 h)))))
set_option maxHeartbeats 4000000 in
set_option maxRecDepth 100000 in
theorem s_X4_hangTogether {l : Launch} {G : Cx} {d : Nat} (hd : 2 ≤ d) {v1 : Nat} {v2 : Nat} {v3 : Int32} {h : Hp} {Q : Int32 → Hp → Prop} (hm : m_X4_hangTogether v1 v2 v3 h Q) : Ct l G d 0 0 yX4_hangTogether MX4_hangTogether [tR 4 0 (some 43), tR 1 0 (some v1), tR 1 0 (some v2), tI v3] h (qI Q) := by
  unfold m_X4_hangTogether at hm
  refine Ct.of (L := [some (tR 4 0 (some 43)), some (tR 1 0 (some v1)), some (tR 1 0 (some v2)), some (tI v3)]) (by decide) rfl rfl (Nat.le_of_ble_eq_true rfl) rfl ?_
  refine r_aload_n dX4_hangTogether_0 rfl rfl ?_
  refine r_getI (k := 5) cl_1 dX4_hangTogether_1 t_458 (Or.inl rfl) gf_1_5 ?_
  refine r_aload_n dX4_hangTogether_4 rfl rfl ?_
  refine r_getI (k := 5) cl_1 dX4_hangTogether_5 t_458 (Or.inl rfl) gf_1_5 ?_
  refine r_iand dX4_hangTogether_8 ?_
  refine r_bipush (v := (-2)) dX4_hangTogether_9 rfl ?_
  refine r_iand dX4_hangTogether_11 ?_
  refine r_nmI (fun x1 e_x1 => ?_)
  replace hm := hm x1 e_x1
  refine r_istore (L' := [some (tR 4 0 (some 43)), some (tR 1 0 (some v1)), some (tR 1 0 (some v2)), some (tI v3), some (tI x1)]) dX4_hangTogether_12 (by decide) rfl ?_
  refine r_iload dX4_hangTogether_14 rfl ?_
  refine r_if_eq (tgt := 61) dX4_hangTogether_16 rfl (fun hc => ?_) (fun hc => ?_)
  · replace hm := hm.1 hc
    refine r_iconst (v := 0) dX4_hangTogether_61 rfl ?_
    exact r_bret dX4_hangTogether_62 rfl ⟨by decide, by decide⟩ (by unfold bz; decide) ⟨_, rfl, hm⟩
  · replace hm := hm.2 hc
    refine r_aload_n dX4_hangTogether_19 rfl rfl ?_
    refine r_getC (k := 6) cl_4 dX4_hangTogether_20 t_330 gf_4_6.1 gf_4_6.2 (gc_4_6 _) ?_
    refine r_aload_n dX4_hangTogether_23 rfl rfl ?_
    refine r_getI (k := 0) cl_1 dX4_hangTogether_24 t_437 (Or.inl rfl) gf_1_0 ?_
    refine r_iald dX4_hangTogether_27 hm.1 ?_
    replace hm := hm.2
    refine r_aload_n dX4_hangTogether_28 rfl rfl ?_
    refine r_getC (k := 6) cl_4 dX4_hangTogether_29 t_330 gf_4_6.1 gf_4_6.2 (gc_4_6 _) ?_
    refine r_aload_n dX4_hangTogether_32 rfl rfl ?_
    refine r_getI (k := 0) cl_1 dX4_hangTogether_33 t_437 (Or.inl rfl) gf_1_0 ?_
    refine r_iald dX4_hangTogether_36 hm.1 ?_
    replace hm := hm.2
    refine r_iand dX4_hangTogether_37 ?_
    refine r_if_eq (tgt := 61) dX4_hangTogether_38 rfl (fun hc => ?_) (fun hc => ?_)
    · replace hm := hm.1 hc
      refine r_iconst (v := 0) dX4_hangTogether_61 rfl ?_
      exact r_bret dX4_hangTogether_62 rfl ⟨by decide, by decide⟩ (by unfold bz; decide) ⟨_, rfl, hm⟩
    · replace hm := hm.2 hc
      refine r_aload_n dX4_hangTogether_41 rfl rfl ?_
      refine r_getI (k := 1) cl_1 dX4_hangTogether_42 t_440 (Or.inl rfl) gf_1_1 ?_
      refine r_aload_n dX4_hangTogether_45 rfl rfl ?_
      refine r_getI (k := 1) cl_1 dX4_hangTogether_46 t_440 (Or.inl rfl) gf_1_1 ?_
      refine r_isub dX4_hangTogether_49 ?_
      refine r_mabs dX4_hangTogether_50 t_1236 t_1237 t_14 t_1238 (by omega) ⟨by decide, by decide⟩ (Nat.le_of_ble_eq_true rfl) ?_
      refine r_iload_n dX4_hangTogether_53 rfl rfl ?_
      refine r_icmp_gt (tgt := 61) dX4_hangTogether_54 rfl (fun hc => ?_) (fun hc => ?_)
      · replace hm := hm.1 hc
        refine r_iconst (v := 0) dX4_hangTogether_61 rfl ?_
        exact r_bret dX4_hangTogether_62 rfl ⟨by decide, by decide⟩ (by unfold bz; decide) ⟨_, rfl, hm⟩
      · replace hm := hm.2 hc
        refine r_iconst (v := 1) dX4_hangTogether_57 rfl ?_
        refine r_goto (tgt := 62) dX4_hangTogether_58 rfl ?_
        exact r_bret dX4_hangTogether_62 rfl ⟨by decide, by decide⟩ (by unfold bz; decide) ⟨_, rfl, hm⟩
theorem dX4_join_0 : decode cX4_join 0 = .ok (.iload_n 1, 1) := rfl
theorem dX4_join_1 : decode cX4_join 1 = .ok (.iload_n 2, 1) := rfl
theorem dX4_join_2 : decode cX4_join 2 = .ok (.invokestatic 114, 3) := rfl
theorem dX4_join_5 : decode cX4_join 5 = .ok (.istore 4, 2) := rfl
theorem dX4_join_7 : decode cX4_join 7 = .ok (.iconst 0, 1) := rfl
theorem dX4_join_8 : decode cX4_join 8 = .ok (.istore 5, 2) := rfl
theorem dX4_join_10 : decode cX4_join 10 = .ok (.iload 5, 2) := rfl
theorem dX4_join_12 : decode cX4_join 12 = .ok (.iload_n 3, 1) := rfl
theorem dX4_join_13 : decode cX4_join 13 = .ok (.if_icmp .gt 40, 3) := by decide +kernel
theorem dX4_join_16 : decode cX4_join 16 = .ok (.aload_n 0, 1) := rfl
theorem dX4_join_17 : decode cX4_join 17 = .ok (.getfield 22, 3) := rfl
theorem dX4_join_20 : decode cX4_join 20 = .ok (.iload 5, 2) := rfl
theorem dX4_join_22 : decode cX4_join 22 = .ok (.iaload, 1) := rfl
theorem dX4_join_23 : decode cX4_join 23 = .ok (.iload_n 1, 1) := rfl
theorem dX4_join_24 : decode cX4_join 24 = .ok (.if_icmp .eq 14, 3) := by decide +kernel
theorem dX4_join_27 : decode cX4_join 27 = .ok (.aload_n 0, 1) := rfl
theorem dX4_join_28 : decode cX4_join 28 = .ok (.getfield 22, 3) := rfl
theorem dX4_join_31 : decode cX4_join 31 = .ok (.iload 5, 2) := rfl
theorem dX4_join_33 : decode cX4_join 33 = .ok (.iaload, 1) := rfl
theorem dX4_join_34 : decode cX4_join 34 = .ok (.iload_n 2, 1) := rfl
theorem dX4_join_35 : decode cX4_join 35 = .ok (.if_icmp .ne 12, 3) := by decide +kernel
theorem dX4_join_38 : decode cX4_join 38 = .ok (.aload_n 0, 1) := rfl
theorem dX4_join_39 : decode cX4_join 39 = .ok (.getfield 22, 3) := rfl
theorem dX4_join_42 : decode cX4_join 42 = .ok (.iload 5, 2) := rfl
theorem dX4_join_44 : decode cX4_join 44 = .ok (.iload 4, 2) := rfl
theorem dX4_join_46 : decode cX4_join 46 = .ok (.iastore, 1) := rfl
theorem dX4_join_47 : decode cX4_join 47 = .ok (.iinc 5 1, 3) := by decide +kernel
theorem dX4_join_50 : decode cX4_join 50 = .ok (.goto (-40), 3) := by decide +kernel
theorem dX4_join_53 : decode cX4_join 53 = .ok (.return_, 1) := rfl
def m_X4_join_47 (k10 : Int32 → Int32 → Int32 → Int32 → Int32 → Hp → Prop) (Q : Hp → Prop) (v1 : Int32) (v2 : Int32) (v3 : Int32) (v4 : Int32) (v5 : Int32) (h : Hp) : Prop := ∀ x1 : Int32, x1 = v5 + 1 → k10 v1 v2 v3 v4 x1 h
set_option maxHeartbeats 4000000 in
set_option maxRecDepth 100000 in
theorem s_X4_join_47 {l : Launch} {G : Cx} {d : Nat} {h0 : Hp} (hd : 2 ≤ d) {k10 : Int32 → Int32 → Int32 → Int32 → Int32 → Hp → Prop} {Q : Hp → Prop} (hk10 : ∀ (v1 : Int32) (v2 : Int32) (v3 : Int32) (v4 : Int32) (v5 : Int32) (hh : Hp), k10 v1 v2 v3 v4 v5 hh → Rn l G d 0 0 MX4_join h0 (qV Q) 10 [some (tR 4 0 (some 43)), some (tI v1), some (tI v2), some (tI v3), some (tI v4), some (tI v5)] [] hh 0 0) {v1 : Int32} {v2 : Int32} {v3 : Int32} {v4 : Int32} {v5 : Int32} {h : Hp} (hm : m_X4_join_47 k10 Q v1 v2 v3 v4 v5 h) : Rn l G d 0 0 MX4_join h0 (qV Q) 47 [some (tR 4 0 (some 43)), some (tI v1), some (tI v2), some (tI v3), some (tI v4), some (tI v5)] [] h 0 0 := by
  unfold m_X4_join_47 at hm
  obtain ⟨x1, e_x1⟩ : ∃ y : Int32, y = v5 + 1 := ⟨_, rfl⟩
  replace hm := hm x1 e_x1
  refine r_iinc (L' := [some (tR 4 0 (some 43)), some (tI v1), some (tI v2), some (tI v3), some (tI v4), some (tI x1)]) dX4_join_47 rfl (by rw [e_x1]; rfl) (by decide) rfl ?_
  refine r_goto (tgt := 10) dX4_join_50 rfl ?_
  refine r_keep (L' := [some (tR 4 0 (some 43)), some (tI v1), some (tI v2), some (tI v3), some (tI v4), some (tI x1)]) [true, true, true, true, true, true] rfl ?_
  exact hk10 _ _ _ _ _ _ hm
def m_X4_join_38 (k10 : Int32 → Int32 → Int32 → Int32 → Int32 → Hp → Prop) (Q : Hp → Prop) (v1 : Int32) (v2 : Int32) (v3 : Int32) (v4 : Int32) (v5 : Int32) (h : Hp) : Prop := vp_in v5 24 ∧ (m_X4_join_47 k10 Q v1 v2 v3 v4 v5 (wI h 47 (ix v5) v4))
set_option maxHeartbeats 4000000 in
set_option maxRecDepth 100000 in
theorem s_X4_join_38 {l : Launch} {G : Cx} {d : Nat} {h0 : Hp} (hd : 2 ≤ d) {k10 : Int32 → Int32 → Int32 → Int32 → Int32 → Hp → Prop} {Q : Hp → Prop} (hk10 : ∀ (v1 : Int32) (v2 : Int32) (v3 : Int32) (v4 : Int32) (v5 : Int32) (hh : Hp), k10 v1 v2 v3 v4 v5 hh → Rn l G d 0 0 MX4_join h0 (qV Q) 10 [some (tR 4 0 (some 43)), some (tI v1), some (tI v2), some (tI v3), some (tI v4), some (tI v5)] [] hh 0 0) {v1 : Int32} {v2 : Int32} {v3 : Int32} {v4 : Int32} {v5 : Int32} {h : Hp} (hm : m_X4_join_38 k10 Q v1 v2 v3 v4 v5 h) : Rn l G d 0 0 MX4_join h0 (qV Q) 38 [some (tR 4 0 (some 43)), some (tI v1), some (tI v2), some (tI v3), some (tI v4), some (tI v5)] [] h 0 0 := by
  unfold m_X4_join_38 at hm
  refine r_aload_n dX4_join_38 rfl rfl ?_
  refine r_getC (k := 4) cl_4 dX4_join_39 t_326 gf_4_4.1 gf_4_4.2 (gc_4_4 _) ?_
  refine r_iload dX4_join_42 rfl ?_
  refine r_iload dX4_join_44 rfl ?_
  refine r_iast dX4_join_46 hm.1 ?_
  replace hm := hm.2
  refine r_keep (L' := [some (tR 4 0 (some 43)), some (tI v1), some (tI v2), some (tI v3), some (tI v4), some (tI v5)]) [true, true, true, true, true, true] rfl ?_
  exact s_X4_join_47 hd hk10 hm
def m_X4_join_10 : Nat → (Hp → Prop) → Int32 → Int32 → Int32 → Int32 → Int32 → Hp → Prop
  | 0, _, _, _, _, _, _, _ => False
  | n + 1, Q, v1, v2, v3, v4, v5, h => (v3 < v5 → Q h) ∧ (¬ v3 < v5 → vp_in v5 24 ∧ (((hI h 47 (ix v5)) = v1 → m_X4_join_38 (fun (v1 : Int32) (v2 : Int32) (v3 : Int32) (v4 : Int32) (v5 : Int32) (hh : Hp) => m_X4_join_10 n Q v1 v2 v3 v4 v5 hh) Q v1 v2 v3 v4 v5 h) ∧ (¬ (hI h 47 (ix v5)) = v1 → vp_in v5 24 ∧ ((¬ (hI h 47 (ix v5)) = v2 → m_X4_join_47 (fun (v1 : Int32) (v2 : Int32) (v3 : Int32) (v4 : Int32) (v5 : Int32) (hh : Hp) => m_X4_join_10 n Q v1 v2 v3 v4 v5 hh) Q v1 v2 v3 v4 v5 h) ∧ ((hI h 47 (ix v5)) = v2 → m_X4_join_38 (fun (v1 : Int32) (v2 : Int32) (v3 : Int32) (v4 : Int32) (v5 : Int32) (hh : Hp) => m_X4_join_10 n Q v1 v2 v3 v4 v5 hh) Q v1 v2 v3 v4 v5 h)))))
set_option maxHeartbeats 4000000 in
set_option maxRecDepth 100000 in
theorem s_X4_join_10 {l : Launch} {G : Cx} {d : Nat} {h0 : Hp} (hd : 2 ≤ d) {Q : Hp → Prop} : ∀ {n : Nat} {v1 : Int32} {v2 : Int32} {v3 : Int32} {v4 : Int32} {v5 : Int32} {h : Hp}, m_X4_join_10 n Q v1 v2 v3 v4 v5 h → Rn l G d 0 0 MX4_join h0 (qV Q) 10 [some (tR 4 0 (some 43)), some (tI v1), some (tI v2), some (tI v3), some (tI v4), some (tI v5)] [] h 0 0 := by
  intro n
  induction n with
  | zero => intro v1 v2 v3 v4 v5 h hm; exact hm.elim
  | succ n ih =>
    intro v1 v2 v3 v4 v5 h hm
    have hk10 := fun (v1 : Int32) (v2 : Int32) (v3 : Int32) (v4 : Int32) (v5 : Int32) (hh : Hp) (hm : m_X4_join_10 n Q v1 v2 v3 v4 v5 hh) => ih hm
    rw [m_X4_join_10] at hm
    refine r_iload dX4_join_10 rfl ?_
    refine r_iload_n dX4_join_12 rfl rfl ?_
    refine r_icmp_gt (tgt := 53) dX4_join_13 rfl (fun hc => ?_) (fun hc => ?_)
    · replace hm := hm.1 hc
      exact r_return dX4_join_53 rfl ⟨by decide, by decide⟩ ⟨rfl, hm⟩
    · replace hm := hm.2 hc
      refine r_aload_n dX4_join_16 rfl rfl ?_
      refine r_getC (k := 4) cl_4 dX4_join_17 t_326 gf_4_4.1 gf_4_4.2 (gc_4_4 _) ?_
      refine r_iload dX4_join_20 rfl ?_
      refine r_iald dX4_join_22 hm.1 ?_
      replace hm := hm.2
      refine r_iload_n dX4_join_23 rfl rfl ?_
      refine r_icmp_eq (tgt := 38) dX4_join_24 rfl (fun hc => ?_) (fun hc => ?_)
      · replace hm := hm.1 hc
        refine r_keep (L' := [some (tR 4 0 (some 43)), some (tI v1), some (tI v2), some (tI v3), some (tI v4), some (tI v5)]) [true, true, true, true, true, true] rfl ?_
        exact s_X4_join_38 hd hk10 hm
      · replace hm := hm.2 hc
        refine r_aload_n dX4_join_27 rfl rfl ?_
        refine r_getC (k := 4) cl_4 dX4_join_28 t_326 gf_4_4.1 gf_4_4.2 (gc_4_4 _) ?_
        refine r_iload dX4_join_31 rfl ?_
        refine r_iald dX4_join_33 hm.1 ?_
        replace hm := hm.2
        refine r_iload_n dX4_join_34 rfl rfl ?_
        refine r_icmp_ne (tgt := 47) dX4_join_35 rfl (fun hc => ?_) (fun hc => ?_)
        · replace hm := hm.1 hc
          refine r_keep (L' := [some (tR 4 0 (some 43)), some (tI v1), some (tI v2), some (tI v3), some (tI v4), some (tI v5)]) [true, true, true, true, true, true] rfl ?_
          exact s_X4_join_47 hd hk10 hm
        · replace hm := hm.2 hc
          refine r_keep (L' := [some (tR 4 0 (some 43)), some (tI v1), some (tI v2), some (tI v3), some (tI v4), some (tI v5)]) [true, true, true, true, true, true] rfl ?_
          exact s_X4_join_38 hd hk10 hm
def m_X4_join (v1 : Int32) (v2 : Int32) (v3 : Int32) (h : Hp) (Q : Hp → Prop) : Prop := ∀ x2 : Int32, x2 = (if v2 < v1 then v2 else v1) → ∃ n10, m_X4_join_10 n10 Q v1 v2 v3 x2 0 h
set_option maxHeartbeats 4000000 in
set_option maxRecDepth 100000 in
theorem s_X4_join {l : Launch} {G : Cx} {d : Nat} (hd : 2 ≤ d) {v1 : Int32} {v2 : Int32} {v3 : Int32} {h : Hp} {Q : Hp → Prop} (hm : m_X4_join v1 v2 v3 h Q) : Ct l G d 0 0 yX4_join MX4_join [tR 4 0 (some 43), tI v1, tI v2, tI v3] h (qV Q) := by
  unfold m_X4_join at hm
  refine Ct.of (L := [some (tR 4 0 (some 43)), some (tI v1), some (tI v2), some (tI v3)]) (by decide) rfl rfl (Nat.le_of_ble_eq_true rfl) rfl ?_
  refine r_iload_n dX4_join_0 rfl rfl ?_
  refine r_iload_n dX4_join_1 rfl rfl ?_
  refine r_mmin dX4_join_2 t_1243 t_513 t_14 t_514 (by omega) ⟨by decide, by decide⟩ (Nat.le_of_ble_eq_true rfl) ?_
  refine r_nmI (fun x2 e_x2 => ?_)
  replace hm := hm x2 e_x2
  refine r_istore (L' := [some (tR 4 0 (some 43)), some (tI v1), some (tI v2), some (tI v3), some (tI x2)]) dX4_join_5 (by decide) rfl ?_
  refine r_iconst (v := 0) dX4_join_7 rfl ?_
  refine r_istore (L' := [some (tR 4 0 (some 43)), some (tI v1), some (tI v2), some (tI v3), some (tI x2), some (tI 0)]) dX4_join_8 (by decide) rfl ?_
  refine r_keep (L' := [some (tR 4 0 (some 43)), some (tI v1), some (tI v2), some (tI v3), some (tI x2), some (tI 0)]) [true, true, true, true, true, true] rfl ?_
  obtain ⟨n, hm⟩ := hm
  refine s_X4_join_10 hd hm
theorem dX4_gather_0 : decode cX4_gather 0 = .ok (.iconst 0, 1) := by decide +kernel
theorem dX4_gather_1 : decode cX4_gather 1 = .ok (.istore 5, 2) := by decide +kernel
theorem dX4_gather_3 : decode cX4_gather 3 = .ok (.iload 5, 2) := by decide +kernel
theorem dX4_gather_5 : decode cX4_gather 5 = .ok (.iload_n 2, 1) := by decide +kernel
theorem dX4_gather_6 : decode cX4_gather 6 = .ok (.if_icmp .ge 103, 3) := by decide +kernel
theorem dX4_gather_9 : decode cX4_gather 9 = .ok (.aload_n 0, 1) := by decide +kernel
theorem dX4_gather_10 : decode cX4_gather 10 = .ok (.getfield 22, 3) := by decide +kernel
theorem dX4_gather_13 : decode cX4_gather 13 = .ok (.iload 5, 2) := by decide +kernel
theorem dX4_gather_15 : decode cX4_gather 15 = .ok (.iload 5, 2) := by decide +kernel
theorem dX4_gather_17 : decode cX4_gather 17 = .ok (.iastore, 1) := by decide +kernel
theorem dX4_gather_18 : decode cX4_gather 18 = .ok (.aload_n 0, 1) := by decide +kernel
theorem dX4_gather_19 : decode cX4_gather 19 = .ok (.getfield 32, 3) := by decide +kernel
theorem dX4_gather_22 : decode cX4_gather 22 = .ok (.iload 5, 2) := by decide +kernel
theorem dX4_gather_24 : decode cX4_gather 24 = .ok (.aload_n 1, 1) := by decide +kernel
theorem dX4_gather_25 : decode cX4_gather 25 = .ok (.iload 5, 2) := by decide +kernel
theorem dX4_gather_27 : decode cX4_gather 27 = .ok (.aaload, 1) := by decide +kernel
theorem dX4_gather_28 : decode cX4_gather 28 = .ok (.aload 4, 2) := by decide +kernel
theorem dX4_gather_30 : decode cX4_gather 30 = .ok (.invokevirtual 90, 3) := by decide +kernel
theorem dX4_gather_33 : decode cX4_gather 33 = .ok (.iastore, 1) := by decide +kernel
theorem dX4_gather_34 : decode cX4_gather 34 = .ok (.iconst 0, 1) := by decide +kernel
theorem dX4_gather_35 : decode cX4_gather 35 = .ok (.istore 6, 2) := by decide +kernel
theorem dX4_gather_37 : decode cX4_gather 37 = .ok (.iload 6, 2) := by decide +kernel
theorem dX4_gather_39 : decode cX4_gather 39 = .ok (.iload 5, 2) := by decide +kernel
theorem dX4_gather_41 : decode cX4_gather 41 = .ok (.if_icmp .ge 62, 3) := by decide +kernel
theorem dX4_gather_44 : decode cX4_gather 44 = .ok (.aload_n 0, 1) := by decide +kernel
theorem dX4_gather_45 : decode cX4_gather 45 = .ok (.getfield 22, 3) := by decide +kernel
theorem dX4_gather_48 : decode cX4_gather 48 = .ok (.iload 5, 2) := by decide +kernel
theorem dX4_gather_50 : decode cX4_gather 50 = .ok (.iaload, 1) := by decide +kernel
theorem dX4_gather_51 : decode cX4_gather 51 = .ok (.aload_n 0, 1) := by decide +kernel
theorem dX4_gather_52 : decode cX4_gather 52 = .ok (.getfield 22, 3) := by decide +kernel
theorem dX4_gather_55 : decode cX4_gather 55 = .ok (.iload 6, 2) := by decide +kernel
theorem dX4_gather_57 : decode cX4_gather 57 = .ok (.iaload, 1) := by decide +kernel
theorem dX4_gather_58 : decode cX4_gather 58 = .ok (.if_icmp .eq 39, 3) := by decide +kernel
theorem dX4_gather_61 : decode cX4_gather 61 = .ok (.aload_n 0, 1) := by decide +kernel
theorem dX4_gather_62 : decode cX4_gather 62 = .ok (.aload_n 1, 1) := by decide +kernel
theorem dX4_gather_63 : decode cX4_gather 63 = .ok (.iload 5, 2) := by decide +kernel
theorem dX4_gather_65 : decode cX4_gather 65 = .ok (.aaload, 1) := by decide +kernel
theorem dX4_gather_66 : decode cX4_gather 66 = .ok (.aload_n 1, 1) := by decide +kernel
theorem dX4_gather_67 : decode cX4_gather 67 = .ok (.iload 6, 2) := by decide +kernel
theorem dX4_gather_69 : decode cX4_gather 69 = .ok (.aaload, 1) := by decide +kernel
theorem dX4_gather_70 : decode cX4_gather 70 = .ok (.iload_n 3, 1) := by decide +kernel
theorem dX4_gather_71 : decode cX4_gather 71 = .ok (.invokevirtual 94, 3) := by decide +kernel
theorem dX4_gather_74 : decode cX4_gather 74 = .ok (.ifCond .eq 23, 3) := by decide +kernel
theorem dX4_gather_77 : decode cX4_gather 77 = .ok (.aload_n 0, 1) := by decide +kernel
theorem dX4_gather_78 : decode cX4_gather 78 = .ok (.aload_n 0, 1) := by decide +kernel
theorem dX4_gather_79 : decode cX4_gather 79 = .ok (.getfield 22, 3) := by decide +kernel
theorem dX4_gather_82 : decode cX4_gather 82 = .ok (.iload 5, 2) := by decide +kernel
theorem dX4_gather_84 : decode cX4_gather 84 = .ok (.iaload, 1) := by decide +kernel
theorem dX4_gather_85 : decode cX4_gather 85 = .ok (.aload_n 0, 1) := by decide +kernel
theorem dX4_gather_86 : decode cX4_gather 86 = .ok (.getfield 22, 3) := by decide +kernel
theorem dX4_gather_89 : decode cX4_gather 89 = .ok (.iload 6, 2) := by decide +kernel
theorem dX4_gather_91 : decode cX4_gather 91 = .ok (.iaload, 1) := by decide +kernel
theorem dX4_gather_92 : decode cX4_gather 92 = .ok (.iload 5, 2) := by decide +kernel
theorem dX4_gather_94 : decode cX4_gather 94 = .ok (.invokevirtual 98, 3) := by decide +kernel
theorem dX4_gather_97 : decode cX4_gather 97 = .ok (.iinc 6 1, 3) := by decide +kernel
theorem dX4_gather_100 : decode cX4_gather 100 = .ok (.goto (-63), 3) := by decide +kernel
theorem dX4_gather_103 : decode cX4_gather 103 = .ok (.iinc 5 1, 3) := by decide +kernel
theorem dX4_gather_106 : decode cX4_gather 106 = .ok (.goto (-103), 3) := by decide +kernel
theorem dX4_gather_109 : decode cX4_gather 109 = .ok (.return_, 1) := by decide +kernel
def m_X4_gather_103 (k3 : Nat → Nat → Int32 → Int32 → Nat → Nat → Int32 → Hp → Prop) (Q : Hp → Prop) (v1n : Nat) (v1 : Nat) (v2 : Int32) (v3 : Int32) (v4n : Nat) (v4 : Nat) (v5 : Int32) (h : Hp) : Prop := ∀ x1 : Int32, x1 = v5 + 1 → k3 v1n v1 v2 v3 v4n v4 x1 h
set_option maxHeartbeats 4000000 in
set_option maxRecDepth 100000 in
theorem s_X4_gather_103 {l : Launch} {G : Cx} {d : Nat} {h0 : Hp} (hd : 4 ≤ d) {k3 : Nat → Nat → Int32 → Int32 → Nat → Nat → Int32 → Hp → Prop} {Q : Hp → Prop} (hk3 : ∀ (v1n : Nat) (v1 : Nat) (v2 : Int32) (v3 : Int32) (v4n : Nat) (v4 : Nat) (v5 : Int32) (hh : Hp), k3 v1n v1 v2 v3 v4n v4 v5 hh → Rn l G d 0 0 MX4_gather h0 (qV Q) 3 [some (tR 4 0 (some 43)), some (tR 51 v1n (some v1)), some (tI v2), some (tI v3), some (tR 40 v4n (some v4)), some (tI v5)] [] hh 0 0) {v1n : Nat} {v1 : Nat} {v2 : Int32} {v3 : Int32} {v4n : Nat} {v4 : Nat} {v5 : Int32} {h : Hp} (hm : m_X4_gather_103 k3 Q v1n v1 v2 v3 v4n v4 v5 h) : Rn l G d 0 0 MX4_gather h0 (qV Q) 103 [some (tR 4 0 (some 43)), some (tR 51 v1n (some v1)), some (tI v2), some (tI v3), some (tR 40 v4n (some v4)), some (tI v5)] [] h 0 0 := by
  unfold m_X4_gather_103 at hm
  obtain ⟨x1, e_x1⟩ : ∃ y : Int32, y = v5 + 1 := ⟨_, rfl⟩
  replace hm := hm x1 e_x1
  refine r_iinc (L' := [some (tR 4 0 (some 43)), some (tR 51 v1n (some v1)), some (tI v2), some (tI v3), some (tR 40 v4n (some v4)), some (tI x1)]) dX4_gather_103 rfl (by rw [e_x1]; rfl) (by decide) rfl ?_
  refine r_goto (tgt := 3) dX4_gather_106 rfl ?_
  refine r_keep (L' := [some (tR 4 0 (some 43)), some (tR 51 v1n (some v1)), some (tI v2), some (tI v3), some (tR 40 v4n (some v4)), some (tI x1)]) [true, true, true, true, true, true] rfl ?_
  exact hk3 _ _ _ _ _ _ _ _ hm
def m_X4_gather_97 (k37 : Nat → Nat → Int32 → Int32 → Nat → Nat → Int32 → Int32 → Hp → Prop) (k103 : Nat → Nat → Int32 → Int32 → Nat → Nat → Int32 → Hp → Prop) (Q : Hp → Prop) (v1n : Nat) (v1 : Nat) (v2 : Int32) (v3 : Int32) (v4n : Nat) (v4 : Nat) (v5 : Int32) (v6 : Int32) (h : Hp) : Prop := ∀ x2 : Int32, x2 = v6 + 1 → k37 v1n v1 v2 v3 v4n v4 v5 x2 h
set_option maxHeartbeats 4000000 in
set_option maxRecDepth 100000 in
theorem s_X4_gather_97 {l : Launch} {G : Cx} {d : Nat} {h0 : Hp} (hd : 4 ≤ d) {k37 : Nat → Nat → Int32 → Int32 → Nat → Nat → Int32 → Int32 → Hp → Prop} {k103 : Nat → Nat → Int32 → Int32 → Nat → Nat → Int32 → Hp → Prop} {Q : Hp → Prop} (hk37 : ∀ (v1n : Nat) (v1 : Nat) (v2 : Int32) (v3 : Int32) (v4n : Nat) (v4 : Nat) (v5 : Int32) (v6 : Int32) (hh : Hp), k37 v1n v1 v2 v3 v4n v4 v5 v6 hh → Rn l G d 0 0 MX4_gather h0 (qV Q) 37 [some (tR 4 0 (some 43)), some (tR 51 v1n (some v1)), some (tI v2), some (tI v3), some (tR 40 v4n (some v4)), some (tI v5), some (tI v6)] [] hh 0 0) (hk103 : ∀ (v1n : Nat) (v1 : Nat) (v2 : Int32) (v3 : Int32) (v4n : Nat) (v4 : Nat) (v5 : Int32) (hh : Hp), k103 v1n v1 v2 v3 v4n v4 v5 hh → Rn l G d 0 0 MX4_gather h0 (qV Q) 103 [some (tR 4 0 (some 43)), some (tR 51 v1n (some v1)), some (tI v2), some (tI v3), some (tR 40 v4n (some v4)), some (tI v5)] [] hh 0 0) {v1n : Nat} {v1 : Nat} {v2 : Int32} {v3 : Int32} {v4n : Nat} {v4 : Nat} {v5 : Int32} {v6 : Int32} {h : Hp} (hm : m_X4_gather_97 k37 k103 Q v1n v1 v2 v3 v4n v4 v5 v6 h) : Rn l G d 0 0 MX4_gather h0 (qV Q) 97 [some (tR 4 0 (some 43)), some (tR 51 v1n (some v1)), some (tI v2), some (tI v3), some (tR 40 v4n (some v4)), some (tI v5), some (tI v6)] [] h 0 0 := by
  unfold m_X4_gather_97 at hm
  obtain ⟨x2, e_x2⟩ : ∃ y : Int32, y = v6 + 1 := ⟨_, rfl⟩
  replace hm := hm x2 e_x2
  refine r_iinc (L' := [some (tR 4 0 (some 43)), some (tR 51 v1n (some v1)), some (tI v2), some (tI v3), some (tR 40 v4n (some v4)), some (tI v5), some (tI x2)]) dX4_gather_97 rfl (by rw [e_x2]; rfl) (by decide) rfl ?_
  refine r_goto (tgt := 37) dX4_gather_100 rfl ?_
  refine r_keep (L' := [some (tR 4 0 (some 43)), some (tR 51 v1n (some v1)), some (tI v2), some (tI v3), some (tR 40 v4n (some v4)), some (tI v5), some (tI x2)]) [true, true, true, true, true, true, true] rfl ?_
  exact hk37 _ _ _ _ _ _ _ _ _ hm
def m_X4_gather_37 : Nat → (Nat → Nat → Int32 → Int32 → Nat → Nat → Int32 → Hp → Prop) → (Hp → Prop) → Nat → Nat → Int32 → Int32 → Nat → Nat → Int32 → Int32 → Hp → Prop
  | 0, _, _, _, _, _, _, _, _, _, _, _ => False
  | n + 1, k103, Q, v1n, v1, v2, v3, v4n, v4, v5, v6, h => (v5 ≤ v6 → k103 v1n v1 v2 v3 v4n v4 v5 h) ∧ (¬ v5 ≤ v6 → vp_in v5 24 ∧ (vp_in v6 24 ∧ (((hI h 47 (ix v5)) = (hI h 47 (ix v6)) → m_X4_gather_97 (fun (v1n : Nat) (v1 : Nat) (v2 : Int32) (v3 : Int32) (v4n : Nat) (v4 : Nat) (v5 : Int32) (v6 : Int32) (hh : Hp) => m_X4_gather_37 n k103 Q v1n v1 v2 v3 v4n v4 v5 v6 hh) k103 Q v1n v1 v2 v3 v4n v4 v5 v6 h) ∧ (¬ (hI h 47 (ix v5)) = (hI h 47 (ix v6)) → vp_in v5 v1n ∧ ∃ b3 : Nat, hR h v1 (ix v5) = some b3 ∧ (vp_in v6 v1n ∧ ∃ b4 : Nat, hR h v1 (ix v6) = some b4 ∧ (m_X4_hangTogether b3 b4 v3 h (fun (x5 : Int32) (h6 : Hp) => (x5 = 0 → m_X4_gather_97 (fun (v1n : Nat) (v1 : Nat) (v2 : Int32) (v3 : Int32) (v4n : Nat) (v4 : Nat) (v5 : Int32) (v6 : Int32) (hh : Hp) => m_X4_gather_37 n k103 Q v1n v1 v2 v3 v4n v4 v5 v6 hh) k103 Q v1n v1 v2 v3 v4n v4 v5 v6 h6) ∧ (¬ x5 = 0 → vp_in v5 24 ∧ (vp_in v6 24 ∧ (m_X4_join (hI h6 47 (ix v5)) (hI h6 47 (ix v6)) v5 h6 (fun (h8 : Hp) => m_X4_gather_97 (fun (v1n : Nat) (v1 : Nat) (v2 : Int32) (v3 : Int32) (v4n : Nat) (v4 : Nat) (v5 : Int32) (v6 : Int32) (hh : Hp) => m_X4_gather_37 n k103 Q v1n v1 v2 v3 v4n v4 v5 v6 hh) k103 Q v1n v1 v2 v3 v4n v4 v5 v6 h8)))))))))))
set_option maxHeartbeats 4000000 in
set_option maxRecDepth 100000 in
theorem s_X4_gather_37 {l : Launch} {G : Cx} {d : Nat} {h0 : Hp} (hd : 4 ≤ d) {k103 : Nat → Nat → Int32 → Int32 → Nat → Nat → Int32 → Hp → Prop} {Q : Hp → Prop} (hk103 : ∀ (v1n : Nat) (v1 : Nat) (v2 : Int32) (v3 : Int32) (v4n : Nat) (v4 : Nat) (v5 : Int32) (hh : Hp), k103 v1n v1 v2 v3 v4n v4 v5 hh → Rn l G d 0 0 MX4_gather h0 (qV Q) 103 [some (tR 4 0 (some 43)), some (tR 51 v1n (some v1)), some (tI v2), some (tI v3), some (tR 40 v4n (some v4)), some (tI v5)] [] hh 0 0) : ∀ {n : Nat} {v1n : Nat} {v1 : Nat} {v2 : Int32} {v3 : Int32} {v4n : Nat} {v4 : Nat} {v5 : Int32} {v6 : Int32} {h : Hp}, m_X4_gather_37 n k103 Q v1n v1 v2 v3 v4n v4 v5 v6 h → Rn l G d 0 0 MX4_gather h0 (qV Q) 37 [some (tR 4 0 (some 43)), some (tR 51 v1n (some v1)), some (tI v2), some (tI v3), some (tR 40 v4n (some v4)), some (tI v5), some (tI v6)] [] h 0 0 := by
  intro n
  induction n with
  | zero => intro v1n v1 v2 v3 v4n v4 v5 v6 h hm; exact hm.elim
  | succ n ih =>
    intro v1n v1 v2 v3 v4n v4 v5 v6 h hm
    have hk37 := fun (v1n : Nat) (v1 : Nat) (v2 : Int32) (v3 : Int32) (v4n : Nat) (v4 : Nat) (v5 : Int32) (v6 : Int32) (hh : Hp) (hm : m_X4_gather_37 n k103 Q v1n v1 v2 v3 v4n v4 v5 v6 hh) => ih hm
    rw [m_X4_gather_37] at hm
    refine r_iload dX4_gather_37 rfl ?_
    refine r_iload dX4_gather_39 rfl ?_
    refine r_icmp_ge (tgt := 103) dX4_gather_41 rfl (fun hc => ?_) (fun hc => ?_)
    · replace hm := hm.1 hc
      refine r_keep (L' := [some (tR 4 0 (some 43)), some (tR 51 v1n (some v1)), some (tI v2), some (tI v3), some (tR 40 v4n (some v4)), some (tI v5)]) [true, true, true, true, true, true] rfl ?_
      exact hk103 _ _ _ _ _ _ _ _ hm
    · replace hm := hm.2 hc
      refine r_aload_n dX4_gather_44 rfl rfl ?_
      refine r_getC (k := 4) cl_4 dX4_gather_45 t_326 gf_4_4.1 gf_4_4.2 (gc_4_4 _) ?_
      refine r_iload dX4_gather_48 rfl ?_
      refine r_iald dX4_gather_50 hm.1 ?_
      replace hm := hm.2
      refine r_aload_n dX4_gather_51 rfl rfl ?_
      refine r_getC (k := 4) cl_4 dX4_gather_52 t_326 gf_4_4.1 gf_4_4.2 (gc_4_4 _) ?_
      refine r_iload dX4_gather_55 rfl ?_
      refine r_iald dX4_gather_57 hm.1 ?_
      replace hm := hm.2
      refine r_icmp_eq (tgt := 97) dX4_gather_58 rfl (fun hc => ?_) (fun hc => ?_)
      · replace hm := hm.1 hc
        refine r_keep (L' := [some (tR 4 0 (some 43)), some (tR 51 v1n (some v1)), some (tI v2), some (tI v3), some (tR 40 v4n (some v4)), some (tI v5), some (tI v6)]) [true, true, true, true, true, true, true] rfl ?_
        exact s_X4_gather_97 hd hk37 hk103 hm
      · replace hm := hm.2 hc
        refine r_aload_n dX4_gather_61 rfl rfl ?_
        refine r_aload_n dX4_gather_62 rfl rfl ?_
        refine r_iload dX4_gather_63 rfl ?_
        obtain ⟨hi_b3, b3, hb_b3, hm⟩ := hm
        refine r_aaldS (kd := 1) (ti := 5) (cn := RX1) dX4_gather_65 rfl hi_b3 hb_b3 ?_
        refine r_aload_n dX4_gather_66 rfl rfl ?_
        refine r_iload dX4_gather_67 rfl ?_
        obtain ⟨hi_b4, b4, hb_b4, hm⟩ := hm
        refine r_aaldS (kd := 1) (ti := 5) (cn := RX1) dX4_gather_69 rfl hi_b4 hb_b4 ?_
        refine r_iload_n dX4_gather_70 rfl rfl ?_
        refine r_callVI (d' := d - 1) (as := [tR 1 0 (some b3), tR 1 0 (some b4), tI v3]) (st := []) cl_4 dX4_gather_71 mi_X4_hangTogether t_1232 t_1234 ts_55 rfl rfl (Nat.le_of_ble_eq_true rfl) (by omega) ⟨by decide, by decide⟩ ⟨rfl, rfl⟩ (s_X4_hangTogether (by omega) hm) (fun x5 h6 hm => ?_)
        refine r_if_eq (tgt := 97) dX4_gather_74 rfl (fun hc => ?_) (fun hc => ?_)
        · replace hm := hm.1 hc
          refine r_keep (L' := [some (tR 4 0 (some 43)), some (tR 51 v1n (some v1)), some (tI v2), some (tI v3), some (tR 40 v4n (some v4)), some (tI v5), some (tI v6)]) [true, true, true, true, true, true, true] rfl ?_
          exact s_X4_gather_97 hd hk37 hk103 hm
        · replace hm := hm.2 hc
          refine r_aload_n dX4_gather_77 rfl rfl ?_
          refine r_aload_n dX4_gather_78 rfl rfl ?_
          refine r_getC (k := 4) cl_4 dX4_gather_79 t_326 gf_4_4.1 gf_4_4.2 (gc_4_4 _) ?_
          refine r_iload dX4_gather_82 rfl ?_
          refine r_iald dX4_gather_84 hm.1 ?_
          replace hm := hm.2
          refine r_aload_n dX4_gather_85 rfl rfl ?_
          refine r_getC (k := 4) cl_4 dX4_gather_86 t_326 gf_4_4.1 gf_4_4.2 (gc_4_4 _) ?_
          refine r_iload dX4_gather_89 rfl ?_
          refine r_iald dX4_gather_91 hm.1 ?_
          replace hm := hm.2
          refine r_iload dX4_gather_92 rfl ?_
          refine r_callVU (d' := d - 1) (as := [tI (hI h6 47 (ix v5)), tI (hI h6 47 (ix v6)), tI v5]) (st := []) cl_4 dX4_gather_94 mi_X4_join t_1239 t_1241 ts_56 rfl rfl (Nat.le_of_ble_eq_true rfl) (by omega) ⟨by decide, by decide⟩ ⟨rfl, rfl⟩ (s_X4_join (by omega) hm) (fun h8 hm => ?_)
          refine r_keep (L' := [some (tR 4 0 (some 43)), some (tR 51 v1n (some v1)), some (tI v2), some (tI v3), some (tR 40 v4n (some v4)), some (tI v5), some (tI v6)]) [true, true, true, true, true, true, true] rfl ?_
          exact s_X4_gather_97 hd hk37 hk103 hm
def m_X4_gather_3 : Nat → (Hp → Prop) → Nat → Nat → Int32 → Int32 → Nat → Nat → Int32 → Hp → Prop
  | 0, _, _, _, _, _, _, _, _, _ => False
  | n + 1, Q, v1n, v1, v2, v3, v4n, v4, v5, h => (v2 ≤ v5 → Q h) ∧ (¬ v2 ≤ v5 → vp_in v5 24 ∧ (vp_in v5 v1n ∧ ∃ b9 : Nat, hR (wI h 47 (ix v5) v5) v1 (ix v5) = some b9 ∧ (m_X1_familiesIn b9 v4 v4n (wI h 47 (ix v5) v5) (fun (x10 : Int32) (h11 : Hp) => vp_in v5 24 ∧ (∃ n37, m_X4_gather_37 n37 (m_X4_gather_103 (fun (v1n : Nat) (v1 : Nat) (v2 : Int32) (v3 : Int32) (v4n : Nat) (v4 : Nat) (v5 : Int32) (hh : Hp) => m_X4_gather_3 n Q v1n v1 v2 v3 v4n v4 v5 hh) Q) Q v1n v1 v2 v3 v4n v4 v5 0 (wI h11 50 (ix v5) x10))))))
set_option maxHeartbeats 4000000 in
set_option maxRecDepth 100000 in
theorem s_X4_gather_3 {l : Launch} {G : Cx} {d : Nat} {h0 : Hp} (hd : 4 ≤ d) {Q : Hp → Prop} : ∀ {n : Nat} {v1n : Nat} {v1 : Nat} {v2 : Int32} {v3 : Int32} {v4n : Nat} {v4 : Nat} {v5 : Int32} {h : Hp}, m_X4_gather_3 n Q v1n v1 v2 v3 v4n v4 v5 h → Rn l G d 0 0 MX4_gather h0 (qV Q) 3 [some (tR 4 0 (some 43)), some (tR 51 v1n (some v1)), some (tI v2), some (tI v3), some (tR 40 v4n (some v4)), some (tI v5)] [] h 0 0 := by
  intro n
  induction n with
  | zero => intro v1n v1 v2 v3 v4n v4 v5 h hm; exact hm.elim
  | succ n ih =>
    intro v1n v1 v2 v3 v4n v4 v5 h hm
    have hk3 := fun (v1n : Nat) (v1 : Nat) (v2 : Int32) (v3 : Int32) (v4n : Nat) (v4 : Nat) (v5 : Int32) (hh : Hp) (hm : m_X4_gather_3 n Q v1n v1 v2 v3 v4n v4 v5 hh) => ih hm
    rw [m_X4_gather_3] at hm
    refine r_iload dX4_gather_3 rfl ?_
    refine r_iload_n dX4_gather_5 rfl rfl ?_
    refine r_icmp_ge (tgt := 109) dX4_gather_6 rfl (fun hc => ?_) (fun hc => ?_)
    · replace hm := hm.1 hc
      exact r_return dX4_gather_109 rfl ⟨by decide, by decide⟩ ⟨rfl, hm⟩
    · replace hm := hm.2 hc
      refine r_aload_n dX4_gather_9 rfl rfl ?_
      refine r_getC (k := 4) cl_4 dX4_gather_10 t_326 gf_4_4.1 gf_4_4.2 (gc_4_4 _) ?_
      refine r_iload dX4_gather_13 rfl ?_
      refine r_iload dX4_gather_15 rfl ?_
      refine r_iast dX4_gather_17 hm.1 ?_
      replace hm := hm.2
      refine r_aload_n dX4_gather_18 rfl rfl ?_
      refine r_getC (k := 6) cl_4 dX4_gather_19 t_330 gf_4_6.1 gf_4_6.2 (gc_4_6 _) ?_
      refine r_iload dX4_gather_22 rfl ?_
      refine r_aload_n dX4_gather_24 rfl rfl ?_
      refine r_iload dX4_gather_25 rfl ?_
      obtain ⟨hi_b9, b9, hb_b9, hm⟩ := hm
      refine r_aaldS (kd := 1) (ti := 5) (cn := RX1) dX4_gather_27 rfl hi_b9 hb_b9 ?_
      refine r_aload dX4_gather_28 rfl ?_
      refine r_callVI (d' := d - 1) (as := [tR 40 v4n (some v4)]) (st := [tI v5, tR 40 24 (some 50)]) cl_1 dX4_gather_30 mi_X1_familiesIn t_1231 t_835 t_836 rfl rfl (Nat.le_of_ble_eq_true rfl) (by omega) ⟨by decide, by decide⟩ ⟨rfl, rfl⟩ (s_X1_familiesIn (by omega) hm) (fun x10 h11 hm => ?_)
      refine r_iast dX4_gather_33 hm.1 ?_
      replace hm := hm.2
      refine r_iconst (v := 0) dX4_gather_34 rfl ?_
      refine r_istore (L' := [some (tR 4 0 (some 43)), some (tR 51 v1n (some v1)), some (tI v2), some (tI v3), some (tR 40 v4n (some v4)), some (tI v5), some (tI 0)]) dX4_gather_35 (by decide) rfl ?_
      refine r_keep (L' := [some (tR 4 0 (some 43)), some (tR 51 v1n (some v1)), some (tI v2), some (tI v3), some (tR 40 v4n (some v4)), some (tI v5), some (tI 0)]) [true, true, true, true, true, true, true] rfl ?_
      obtain ⟨n, hm⟩ := hm
      refine s_X4_gather_37 hd ?_ hm
      · exact (fun _ _ _ _ _ _ _ _ hm => s_X4_gather_103 hd hk3 hm)
def m_X4_gather (v1 : Nat) (v1n : Nat) (v2 : Int32) (v3 : Int32) (v4 : Nat) (v4n : Nat) (h : Hp) (Q : Hp → Prop) : Prop := ∃ n3, m_X4_gather_3 n3 Q v1n v1 v2 v3 v4n v4 0 h
set_option maxHeartbeats 4000000 in
set_option maxRecDepth 100000 in
theorem s_X4_gather {l : Launch} {G : Cx} {d : Nat} (hd : 4 ≤ d) {v1 : Nat} {v1n : Nat} {v2 : Int32} {v3 : Int32} {v4 : Nat} {v4n : Nat} {h : Hp} {Q : Hp → Prop} (hm : m_X4_gather v1 v1n v2 v3 v4 v4n h Q) : Ct l G d 0 0 yX4_gather MX4_gather [tR 4 0 (some 43), tR 51 v1n (some v1), tI v2, tI v3, tR 40 v4n (some v4)] h (qV Q) := by
  unfold m_X4_gather at hm
  refine Ct.of (L := [some (tR 4 0 (some 43)), some (tR 51 v1n (some v1)), some (tI v2), some (tI v3), some (tR 40 v4n (some v4))]) (by decide) rfl rfl (Nat.le_of_ble_eq_true rfl) rfl ?_
  refine r_iconst (v := 0) dX4_gather_0 rfl ?_
  refine r_istore (L' := [some (tR 4 0 (some 43)), some (tR 51 v1n (some v1)), some (tI v2), some (tI v3), some (tR 40 v4n (some v4)), some (tI 0)]) dX4_gather_1 (by decide) rfl ?_
  refine r_keep (L' := [some (tR 4 0 (some 43)), some (tR 51 v1n (some v1)), some (tI v2), some (tI v3), some (tR 40 v4n (some v4)), some (tI 0)]) [true, true, true, true, true, true] rfl ?_
  obtain ⟨n, hm⟩ := hm
  refine s_X4_gather_3 hd hm
theorem dX4_heaps_0 : decode cX4_heaps 0 = .ok (.iconst 0, 1) := rfl
theorem dX4_heaps_1 : decode cX4_heaps 1 = .ok (.istore_n 2, 1) := rfl
theorem dX4_heaps_2 : decode cX4_heaps 2 = .ok (.iconst 0, 1) := rfl
theorem dX4_heaps_3 : decode cX4_heaps 3 = .ok (.istore_n 3, 1) := rfl
theorem dX4_heaps_4 : decode cX4_heaps 4 = .ok (.iload_n 3, 1) := rfl
theorem dX4_heaps_5 : decode cX4_heaps 5 = .ok (.iload_n 1, 1) := rfl
theorem dX4_heaps_6 : decode cX4_heaps 6 = .ok (.if_icmp .ge 22, 3) := by decide +kernel
theorem dX4_heaps_9 : decode cX4_heaps 9 = .ok (.aload_n 0, 1) := rfl
theorem dX4_heaps_10 : decode cX4_heaps 10 = .ok (.getfield 22, 3) := rfl
theorem dX4_heaps_13 : decode cX4_heaps 13 = .ok (.iload_n 3, 1) := rfl
theorem dX4_heaps_14 : decode cX4_heaps 14 = .ok (.iaload, 1) := rfl
theorem dX4_heaps_15 : decode cX4_heaps 15 = .ok (.iload_n 3, 1) := rfl
theorem dX4_heaps_16 : decode cX4_heaps 16 = .ok (.if_icmp .ne 6, 3) := by decide +kernel
theorem dX4_heaps_19 : decode cX4_heaps 19 = .ok (.iinc 2 1, 3) := by decide +kernel
theorem dX4_heaps_22 : decode cX4_heaps 22 = .ok (.iinc 3 1, 3) := by decide +kernel
theorem dX4_heaps_25 : decode cX4_heaps 25 = .ok (.goto (-21), 3) := by decide +kernel
theorem dX4_heaps_28 : decode cX4_heaps 28 = .ok (.iload_n 2, 1) := rfl
theorem dX4_heaps_29 : decode cX4_heaps 29 = .ok (.ireturn, 1) := rfl
def m_X4_heaps_22 (k4 : Int32 → Int32 → Int32 → Hp → Prop) (Q : Int32 → Hp → Prop) (v1 : Int32) (v2 : Int32) (v3 : Int32) (h : Hp) : Prop := ∀ x1 : Int32, x1 = v3 + 1 → k4 v1 v2 x1 h
set_option maxHeartbeats 4000000 in
set_option maxRecDepth 100000 in
theorem s_X4_heaps_22 {l : Launch} {G : Cx} {d : Nat} {h0 : Hp} (hd : 2 ≤ d) {k4 : Int32 → Int32 → Int32 → Hp → Prop} {Q : Int32 → Hp → Prop} (hk4 : ∀ (v1 : Int32) (v2 : Int32) (v3 : Int32) (hh : Hp), k4 v1 v2 v3 hh → Rn l G d 0 0 MX4_heaps h0 (qI Q) 4 [some (tR 4 0 (some 43)), some (tI v1), some (tI v2), some (tI v3)] [] hh 0 0) {v1 : Int32} {v2 : Int32} {v3 : Int32} {h : Hp} (hm : m_X4_heaps_22 k4 Q v1 v2 v3 h) : Rn l G d 0 0 MX4_heaps h0 (qI Q) 22 [some (tR 4 0 (some 43)), some (tI v1), some (tI v2), some (tI v3)] [] h 0 0 := by
  unfold m_X4_heaps_22 at hm
  obtain ⟨x1, e_x1⟩ : ∃ y : Int32, y = v3 + 1 := ⟨_, rfl⟩
  replace hm := hm x1 e_x1
  refine r_iinc (L' := [some (tR 4 0 (some 43)), some (tI v1), some (tI v2), some (tI x1)]) dX4_heaps_22 rfl (by rw [e_x1]; rfl) (by decide) rfl ?_
  refine r_goto (tgt := 4) dX4_heaps_25 rfl ?_
  refine r_keep (L' := [some (tR 4 0 (some 43)), some (tI v1), some (tI v2), some (tI x1)]) [true, true, true, true] rfl ?_
  exact hk4 _ _ _ _ hm
def m_X4_heaps_4 : Nat → (Int32 → Hp → Prop) → Int32 → Int32 → Int32 → Hp → Prop
  | 0, _, _, _, _, _ => False
  | n + 1, Q, v1, v2, v3, h => (v1 ≤ v3 → Q v2 h) ∧ (¬ v1 ≤ v3 → vp_in v3 24 ∧ ((¬ (hI h 47 (ix v3)) = v3 → m_X4_heaps_22 (fun (v1 : Int32) (v2 : Int32) (v3 : Int32) (hh : Hp) => m_X4_heaps_4 n Q v1 v2 v3 hh) Q v1 v2 v3 h) ∧ ((hI h 47 (ix v3)) = v3 → ∀ x2 : Int32, x2 = v2 + 1 → m_X4_heaps_22 (fun (v1 : Int32) (v2 : Int32) (v3 : Int32) (hh : Hp) => m_X4_heaps_4 n Q v1 v2 v3 hh) Q v1 x2 v3 h)))
set_option maxHeartbeats 4000000 in
set_option maxRecDepth 100000 in
theorem s_X4_heaps_4 {l : Launch} {G : Cx} {d : Nat} {h0 : Hp} (hd : 2 ≤ d) {Q : Int32 → Hp → Prop} : ∀ {n : Nat} {v1 : Int32} {v2 : Int32} {v3 : Int32} {h : Hp}, m_X4_heaps_4 n Q v1 v2 v3 h → Rn l G d 0 0 MX4_heaps h0 (qI Q) 4 [some (tR 4 0 (some 43)), some (tI v1), some (tI v2), some (tI v3)] [] h 0 0 := by
  intro n
  induction n with
  | zero => intro v1 v2 v3 h hm; exact hm.elim
  | succ n ih =>
    intro v1 v2 v3 h hm
    have hk4 := fun (v1 : Int32) (v2 : Int32) (v3 : Int32) (hh : Hp) (hm : m_X4_heaps_4 n Q v1 v2 v3 hh) => ih hm
    rw [m_X4_heaps_4] at hm
    refine r_iload_n dX4_heaps_4 rfl rfl ?_
    refine r_iload_n dX4_heaps_5 rfl rfl ?_
    refine r_icmp_ge (tgt := 28) dX4_heaps_6 rfl (fun hc => ?_) (fun hc => ?_)
    · replace hm := hm.1 hc
      refine r_iload_n dX4_heaps_28 rfl rfl ?_
      exact r_ireturn dX4_heaps_29 rfl ⟨by decide, by decide⟩ ⟨_, rfl, hm⟩
    · replace hm := hm.2 hc
      refine r_aload_n dX4_heaps_9 rfl rfl ?_
      refine r_getC (k := 4) cl_4 dX4_heaps_10 t_326 gf_4_4.1 gf_4_4.2 (gc_4_4 _) ?_
      refine r_iload_n dX4_heaps_13 rfl rfl ?_
      refine r_iald dX4_heaps_14 hm.1 ?_
      replace hm := hm.2
      refine r_iload_n dX4_heaps_15 rfl rfl ?_
      refine r_icmp_ne (tgt := 22) dX4_heaps_16 rfl (fun hc => ?_) (fun hc => ?_)
      · replace hm := hm.1 hc
        refine r_keep (L' := [some (tR 4 0 (some 43)), some (tI v1), some (tI v2), some (tI v3)]) [true, true, true, true] rfl ?_
        exact s_X4_heaps_22 hd hk4 hm
      · replace hm := hm.2 hc
        obtain ⟨x2, e_x2⟩ : ∃ y : Int32, y = v2 + 1 := ⟨_, rfl⟩
        replace hm := hm x2 e_x2
        refine r_iinc (L' := [some (tR 4 0 (some 43)), some (tI v1), some (tI x2), some (tI v3)]) dX4_heaps_19 rfl (by rw [e_x2]; rfl) (by decide) rfl ?_
        refine r_keep (L' := [some (tR 4 0 (some 43)), some (tI v1), some (tI x2), some (tI v3)]) [true, true, true, true] rfl ?_
        exact s_X4_heaps_22 hd hk4 hm
def m_X4_heaps (v1 : Int32) (h : Hp) (Q : Int32 → Hp → Prop) : Prop := ∃ n4, m_X4_heaps_4 n4 Q v1 0 0 h
set_option maxHeartbeats 4000000 in
set_option maxRecDepth 100000 in
theorem s_X4_heaps {l : Launch} {G : Cx} {d : Nat} (hd : 2 ≤ d) {v1 : Int32} {h : Hp} {Q : Int32 → Hp → Prop} (hm : m_X4_heaps v1 h Q) : Ct l G d 0 0 yX4_heaps MX4_heaps [tR 4 0 (some 43), tI v1] h (qI Q) := by
  unfold m_X4_heaps at hm
  refine Ct.of (L := [some (tR 4 0 (some 43)), some (tI v1)]) (by decide) rfl rfl (Nat.le_of_ble_eq_true rfl) rfl ?_
  refine r_iconst (v := 0) dX4_heaps_0 rfl ?_
  refine r_istore_n (L' := [some (tR 4 0 (some 43)), some (tI v1), some (tI 0)]) dX4_heaps_1 rfl (by decide) rfl ?_
  refine r_iconst (v := 0) dX4_heaps_2 rfl ?_
  refine r_istore_n (L' := [some (tR 4 0 (some 43)), some (tI v1), some (tI 0), some (tI 0)]) dX4_heaps_3 rfl (by decide) rfl ?_
  refine r_keep (L' := [some (tR 4 0 (some 43)), some (tI v1), some (tI 0), some (tI 0)]) [true, true, true, true] rfl ?_
  obtain ⟨n, hm⟩ := hm
  refine s_X4_heaps_4 hd hm
theorem dX4_fillBundle_0 : decode cX4_fillBundle 0 = .ok (.aload_n 0, 1) := rfl
theorem dX4_fillBundle_1 : decode cX4_fillBundle 1 = .ok (.getfield 28, 3) := rfl
theorem dX4_fillBundle_4 : decode cX4_fillBundle 4 = .ok (.iconst 0, 1) := rfl
theorem dX4_fillBundle_5 : decode cX4_fillBundle 5 = .ok (.putfield 117, 3) := rfl
theorem dX4_fillBundle_8 : decode cX4_fillBundle 8 = .ok (.iconst 0, 1) := rfl
theorem dX4_fillBundle_9 : decode cX4_fillBundle 9 = .ok (.istore 4, 2) := rfl
theorem dX4_fillBundle_11 : decode cX4_fillBundle 11 = .ok (.iload 4, 2) := rfl
theorem dX4_fillBundle_13 : decode cX4_fillBundle 13 = .ok (.iload_n 2, 1) := rfl
theorem dX4_fillBundle_14 : decode cX4_fillBundle 14 = .ok (.if_icmp .ge 50, 3) := by decide +kernel
theorem dX4_fillBundle_17 : decode cX4_fillBundle 17 = .ok (.aload_n 0, 1) := rfl
theorem dX4_fillBundle_18 : decode cX4_fillBundle 18 = .ok (.getfield 22, 3) := rfl
theorem dX4_fillBundle_21 : decode cX4_fillBundle 21 = .ok (.iload 4, 2) := rfl
theorem dX4_fillBundle_23 : decode cX4_fillBundle 23 = .ok (.iaload, 1) := rfl
theorem dX4_fillBundle_24 : decode cX4_fillBundle 24 = .ok (.aload_n 0, 1) := rfl
theorem dX4_fillBundle_25 : decode cX4_fillBundle 25 = .ok (.getfield 22, 3) := rfl
theorem dX4_fillBundle_28 : decode cX4_fillBundle 28 = .ok (.iload_n 3, 1) := rfl
theorem dX4_fillBundle_29 : decode cX4_fillBundle 29 = .ok (.iaload, 1) := rfl
theorem dX4_fillBundle_30 : decode cX4_fillBundle 30 = .ok (.if_icmp .ne 28, 3) := by decide +kernel
theorem dX4_fillBundle_33 : decode cX4_fillBundle 33 = .ok (.aload_n 0, 1) := rfl
theorem dX4_fillBundle_34 : decode cX4_fillBundle 34 = .ok (.getfield 28, 3) := rfl
theorem dX4_fillBundle_37 : decode cX4_fillBundle 37 = .ok (.getfield 117, 3) := rfl
theorem dX4_fillBundle_40 : decode cX4_fillBundle 40 = .ok (.bipush 6, 2) := by decide +kernel
theorem dX4_fillBundle_42 : decode cX4_fillBundle 42 = .ok (.if_icmp .lt 5, 3) := by decide +kernel
theorem dX4_fillBundle_45 : decode cX4_fillBundle 45 = .ok (.iconst 0, 1) := rfl
theorem dX4_fillBundle_46 : decode cX4_fillBundle 46 = .ok (.ireturn, 1) := rfl
theorem dX4_fillBundle_47 : decode cX4_fillBundle 47 = .ok (.aload_n 0, 1) := rfl
theorem dX4_fillBundle_48 : decode cX4_fillBundle 48 = .ok (.getfield 28, 3) := rfl
theorem dX4_fillBundle_51 : decode cX4_fillBundle 51 = .ok (.aload_n 1, 1) := rfl
theorem dX4_fillBundle_52 : decode cX4_fillBundle 52 = .ok (.iload 4, 2) := rfl
theorem dX4_fillBundle_54 : decode cX4_fillBundle 54 = .ok (.aaload, 1) := rfl
theorem dX4_fillBundle_55 : decode cX4_fillBundle 55 = .ok (.invokevirtual 120, 3) := rfl
theorem dX4_fillBundle_58 : decode cX4_fillBundle 58 = .ok (.iinc 4 1, 3) := by decide +kernel
theorem dX4_fillBundle_61 : decode cX4_fillBundle 61 = .ok (.goto (-50), 3) := by decide +kernel
theorem dX4_fillBundle_64 : decode cX4_fillBundle 64 = .ok (.iconst 1, 1) := rfl
theorem dX4_fillBundle_65 : decode cX4_fillBundle 65 = .ok (.ireturn, 1) := rfl
def m_X4_fillBundle_58 (k11 : Nat → Nat → Int32 → Int32 → Int32 → Hp → Prop) (Q : Int32 → Hp → Prop) (v1n : Nat) (v1 : Nat) (v2 : Int32) (v3 : Int32) (v4 : Int32) (h : Hp) : Prop := ∀ x1 : Int32, x1 = v4 + 1 → k11 v1n v1 v2 v3 x1 h
set_option maxHeartbeats 4000000 in
set_option maxRecDepth 100000 in
theorem s_X4_fillBundle_58 {l : Launch} {G : Cx} {d : Nat} {h0 : Hp} (hd : 4 ≤ d) {k11 : Nat → Nat → Int32 → Int32 → Int32 → Hp → Prop} {Q : Int32 → Hp → Prop} (hk11 : ∀ (v1n : Nat) (v1 : Nat) (v2 : Int32) (v3 : Int32) (v4 : Int32) (hh : Hp), k11 v1n v1 v2 v3 v4 hh → Rn l G d 0 0 MX4_fillBundle h0 (qI Q) 11 [some (tR 4 0 (some 43)), some (tR 51 v1n (some v1)), some (tI v2), some (tI v3), some (tI v4)] [] hh 0 0) {v1n : Nat} {v1 : Nat} {v2 : Int32} {v3 : Int32} {v4 : Int32} {h : Hp} (hm : m_X4_fillBundle_58 k11 Q v1n v1 v2 v3 v4 h) : Rn l G d 0 0 MX4_fillBundle h0 (qI Q) 58 [some (tR 4 0 (some 43)), some (tR 51 v1n (some v1)), some (tI v2), some (tI v3), some (tI v4)] [] h 0 0 := by
  unfold m_X4_fillBundle_58 at hm
  obtain ⟨x1, e_x1⟩ : ∃ y : Int32, y = v4 + 1 := ⟨_, rfl⟩
  replace hm := hm x1 e_x1
  refine r_iinc (L' := [some (tR 4 0 (some 43)), some (tR 51 v1n (some v1)), some (tI v2), some (tI v3), some (tI x1)]) dX4_fillBundle_58 rfl (by rw [e_x1]; rfl) (by decide) rfl ?_
  refine r_goto (tgt := 11) dX4_fillBundle_61 rfl ?_
  refine r_keep (L' := [some (tR 4 0 (some 43)), some (tR 51 v1n (some v1)), some (tI v2), some (tI v3), some (tI x1)]) [true, true, true, true, true] rfl ?_
  exact hk11 _ _ _ _ _ _ hm
def m_X4_fillBundle_11 : Nat → (Int32 → Hp → Prop) → Nat → Nat → Int32 → Int32 → Int32 → Hp → Prop
  | 0, _, _, _, _, _, _, _ => False
  | n + 1, Q, v1n, v1, v2, v3, v4, h => (v2 ≤ v4 → Q 1 h) ∧ (¬ v2 ≤ v4 → vp_in v4 24 ∧ (vp_in v3 24 ∧ ((¬ (hI h 47 (ix v4)) = (hI h 47 (ix v3)) → m_X4_fillBundle_58 (fun (v1n : Nat) (v1 : Nat) (v2 : Int32) (v3 : Int32) (v4 : Int32) (hh : Hp) => m_X4_fillBundle_11 n Q v1n v1 v2 v3 v4 hh) Q v1n v1 v2 v3 v4 h) ∧ ((hI h 47 (ix v4)) = (hI h 47 (ix v3)) → ((hI h 48 1) < 6 → vp_in v4 v1n ∧ ∃ b2 : Nat, hR h v1 (ix v4) = some b2 ∧ (m_X0_push 48 b2 h (fun (h4 : Hp) => m_X4_fillBundle_58 (fun (v1n : Nat) (v1 : Nat) (v2 : Int32) (v3 : Int32) (v4 : Int32) (hh : Hp) => m_X4_fillBundle_11 n Q v1n v1 v2 v3 v4 hh) Q v1n v1 v2 v3 v4 h4))) ∧ (¬ (hI h 48 1) < 6 → Q 0 h)))))
set_option maxHeartbeats 4000000 in
set_option maxRecDepth 100000 in
theorem s_X4_fillBundle_11 {l : Launch} {G : Cx} {d : Nat} {h0 : Hp} (hd : 4 ≤ d) {Q : Int32 → Hp → Prop} : ∀ {n : Nat} {v1n : Nat} {v1 : Nat} {v2 : Int32} {v3 : Int32} {v4 : Int32} {h : Hp}, m_X4_fillBundle_11 n Q v1n v1 v2 v3 v4 h → Rn l G d 0 0 MX4_fillBundle h0 (qI Q) 11 [some (tR 4 0 (some 43)), some (tR 51 v1n (some v1)), some (tI v2), some (tI v3), some (tI v4)] [] h 0 0 := by
  intro n
  induction n with
  | zero => intro v1n v1 v2 v3 v4 h hm; exact hm.elim
  | succ n ih =>
    intro v1n v1 v2 v3 v4 h hm
    have hk11 := fun (v1n : Nat) (v1 : Nat) (v2 : Int32) (v3 : Int32) (v4 : Int32) (hh : Hp) (hm : m_X4_fillBundle_11 n Q v1n v1 v2 v3 v4 hh) => ih hm
    rw [m_X4_fillBundle_11] at hm
    refine r_iload dX4_fillBundle_11 rfl ?_
    refine r_iload_n dX4_fillBundle_13 rfl rfl ?_
    refine r_icmp_ge (tgt := 64) dX4_fillBundle_14 rfl (fun hc => ?_) (fun hc => ?_)
    · replace hm := hm.1 hc
      refine r_iconst (v := 1) dX4_fillBundle_64 rfl ?_
      exact r_bret dX4_fillBundle_65 rfl ⟨by decide, by decide⟩ (by unfold bz; decide) ⟨_, rfl, hm⟩
    · replace hm := hm.2 hc
      refine r_aload_n dX4_fillBundle_17 rfl rfl ?_
      refine r_getC (k := 4) cl_4 dX4_fillBundle_18 t_326 gf_4_4.1 gf_4_4.2 (gc_4_4 _) ?_
      refine r_iload dX4_fillBundle_21 rfl ?_
      refine r_iald dX4_fillBundle_23 hm.1 ?_
      replace hm := hm.2
      refine r_aload_n dX4_fillBundle_24 rfl rfl ?_
      refine r_getC (k := 4) cl_4 dX4_fillBundle_25 t_326 gf_4_4.1 gf_4_4.2 (gc_4_4 _) ?_
      refine r_iload_n dX4_fillBundle_28 rfl rfl ?_
      refine r_iald dX4_fillBundle_29 hm.1 ?_
      replace hm := hm.2
      refine r_icmp_ne (tgt := 58) dX4_fillBundle_30 rfl (fun hc => ?_) (fun hc => ?_)
      · replace hm := hm.1 hc
        refine r_keep (L' := [some (tR 4 0 (some 43)), some (tR 51 v1n (some v1)), some (tI v2), some (tI v3), some (tI v4)]) [true, true, true, true, true] rfl ?_
        exact s_X4_fillBundle_58 hd hk11 hm
      · replace hm := hm.2 hc
        refine r_aload_n dX4_fillBundle_33 rfl rfl ?_
        refine r_getC (k := 5) cl_4 dX4_fillBundle_34 t_328 gf_4_5.1 gf_4_5.2 (gc_4_5 _) ?_
        refine r_getI (k := 1) cl_0 dX4_fillBundle_37 t_129 (Or.inl rfl) gf_0_1 ?_
        refine r_bipush (v := 6) dX4_fillBundle_40 rfl ?_
        refine r_icmp_lt (tgt := 47) dX4_fillBundle_42 rfl (fun hc => ?_) (fun hc => ?_)
        · replace hm := hm.1 hc
          refine r_aload_n dX4_fillBundle_47 rfl rfl ?_
          refine r_getC (k := 5) cl_4 dX4_fillBundle_48 t_328 gf_4_5.1 gf_4_5.2 (gc_4_5 _) ?_
          refine r_aload_n dX4_fillBundle_51 rfl rfl ?_
          refine r_iload dX4_fillBundle_52 rfl ?_
          obtain ⟨hi_b2, b2, hb_b2, hm⟩ := hm
          refine r_aaldS (kd := 1) (ti := 5) (cn := RX1) dX4_fillBundle_54 rfl hi_b2 hb_b2 ?_
          refine r_callVU (d' := d - 1) (as := [tR 1 0 (some b2)]) (st := []) cl_0 dX4_fillBundle_55 mi_X0_push t_1256 t_891 t_892 rfl rfl (Nat.le_of_ble_eq_true rfl) (by omega) ⟨by decide, by decide⟩ ⟨rfl, rfl⟩ (s_X0_push (by omega) hm) (fun h4 hm => ?_)
          refine r_keep (L' := [some (tR 4 0 (some 43)), some (tR 51 v1n (some v1)), some (tI v2), some (tI v3), some (tI v4)]) [true, true, true, true, true] rfl ?_
          exact s_X4_fillBundle_58 hd hk11 hm
        · replace hm := hm.2 hc
          refine r_iconst (v := 0) dX4_fillBundle_45 rfl ?_
          exact r_bret dX4_fillBundle_46 rfl ⟨by decide, by decide⟩ (by unfold bz; decide) ⟨_, rfl, hm⟩
def m_X4_fillBundle (v1 : Nat) (v1n : Nat) (v2 : Int32) (v3 : Int32) (h : Hp) (Q : Int32 → Hp → Prop) : Prop := ∃ n11, m_X4_fillBundle_11 n11 Q v1n v1 v2 v3 0 (wI h 48 1 0)
set_option maxHeartbeats 4000000 in
set_option maxRecDepth 100000 in
theorem s_X4_fillBundle {l : Launch} {G : Cx} {d : Nat} (hd : 4 ≤ d) {v1 : Nat} {v1n : Nat} {v2 : Int32} {v3 : Int32} {h : Hp} {Q : Int32 → Hp → Prop} (hm : m_X4_fillBundle v1 v1n v2 v3 h Q) : Ct l G d 0 0 yX4_fillBundle MX4_fillBundle [tR 4 0 (some 43), tR 51 v1n (some v1), tI v2, tI v3] h (qI Q) := by
  unfold m_X4_fillBundle at hm
  refine Ct.of (L := [some (tR 4 0 (some 43)), some (tR 51 v1n (some v1)), some (tI v2), some (tI v3)]) (by decide) rfl rfl (Nat.le_of_ble_eq_true rfl) rfl ?_
  refine r_aload_n dX4_fillBundle_0 rfl rfl ?_
  refine r_getC (k := 5) cl_4 dX4_fillBundle_1 t_328 gf_4_5.1 gf_4_5.2 (gc_4_5 _) ?_
  refine r_iconst (v := 0) dX4_fillBundle_4 rfl ?_
  refine r_putI0 (k := 1) cl_0 dX4_fillBundle_5 t_129 (Or.inl rfl) gf_0_1 pf_0_1.1 (Or.inl pf_0_1.2) ?_
  refine r_iconst (v := 0) dX4_fillBundle_8 rfl ?_
  refine r_istore (L' := [some (tR 4 0 (some 43)), some (tR 51 v1n (some v1)), some (tI v2), some (tI v3), some (tI 0)]) dX4_fillBundle_9 (by decide) rfl ?_
  refine r_keep (L' := [some (tR 4 0 (some 43)), some (tR 51 v1n (some v1)), some (tI v2), some (tI v3), some (tI 0)]) [true, true, true, true, true] rfl ?_
  obtain ⟨n, hm⟩ := hm
  refine s_X4_fillBundle_11 hd hm
theorem dX5_init_0 : decode cX5_init 0 = .ok (.aload_n 0, 1) := by decide +kernel
theorem dX5_init_1 : decode cX5_init 1 = .ok (.invokespecial 3, 3) := by decide +kernel
theorem dX5_init_4 : decode cX5_init 4 = .ok (.aload_n 0, 1) := by decide +kernel
theorem dX5_init_5 : decode cX5_init 5 = .ok (.sipush 1296, 3) := by decide +kernel
theorem dX5_init_8 : decode cX5_init 8 = .ok (.newarray .int, 2) := by decide +kernel
theorem dX5_init_10 : decode cX5_init 10 = .ok (.putfield 11, 3) := by decide +kernel
theorem dX5_init_13 : decode cX5_init 13 = .ok (.aload_n 0, 1) := by decide +kernel
theorem dX5_init_14 : decode cX5_init 14 = .ok (.sipush 216, 3) := by decide +kernel
theorem dX5_init_17 : decode cX5_init 17 = .ok (.newarray .long, 2) := by decide +kernel
theorem dX5_init_19 : decode cX5_init 19 = .ok (.putfield 15, 3) := by decide +kernel
theorem dX5_init_22 : decode cX5_init 22 = .ok (.aload_n 0, 1) := by decide +kernel
theorem dX5_init_23 : decode cX5_init 23 = .ok (.bipush 8, 2) := by decide +kernel
theorem dX5_init_25 : decode cX5_init 25 = .ok (.newarray .int, 2) := by decide +kernel
theorem dX5_init_27 : decode cX5_init 27 = .ok (.putfield 19, 3) := by decide +kernel
theorem dX5_init_30 : decode cX5_init 30 = .ok (.aload_n 0, 1) := by decide +kernel
theorem dX5_init_31 : decode cX5_init 31 = .ok (.bipush 6, 2) := by decide +kernel
theorem dX5_init_33 : decode cX5_init 33 = .ok (.newarray .int, 2) := by decide +kernel
theorem dX5_init_35 : decode cX5_init 35 = .ok (.putfield 22, 3) := by decide +kernel
theorem dX5_init_38 : decode cX5_init 38 = .ok (.aload_n 0, 1) := by decide +kernel
theorem dX5_init_39 : decode cX5_init 39 = .ok (.bipush 48, 2) := by decide +kernel
theorem dX5_init_41 : decode cX5_init 41 = .ok (.newarray .long, 2) := by decide +kernel
theorem dX5_init_43 : decode cX5_init 43 = .ok (.putfield 25, 3) := by decide +kernel
theorem dX5_init_46 : decode cX5_init 46 = .ok (.aload_n 0, 1) := by decide +kernel
theorem dX5_init_47 : decode cX5_init 47 = .ok (.bipush 8, 2) := by decide +kernel
theorem dX5_init_49 : decode cX5_init 49 = .ok (.newarray .int, 2) := by decide +kernel
theorem dX5_init_51 : decode cX5_init 51 = .ok (.putfield 28, 3) := by decide +kernel
theorem dX5_init_54 : decode cX5_init 54 = .ok (.aload_n 0, 1) := by decide +kernel
theorem dX5_init_55 : decode cX5_init 55 = .ok (.bipush 8, 2) := by decide +kernel
theorem dX5_init_57 : decode cX5_init 57 = .ok (.newarray .long, 2) := by decide +kernel
theorem dX5_init_59 : decode cX5_init 59 = .ok (.putfield 31, 3) := by decide +kernel
theorem dX5_init_62 : decode cX5_init 62 = .ok (.aload_n 0, 1) := by decide +kernel
theorem dX5_init_63 : decode cX5_init 63 = .ok (.bipush 8, 2) := by decide +kernel
theorem dX5_init_65 : decode cX5_init 65 = .ok (.newarray .long, 2) := by decide +kernel
theorem dX5_init_67 : decode cX5_init 67 = .ok (.putfield 34, 3) := by decide +kernel
theorem dX5_init_70 : decode cX5_init 70 = .ok (.aload_n 0, 1) := by decide +kernel
theorem dX5_init_71 : decode cX5_init 71 = .ok (.bipush 8, 2) := by decide +kernel
theorem dX5_init_73 : decode cX5_init 73 = .ok (.newarray .long, 2) := by decide +kernel
theorem dX5_init_75 : decode cX5_init 75 = .ok (.putfield 37, 3) := by decide +kernel
theorem dX5_init_78 : decode cX5_init 78 = .ok (.aload_n 0, 1) := by decide +kernel
theorem dX5_init_79 : decode cX5_init 79 = .ok (.bipush 8, 2) := by decide +kernel
theorem dX5_init_81 : decode cX5_init 81 = .ok (.newarray .int, 2) := by decide +kernel
theorem dX5_init_83 : decode cX5_init 83 = .ok (.putfield 40, 3) := by decide +kernel
theorem dX5_init_86 : decode cX5_init 86 = .ok (.aload_n 0, 1) := by decide +kernel
theorem dX5_init_87 : decode cX5_init 87 = .ok (.bipush 8, 2) := by decide +kernel
theorem dX5_init_89 : decode cX5_init 89 = .ok (.newarray .int, 2) := by decide +kernel
theorem dX5_init_91 : decode cX5_init 91 = .ok (.putfield 43, 3) := by decide +kernel
theorem dX5_init_94 : decode cX5_init 94 = .ok (.aload_n 0, 1) := by decide +kernel
theorem dX5_init_95 : decode cX5_init 95 = .ok (.aload_n 1, 1) := by decide +kernel
theorem dX5_init_96 : decode cX5_init 96 = .ok (.putfield 46, 3) := by decide +kernel
theorem dX5_init_99 : decode cX5_init 99 = .ok (.return_, 1) := by decide +kernel
def m_X5_init (v0 : Nat) (v1 : Nat) (v1n : Nat) (h : Hp) (Q : Hp → Prop) : Prop := ∀ a1 : Nat, a1 = hN h → ∀ h2 : Hp, h2 = nw h (40, 1296) → ∀ a3 : Nat, a3 = hN (wR h2 v0 1 (some a1)) → ∀ h4 : Hp, h4 = nw (wR h2 v0 1 (some a1)) (43, 216) → ∀ a5 : Nat, a5 = hN (wR h4 v0 2 (some a3)) → ∀ h6 : Hp, h6 = nw (wR h4 v0 2 (some a3)) (40, 8) → ∀ a7 : Nat, a7 = hN (wR h6 v0 5 (some a5)) → ∀ h8 : Hp, h8 = nw (wR h6 v0 5 (some a5)) (40, 6) → ∀ a9 : Nat, a9 = hN (wR h8 v0 7 (some a7)) → ∀ h10 : Hp, h10 = nw (wR h8 v0 7 (some a7)) (43, 48) → ∀ a11 : Nat, a11 = hN (wR h10 v0 8 (some a9)) → ∀ h12 : Hp, h12 = nw (wR h10 v0 8 (some a9)) (40, 8) → ∀ a13 : Nat, a13 = hN (wR h12 v0 9 (some a11)) → ∀ h14 : Hp, h14 = nw (wR h12 v0 9 (some a11)) (43, 8) → ∀ a15 : Nat, a15 = hN (wR h14 v0 10 (some a13)) → ∀ h16 : Hp, h16 = nw (wR h14 v0 10 (some a13)) (43, 8) → ∀ a17 : Nat, a17 = hN (wR h16 v0 11 (some a15)) → ∀ h18 : Hp, h18 = nw (wR h16 v0 11 (some a15)) (43, 8) → ∀ a19 : Nat, a19 = hN (wR h18 v0 12 (some a17)) → ∀ h20 : Hp, h20 = nw (wR h18 v0 12 (some a17)) (40, 8) → ∀ a21 : Nat, a21 = hN (wR h20 v0 13 (some a19)) → ∀ h22 : Hp, h22 = nw (wR h20 v0 13 (some a19)) (40, 8) → Q (wR (wR h22 v0 14 (some a21)) v0 0 (some v1))
set_option maxHeartbeats 4000000 in
set_option maxRecDepth 100000 in
theorem s_X5_init {l : Launch} {G : Cx} {d : Nat} (hd : 2 ≤ d) {v0 : Nat} {v1 : Nat} {v1n : Nat} {h : Hp} {Q : Hp → Prop} (hm : m_X5_init v0 v1 v1n h Q) : Ct l G d 11 1622 yX5_init MX5_init [tR 25 0 (some v0), tR 40 v1n (some v1)] h (qV Q) := by
  unfold m_X5_init at hm
  refine Ct.of (L := [some (tR 25 0 (some v0)), some (tR 40 v1n (some v1))]) (by decide) rfl rfl (Nat.le_of_ble_eq_true rfl) rfl ?_
  refine r_aload_n dX5_init_0 rfl rfl ?_
  refine r_objInit dX5_init_1 t_142 t_29 t_30 (by omega) (Nat.le_of_ble_eq_true rfl) ?_
  refine r_aload_n dX5_init_4 rfl rfl ?_
  refine r_sipush (v := 1296) dX5_init_5 rfl ?_
  refine r_newI (N := 1296) dX5_init_8 t_61 (by decide) rfl (by decide) ⟨by decide, by decide⟩ ?_
  refine r_nmA (fun a1 e_a1 h2 e_h2 => ?_)
  replace hm := hm a1 e_a1 h2 e_h2
  refine r_putR0 (k := 1) cl_5 dX5_init_10 t_144 (Or.inr rfl) gf_5_1.1 gf_5_1.2 (fun z => absurd z (by decide)) pf_5_1.1 (Or.inr ⟨pf_5_1.2, rfl, rfl⟩) ?_
  refine r_aload_n dX5_init_13 rfl rfl ?_
  refine r_sipush (v := 216) dX5_init_14 rfl ?_
  refine r_newJ (N := 216) dX5_init_17 t_206 (by decide) rfl (by decide) ⟨by decide, by decide⟩ ?_
  refine r_nmA (fun a3 e_a3 h4 e_h4 => ?_)
  replace hm := hm a3 e_a3 h4 e_h4
  refine r_putR0 (k := 2) cl_5 dX5_init_19 t_145 (Or.inr rfl) gf_5_2.1 gf_5_2.2 (fun z => absurd z (by decide)) pf_5_2.1 (Or.inr ⟨pf_5_2.2, rfl, rfl⟩) ?_
  refine r_aload_n dX5_init_22 rfl rfl ?_
  refine r_bipush (v := 8) dX5_init_23 rfl ?_
  refine r_newI (N := 8) dX5_init_25 t_61 (by decide) rfl (by decide) ⟨by decide, by decide⟩ ?_
  refine r_nmA (fun a5 e_a5 h6 e_h6 => ?_)
  replace hm := hm a5 e_a5 h6 e_h6
  refine r_putR0 (k := 5) cl_5 dX5_init_27 t_148 (Or.inr rfl) gf_5_5.1 gf_5_5.2 (fun z => absurd z (by decide)) pf_5_5.1 (Or.inr ⟨pf_5_5.2, rfl, rfl⟩) ?_
  refine r_aload_n dX5_init_30 rfl rfl ?_
  refine r_bipush (v := 6) dX5_init_31 rfl ?_
  refine r_newI (N := 6) dX5_init_33 t_61 (by decide) rfl (by decide) ⟨by decide, by decide⟩ ?_
  refine r_nmA (fun a7 e_a7 h8 e_h8 => ?_)
  replace hm := hm a7 e_a7 h8 e_h8
  refine r_putR0 (k := 7) cl_5 dX5_init_35 t_150 (Or.inr rfl) gf_5_7.1 gf_5_7.2 (fun z => absurd z (by decide)) pf_5_7.1 (Or.inr ⟨pf_5_7.2, rfl, rfl⟩) ?_
  refine r_aload_n dX5_init_38 rfl rfl ?_
  refine r_bipush (v := 48) dX5_init_39 rfl ?_
  refine r_newJ (N := 48) dX5_init_41 t_206 (by decide) rfl (by decide) ⟨by decide, by decide⟩ ?_
  refine r_nmA (fun a9 e_a9 h10 e_h10 => ?_)
  replace hm := hm a9 e_a9 h10 e_h10
  refine r_putR0 (k := 8) cl_5 dX5_init_43 t_151 (Or.inr rfl) gf_5_8.1 gf_5_8.2 (fun z => absurd z (by decide)) pf_5_8.1 (Or.inr ⟨pf_5_8.2, rfl, rfl⟩) ?_
  refine r_aload_n dX5_init_46 rfl rfl ?_
  refine r_bipush (v := 8) dX5_init_47 rfl ?_
  refine r_newI (N := 8) dX5_init_49 t_61 (by decide) rfl (by decide) ⟨by decide, by decide⟩ ?_
  refine r_nmA (fun a11 e_a11 h12 e_h12 => ?_)
  replace hm := hm a11 e_a11 h12 e_h12
  refine r_putR0 (k := 9) cl_5 dX5_init_51 t_152 (Or.inr rfl) gf_5_9.1 gf_5_9.2 (fun z => absurd z (by decide)) pf_5_9.1 (Or.inr ⟨pf_5_9.2, rfl, rfl⟩) ?_
  refine r_aload_n dX5_init_54 rfl rfl ?_
  refine r_bipush (v := 8) dX5_init_55 rfl ?_
  refine r_newJ (N := 8) dX5_init_57 t_206 (by decide) rfl (by decide) ⟨by decide, by decide⟩ ?_
  refine r_nmA (fun a13 e_a13 h14 e_h14 => ?_)
  replace hm := hm a13 e_a13 h14 e_h14
  refine r_putR0 (k := 10) cl_5 dX5_init_59 t_153 (Or.inr rfl) gf_5_10.1 gf_5_10.2 (fun z => absurd z (by decide)) pf_5_10.1 (Or.inr ⟨pf_5_10.2, rfl, rfl⟩) ?_
  refine r_aload_n dX5_init_62 rfl rfl ?_
  refine r_bipush (v := 8) dX5_init_63 rfl ?_
  refine r_newJ (N := 8) dX5_init_65 t_206 (by decide) rfl (by decide) ⟨by decide, by decide⟩ ?_
  refine r_nmA (fun a15 e_a15 h16 e_h16 => ?_)
  replace hm := hm a15 e_a15 h16 e_h16
  refine r_putR0 (k := 11) cl_5 dX5_init_67 t_155 (Or.inr rfl) gf_5_11.1 gf_5_11.2 (fun z => absurd z (by decide)) pf_5_11.1 (Or.inr ⟨pf_5_11.2, rfl, rfl⟩) ?_
  refine r_aload_n dX5_init_70 rfl rfl ?_
  refine r_bipush (v := 8) dX5_init_71 rfl ?_
  refine r_newJ (N := 8) dX5_init_73 t_206 (by decide) rfl (by decide) ⟨by decide, by decide⟩ ?_
  refine r_nmA (fun a17 e_a17 h18 e_h18 => ?_)
  replace hm := hm a17 e_a17 h18 e_h18
  refine r_putR0 (k := 12) cl_5 dX5_init_75 t_157 (Or.inr rfl) gf_5_12.1 gf_5_12.2 (fun z => absurd z (by decide)) pf_5_12.1 (Or.inr ⟨pf_5_12.2, rfl, rfl⟩) ?_
  refine r_aload_n dX5_init_78 rfl rfl ?_
  refine r_bipush (v := 8) dX5_init_79 rfl ?_
  refine r_newI (N := 8) dX5_init_81 t_61 (by decide) rfl (by decide) ⟨by decide, by decide⟩ ?_
  refine r_nmA (fun a19 e_a19 h20 e_h20 => ?_)
  replace hm := hm a19 e_a19 h20 e_h20
  refine r_putR0 (k := 13) cl_5 dX5_init_83 t_158 (Or.inr rfl) gf_5_13.1 gf_5_13.2 (fun z => absurd z (by decide)) pf_5_13.1 (Or.inr ⟨pf_5_13.2, rfl, rfl⟩) ?_
  refine r_aload_n dX5_init_86 rfl rfl ?_
  refine r_bipush (v := 8) dX5_init_87 rfl ?_
  refine r_newI (N := 8) dX5_init_89 t_61 (by decide) rfl (by decide) ⟨by decide, by decide⟩ ?_
  refine r_nmA (fun a21 e_a21 h22 e_h22 => ?_)
  replace hm := hm a21 e_a21 h22 e_h22
  refine r_putR0 (k := 14) cl_5 dX5_init_91 t_159 (Or.inr rfl) gf_5_14.1 gf_5_14.2 (fun z => absurd z (by decide)) pf_5_14.1 (Or.inr ⟨pf_5_14.2, rfl, rfl⟩) ?_
  refine r_aload_n dX5_init_94 rfl rfl ?_
  refine r_aload_n dX5_init_95 rfl rfl ?_
  refine r_putR0 (k := 0) cl_5 dX5_init_96 t_143 (Or.inr rfl) gf_5_0.1 gf_5_0.2 (fun z => absurd z (by decide)) pf_5_0.1 (Or.inr ⟨pf_5_0.2, rfl, rfl⟩) ?_
  exact r_return dX5_init_99 rfl ⟨by decide, by decide⟩ ⟨rfl, hm⟩
theorem dX5_shareOf_0 : decode cX5_shareOf 0 = .ok (.lconst 0, 1) := rfl
theorem dX5_shareOf_1 : decode cX5_shareOf 1 = .ok (.lstore 4, 2) := rfl
theorem dX5_shareOf_3 : decode cX5_shareOf 3 = .ok (.aload_n 0, 1) := rfl
theorem dX5_shareOf_4 : decode cX5_shareOf 4 = .ok (.getfield 46, 3) := rfl
theorem dX5_shareOf_7 : decode cX5_shareOf 7 = .ok (.aload_n 1, 1) := rfl
theorem dX5_shareOf_8 : decode cX5_shareOf 8 = .ok (.getfield 68, 3) := rfl
theorem dX5_shareOf_11 : decode cX5_shareOf 11 = .ok (.iload_n 2, 1) := rfl
theorem dX5_shareOf_12 : decode cX5_shareOf 12 = .ok (.bipush 6, 2) := by decide +kernel
theorem dX5_shareOf_14 : decode cX5_shareOf 14 = .ok (.imul, 1) := rfl
theorem dX5_shareOf_15 : decode cX5_shareOf 15 = .ok (.iconst 2, 1) := rfl
theorem dX5_shareOf_16 : decode cX5_shareOf 16 = .ok (.iadd, 1) := rfl
theorem dX5_shareOf_17 : decode cX5_shareOf 17 = .ok (.iaload, 1) := rfl
theorem dX5_shareOf_18 : decode cX5_shareOf 18 = .ok (.iaload, 1) := rfl
theorem dX5_shareOf_19 : decode cX5_shareOf 19 = .ok (.iload_n 3, 1) := rfl
theorem dX5_shareOf_20 : decode cX5_shareOf 20 = .ok (.if_icmp .ne 14, 3) := by decide +kernel
theorem dX5_shareOf_23 : decode cX5_shareOf 23 = .ok (.lload 4, 2) := rfl
theorem dX5_shareOf_25 : decode cX5_shareOf 25 = .ok (.aload_n 1, 1) := rfl
theorem dX5_shareOf_26 : decode cX5_shareOf 26 = .ok (.getfield 86, 3) := rfl
theorem dX5_shareOf_29 : decode cX5_shareOf 29 = .ok (.iload_n 2, 1) := rfl
theorem dX5_shareOf_30 : decode cX5_shareOf 30 = .ok (.laload, 1) := rfl
theorem dX5_shareOf_31 : decode cX5_shareOf 31 = .ok (.ladd, 1) := rfl
theorem dX5_shareOf_32 : decode cX5_shareOf 32 = .ok (.lstore 4, 2) := rfl
theorem dX5_shareOf_34 : decode cX5_shareOf 34 = .ok (.aload_n 0, 1) := rfl
theorem dX5_shareOf_35 : decode cX5_shareOf 35 = .ok (.getfield 46, 3) := rfl
theorem dX5_shareOf_38 : decode cX5_shareOf 38 = .ok (.aload_n 1, 1) := rfl
theorem dX5_shareOf_39 : decode cX5_shareOf 39 = .ok (.getfield 68, 3) := rfl
theorem dX5_shareOf_42 : decode cX5_shareOf 42 = .ok (.iload_n 2, 1) := rfl
theorem dX5_shareOf_43 : decode cX5_shareOf 43 = .ok (.bipush 6, 2) := by decide +kernel
theorem dX5_shareOf_45 : decode cX5_shareOf 45 = .ok (.imul, 1) := rfl
theorem dX5_shareOf_46 : decode cX5_shareOf 46 = .ok (.iconst 1, 1) := rfl
theorem dX5_shareOf_47 : decode cX5_shareOf 47 = .ok (.iadd, 1) := rfl
theorem dX5_shareOf_48 : decode cX5_shareOf 48 = .ok (.iaload, 1) := rfl
theorem dX5_shareOf_49 : decode cX5_shareOf 49 = .ok (.iaload, 1) := rfl
theorem dX5_shareOf_50 : decode cX5_shareOf 50 = .ok (.iload_n 3, 1) := rfl
theorem dX5_shareOf_51 : decode cX5_shareOf 51 = .ok (.if_icmp .ne 14, 3) := by decide +kernel
theorem dX5_shareOf_54 : decode cX5_shareOf 54 = .ok (.lload 4, 2) := rfl
theorem dX5_shareOf_56 : decode cX5_shareOf 56 = .ok (.aload_n 1, 1) := rfl
theorem dX5_shareOf_57 : decode cX5_shareOf 57 = .ok (.getfield 86, 3) := rfl
theorem dX5_shareOf_60 : decode cX5_shareOf 60 = .ok (.iload_n 2, 1) := rfl
theorem dX5_shareOf_61 : decode cX5_shareOf 61 = .ok (.laload, 1) := rfl
theorem dX5_shareOf_62 : decode cX5_shareOf 62 = .ok (.lsub, 1) := rfl
theorem dX5_shareOf_63 : decode cX5_shareOf 63 = .ok (.lstore 4, 2) := rfl
theorem dX5_shareOf_65 : decode cX5_shareOf 65 = .ok (.lload 4, 2) := rfl
theorem dX5_shareOf_67 : decode cX5_shareOf 67 = .ok (.lreturn, 1) := rfl
def m_X5_shareOf_34  (Q : Int64 → Hp → Prop) (v1 : Nat) (v2 : Int32) (v3 : Int32) (v4 : Int64) (h : Hp) : Prop := vp_in ((v2 * 6) + 1) 216 ∧ (vp_in (hI h (v1 + 2) (ix ((v2 * 6) + 1))) 8 ∧ ((¬ (hI h 1 (ix (hI h (v1 + 2) (ix ((v2 * 6) + 1))))) = v3 → Q v4 h) ∧ ((hI h 1 (ix (hI h (v1 + 2) (ix ((v2 * 6) + 1))))) = v3 → vp_in v2 36 ∧ (∀ x1 : Int64, x1 = (v4 - (hJ h (v1 + 3) (ix v2))) → Q x1 h))))
set_option maxHeartbeats 4000000 in
set_option maxRecDepth 100000 in
theorem s_X5_shareOf_34 {l : Launch} {G : Cx} {d : Nat} {h0 : Hp} (hd : 2 ≤ d) {Q : Int64 → Hp → Prop} {v1 : Nat} {v2 : Int32} {v3 : Int32} {v4 : Int64} {h : Hp} (hm : m_X5_shareOf_34 Q v1 v2 v3 v4 h) : Rn l G d 0 0 MX5_shareOf h0 (qJ Q) 34 [some (tR 5 0 (some 14)), some (tR 1 0 (some v1)), some (tI v2), some (tI v3), some (tJ v4)] [] h 0 0 := by
  unfold m_X5_shareOf_34 at hm
  refine r_aload_n dX5_shareOf_34 rfl rfl ?_
  refine r_getC (k := 0) cl_5 dX5_shareOf_35 t_143 gf_5_0.1 gf_5_0.2 (gc_5_0 _) ?_
  refine r_aload_n dX5_shareOf_38 rfl rfl ?_
  refine r_getC (k := 10) cl_1 dX5_shareOf_39 t_472 gf_1_10.1 gf_1_10.2 (gc_1_10 _) ?_
  refine r_iload_n dX5_shareOf_42 rfl rfl ?_
  refine r_bipush (v := 6) dX5_shareOf_43 rfl ?_
  refine r_imul dX5_shareOf_45 ?_
  refine r_iconst (v := 1) dX5_shareOf_46 rfl ?_
  refine r_iadd dX5_shareOf_47 ?_
  refine r_iald dX5_shareOf_48 hm.1 ?_
  replace hm := hm.2
  refine r_iald dX5_shareOf_49 hm.1 ?_
  replace hm := hm.2
  refine r_iload_n dX5_shareOf_50 rfl rfl ?_
  refine r_icmp_ne (tgt := 65) dX5_shareOf_51 rfl (fun hc => ?_) (fun hc => ?_)
  · replace hm := hm.1 hc
    refine r_lload dX5_shareOf_65 rfl ?_
    exact r_lreturn dX5_shareOf_67 rfl ⟨by decide, by decide⟩ ⟨_, rfl, hm⟩
  · replace hm := hm.2 hc
    refine r_lload dX5_shareOf_54 rfl ?_
    refine r_aload_n dX5_shareOf_56 rfl rfl ?_
    refine r_getC (k := 11) cl_1 dX5_shareOf_57 t_476 gf_1_11.1 gf_1_11.2 (gc_1_11 _) ?_
    refine r_iload_n dX5_shareOf_60 rfl rfl ?_
    refine r_lald dX5_shareOf_61 hm.1 ?_
    replace hm := hm.2
    refine r_lsub dX5_shareOf_62 ?_
    refine r_nmJ (fun x1 e_x1 => ?_)
    replace hm := hm x1 e_x1
    refine r_lstore (L' := [some (tR 5 0 (some 14)), some (tR 1 0 (some v1)), some (tI v2), some (tI v3), some (tJ x1), none]) dX5_shareOf_63 (by decide) rfl ?_
    refine r_lload dX5_shareOf_65 rfl ?_
    exact r_lreturn dX5_shareOf_67 rfl ⟨by decide, by decide⟩ ⟨_, rfl, hm⟩
def m_X5_shareOf (v1 : Nat) (v2 : Int32) (v3 : Int32) (h : Hp) (Q : Int64 → Hp → Prop) : Prop := vp_in ((v2 * 6) + 2) 216 ∧ (vp_in (hI h (v1 + 2) (ix ((v2 * 6) + 2))) 8 ∧ ((¬ (hI h 1 (ix (hI h (v1 + 2) (ix ((v2 * 6) + 2))))) = v3 → m_X5_shareOf_34 Q v1 v2 v3 0 h) ∧ ((hI h 1 (ix (hI h (v1 + 2) (ix ((v2 * 6) + 2))))) = v3 → vp_in v2 36 ∧ (∀ x2 : Int64, x2 = (0 + (hJ h (v1 + 3) (ix v2))) → m_X5_shareOf_34 Q v1 v2 v3 x2 h))))
set_option maxHeartbeats 4000000 in
set_option maxRecDepth 100000 in
theorem s_X5_shareOf {l : Launch} {G : Cx} {d : Nat} (hd : 2 ≤ d) {v1 : Nat} {v2 : Int32} {v3 : Int32} {h : Hp} {Q : Int64 → Hp → Prop} (hm : m_X5_shareOf v1 v2 v3 h Q) : Ct l G d 0 0 yX5_shareOf MX5_shareOf [tR 5 0 (some 14), tR 1 0 (some v1), tI v2, tI v3] h (qJ Q) := by
  unfold m_X5_shareOf at hm
  refine Ct.of (L := [some (tR 5 0 (some 14)), some (tR 1 0 (some v1)), some (tI v2), some (tI v3)]) (by decide) rfl rfl (Nat.le_of_ble_eq_true rfl) rfl ?_
  refine r_lconst (v := 0) dX5_shareOf_0 rfl ?_
  refine r_lstore (L' := [some (tR 5 0 (some 14)), some (tR 1 0 (some v1)), some (tI v2), some (tI v3), some (tJ 0), none]) dX5_shareOf_1 (by decide) rfl ?_
  refine r_aload_n dX5_shareOf_3 rfl rfl ?_
  refine r_getC (k := 0) cl_5 dX5_shareOf_4 t_143 gf_5_0.1 gf_5_0.2 (gc_5_0 _) ?_
  refine r_aload_n dX5_shareOf_7 rfl rfl ?_
  refine r_getC (k := 10) cl_1 dX5_shareOf_8 t_472 gf_1_10.1 gf_1_10.2 (gc_1_10 _) ?_
  refine r_iload_n dX5_shareOf_11 rfl rfl ?_
  refine r_bipush (v := 6) dX5_shareOf_12 rfl ?_
  refine r_imul dX5_shareOf_14 ?_
  refine r_iconst (v := 2) dX5_shareOf_15 rfl ?_
  refine r_iadd dX5_shareOf_16 ?_
  refine r_iald dX5_shareOf_17 hm.1 ?_
  replace hm := hm.2
  refine r_iald dX5_shareOf_18 hm.1 ?_
  replace hm := hm.2
  refine r_iload_n dX5_shareOf_19 rfl rfl ?_
  refine r_icmp_ne (tgt := 34) dX5_shareOf_20 rfl (fun hc => ?_) (fun hc => ?_)
  · replace hm := hm.1 hc
    refine r_keep (L' := [some (tR 5 0 (some 14)), some (tR 1 0 (some v1)), some (tI v2), some (tI v3), some (tJ 0)]) [true, true, true, true, true] rfl ?_
    exact s_X5_shareOf_34 hd hm
  · replace hm := hm.2 hc
    refine r_lload dX5_shareOf_23 rfl ?_
    refine r_aload_n dX5_shareOf_25 rfl rfl ?_
    refine r_getC (k := 11) cl_1 dX5_shareOf_26 t_476 gf_1_11.1 gf_1_11.2 (gc_1_11 _) ?_
    refine r_iload_n dX5_shareOf_29 rfl rfl ?_
    refine r_lald dX5_shareOf_30 hm.1 ?_
    replace hm := hm.2
    refine r_ladd dX5_shareOf_31 ?_
    refine r_nmJ (fun x2 e_x2 => ?_)
    replace hm := hm x2 e_x2
    refine r_lstore (L' := [some (tR 5 0 (some 14)), some (tR 1 0 (some v1)), some (tI v2), some (tI v3), some (tJ x2), none]) dX5_shareOf_32 (by decide) rfl ?_
    refine r_keep (L' := [some (tR 5 0 (some 14)), some (tR 1 0 (some v1)), some (tI v2), some (tI v3), some (tJ x2)]) [true, true, true, true, true] rfl ?_
    exact s_X5_shareOf_34 hd hm
theorem dX5_sumOf_0 : decode cX5_sumOf 0 = .ok (.lconst 0, 1) := by decide +kernel
theorem dX5_sumOf_1 : decode cX5_sumOf 1 = .ok (.lstore 6, 2) := by decide +kernel
theorem dX5_sumOf_3 : decode cX5_sumOf 3 = .ok (.iconst 0, 1) := by decide +kernel
theorem dX5_sumOf_4 : decode cX5_sumOf 4 = .ok (.istore 8, 2) := by decide +kernel
theorem dX5_sumOf_6 : decode cX5_sumOf 6 = .ok (.iconst 0, 1) := by decide +kernel
theorem dX5_sumOf_7 : decode cX5_sumOf 7 = .ok (.istore 9, 2) := by decide +kernel
theorem dX5_sumOf_9 : decode cX5_sumOf 9 = .ok (.iload 9, 2) := by decide +kernel
theorem dX5_sumOf_11 : decode cX5_sumOf 11 = .ok (.aload_n 1, 1) := by decide +kernel
theorem dX5_sumOf_12 : decode cX5_sumOf 12 = .ok (.getfield 49, 3) := by decide +kernel
theorem dX5_sumOf_15 : decode cX5_sumOf 15 = .ok (.if_icmp .ge 129, 3) := by decide +kernel
theorem dX5_sumOf_18 : decode cX5_sumOf 18 = .ok (.aload_n 1, 1) := by decide +kernel
theorem dX5_sumOf_19 : decode cX5_sumOf 19 = .ok (.getfield 55, 3) := by decide +kernel
theorem dX5_sumOf_22 : decode cX5_sumOf 22 = .ok (.iload 9, 2) := by decide +kernel
theorem dX5_sumOf_24 : decode cX5_sumOf 24 = .ok (.aaload, 1) := by decide +kernel
theorem dX5_sumOf_25 : decode cX5_sumOf 25 = .ok (.astore 10, 2) := by decide +kernel
theorem dX5_sumOf_27 : decode cX5_sumOf 27 = .ok (.iload_n 2, 1) := by decide +kernel
theorem dX5_sumOf_28 : decode cX5_sumOf 28 = .ok (.iload 8, 2) := by decide +kernel
theorem dX5_sumOf_30 : decode cX5_sumOf 30 = .ok (.invokestatic 59, 3) := by decide +kernel
theorem dX5_sumOf_33 : decode cX5_sumOf 33 = .ok (.istore 11, 2) := by decide +kernel
theorem dX5_sumOf_35 : decode cX5_sumOf 35 = .ok (.iconst 0, 1) := by decide +kernel
theorem dX5_sumOf_36 : decode cX5_sumOf 36 = .ok (.istore 12, 2) := by decide +kernel
theorem dX5_sumOf_38 : decode cX5_sumOf 38 = .ok (.iload 12, 2) := by decide +kernel
theorem dX5_sumOf_40 : decode cX5_sumOf 40 = .ok (.aload 10, 2) := by decide +kernel
theorem dX5_sumOf_42 : decode cX5_sumOf 42 = .ok (.getfield 63, 3) := by decide +kernel
theorem dX5_sumOf_45 : decode cX5_sumOf 45 = .ok (.if_icmp .ge 83, 3) := by decide +kernel
theorem dX5_sumOf_48 : decode cX5_sumOf 48 = .ok (.aload 10, 2) := by decide +kernel
theorem dX5_sumOf_50 : decode cX5_sumOf 50 = .ok (.getfield 68, 3) := by decide +kernel
theorem dX5_sumOf_53 : decode cX5_sumOf 53 = .ok (.iload 12, 2) := by decide +kernel
theorem dX5_sumOf_55 : decode cX5_sumOf 55 = .ok (.bipush 6, 2) := by decide +kernel
theorem dX5_sumOf_57 : decode cX5_sumOf 57 = .ok (.imul, 1) := by decide +kernel
theorem dX5_sumOf_58 : decode cX5_sumOf 58 = .ok (.iconst 3, 1) := by decide +kernel
theorem dX5_sumOf_59 : decode cX5_sumOf 59 = .ok (.iadd, 1) := by decide +kernel
theorem dX5_sumOf_60 : decode cX5_sumOf 60 = .ok (.iaload, 1) := by decide +kernel
theorem dX5_sumOf_61 : decode cX5_sumOf 61 = .ok (.iload 4, 2) := by decide +kernel
theorem dX5_sumOf_63 : decode cX5_sumOf 63 = .ok (.if_icmp .ne 19, 3) := by decide +kernel
theorem dX5_sumOf_66 : decode cX5_sumOf 66 = .ok (.aload 10, 2) := by decide +kernel
theorem dX5_sumOf_68 : decode cX5_sumOf 68 = .ok (.iload 12, 2) := by decide +kernel
theorem dX5_sumOf_70 : decode cX5_sumOf 70 = .ok (.iload 11, 2) := by decide +kernel
theorem dX5_sumOf_72 : decode cX5_sumOf 72 = .ok (.invokevirtual 71, 3) := by decide +kernel
theorem dX5_sumOf_75 : decode cX5_sumOf 75 = .ok (.ifCond .eq 7, 3) := by decide +kernel
theorem dX5_sumOf_78 : decode cX5_sumOf 78 = .ok (.iconst 1, 1) := by decide +kernel
theorem dX5_sumOf_79 : decode cX5_sumOf 79 = .ok (.goto 4, 3) := by decide +kernel
theorem dX5_sumOf_82 : decode cX5_sumOf 82 = .ok (.iconst 0, 1) := by decide +kernel
theorem dX5_sumOf_83 : decode cX5_sumOf 83 = .ok (.istore 13, 2) := by decide +kernel
theorem dX5_sumOf_85 : decode cX5_sumOf 85 = .ok (.iload 13, 2) := by decide +kernel
theorem dX5_sumOf_87 : decode cX5_sumOf 87 = .ok (.ifCond .eq 35, 3) := by decide +kernel
theorem dX5_sumOf_90 : decode cX5_sumOf 90 = .ok (.iload 5, 2) := by decide +kernel
theorem dX5_sumOf_92 : decode cX5_sumOf 92 = .ok (.iconst (-1), 1) := by decide +kernel
theorem dX5_sumOf_93 : decode cX5_sumOf 93 = .ok (.if_icmp .eq 15, 3) := by decide +kernel
theorem dX5_sumOf_96 : decode cX5_sumOf 96 = .ok (.aload 10, 2) := by decide +kernel
theorem dX5_sumOf_98 : decode cX5_sumOf 98 = .ok (.iload 12, 2) := by decide +kernel
theorem dX5_sumOf_100 : decode cX5_sumOf 100 = .ok (.invokevirtual 75, 3) := by decide +kernel
theorem dX5_sumOf_103 : decode cX5_sumOf 103 = .ok (.iload 5, 2) := by decide +kernel
theorem dX5_sumOf_105 : decode cX5_sumOf 105 = .ok (.if_icmp .ne 17, 3) := by decide +kernel
theorem dX5_sumOf_108 : decode cX5_sumOf 108 = .ok (.lload 6, 2) := by decide +kernel
theorem dX5_sumOf_110 : decode cX5_sumOf 110 = .ok (.aload_n 0, 1) := by decide +kernel
theorem dX5_sumOf_111 : decode cX5_sumOf 111 = .ok (.aload 10, 2) := by decide +kernel
theorem dX5_sumOf_113 : decode cX5_sumOf 113 = .ok (.iload 12, 2) := by decide +kernel
theorem dX5_sumOf_115 : decode cX5_sumOf 115 = .ok (.iload_n 3, 1) := by decide +kernel
theorem dX5_sumOf_116 : decode cX5_sumOf 116 = .ok (.invokevirtual 79, 3) := by decide +kernel
theorem dX5_sumOf_119 : decode cX5_sumOf 119 = .ok (.ladd, 1) := by decide +kernel
theorem dX5_sumOf_120 : decode cX5_sumOf 120 = .ok (.lstore 6, 2) := by decide +kernel
theorem dX5_sumOf_122 : decode cX5_sumOf 122 = .ok (.iinc 12 1, 3) := by decide +kernel
theorem dX5_sumOf_125 : decode cX5_sumOf 125 = .ok (.goto (-87), 3) := by decide +kernel
theorem dX5_sumOf_128 : decode cX5_sumOf 128 = .ok (.iload 8, 2) := by decide +kernel
theorem dX5_sumOf_130 : decode cX5_sumOf 130 = .ok (.aload 10, 2) := by decide +kernel
theorem dX5_sumOf_132 : decode cX5_sumOf 132 = .ok (.getfield 83, 3) := by decide +kernel
theorem dX5_sumOf_135 : decode cX5_sumOf 135 = .ok (.iadd, 1) := by decide +kernel
theorem dX5_sumOf_136 : decode cX5_sumOf 136 = .ok (.istore 8, 2) := by decide +kernel
theorem dX5_sumOf_138 : decode cX5_sumOf 138 = .ok (.iinc 9 1, 3) := by decide +kernel
theorem dX5_sumOf_141 : decode cX5_sumOf 141 = .ok (.goto (-132), 3) := by decide +kernel
theorem dX5_sumOf_144 : decode cX5_sumOf 144 = .ok (.lload 6, 2) := by decide +kernel
theorem dX5_sumOf_146 : decode cX5_sumOf 146 = .ok (.lreturn, 1) := by decide +kernel
def m_X5_sumOf_128 (k9 : Nat → Int32 → Int32 → Int32 → Int32 → Int64 → Int32 → Int32 → Hp → Prop) (Q : Int64 → Hp → Prop) (v1 : Nat) (v2 : Int32) (v3 : Int32) (v4 : Int32) (v5 : Int32) (v6 : Int64) (v8 : Int32) (v9 : Int32) (v10 : Nat) (h : Hp) : Prop := ∀ x1 : Int32, x1 = (v8 + (hI h v10 3)) → ∀ x2 : Int32, x2 = v9 + 1 → k9 v1 v2 v3 v4 v5 v6 x1 x2 h
set_option maxHeartbeats 4000000 in
set_option maxRecDepth 100000 in
theorem s_X5_sumOf_128 {l : Launch} {G : Cx} {d : Nat} {h0 : Hp} (hd : 4 ≤ d) {k9 : Nat → Int32 → Int32 → Int32 → Int32 → Int64 → Int32 → Int32 → Hp → Prop} {Q : Int64 → Hp → Prop} (hk9 : ∀ (v1 : Nat) (v2 : Int32) (v3 : Int32) (v4 : Int32) (v5 : Int32) (v6 : Int64) (v8 : Int32) (v9 : Int32) (hh : Hp), k9 v1 v2 v3 v4 v5 v6 v8 v9 hh → Rn l G d 0 0 MX5_sumOf h0 (qJ Q) 9 [some (tR 5 0 (some 14)), some (tR 0 0 (some v1)), some (tI v2), some (tI v3), some (tI v4), some (tI v5), some (tJ v6), none, some (tI v8), some (tI v9)] [] hh 0 0) {v1 : Nat} {v2 : Int32} {v3 : Int32} {v4 : Int32} {v5 : Int32} {v6 : Int64} {v8 : Int32} {v9 : Int32} {v10 : Nat} {h : Hp} (hm : m_X5_sumOf_128 k9 Q v1 v2 v3 v4 v5 v6 v8 v9 v10 h) : Rn l G d 0 0 MX5_sumOf h0 (qJ Q) 128 [some (tR 5 0 (some 14)), some (tR 0 0 (some v1)), some (tI v2), some (tI v3), some (tI v4), some (tI v5), some (tJ v6), none, some (tI v8), some (tI v9), some (tR 1 0 (some v10))] [] h 0 0 := by
  unfold m_X5_sumOf_128 at hm
  refine r_iload dX5_sumOf_128 rfl ?_
  refine r_aload dX5_sumOf_130 rfl ?_
  refine r_getI (k := 3) cl_1 dX5_sumOf_132 t_448 (Or.inl rfl) gf_1_3 ?_
  refine r_iadd dX5_sumOf_135 ?_
  refine r_nmI (fun x1 e_x1 => ?_)
  replace hm := hm x1 e_x1
  refine r_istore (L' := [some (tR 5 0 (some 14)), some (tR 0 0 (some v1)), some (tI v2), some (tI v3), some (tI v4), some (tI v5), some (tJ v6), none, some (tI x1), some (tI v9), some (tR 1 0 (some v10))]) dX5_sumOf_136 (by decide) rfl ?_
  obtain ⟨x2, e_x2⟩ : ∃ y : Int32, y = v9 + 1 := ⟨_, rfl⟩
  replace hm := hm x2 e_x2
  refine r_iinc (L' := [some (tR 5 0 (some 14)), some (tR 0 0 (some v1)), some (tI v2), some (tI v3), some (tI v4), some (tI v5), some (tJ v6), none, some (tI x1), some (tI x2), some (tR 1 0 (some v10))]) dX5_sumOf_138 rfl (by rw [e_x2]; rfl) (by decide) rfl ?_
  refine r_goto (tgt := 9) dX5_sumOf_141 rfl ?_
  refine r_keep (L' := [some (tR 5 0 (some 14)), some (tR 0 0 (some v1)), some (tI v2), some (tI v3), some (tI v4), some (tI v5), some (tJ v6), none, some (tI x1), some (tI x2)]) [true, true, true, true, true, true, true, false, true, true] rfl ?_
  exact hk9 _ _ _ _ _ _ _ _ _ hm
def m_X5_sumOf_122 (k38 : Nat → Int32 → Int32 → Int32 → Int32 → Int64 → Int32 → Int32 → Nat → Int32 → Int32 → Hp → Prop) (k128 : Nat → Int32 → Int32 → Int32 → Int32 → Int64 → Int32 → Int32 → Nat → Hp → Prop) (Q : Int64 → Hp → Prop) (v1 : Nat) (v2 : Int32) (v3 : Int32) (v4 : Int32) (v5 : Int32) (v6 : Int64) (v8 : Int32) (v9 : Int32) (v10 : Nat) (v11 : Int32) (v12 : Int32) (h : Hp) : Prop := ∀ x3 : Int32, x3 = v12 + 1 → k38 v1 v2 v3 v4 v5 v6 v8 v9 v10 v11 x3 h
set_option maxHeartbeats 4000000 in
set_option maxRecDepth 100000 in
theorem s_X5_sumOf_122 {l : Launch} {G : Cx} {d : Nat} {h0 : Hp} (hd : 4 ≤ d) {k38 : Nat → Int32 → Int32 → Int32 → Int32 → Int64 → Int32 → Int32 → Nat → Int32 → Int32 → Hp → Prop} {k128 : Nat → Int32 → Int32 → Int32 → Int32 → Int64 → Int32 → Int32 → Nat → Hp → Prop} {Q : Int64 → Hp → Prop} (hk38 : ∀ (v1 : Nat) (v2 : Int32) (v3 : Int32) (v4 : Int32) (v5 : Int32) (v6 : Int64) (v8 : Int32) (v9 : Int32) (v10 : Nat) (v11 : Int32) (v12 : Int32) (hh : Hp), k38 v1 v2 v3 v4 v5 v6 v8 v9 v10 v11 v12 hh → Rn l G d 0 0 MX5_sumOf h0 (qJ Q) 38 [some (tR 5 0 (some 14)), some (tR 0 0 (some v1)), some (tI v2), some (tI v3), some (tI v4), some (tI v5), some (tJ v6), none, some (tI v8), some (tI v9), some (tR 1 0 (some v10)), some (tI v11), some (tI v12)] [] hh 0 0) (hk128 : ∀ (v1 : Nat) (v2 : Int32) (v3 : Int32) (v4 : Int32) (v5 : Int32) (v6 : Int64) (v8 : Int32) (v9 : Int32) (v10 : Nat) (hh : Hp), k128 v1 v2 v3 v4 v5 v6 v8 v9 v10 hh → Rn l G d 0 0 MX5_sumOf h0 (qJ Q) 128 [some (tR 5 0 (some 14)), some (tR 0 0 (some v1)), some (tI v2), some (tI v3), some (tI v4), some (tI v5), some (tJ v6), none, some (tI v8), some (tI v9), some (tR 1 0 (some v10))] [] hh 0 0) {v1 : Nat} {v2 : Int32} {v3 : Int32} {v4 : Int32} {v5 : Int32} {v6 : Int64} {v8 : Int32} {v9 : Int32} {v10 : Nat} {v11 : Int32} {v12 : Int32} {h : Hp} (hm : m_X5_sumOf_122 k38 k128 Q v1 v2 v3 v4 v5 v6 v8 v9 v10 v11 v12 h) : Rn l G d 0 0 MX5_sumOf h0 (qJ Q) 122 [some (tR 5 0 (some 14)), some (tR 0 0 (some v1)), some (tI v2), some (tI v3), some (tI v4), some (tI v5), some (tJ v6), none, some (tI v8), some (tI v9), some (tR 1 0 (some v10)), some (tI v11), some (tI v12)] [] h 0 0 := by
  unfold m_X5_sumOf_122 at hm
  obtain ⟨x3, e_x3⟩ : ∃ y : Int32, y = v12 + 1 := ⟨_, rfl⟩
  replace hm := hm x3 e_x3
  refine r_iinc (L' := [some (tR 5 0 (some 14)), some (tR 0 0 (some v1)), some (tI v2), some (tI v3), some (tI v4), some (tI v5), some (tJ v6), none, some (tI v8), some (tI v9), some (tR 1 0 (some v10)), some (tI v11), some (tI x3)]) dX5_sumOf_122 rfl (by rw [e_x3]; rfl) (by decide) rfl ?_
  refine r_goto (tgt := 38) dX5_sumOf_125 rfl ?_
  refine r_keep (L' := [some (tR 5 0 (some 14)), some (tR 0 0 (some v1)), some (tI v2), some (tI v3), some (tI v4), some (tI v5), some (tJ v6), none, some (tI v8), some (tI v9), some (tR 1 0 (some v10)), some (tI v11), some (tI x3)]) [true, true, true, true, true, true, true, false, true, true, true, true, true] rfl ?_
  exact hk38 _ _ _ _ _ _ _ _ _ _ _ _ hm
def m_X5_sumOf_108 (k38 : Nat → Int32 → Int32 → Int32 → Int32 → Int64 → Int32 → Int32 → Nat → Int32 → Int32 → Hp → Prop) (k128 : Nat → Int32 → Int32 → Int32 → Int32 → Int64 → Int32 → Int32 → Nat → Hp → Prop) (Q : Int64 → Hp → Prop) (v1 : Nat) (v2 : Int32) (v3 : Int32) (v4 : Int32) (v5 : Int32) (v6 : Int64) (v8 : Int32) (v9 : Int32) (v10 : Nat) (v11 : Int32) (v12 : Int32) (h : Hp) : Prop := m_X5_shareOf v10 v12 v3 h (fun (x4 : Int64) (h5 : Hp) => ∀ x6 : Int64, x6 = (v6 + x4) → m_X5_sumOf_122 k38 k128 Q v1 v2 v3 v4 v5 x6 v8 v9 v10 v11 v12 h5)
set_option maxHeartbeats 4000000 in
set_option maxRecDepth 100000 in
theorem s_X5_sumOf_108 {l : Launch} {G : Cx} {d : Nat} {h0 : Hp} (hd : 4 ≤ d) {k38 : Nat → Int32 → Int32 → Int32 → Int32 → Int64 → Int32 → Int32 → Nat → Int32 → Int32 → Hp → Prop} {k128 : Nat → Int32 → Int32 → Int32 → Int32 → Int64 → Int32 → Int32 → Nat → Hp → Prop} {Q : Int64 → Hp → Prop} (hk38 : ∀ (v1 : Nat) (v2 : Int32) (v3 : Int32) (v4 : Int32) (v5 : Int32) (v6 : Int64) (v8 : Int32) (v9 : Int32) (v10 : Nat) (v11 : Int32) (v12 : Int32) (hh : Hp), k38 v1 v2 v3 v4 v5 v6 v8 v9 v10 v11 v12 hh → Rn l G d 0 0 MX5_sumOf h0 (qJ Q) 38 [some (tR 5 0 (some 14)), some (tR 0 0 (some v1)), some (tI v2), some (tI v3), some (tI v4), some (tI v5), some (tJ v6), none, some (tI v8), some (tI v9), some (tR 1 0 (some v10)), some (tI v11), some (tI v12)] [] hh 0 0) (hk128 : ∀ (v1 : Nat) (v2 : Int32) (v3 : Int32) (v4 : Int32) (v5 : Int32) (v6 : Int64) (v8 : Int32) (v9 : Int32) (v10 : Nat) (hh : Hp), k128 v1 v2 v3 v4 v5 v6 v8 v9 v10 hh → Rn l G d 0 0 MX5_sumOf h0 (qJ Q) 128 [some (tR 5 0 (some 14)), some (tR 0 0 (some v1)), some (tI v2), some (tI v3), some (tI v4), some (tI v5), some (tJ v6), none, some (tI v8), some (tI v9), some (tR 1 0 (some v10))] [] hh 0 0) {v1 : Nat} {v2 : Int32} {v3 : Int32} {v4 : Int32} {v5 : Int32} {v6 : Int64} {v8 : Int32} {v9 : Int32} {v10 : Nat} {v11 : Int32} {v12 : Int32} {h : Hp} (hm : m_X5_sumOf_108 k38 k128 Q v1 v2 v3 v4 v5 v6 v8 v9 v10 v11 v12 h) : Rn l G d 0 0 MX5_sumOf h0 (qJ Q) 108 [some (tR 5 0 (some 14)), some (tR 0 0 (some v1)), some (tI v2), some (tI v3), some (tI v4), some (tI v5), some (tJ v6), none, some (tI v8), some (tI v9), some (tR 1 0 (some v10)), some (tI v11), some (tI v12)] [] h 0 0 := by
  unfold m_X5_sumOf_108 at hm
  refine r_lload dX5_sumOf_108 rfl ?_
  refine r_aload_n dX5_sumOf_110 rfl rfl ?_
  refine r_aload dX5_sumOf_111 rfl ?_
  refine r_iload dX5_sumOf_113 rfl ?_
  refine r_iload_n dX5_sumOf_115 rfl rfl ?_
  refine r_callVJ (d' := d - 1) (as := [tR 1 0 (some v10), tI v12, tI v3]) (st := [tJ v6]) cl_5 dX5_sumOf_116 mi_X5_shareOf t_940 t_942 ts_30 rfl rfl (Nat.le_of_ble_eq_true rfl) (by omega) ⟨by decide, by decide⟩ ⟨rfl, rfl⟩ (s_X5_shareOf (by omega) hm) (fun x4 h5 hm => ?_)
  refine r_ladd dX5_sumOf_119 ?_
  refine r_nmJ (fun x6 e_x6 => ?_)
  replace hm := hm x6 e_x6
  refine r_lstore (L' := [some (tR 5 0 (some 14)), some (tR 0 0 (some v1)), some (tI v2), some (tI v3), some (tI v4), some (tI v5), some (tJ x6), none, some (tI v8), some (tI v9), some (tR 1 0 (some v10)), some (tI v11), some (tI v12)]) dX5_sumOf_120 (by decide) rfl ?_
  refine r_keep (L' := [some (tR 5 0 (some 14)), some (tR 0 0 (some v1)), some (tI v2), some (tI v3), some (tI v4), some (tI v5), some (tJ x6), none, some (tI v8), some (tI v9), some (tR 1 0 (some v10)), some (tI v11), some (tI v12)]) [true, true, true, true, true, true, true, false, true, true, true, true, true] rfl ?_
  exact s_X5_sumOf_122 hd hk38 hk128 hm
def m_X5_sumOf_83 (k38 : Nat → Int32 → Int32 → Int32 → Int32 → Int64 → Int32 → Int32 → Nat → Int32 → Int32 → Hp → Prop) (k128 : Nat → Int32 → Int32 → Int32 → Int32 → Int64 → Int32 → Int32 → Nat → Hp → Prop) (Q : Int64 → Hp → Prop) (v1 : Nat) (v2 : Int32) (v3 : Int32) (v4 : Int32) (v5 : Int32) (v6 : Int64) (v8 : Int32) (v9 : Int32) (v10 : Nat) (v11 : Int32) (v12 : Int32) (s0 : Int32) (h : Hp) : Prop := (s0 = 0 → m_X5_sumOf_122 k38 k128 Q v1 v2 v3 v4 v5 v6 v8 v9 v10 v11 v12 h) ∧ (¬ s0 = 0 → (v5 = (-1) → m_X5_sumOf_108 k38 k128 Q v1 v2 v3 v4 v5 v6 v8 v9 v10 v11 v12 h) ∧ (¬ v5 = (-1) → m_X1_dayOf v10 v12 h (fun (x7 : Int32) (h8 : Hp) => (¬ x7 = v5 → m_X5_sumOf_122 k38 k128 Q v1 v2 v3 v4 v5 v6 v8 v9 v10 v11 v12 h8) ∧ (x7 = v5 → m_X5_sumOf_108 k38 k128 Q v1 v2 v3 v4 v5 v6 v8 v9 v10 v11 v12 h8))))
set_option maxHeartbeats 4000000 in
set_option maxRecDepth 100000 in
theorem s_X5_sumOf_83 {l : Launch} {G : Cx} {d : Nat} {h0 : Hp} (hd : 4 ≤ d) {k38 : Nat → Int32 → Int32 → Int32 → Int32 → Int64 → Int32 → Int32 → Nat → Int32 → Int32 → Hp → Prop} {k128 : Nat → Int32 → Int32 → Int32 → Int32 → Int64 → Int32 → Int32 → Nat → Hp → Prop} {Q : Int64 → Hp → Prop} (hk38 : ∀ (v1 : Nat) (v2 : Int32) (v3 : Int32) (v4 : Int32) (v5 : Int32) (v6 : Int64) (v8 : Int32) (v9 : Int32) (v10 : Nat) (v11 : Int32) (v12 : Int32) (hh : Hp), k38 v1 v2 v3 v4 v5 v6 v8 v9 v10 v11 v12 hh → Rn l G d 0 0 MX5_sumOf h0 (qJ Q) 38 [some (tR 5 0 (some 14)), some (tR 0 0 (some v1)), some (tI v2), some (tI v3), some (tI v4), some (tI v5), some (tJ v6), none, some (tI v8), some (tI v9), some (tR 1 0 (some v10)), some (tI v11), some (tI v12)] [] hh 0 0) (hk128 : ∀ (v1 : Nat) (v2 : Int32) (v3 : Int32) (v4 : Int32) (v5 : Int32) (v6 : Int64) (v8 : Int32) (v9 : Int32) (v10 : Nat) (hh : Hp), k128 v1 v2 v3 v4 v5 v6 v8 v9 v10 hh → Rn l G d 0 0 MX5_sumOf h0 (qJ Q) 128 [some (tR 5 0 (some 14)), some (tR 0 0 (some v1)), some (tI v2), some (tI v3), some (tI v4), some (tI v5), some (tJ v6), none, some (tI v8), some (tI v9), some (tR 1 0 (some v10))] [] hh 0 0) {v1 : Nat} {v2 : Int32} {v3 : Int32} {v4 : Int32} {v5 : Int32} {v6 : Int64} {v8 : Int32} {v9 : Int32} {v10 : Nat} {v11 : Int32} {v12 : Int32} {s0 : Int32} {h : Hp} (hm : m_X5_sumOf_83 k38 k128 Q v1 v2 v3 v4 v5 v6 v8 v9 v10 v11 v12 s0 h) : Rn l G d 0 0 MX5_sumOf h0 (qJ Q) 83 [some (tR 5 0 (some 14)), some (tR 0 0 (some v1)), some (tI v2), some (tI v3), some (tI v4), some (tI v5), some (tJ v6), none, some (tI v8), some (tI v9), some (tR 1 0 (some v10)), some (tI v11), some (tI v12)] [tI s0] h 0 0 := by
  unfold m_X5_sumOf_83 at hm
  refine r_istore (L' := [some (tR 5 0 (some 14)), some (tR 0 0 (some v1)), some (tI v2), some (tI v3), some (tI v4), some (tI v5), some (tJ v6), none, some (tI v8), some (tI v9), some (tR 1 0 (some v10)), some (tI v11), some (tI v12), some (tI s0)]) dX5_sumOf_83 (by decide) rfl ?_
  refine r_iload dX5_sumOf_85 rfl ?_
  refine r_if_eq (tgt := 122) dX5_sumOf_87 rfl (fun hc => ?_) (fun hc => ?_)
  · replace hm := hm.1 hc
    refine r_keep (L' := [some (tR 5 0 (some 14)), some (tR 0 0 (some v1)), some (tI v2), some (tI v3), some (tI v4), some (tI v5), some (tJ v6), none, some (tI v8), some (tI v9), some (tR 1 0 (some v10)), some (tI v11), some (tI v12)]) [true, true, true, true, true, true, true, false, true, true, true, true, true] rfl ?_
    exact s_X5_sumOf_122 hd hk38 hk128 hm
  · replace hm := hm.2 hc
    refine r_iload dX5_sumOf_90 rfl ?_
    refine r_iconst (v := (-1)) dX5_sumOf_92 rfl ?_
    refine r_icmp_eq (tgt := 108) dX5_sumOf_93 rfl (fun hc => ?_) (fun hc => ?_)
    · replace hm := hm.1 hc
      refine r_keep (L' := [some (tR 5 0 (some 14)), some (tR 0 0 (some v1)), some (tI v2), some (tI v3), some (tI v4), some (tI v5), some (tJ v6), none, some (tI v8), some (tI v9), some (tR 1 0 (some v10)), some (tI v11), some (tI v12)]) [true, true, true, true, true, true, true, false, true, true, true, true, true] rfl ?_
      exact s_X5_sumOf_108 hd hk38 hk128 hm
    · replace hm := hm.2 hc
      refine r_aload dX5_sumOf_96 rfl ?_
      refine r_iload dX5_sumOf_98 rfl ?_
      refine r_callVI (d' := d - 1) (as := [tI v12]) (st := []) cl_1 dX5_sumOf_100 mi_X1_dayOf t_939 t_747 t_748 rfl rfl (Nat.le_of_ble_eq_true rfl) (by omega) ⟨by decide, by decide⟩ ⟨rfl, rfl⟩ (s_X1_dayOf (by omega) hm) (fun x7 h8 hm => ?_)
      refine r_iload dX5_sumOf_103 rfl ?_
      refine r_icmp_ne (tgt := 122) dX5_sumOf_105 rfl (fun hc => ?_) (fun hc => ?_)
      · replace hm := hm.1 hc
        refine r_keep (L' := [some (tR 5 0 (some 14)), some (tR 0 0 (some v1)), some (tI v2), some (tI v3), some (tI v4), some (tI v5), some (tJ v6), none, some (tI v8), some (tI v9), some (tR 1 0 (some v10)), some (tI v11), some (tI v12)]) [true, true, true, true, true, true, true, false, true, true, true, true, true] rfl ?_
        exact s_X5_sumOf_122 hd hk38 hk128 hm
      · replace hm := hm.2 hc
        refine r_keep (L' := [some (tR 5 0 (some 14)), some (tR 0 0 (some v1)), some (tI v2), some (tI v3), some (tI v4), some (tI v5), some (tJ v6), none, some (tI v8), some (tI v9), some (tR 1 0 (some v10)), some (tI v11), some (tI v12)]) [true, true, true, true, true, true, true, false, true, true, true, true, true] rfl ?_
        exact s_X5_sumOf_108 hd hk38 hk128 hm
def m_X5_sumOf_82 (k38 : Nat → Int32 → Int32 → Int32 → Int32 → Int64 → Int32 → Int32 → Nat → Int32 → Int32 → Hp → Prop) (k128 : Nat → Int32 → Int32 → Int32 → Int32 → Int64 → Int32 → Int32 → Nat → Hp → Prop) (Q : Int64 → Hp → Prop) (v1 : Nat) (v2 : Int32) (v3 : Int32) (v4 : Int32) (v5 : Int32) (v6 : Int64) (v8 : Int32) (v9 : Int32) (v10 : Nat) (v11 : Int32) (v12 : Int32) (h : Hp) : Prop := m_X5_sumOf_83 k38 k128 Q v1 v2 v3 v4 v5 v6 v8 v9 v10 v11 v12 0 h
set_option maxHeartbeats 4000000 in
set_option maxRecDepth 100000 in
theorem s_X5_sumOf_82 {l : Launch} {G : Cx} {d : Nat} {h0 : Hp} (hd : 4 ≤ d) {k38 : Nat → Int32 → Int32 → Int32 → Int32 → Int64 → Int32 → Int32 → Nat → Int32 → Int32 → Hp → Prop} {k128 : Nat → Int32 → Int32 → Int32 → Int32 → Int64 → Int32 → Int32 → Nat → Hp → Prop} {Q : Int64 → Hp → Prop} (hk38 : ∀ (v1 : Nat) (v2 : Int32) (v3 : Int32) (v4 : Int32) (v5 : Int32) (v6 : Int64) (v8 : Int32) (v9 : Int32) (v10 : Nat) (v11 : Int32) (v12 : Int32) (hh : Hp), k38 v1 v2 v3 v4 v5 v6 v8 v9 v10 v11 v12 hh → Rn l G d 0 0 MX5_sumOf h0 (qJ Q) 38 [some (tR 5 0 (some 14)), some (tR 0 0 (some v1)), some (tI v2), some (tI v3), some (tI v4), some (tI v5), some (tJ v6), none, some (tI v8), some (tI v9), some (tR 1 0 (some v10)), some (tI v11), some (tI v12)] [] hh 0 0) (hk128 : ∀ (v1 : Nat) (v2 : Int32) (v3 : Int32) (v4 : Int32) (v5 : Int32) (v6 : Int64) (v8 : Int32) (v9 : Int32) (v10 : Nat) (hh : Hp), k128 v1 v2 v3 v4 v5 v6 v8 v9 v10 hh → Rn l G d 0 0 MX5_sumOf h0 (qJ Q) 128 [some (tR 5 0 (some 14)), some (tR 0 0 (some v1)), some (tI v2), some (tI v3), some (tI v4), some (tI v5), some (tJ v6), none, some (tI v8), some (tI v9), some (tR 1 0 (some v10))] [] hh 0 0) {v1 : Nat} {v2 : Int32} {v3 : Int32} {v4 : Int32} {v5 : Int32} {v6 : Int64} {v8 : Int32} {v9 : Int32} {v10 : Nat} {v11 : Int32} {v12 : Int32} {h : Hp} (hm : m_X5_sumOf_82 k38 k128 Q v1 v2 v3 v4 v5 v6 v8 v9 v10 v11 v12 h) : Rn l G d 0 0 MX5_sumOf h0 (qJ Q) 82 [some (tR 5 0 (some 14)), some (tR 0 0 (some v1)), some (tI v2), some (tI v3), some (tI v4), some (tI v5), some (tJ v6), none, some (tI v8), some (tI v9), some (tR 1 0 (some v10)), some (tI v11), some (tI v12)] [] h 0 0 := by
  unfold m_X5_sumOf_82 at hm
  refine r_iconst (v := 0) dX5_sumOf_82 rfl ?_
  refine r_keep (L' := [some (tR 5 0 (some 14)), some (tR 0 0 (some v1)), some (tI v2), some (tI v3), some (tI v4), some (tI v5), some (tJ v6), none, some (tI v8), some (tI v9), some (tR 1 0 (some v10)), some (tI v11), some (tI v12)]) [true, true, true, true, true, true, true, false, true, true, true, true, true] rfl ?_
  exact s_X5_sumOf_83 hd hk38 hk128 hm
def m_X5_sumOf_38 : Nat → (Nat → Int32 → Int32 → Int32 → Int32 → Int64 → Int32 → Int32 → Nat → Hp → Prop) → (Int64 → Hp → Prop) → Nat → Int32 → Int32 → Int32 → Int32 → Int64 → Int32 → Int32 → Nat → Int32 → Int32 → Hp → Prop
  | 0, _, _, _, _, _, _, _, _, _, _, _, _, _, _ => False
  | n + 1, k128, Q, v1, v2, v3, v4, v5, v6, v8, v9, v10, v11, v12, h => ((hI h v10 6) ≤ v12 → k128 v1 v2 v3 v4 v5 v6 v8 v9 v10 h) ∧ (¬ (hI h v10 6) ≤ v12 → vp_in ((v12 * 6) + 3) 216 ∧ ((¬ (hI h (v10 + 2) (ix ((v12 * 6) + 3))) = v4 → m_X5_sumOf_82 (fun (v1 : Nat) (v2 : Int32) (v3 : Int32) (v4 : Int32) (v5 : Int32) (v6 : Int64) (v8 : Int32) (v9 : Int32) (v10 : Nat) (v11 : Int32) (v12 : Int32) (hh : Hp) => m_X5_sumOf_38 n k128 Q v1 v2 v3 v4 v5 v6 v8 v9 v10 v11 v12 hh) k128 Q v1 v2 v3 v4 v5 v6 v8 v9 v10 v11 v12 h) ∧ ((hI h (v10 + 2) (ix ((v12 * 6) + 3))) = v4 → m_X1_isPassing v10 v12 v11 h (fun (x9 : Int32) (h10 : Hp) => (x9 = 0 → m_X5_sumOf_82 (fun (v1 : Nat) (v2 : Int32) (v3 : Int32) (v4 : Int32) (v5 : Int32) (v6 : Int64) (v8 : Int32) (v9 : Int32) (v10 : Nat) (v11 : Int32) (v12 : Int32) (hh : Hp) => m_X5_sumOf_38 n k128 Q v1 v2 v3 v4 v5 v6 v8 v9 v10 v11 v12 hh) k128 Q v1 v2 v3 v4 v5 v6 v8 v9 v10 v11 v12 h10) ∧ (¬ x9 = 0 → m_X5_sumOf_83 (fun (v1 : Nat) (v2 : Int32) (v3 : Int32) (v4 : Int32) (v5 : Int32) (v6 : Int64) (v8 : Int32) (v9 : Int32) (v10 : Nat) (v11 : Int32) (v12 : Int32) (hh : Hp) => m_X5_sumOf_38 n k128 Q v1 v2 v3 v4 v5 v6 v8 v9 v10 v11 v12 hh) k128 Q v1 v2 v3 v4 v5 v6 v8 v9 v10 v11 v12 1 h10)))))
set_option maxHeartbeats 4000000 in
set_option maxRecDepth 100000 in
theorem s_X5_sumOf_38 {l : Launch} {G : Cx} {d : Nat} {h0 : Hp} (hd : 4 ≤ d) {k128 : Nat → Int32 → Int32 → Int32 → Int32 → Int64 → Int32 → Int32 → Nat → Hp → Prop} {Q : Int64 → Hp → Prop} (hk128 : ∀ (v1 : Nat) (v2 : Int32) (v3 : Int32) (v4 : Int32) (v5 : Int32) (v6 : Int64) (v8 : Int32) (v9 : Int32) (v10 : Nat) (hh : Hp), k128 v1 v2 v3 v4 v5 v6 v8 v9 v10 hh → Rn l G d 0 0 MX5_sumOf h0 (qJ Q) 128 [some (tR 5 0 (some 14)), some (tR 0 0 (some v1)), some (tI v2), some (tI v3), some (tI v4), some (tI v5), some (tJ v6), none, some (tI v8), some (tI v9), some (tR 1 0 (some v10))] [] hh 0 0) : ∀ {n : Nat} {v1 : Nat} {v2 : Int32} {v3 : Int32} {v4 : Int32} {v5 : Int32} {v6 : Int64} {v8 : Int32} {v9 : Int32} {v10 : Nat} {v11 : Int32} {v12 : Int32} {h : Hp}, m_X5_sumOf_38 n k128 Q v1 v2 v3 v4 v5 v6 v8 v9 v10 v11 v12 h → Rn l G d 0 0 MX5_sumOf h0 (qJ Q) 38 [some (tR 5 0 (some 14)), some (tR 0 0 (some v1)), some (tI v2), some (tI v3), some (tI v4), some (tI v5), some (tJ v6), none, some (tI v8), some (tI v9), some (tR 1 0 (some v10)), some (tI v11), some (tI v12)] [] h 0 0 := by
  intro n
  induction n with
  | zero => intro v1 v2 v3 v4 v5 v6 v8 v9 v10 v11 v12 h hm; exact hm.elim
  | succ n ih =>
    intro v1 v2 v3 v4 v5 v6 v8 v9 v10 v11 v12 h hm
    have hk38 := fun (v1 : Nat) (v2 : Int32) (v3 : Int32) (v4 : Int32) (v5 : Int32) (v6 : Int64) (v8 : Int32) (v9 : Int32) (v10 : Nat) (v11 : Int32) (v12 : Int32) (hh : Hp) (hm : m_X5_sumOf_38 n k128 Q v1 v2 v3 v4 v5 v6 v8 v9 v10 v11 v12 hh) => ih hm
    rw [m_X5_sumOf_38] at hm
    refine r_iload dX5_sumOf_38 rfl ?_
    refine r_aload dX5_sumOf_40 rfl ?_
    refine r_getI (k := 6) cl_1 dX5_sumOf_42 t_461 (Or.inl rfl) gf_1_6 ?_
    refine r_icmp_ge (tgt := 128) dX5_sumOf_45 rfl (fun hc => ?_) (fun hc => ?_)
    · replace hm := hm.1 hc
      refine r_keep (L' := [some (tR 5 0 (some 14)), some (tR 0 0 (some v1)), some (tI v2), some (tI v3), some (tI v4), some (tI v5), some (tJ v6), none, some (tI v8), some (tI v9), some (tR 1 0 (some v10))]) [true, true, true, true, true, true, true, false, true, true, true] rfl ?_
      exact hk128 _ _ _ _ _ _ _ _ _ _ hm
    · replace hm := hm.2 hc
      refine r_aload dX5_sumOf_48 rfl ?_
      refine r_getC (k := 10) cl_1 dX5_sumOf_50 t_472 gf_1_10.1 gf_1_10.2 (gc_1_10 _) ?_
      refine r_iload dX5_sumOf_53 rfl ?_
      refine r_bipush (v := 6) dX5_sumOf_55 rfl ?_
      refine r_imul dX5_sumOf_57 ?_
      refine r_iconst (v := 3) dX5_sumOf_58 rfl ?_
      refine r_iadd dX5_sumOf_59 ?_
      refine r_iald dX5_sumOf_60 hm.1 ?_
      replace hm := hm.2
      refine r_iload dX5_sumOf_61 rfl ?_
      refine r_icmp_ne (tgt := 82) dX5_sumOf_63 rfl (fun hc => ?_) (fun hc => ?_)
      · replace hm := hm.1 hc
        refine r_keep (L' := [some (tR 5 0 (some 14)), some (tR 0 0 (some v1)), some (tI v2), some (tI v3), some (tI v4), some (tI v5), some (tJ v6), none, some (tI v8), some (tI v9), some (tR 1 0 (some v10)), some (tI v11), some (tI v12)]) [true, true, true, true, true, true, true, false, true, true, true, true, true] rfl ?_
        exact s_X5_sumOf_82 hd hk38 hk128 hm
      · replace hm := hm.2 hc
        refine r_aload dX5_sumOf_66 rfl ?_
        refine r_iload dX5_sumOf_68 rfl ?_
        refine r_iload dX5_sumOf_70 rfl ?_
        refine r_callVI (d' := d - 1) (as := [tI v12, tI v11]) (st := []) cl_1 dX5_sumOf_72 mi_X1_isPassing t_938 t_875 t_876 rfl rfl (Nat.le_of_ble_eq_true rfl) (by omega) ⟨by decide, by decide⟩ ⟨rfl, rfl⟩ (s_X1_isPassing (by omega) hm) (fun x9 h10 hm => ?_)
        refine r_if_eq (tgt := 82) dX5_sumOf_75 rfl (fun hc => ?_) (fun hc => ?_)
        · replace hm := hm.1 hc
          refine r_keep (L' := [some (tR 5 0 (some 14)), some (tR 0 0 (some v1)), some (tI v2), some (tI v3), some (tI v4), some (tI v5), some (tJ v6), none, some (tI v8), some (tI v9), some (tR 1 0 (some v10)), some (tI v11), some (tI v12)]) [true, true, true, true, true, true, true, false, true, true, true, true, true] rfl ?_
          exact s_X5_sumOf_82 hd hk38 hk128 hm
        · replace hm := hm.2 hc
          refine r_iconst (v := 1) dX5_sumOf_78 rfl ?_
          refine r_goto (tgt := 83) dX5_sumOf_79 rfl ?_
          refine r_keep (L' := [some (tR 5 0 (some 14)), some (tR 0 0 (some v1)), some (tI v2), some (tI v3), some (tI v4), some (tI v5), some (tJ v6), none, some (tI v8), some (tI v9), some (tR 1 0 (some v10)), some (tI v11), some (tI v12)]) [true, true, true, true, true, true, true, false, true, true, true, true, true] rfl ?_
          exact s_X5_sumOf_83 hd hk38 hk128 hm
def m_X5_sumOf_9 : Nat → (Int64 → Hp → Prop) → Nat → Int32 → Int32 → Int32 → Int32 → Int64 → Int32 → Int32 → Hp → Prop
  | 0, _, _, _, _, _, _, _, _, _, _ => False
  | n + 1, Q, v1, v2, v3, v4, v5, v6, v8, v9, h => ((hI h v1 1) ≤ v9 → Q v6 h) ∧ (¬ (hI h v1 1) ≤ v9 → vp_in v9 6 ∧ ∃ b11 : Nat, hR h (v1 + 1) (ix v9) = some b11 ∧ (m_X0_codeFor v2 v8 h (fun (x12 : Int32) (h13 : Hp) => ∃ n38, m_X5_sumOf_38 n38 (m_X5_sumOf_128 (fun (v1 : Nat) (v2 : Int32) (v3 : Int32) (v4 : Int32) (v5 : Int32) (v6 : Int64) (v8 : Int32) (v9 : Int32) (hh : Hp) => m_X5_sumOf_9 n Q v1 v2 v3 v4 v5 v6 v8 v9 hh) Q) Q v1 v2 v3 v4 v5 v6 v8 v9 b11 x12 0 h13)))
set_option maxHeartbeats 4000000 in
set_option maxRecDepth 100000 in
theorem s_X5_sumOf_9 {l : Launch} {G : Cx} {d : Nat} {h0 : Hp} (hd : 4 ≤ d) {Q : Int64 → Hp → Prop} : ∀ {n : Nat} {v1 : Nat} {v2 : Int32} {v3 : Int32} {v4 : Int32} {v5 : Int32} {v6 : Int64} {v8 : Int32} {v9 : Int32} {h : Hp}, m_X5_sumOf_9 n Q v1 v2 v3 v4 v5 v6 v8 v9 h → Rn l G d 0 0 MX5_sumOf h0 (qJ Q) 9 [some (tR 5 0 (some 14)), some (tR 0 0 (some v1)), some (tI v2), some (tI v3), some (tI v4), some (tI v5), some (tJ v6), none, some (tI v8), some (tI v9)] [] h 0 0 := by
  intro n
  induction n with
  | zero => intro v1 v2 v3 v4 v5 v6 v8 v9 h hm; exact hm.elim
  | succ n ih =>
    intro v1 v2 v3 v4 v5 v6 v8 v9 h hm
    have hk9 := fun (v1 : Nat) (v2 : Int32) (v3 : Int32) (v4 : Int32) (v5 : Int32) (v6 : Int64) (v8 : Int32) (v9 : Int32) (hh : Hp) (hm : m_X5_sumOf_9 n Q v1 v2 v3 v4 v5 v6 v8 v9 hh) => ih hm
    rw [m_X5_sumOf_9] at hm
    refine r_iload dX5_sumOf_9 rfl ?_
    refine r_aload_n dX5_sumOf_11 rfl rfl ?_
    refine r_getI (k := 1) cl_0 dX5_sumOf_12 t_127 (Or.inl rfl) gf_0_1 ?_
    refine r_icmp_ge (tgt := 144) dX5_sumOf_15 rfl (fun hc => ?_) (fun hc => ?_)
    · replace hm := hm.1 hc
      refine r_lload dX5_sumOf_144 rfl ?_
      exact r_lreturn dX5_sumOf_146 rfl ⟨by decide, by decide⟩ ⟨_, rfl, hm⟩
    · replace hm := hm.2 hc
      refine r_aload_n dX5_sumOf_18 rfl rfl ?_
      refine r_getC (k := 0) cl_0 dX5_sumOf_19 t_123 gf_0_0.1 gf_0_0.2 (gc_0_0 _) ?_
      refine r_iload dX5_sumOf_22 rfl ?_
      obtain ⟨hi_b11, b11, hb_b11, hm⟩ := hm
      refine r_aaldS (kd := 1) (ti := 5) (cn := RX1) dX5_sumOf_24 rfl hi_b11 hb_b11 ?_
      refine r_astore (L' := [some (tR 5 0 (some 14)), some (tR 0 0 (some v1)), some (tI v2), some (tI v3), some (tI v4), some (tI v5), some (tJ v6), none, some (tI v8), some (tI v9), some (tR 1 0 (some b11))]) dX5_sumOf_25 (by decide) rfl ?_
      refine r_iload_n dX5_sumOf_27 rfl rfl ?_
      refine r_iload dX5_sumOf_28 rfl ?_
      refine r_callSI (d' := d - 1) (as := [tI v2, tI v8]) (st := []) dX5_sumOf_30 mi_X0_codeFor t_937 t_920 rfl rfl (Nat.le_of_ble_eq_true rfl) (by omega) ⟨by decide, by decide⟩ ⟨rfl, rfl⟩ (s_X0_codeFor (by omega) hm) (fun x12 h13 hm => ?_)
      refine r_istore (L' := [some (tR 5 0 (some 14)), some (tR 0 0 (some v1)), some (tI v2), some (tI v3), some (tI v4), some (tI v5), some (tJ v6), none, some (tI v8), some (tI v9), some (tR 1 0 (some b11)), some (tI x12)]) dX5_sumOf_33 (by decide) rfl ?_
      refine r_iconst (v := 0) dX5_sumOf_35 rfl ?_
      refine r_istore (L' := [some (tR 5 0 (some 14)), some (tR 0 0 (some v1)), some (tI v2), some (tI v3), some (tI v4), some (tI v5), some (tJ v6), none, some (tI v8), some (tI v9), some (tR 1 0 (some b11)), some (tI x12), some (tI 0)]) dX5_sumOf_36 (by decide) rfl ?_
      refine r_keep (L' := [some (tR 5 0 (some 14)), some (tR 0 0 (some v1)), some (tI v2), some (tI v3), some (tI v4), some (tI v5), some (tJ v6), none, some (tI v8), some (tI v9), some (tR 1 0 (some b11)), some (tI x12), some (tI 0)]) [true, true, true, true, true, true, true, false, true, true, true, true, true] rfl ?_
      obtain ⟨n, hm⟩ := hm
      refine s_X5_sumOf_38 hd ?_ hm
      · exact (fun _ _ _ _ _ _ _ _ _ _ hm => s_X5_sumOf_128 hd hk9 hm)
def m_X5_sumOf (v1 : Nat) (v2 : Int32) (v3 : Int32) (v4 : Int32) (v5 : Int32) (h : Hp) (Q : Int64 → Hp → Prop) : Prop := ∃ n9, m_X5_sumOf_9 n9 Q v1 v2 v3 v4 v5 0 0 0 h
set_option maxHeartbeats 4000000 in
set_option maxRecDepth 100000 in
theorem s_X5_sumOf {l : Launch} {G : Cx} {d : Nat} (hd : 4 ≤ d) {v1 : Nat} {v2 : Int32} {v3 : Int32} {v4 : Int32} {v5 : Int32} {h : Hp} {Q : Int64 → Hp → Prop} (hm : m_X5_sumOf v1 v2 v3 v4 v5 h Q) : Ct l G d 0 0 yX5_sumOf MX5_sumOf [tR 5 0 (some 14), tR 0 0 (some v1), tI v2, tI v3, tI v4, tI v5] h (qJ Q) := by
  unfold m_X5_sumOf at hm
  refine Ct.of (L := [some (tR 5 0 (some 14)), some (tR 0 0 (some v1)), some (tI v2), some (tI v3), some (tI v4), some (tI v5)]) (by decide) rfl rfl (Nat.le_of_ble_eq_true rfl) rfl ?_
  refine r_lconst (v := 0) dX5_sumOf_0 rfl ?_
  refine r_lstore (L' := [some (tR 5 0 (some 14)), some (tR 0 0 (some v1)), some (tI v2), some (tI v3), some (tI v4), some (tI v5), some (tJ 0), none]) dX5_sumOf_1 (by decide) rfl ?_
  refine r_iconst (v := 0) dX5_sumOf_3 rfl ?_
  refine r_istore (L' := [some (tR 5 0 (some 14)), some (tR 0 0 (some v1)), some (tI v2), some (tI v3), some (tI v4), some (tI v5), some (tJ 0), none, some (tI 0)]) dX5_sumOf_4 (by decide) rfl ?_
  refine r_iconst (v := 0) dX5_sumOf_6 rfl ?_
  refine r_istore (L' := [some (tR 5 0 (some 14)), some (tR 0 0 (some v1)), some (tI v2), some (tI v3), some (tI v4), some (tI v5), some (tJ 0), none, some (tI 0), some (tI 0)]) dX5_sumOf_7 (by decide) rfl ?_
  refine r_keep (L' := [some (tR 5 0 (some 14)), some (tR 0 0 (some v1)), some (tI v2), some (tI v3), some (tI v4), some (tI v5), some (tJ 0), none, some (tI 0), some (tI 0)]) [true, true, true, true, true, true, true, false, true, true] rfl ?_
  obtain ⟨n, hm⟩ := hm
  refine s_X5_sumOf_9 hd hm
theorem dX5_sumInto_0 : decode cX5_sumInto 0 = .ok (.iconst 0, 1) := by decide +kernel
theorem dX5_sumInto_1 : decode cX5_sumInto 1 = .ok (.istore 6, 2) := by decide +kernel
theorem dX5_sumInto_3 : decode cX5_sumInto 3 = .ok (.iload 6, 2) := by decide +kernel
theorem dX5_sumInto_5 : decode cX5_sumInto 5 = .ok (.aload_n 1, 1) := by decide +kernel
theorem dX5_sumInto_6 : decode cX5_sumInto 6 = .ok (.getfield 63, 3) := by decide +kernel
theorem dX5_sumInto_9 : decode cX5_sumInto 9 = .ok (.if_icmp .ge 115, 3) := by decide +kernel
theorem dX5_sumInto_12 : decode cX5_sumInto 12 = .ok (.aload_n 1, 1) := by decide +kernel
theorem dX5_sumInto_13 : decode cX5_sumInto 13 = .ok (.iload 6, 2) := by decide +kernel
theorem dX5_sumInto_15 : decode cX5_sumInto 15 = .ok (.iload_n 2, 1) := by decide +kernel
theorem dX5_sumInto_16 : decode cX5_sumInto 16 = .ok (.invokevirtual 71, 3) := by decide +kernel
theorem dX5_sumInto_19 : decode cX5_sumInto 19 = .ok (.ifCond .eq 99, 3) := by decide +kernel
theorem dX5_sumInto_22 : decode cX5_sumInto 22 = .ok (.iload 6, 2) := by decide +kernel
theorem dX5_sumInto_24 : decode cX5_sumInto 24 = .ok (.bipush 6, 2) := by decide +kernel
theorem dX5_sumInto_26 : decode cX5_sumInto 26 = .ok (.imul, 1) := by decide +kernel
theorem dX5_sumInto_27 : decode cX5_sumInto 27 = .ok (.istore 7, 2) := by decide +kernel
theorem dX5_sumInto_29 : decode cX5_sumInto 29 = .ok (.aload_n 1, 1) := by decide +kernel
theorem dX5_sumInto_30 : decode cX5_sumInto 30 = .ok (.getfield 68, 3) := by decide +kernel
theorem dX5_sumInto_33 : decode cX5_sumInto 33 = .ok (.iload 7, 2) := by decide +kernel
theorem dX5_sumInto_35 : decode cX5_sumInto 35 = .ok (.iconst 3, 1) := by decide +kernel
theorem dX5_sumInto_36 : decode cX5_sumInto 36 = .ok (.iadd, 1) := by decide +kernel
theorem dX5_sumInto_37 : decode cX5_sumInto 37 = .ok (.iaload, 1) := by decide +kernel
theorem dX5_sumInto_38 : decode cX5_sumInto 38 = .ok (.istore 8, 2) := by decide +kernel
theorem dX5_sumInto_40 : decode cX5_sumInto 40 = .ok (.aload 4, 2) := by decide +kernel
theorem dX5_sumInto_42 : decode cX5_sumInto 42 = .ok (.iload 5, 2) := by decide +kernel
theorem dX5_sumInto_44 : decode cX5_sumInto 44 = .ok (.aload_n 0, 1) := by decide +kernel
theorem dX5_sumInto_45 : decode cX5_sumInto 45 = .ok (.getfield 46, 3) := by decide +kernel
theorem dX5_sumInto_48 : decode cX5_sumInto 48 = .ok (.aload_n 1, 1) := by decide +kernel
theorem dX5_sumInto_49 : decode cX5_sumInto 49 = .ok (.getfield 68, 3) := by decide +kernel
theorem dX5_sumInto_52 : decode cX5_sumInto 52 = .ok (.iload 7, 2) := by decide +kernel
theorem dX5_sumInto_54 : decode cX5_sumInto 54 = .ok (.iconst 2, 1) := by decide +kernel
theorem dX5_sumInto_55 : decode cX5_sumInto 55 = .ok (.iadd, 1) := by decide +kernel
theorem dX5_sumInto_56 : decode cX5_sumInto 56 = .ok (.iaload, 1) := by decide +kernel
theorem dX5_sumInto_57 : decode cX5_sumInto 57 = .ok (.iaload, 1) := by decide +kernel
theorem dX5_sumInto_58 : decode cX5_sumInto 58 = .ok (.bipush 6, 2) := by decide +kernel
theorem dX5_sumInto_60 : decode cX5_sumInto 60 = .ok (.imul, 1) := by decide +kernel
theorem dX5_sumInto_61 : decode cX5_sumInto 61 = .ok (.iadd, 1) := by decide +kernel
theorem dX5_sumInto_62 : decode cX5_sumInto 62 = .ok (.iload 8, 2) := by decide +kernel
theorem dX5_sumInto_64 : decode cX5_sumInto 64 = .ok (.iadd, 1) := by decide +kernel
theorem dX5_sumInto_65 : decode cX5_sumInto 65 = .ok (.dup2, 1) := by decide +kernel
theorem dX5_sumInto_66 : decode cX5_sumInto 66 = .ok (.laload, 1) := by decide +kernel
theorem dX5_sumInto_67 : decode cX5_sumInto 67 = .ok (.iload_n 3, 1) := by decide +kernel
theorem dX5_sumInto_68 : decode cX5_sumInto 68 = .ok (.i2l, 1) := by decide +kernel
theorem dX5_sumInto_69 : decode cX5_sumInto 69 = .ok (.aload_n 1, 1) := by decide +kernel
theorem dX5_sumInto_70 : decode cX5_sumInto 70 = .ok (.getfield 86, 3) := by decide +kernel
theorem dX5_sumInto_73 : decode cX5_sumInto 73 = .ok (.iload 6, 2) := by decide +kernel
theorem dX5_sumInto_75 : decode cX5_sumInto 75 = .ok (.laload, 1) := by decide +kernel
theorem dX5_sumInto_76 : decode cX5_sumInto 76 = .ok (.lmul, 1) := by decide +kernel
theorem dX5_sumInto_77 : decode cX5_sumInto 77 = .ok (.ladd, 1) := by decide +kernel
theorem dX5_sumInto_78 : decode cX5_sumInto 78 = .ok (.lastore, 1) := by decide +kernel
theorem dX5_sumInto_79 : decode cX5_sumInto 79 = .ok (.aload 4, 2) := by decide +kernel
theorem dX5_sumInto_81 : decode cX5_sumInto 81 = .ok (.iload 5, 2) := by decide +kernel
theorem dX5_sumInto_83 : decode cX5_sumInto 83 = .ok (.aload_n 0, 1) := by decide +kernel
theorem dX5_sumInto_84 : decode cX5_sumInto 84 = .ok (.getfield 46, 3) := by decide +kernel
theorem dX5_sumInto_87 : decode cX5_sumInto 87 = .ok (.aload_n 1, 1) := by decide +kernel
theorem dX5_sumInto_88 : decode cX5_sumInto 88 = .ok (.getfield 68, 3) := by decide +kernel
theorem dX5_sumInto_91 : decode cX5_sumInto 91 = .ok (.iload 7, 2) := by decide +kernel
theorem dX5_sumInto_93 : decode cX5_sumInto 93 = .ok (.iconst 1, 1) := by decide +kernel
theorem dX5_sumInto_94 : decode cX5_sumInto 94 = .ok (.iadd, 1) := by decide +kernel
theorem dX5_sumInto_95 : decode cX5_sumInto 95 = .ok (.iaload, 1) := by decide +kernel
theorem dX5_sumInto_96 : decode cX5_sumInto 96 = .ok (.iaload, 1) := by decide +kernel
theorem dX5_sumInto_97 : decode cX5_sumInto 97 = .ok (.bipush 6, 2) := by decide +kernel
theorem dX5_sumInto_99 : decode cX5_sumInto 99 = .ok (.imul, 1) := by decide +kernel
theorem dX5_sumInto_100 : decode cX5_sumInto 100 = .ok (.iadd, 1) := by decide +kernel
theorem dX5_sumInto_101 : decode cX5_sumInto 101 = .ok (.iload 8, 2) := by decide +kernel
theorem dX5_sumInto_103 : decode cX5_sumInto 103 = .ok (.iadd, 1) := by decide +kernel
theorem dX5_sumInto_104 : decode cX5_sumInto 104 = .ok (.dup2, 1) := by decide +kernel
theorem dX5_sumInto_105 : decode cX5_sumInto 105 = .ok (.laload, 1) := by decide +kernel
theorem dX5_sumInto_106 : decode cX5_sumInto 106 = .ok (.iload_n 3, 1) := by decide +kernel
theorem dX5_sumInto_107 : decode cX5_sumInto 107 = .ok (.i2l, 1) := by decide +kernel
theorem dX5_sumInto_108 : decode cX5_sumInto 108 = .ok (.aload_n 1, 1) := by decide +kernel
theorem dX5_sumInto_109 : decode cX5_sumInto 109 = .ok (.getfield 86, 3) := by decide +kernel
theorem dX5_sumInto_112 : decode cX5_sumInto 112 = .ok (.iload 6, 2) := by decide +kernel
theorem dX5_sumInto_114 : decode cX5_sumInto 114 = .ok (.laload, 1) := by decide +kernel
theorem dX5_sumInto_115 : decode cX5_sumInto 115 = .ok (.lmul, 1) := by decide +kernel
theorem dX5_sumInto_116 : decode cX5_sumInto 116 = .ok (.lsub, 1) := by decide +kernel
theorem dX5_sumInto_117 : decode cX5_sumInto 117 = .ok (.lastore, 1) := by decide +kernel
theorem dX5_sumInto_118 : decode cX5_sumInto 118 = .ok (.iinc 6 1, 3) := by decide +kernel
theorem dX5_sumInto_121 : decode cX5_sumInto 121 = .ok (.goto (-118), 3) := by decide +kernel
theorem dX5_sumInto_124 : decode cX5_sumInto 124 = .ok (.return_, 1) := by decide +kernel
def m_X5_sumInto_118 (k3 : Nat → Int32 → Int32 → Nat → Nat → Int32 → Int32 → Hp → Prop) (Q : Hp → Prop) (v1 : Nat) (v2 : Int32) (v3 : Int32) (v4n : Nat) (v4 : Nat) (v5 : Int32) (v6 : Int32) (h : Hp) : Prop := ∀ x1 : Int32, x1 = v6 + 1 → k3 v1 v2 v3 v4n v4 v5 x1 h
set_option maxHeartbeats 4000000 in
set_option maxRecDepth 100000 in
theorem s_X5_sumInto_118 {l : Launch} {G : Cx} {d : Nat} {h0 : Hp} (hd : 4 ≤ d) {k3 : Nat → Int32 → Int32 → Nat → Nat → Int32 → Int32 → Hp → Prop} {Q : Hp → Prop} (hk3 : ∀ (v1 : Nat) (v2 : Int32) (v3 : Int32) (v4n : Nat) (v4 : Nat) (v5 : Int32) (v6 : Int32) (hh : Hp), k3 v1 v2 v3 v4n v4 v5 v6 hh → Rn l G d 0 0 MX5_sumInto h0 (qV Q) 3 [some (tR 5 0 (some 14)), some (tR 1 0 (some v1)), some (tI v2), some (tI v3), some (tR 43 v4n (some v4)), some (tI v5), some (tI v6)] [] hh 0 0) {v1 : Nat} {v2 : Int32} {v3 : Int32} {v4n : Nat} {v4 : Nat} {v5 : Int32} {v6 : Int32} {h : Hp} (hm : m_X5_sumInto_118 k3 Q v1 v2 v3 v4n v4 v5 v6 h) : Rn l G d 0 0 MX5_sumInto h0 (qV Q) 118 [some (tR 5 0 (some 14)), some (tR 1 0 (some v1)), some (tI v2), some (tI v3), some (tR 43 v4n (some v4)), some (tI v5), some (tI v6)] [] h 0 0 := by
  unfold m_X5_sumInto_118 at hm
  obtain ⟨x1, e_x1⟩ : ∃ y : Int32, y = v6 + 1 := ⟨_, rfl⟩
  replace hm := hm x1 e_x1
  refine r_iinc (L' := [some (tR 5 0 (some 14)), some (tR 1 0 (some v1)), some (tI v2), some (tI v3), some (tR 43 v4n (some v4)), some (tI v5), some (tI x1)]) dX5_sumInto_118 rfl (by rw [e_x1]; rfl) (by decide) rfl ?_
  refine r_goto (tgt := 3) dX5_sumInto_121 rfl ?_
  refine r_keep (L' := [some (tR 5 0 (some 14)), some (tR 1 0 (some v1)), some (tI v2), some (tI v3), some (tR 43 v4n (some v4)), some (tI v5), some (tI x1)]) [true, true, true, true, true, true, true] rfl ?_
  exact hk3 _ _ _ _ _ _ _ _ hm
def m_X5_sumInto_3 : Nat → (Hp → Prop) → Nat → Int32 → Int32 → Nat → Nat → Int32 → Int32 → Hp → Prop
  | 0, _, _, _, _, _, _, _, _, _ => False
  | n + 1, Q, v1, v2, v3, v4n, v4, v5, v6, h => ((hI h v1 6) ≤ v6 → Q h) ∧ (¬ (hI h v1 6) ≤ v6 → m_X1_isPassing v1 v6 v2 h (fun (x2 : Int32) (h3 : Hp) => (x2 = 0 → m_X5_sumInto_118 (fun (v1 : Nat) (v2 : Int32) (v3 : Int32) (v4n : Nat) (v4 : Nat) (v5 : Int32) (v6 : Int32) (hh : Hp) => m_X5_sumInto_3 n Q v1 v2 v3 v4n v4 v5 v6 hh) Q v1 v2 v3 v4n v4 v5 v6 h3) ∧ (¬ x2 = 0 → ∀ x4 : Int32, x4 = (v6 * 6) → vp_in (x4 + 3) 216 ∧ (∀ x5 : Int32, x5 = (hI h3 (v1 + 2) (ix (x4 + 3))) → vp_in (x4 + 2) 216 ∧ (vp_in (hI h3 (v1 + 2) (ix (x4 + 2))) 8 ∧ (vp_in ((v5 + ((hI h3 1 (ix (hI h3 (v1 + 2) (ix (x4 + 2))))) * 6)) + x5) v4n ∧ (vp_in v6 36 ∧ (vp_in ((v5 + ((hI h3 1 (ix (hI h3 (v1 + 2) (ix (x4 + 2))))) * 6)) + x5) v4n ∧ (vp_in (x4 + 1) 216 ∧ (vp_in (hI (wJ h3 v4 (ix ((v5 + ((hI h3 1 (ix (hI h3 (v1 + 2) (ix (x4 + 2))))) * 6)) + x5)) ((hJ h3 v4 (ix ((v5 + ((hI h3 1 (ix (hI h3 (v1 + 2) (ix (x4 + 2))))) * 6)) + x5))) + (v3.toInt64 * (hJ h3 (v1 + 3) (ix v6))))) (v1 + 2) (ix (x4 + 1))) 8 ∧ (vp_in ((v5 + ((hI (wJ h3 v4 (ix ((v5 + ((hI h3 1 (ix (hI h3 (v1 + 2) (ix (x4 + 2))))) * 6)) + x5)) ((hJ h3 v4 (ix ((v5 + ((hI h3 1 (ix (hI h3 (v1 + 2) (ix (x4 + 2))))) * 6)) + x5))) + (v3.toInt64 * (hJ h3 (v1 + 3) (ix v6))))) 1 (ix (hI (wJ h3 v4 (ix ((v5 + ((hI h3 1 (ix (hI h3 (v1 + 2) (ix (x4 + 2))))) * 6)) + x5)) ((hJ h3 v4 (ix ((v5 + ((hI h3 1 (ix (hI h3 (v1 + 2) (ix (x4 + 2))))) * 6)) + x5))) + (v3.toInt64 * (hJ h3 (v1 + 3) (ix v6))))) (v1 + 2) (ix (x4 + 1))))) * 6)) + x5) v4n ∧ (vp_in v6 36 ∧ (vp_in ((v5 + ((hI (wJ h3 v4 (ix ((v5 + ((hI h3 1 (ix (hI h3 (v1 + 2) (ix (x4 + 2))))) * 6)) + x5)) ((hJ h3 v4 (ix ((v5 + ((hI h3 1 (ix (hI h3 (v1 + 2) (ix (x4 + 2))))) * 6)) + x5))) + (v3.toInt64 * (hJ h3 (v1 + 3) (ix v6))))) 1 (ix (hI (wJ h3 v4 (ix ((v5 + ((hI h3 1 (ix (hI h3 (v1 + 2) (ix (x4 + 2))))) * 6)) + x5)) ((hJ h3 v4 (ix ((v5 + ((hI h3 1 (ix (hI h3 (v1 + 2) (ix (x4 + 2))))) * 6)) + x5))) + (v3.toInt64 * (hJ h3 (v1 + 3) (ix v6))))) (v1 + 2) (ix (x4 + 1))))) * 6)) + x5) v4n ∧ (m_X5_sumInto_118 (fun (v1 : Nat) (v2 : Int32) (v3 : Int32) (v4n : Nat) (v4 : Nat) (v5 : Int32) (v6 : Int32) (hh : Hp) => m_X5_sumInto_3 n Q v1 v2 v3 v4n v4 v5 v6 hh) Q v1 v2 v3 v4n v4 v5 v6 (wJ (wJ h3 v4 (ix ((v5 + ((hI h3 1 (ix (hI h3 (v1 + 2) (ix (x4 + 2))))) * 6)) + x5)) ((hJ h3 v4 (ix ((v5 + ((hI h3 1 (ix (hI h3 (v1 + 2) (ix (x4 + 2))))) * 6)) + x5))) + (v3.toInt64 * (hJ h3 (v1 + 3) (ix v6))))) v4 (ix ((v5 + ((hI (wJ h3 v4 (ix ((v5 + ((hI h3 1 (ix (hI h3 (v1 + 2) (ix (x4 + 2))))) * 6)) + x5)) ((hJ h3 v4 (ix ((v5 + ((hI h3 1 (ix (hI h3 (v1 + 2) (ix (x4 + 2))))) * 6)) + x5))) + (v3.toInt64 * (hJ h3 (v1 + 3) (ix v6))))) 1 (ix (hI (wJ h3 v4 (ix ((v5 + ((hI h3 1 (ix (hI h3 (v1 + 2) (ix (x4 + 2))))) * 6)) + x5)) ((hJ h3 v4 (ix ((v5 + ((hI h3 1 (ix (hI h3 (v1 + 2) (ix (x4 + 2))))) * 6)) + x5))) + (v3.toInt64 * (hJ h3 (v1 + 3) (ix v6))))) (v1 + 2) (ix (x4 + 1))))) * 6)) + x5)) ((hJ (wJ h3 v4 (ix ((v5 + ((hI h3 1 (ix (hI h3 (v1 + 2) (ix (x4 + 2))))) * 6)) + x5)) ((hJ h3 v4 (ix ((v5 + ((hI h3 1 (ix (hI h3 (v1 + 2) (ix (x4 + 2))))) * 6)) + x5))) + (v3.toInt64 * (hJ h3 (v1 + 3) (ix v6))))) v4 (ix ((v5 + ((hI (wJ h3 v4 (ix ((v5 + ((hI h3 1 (ix (hI h3 (v1 + 2) (ix (x4 + 2))))) * 6)) + x5)) ((hJ h3 v4 (ix ((v5 + ((hI h3 1 (ix (hI h3 (v1 + 2) (ix (x4 + 2))))) * 6)) + x5))) + (v3.toInt64 * (hJ h3 (v1 + 3) (ix v6))))) 1 (ix (hI (wJ h3 v4 (ix ((v5 + ((hI h3 1 (ix (hI h3 (v1 + 2) (ix (x4 + 2))))) * 6)) + x5)) ((hJ h3 v4 (ix ((v5 + ((hI h3 1 (ix (hI h3 (v1 + 2) (ix (x4 + 2))))) * 6)) + x5))) + (v3.toInt64 * (hJ h3 (v1 + 3) (ix v6))))) (v1 + 2) (ix (x4 + 1))))) * 6)) + x5))) - (v3.toInt64 * (hJ (wJ h3 v4 (ix ((v5 + ((hI h3 1 (ix (hI h3 (v1 + 2) (ix (x4 + 2))))) * 6)) + x5)) ((hJ h3 v4 (ix ((v5 + ((hI h3 1 (ix (hI h3 (v1 + 2) (ix (x4 + 2))))) * 6)) + x5))) + (v3.toInt64 * (hJ h3 (v1 + 3) (ix v6))))) (v1 + 3) (ix v6)))))))))))))))))))
set_option maxHeartbeats 4000000 in
set_option maxRecDepth 100000 in
theorem s_X5_sumInto_3 {l : Launch} {G : Cx} {d : Nat} {h0 : Hp} (hd : 4 ≤ d) {Q : Hp → Prop} : ∀ {n : Nat} {v1 : Nat} {v2 : Int32} {v3 : Int32} {v4n : Nat} {v4 : Nat} {v5 : Int32} {v6 : Int32} {h : Hp}, m_X5_sumInto_3 n Q v1 v2 v3 v4n v4 v5 v6 h → Rn l G d 0 0 MX5_sumInto h0 (qV Q) 3 [some (tR 5 0 (some 14)), some (tR 1 0 (some v1)), some (tI v2), some (tI v3), some (tR 43 v4n (some v4)), some (tI v5), some (tI v6)] [] h 0 0 := by
  intro n
  induction n with
  | zero => intro v1 v2 v3 v4n v4 v5 v6 h hm; exact hm.elim
  | succ n ih =>
    intro v1 v2 v3 v4n v4 v5 v6 h hm
    have hk3 := fun (v1 : Nat) (v2 : Int32) (v3 : Int32) (v4n : Nat) (v4 : Nat) (v5 : Int32) (v6 : Int32) (hh : Hp) (hm : m_X5_sumInto_3 n Q v1 v2 v3 v4n v4 v5 v6 hh) => ih hm
    rw [m_X5_sumInto_3] at hm
    refine r_iload dX5_sumInto_3 rfl ?_
    refine r_aload_n dX5_sumInto_5 rfl rfl ?_
    refine r_getI (k := 6) cl_1 dX5_sumInto_6 t_461 (Or.inl rfl) gf_1_6 ?_
    refine r_icmp_ge (tgt := 124) dX5_sumInto_9 rfl (fun hc => ?_) (fun hc => ?_)
    · replace hm := hm.1 hc
      exact r_return dX5_sumInto_124 rfl ⟨by decide, by decide⟩ ⟨rfl, hm⟩
    · replace hm := hm.2 hc
      refine r_aload_n dX5_sumInto_12 rfl rfl ?_
      refine r_iload dX5_sumInto_13 rfl ?_
      refine r_iload_n dX5_sumInto_15 rfl rfl ?_
      refine r_callVI (d' := d - 1) (as := [tI v6, tI v2]) (st := []) cl_1 dX5_sumInto_16 mi_X1_isPassing t_938 t_875 t_876 rfl rfl (Nat.le_of_ble_eq_true rfl) (by omega) ⟨by decide, by decide⟩ ⟨rfl, rfl⟩ (s_X1_isPassing (by omega) hm) (fun x2 h3 hm => ?_)
      refine r_if_eq (tgt := 118) dX5_sumInto_19 rfl (fun hc => ?_) (fun hc => ?_)
      · replace hm := hm.1 hc
        refine r_keep (L' := [some (tR 5 0 (some 14)), some (tR 1 0 (some v1)), some (tI v2), some (tI v3), some (tR 43 v4n (some v4)), some (tI v5), some (tI v6)]) [true, true, true, true, true, true, true] rfl ?_
        exact s_X5_sumInto_118 hd hk3 hm
      · replace hm := hm.2 hc
        refine r_iload dX5_sumInto_22 rfl ?_
        refine r_bipush (v := 6) dX5_sumInto_24 rfl ?_
        refine r_imul dX5_sumInto_26 ?_
        refine r_nmI (fun x4 e_x4 => ?_)
        replace hm := hm x4 e_x4
        refine r_istore (L' := [some (tR 5 0 (some 14)), some (tR 1 0 (some v1)), some (tI v2), some (tI v3), some (tR 43 v4n (some v4)), some (tI v5), some (tI v6), some (tI x4)]) dX5_sumInto_27 (by decide) rfl ?_
        refine r_aload_n dX5_sumInto_29 rfl rfl ?_
        refine r_getC (k := 10) cl_1 dX5_sumInto_30 t_472 gf_1_10.1 gf_1_10.2 (gc_1_10 _) ?_
        refine r_iload dX5_sumInto_33 rfl ?_
        refine r_iconst (v := 3) dX5_sumInto_35 rfl ?_
        refine r_iadd dX5_sumInto_36 ?_
        refine r_iald dX5_sumInto_37 hm.1 ?_
        replace hm := hm.2
        refine r_nmI (fun x5 e_x5 => ?_)
        replace hm := hm x5 e_x5
        refine r_istore (L' := [some (tR 5 0 (some 14)), some (tR 1 0 (some v1)), some (tI v2), some (tI v3), some (tR 43 v4n (some v4)), some (tI v5), some (tI v6), some (tI x4), some (tI x5)]) dX5_sumInto_38 (by decide) rfl ?_
        refine r_aload dX5_sumInto_40 rfl ?_
        refine r_iload dX5_sumInto_42 rfl ?_
        refine r_aload_n dX5_sumInto_44 rfl rfl ?_
        refine r_getC (k := 0) cl_5 dX5_sumInto_45 t_143 gf_5_0.1 gf_5_0.2 (gc_5_0 _) ?_
        refine r_aload_n dX5_sumInto_48 rfl rfl ?_
        refine r_getC (k := 10) cl_1 dX5_sumInto_49 t_472 gf_1_10.1 gf_1_10.2 (gc_1_10 _) ?_
        refine r_iload dX5_sumInto_52 rfl ?_
        refine r_iconst (v := 2) dX5_sumInto_54 rfl ?_
        refine r_iadd dX5_sumInto_55 ?_
        refine r_iald dX5_sumInto_56 hm.1 ?_
        replace hm := hm.2
        refine r_iald dX5_sumInto_57 hm.1 ?_
        replace hm := hm.2
        refine r_bipush (v := 6) dX5_sumInto_58 rfl ?_
        refine r_imul dX5_sumInto_60 ?_
        refine r_iadd dX5_sumInto_61 ?_
        refine r_iload dX5_sumInto_62 rfl ?_
        refine r_iadd dX5_sumInto_64 ?_
        refine r_dup2 dX5_sumInto_65 rfl cv_cat1R ?_
        refine r_lald dX5_sumInto_66 hm.1 ?_
        replace hm := hm.2
        refine r_iload_n dX5_sumInto_67 rfl rfl ?_
        refine r_i2l dX5_sumInto_68 ?_
        refine r_aload_n dX5_sumInto_69 rfl rfl ?_
        refine r_getC (k := 11) cl_1 dX5_sumInto_70 t_476 gf_1_11.1 gf_1_11.2 (gc_1_11 _) ?_
        refine r_iload dX5_sumInto_73 rfl ?_
        refine r_lald dX5_sumInto_75 hm.1 ?_
        replace hm := hm.2
        refine r_lmul dX5_sumInto_76 ?_
        refine r_ladd dX5_sumInto_77 ?_
        refine r_last dX5_sumInto_78 hm.1 ?_
        replace hm := hm.2
        refine r_aload dX5_sumInto_79 rfl ?_
        refine r_iload dX5_sumInto_81 rfl ?_
        refine r_aload_n dX5_sumInto_83 rfl rfl ?_
        refine r_getC (k := 0) cl_5 dX5_sumInto_84 t_143 gf_5_0.1 gf_5_0.2 (gc_5_0 _) ?_
        refine r_aload_n dX5_sumInto_87 rfl rfl ?_
        refine r_getC (k := 10) cl_1 dX5_sumInto_88 t_472 gf_1_10.1 gf_1_10.2 (gc_1_10 _) ?_
        refine r_iload dX5_sumInto_91 rfl ?_
        refine r_iconst (v := 1) dX5_sumInto_93 rfl ?_
        refine r_iadd dX5_sumInto_94 ?_
        refine r_iald dX5_sumInto_95 hm.1 ?_
        replace hm := hm.2
        refine r_iald dX5_sumInto_96 hm.1 ?_
        replace hm := hm.2
        refine r_bipush (v := 6) dX5_sumInto_97 rfl ?_
        refine r_imul dX5_sumInto_99 ?_
        refine r_iadd dX5_sumInto_100 ?_
        refine r_iload dX5_sumInto_101 rfl ?_
        refine r_iadd dX5_sumInto_103 ?_
        refine r_dup2 dX5_sumInto_104 rfl cv_cat1R ?_
        refine r_lald dX5_sumInto_105 hm.1 ?_
        replace hm := hm.2
        refine r_iload_n dX5_sumInto_106 rfl rfl ?_
        refine r_i2l dX5_sumInto_107 ?_
        refine r_aload_n dX5_sumInto_108 rfl rfl ?_
        refine r_getC (k := 11) cl_1 dX5_sumInto_109 t_476 gf_1_11.1 gf_1_11.2 (gc_1_11 _) ?_
        refine r_iload dX5_sumInto_112 rfl ?_
        refine r_lald dX5_sumInto_114 hm.1 ?_
        replace hm := hm.2
        refine r_lmul dX5_sumInto_115 ?_
        refine r_lsub dX5_sumInto_116 ?_
        refine r_last dX5_sumInto_117 hm.1 ?_
        replace hm := hm.2
        refine r_keep (L' := [some (tR 5 0 (some 14)), some (tR 1 0 (some v1)), some (tI v2), some (tI v3), some (tR 43 v4n (some v4)), some (tI v5), some (tI v6)]) [true, true, true, true, true, true, true] rfl ?_
        exact s_X5_sumInto_118 hd hk3 hm
def m_X5_sumInto (v1 : Nat) (v2 : Int32) (v3 : Int32) (v4 : Nat) (v4n : Nat) (v5 : Int32) (h : Hp) (Q : Hp → Prop) : Prop := ∃ n3, m_X5_sumInto_3 n3 Q v1 v2 v3 v4n v4 v5 0 h
set_option maxHeartbeats 4000000 in
set_option maxRecDepth 100000 in
theorem s_X5_sumInto {l : Launch} {G : Cx} {d : Nat} (hd : 4 ≤ d) {v1 : Nat} {v2 : Int32} {v3 : Int32} {v4 : Nat} {v4n : Nat} {v5 : Int32} {h : Hp} {Q : Hp → Prop} (hm : m_X5_sumInto v1 v2 v3 v4 v4n v5 h Q) : Ct l G d 0 0 yX5_sumInto MX5_sumInto [tR 5 0 (some 14), tR 1 0 (some v1), tI v2, tI v3, tR 43 v4n (some v4), tI v5] h (qV Q) := by
  unfold m_X5_sumInto at hm
  refine Ct.of (L := [some (tR 5 0 (some 14)), some (tR 1 0 (some v1)), some (tI v2), some (tI v3), some (tR 43 v4n (some v4)), some (tI v5)]) (by decide) rfl rfl (Nat.le_of_ble_eq_true rfl) rfl ?_
  refine r_iconst (v := 0) dX5_sumInto_0 rfl ?_
  refine r_istore (L' := [some (tR 5 0 (some 14)), some (tR 1 0 (some v1)), some (tI v2), some (tI v3), some (tR 43 v4n (some v4)), some (tI v5), some (tI 0)]) dX5_sumInto_1 (by decide) rfl ?_
  refine r_keep (L' := [some (tR 5 0 (some 14)), some (tR 1 0 (some v1)), some (tI v2), some (tI v3), some (tR 43 v4n (some v4)), some (tI v5), some (tI 0)]) [true, true, true, true, true, true, true] rfl ?_
  obtain ⟨n, hm⟩ := hm
  refine s_X5_sumInto_3 hd hm
theorem dX5_isEven_0 : decode cX5_isEven 0 = .ok (.aload_n 0, 1) := by decide +kernel
theorem dX5_isEven_1 : decode cX5_isEven 1 = .ok (.getfield 25, 3) := by decide +kernel
theorem dX5_isEven_4 : decode cX5_isEven 4 = .ok (.lconst 0, 1) := by decide +kernel
theorem dX5_isEven_5 : decode cX5_isEven 5 = .ok (.invokestatic 87, 3) := by decide +kernel
theorem dX5_isEven_8 : decode cX5_isEven 8 = .ok (.iconst 0, 1) := by decide +kernel
theorem dX5_isEven_9 : decode cX5_isEven 9 = .ok (.istore 4, 2) := by decide +kernel
theorem dX5_isEven_11 : decode cX5_isEven 11 = .ok (.iload 4, 2) := by decide +kernel
theorem dX5_isEven_13 : decode cX5_isEven 13 = .ok (.aload_n 1, 1) := by decide +kernel
theorem dX5_isEven_14 : decode cX5_isEven 14 = .ok (.getfield 49, 3) := by decide +kernel
theorem dX5_isEven_17 : decode cX5_isEven 17 = .ok (.if_icmp .ge 27, 3) := by decide +kernel
theorem dX5_isEven_20 : decode cX5_isEven 20 = .ok (.aload_n 0, 1) := by decide +kernel
theorem dX5_isEven_21 : decode cX5_isEven 21 = .ok (.aload_n 1, 1) := by decide +kernel
theorem dX5_isEven_22 : decode cX5_isEven 22 = .ok (.getfield 55, 3) := by decide +kernel
theorem dX5_isEven_25 : decode cX5_isEven 25 = .ok (.iload 4, 2) := by decide +kernel
theorem dX5_isEven_27 : decode cX5_isEven 27 = .ok (.aaload, 1) := by decide +kernel
theorem dX5_isEven_28 : decode cX5_isEven 28 = .ok (.iload_n 3, 1) := by decide +kernel
theorem dX5_isEven_29 : decode cX5_isEven 29 = .ok (.iconst 1, 1) := by decide +kernel
theorem dX5_isEven_30 : decode cX5_isEven 30 = .ok (.aload_n 0, 1) := by decide +kernel
theorem dX5_isEven_31 : decode cX5_isEven 31 = .ok (.getfield 25, 3) := by decide +kernel
theorem dX5_isEven_34 : decode cX5_isEven 34 = .ok (.iconst 0, 1) := by decide +kernel
theorem dX5_isEven_35 : decode cX5_isEven 35 = .ok (.invokevirtual 93, 3) := by decide +kernel
theorem dX5_isEven_38 : decode cX5_isEven 38 = .ok (.iinc 4 1, 3) := by decide +kernel
theorem dX5_isEven_41 : decode cX5_isEven 41 = .ok (.goto (-30), 3) := by decide +kernel
theorem dX5_isEven_44 : decode cX5_isEven 44 = .ok (.iconst 0, 1) := by decide +kernel
theorem dX5_isEven_45 : decode cX5_isEven 45 = .ok (.istore 4, 2) := by decide +kernel
theorem dX5_isEven_47 : decode cX5_isEven 47 = .ok (.iload 4, 2) := by decide +kernel
theorem dX5_isEven_49 : decode cX5_isEven 49 = .ok (.aload_n 2, 1) := by decide +kernel
theorem dX5_isEven_50 : decode cX5_isEven 50 = .ok (.getfield 49, 3) := by decide +kernel
theorem dX5_isEven_53 : decode cX5_isEven 53 = .ok (.if_icmp .ge 27, 3) := by decide +kernel
theorem dX5_isEven_56 : decode cX5_isEven 56 = .ok (.aload_n 0, 1) := by decide +kernel
theorem dX5_isEven_57 : decode cX5_isEven 57 = .ok (.aload_n 2, 1) := by decide +kernel
theorem dX5_isEven_58 : decode cX5_isEven 58 = .ok (.getfield 55, 3) := by decide +kernel
theorem dX5_isEven_61 : decode cX5_isEven 61 = .ok (.iload 4, 2) := by decide +kernel
theorem dX5_isEven_63 : decode cX5_isEven 63 = .ok (.aaload, 1) := by decide +kernel
theorem dX5_isEven_64 : decode cX5_isEven 64 = .ok (.iload_n 3, 1) := by decide +kernel
theorem dX5_isEven_65 : decode cX5_isEven 65 = .ok (.iconst (-1), 1) := by decide +kernel
theorem dX5_isEven_66 : decode cX5_isEven 66 = .ok (.aload_n 0, 1) := by decide +kernel
theorem dX5_isEven_67 : decode cX5_isEven 67 = .ok (.getfield 25, 3) := by decide +kernel
theorem dX5_isEven_70 : decode cX5_isEven 70 = .ok (.iconst 0, 1) := by decide +kernel
theorem dX5_isEven_71 : decode cX5_isEven 71 = .ok (.invokevirtual 93, 3) := by decide +kernel
theorem dX5_isEven_74 : decode cX5_isEven 74 = .ok (.iinc 4 1, 3) := by decide +kernel
theorem dX5_isEven_77 : decode cX5_isEven 77 = .ok (.goto (-30), 3) := by decide +kernel
theorem dX5_isEven_80 : decode cX5_isEven 80 = .ok (.iconst 0, 1) := by decide +kernel
theorem dX5_isEven_81 : decode cX5_isEven 81 = .ok (.istore 4, 2) := by decide +kernel
theorem dX5_isEven_83 : decode cX5_isEven 83 = .ok (.iload 4, 2) := by decide +kernel
theorem dX5_isEven_85 : decode cX5_isEven 85 = .ok (.aload_n 0, 1) := by decide +kernel
theorem dX5_isEven_86 : decode cX5_isEven 86 = .ok (.getfield 25, 3) := by decide +kernel
theorem dX5_isEven_89 : decode cX5_isEven 89 = .ok (.arraylength, 1) := by decide +kernel
theorem dX5_isEven_90 : decode cX5_isEven 90 = .ok (.if_icmp .ge 23, 3) := by decide +kernel
theorem dX5_isEven_93 : decode cX5_isEven 93 = .ok (.aload_n 0, 1) := by decide +kernel
theorem dX5_isEven_94 : decode cX5_isEven 94 = .ok (.getfield 25, 3) := by decide +kernel
theorem dX5_isEven_97 : decode cX5_isEven 97 = .ok (.iload 4, 2) := by decide +kernel
theorem dX5_isEven_99 : decode cX5_isEven 99 = .ok (.laload, 1) := by decide +kernel
theorem dX5_isEven_100 : decode cX5_isEven 100 = .ok (.lconst 0, 1) := by decide +kernel
theorem dX5_isEven_101 : decode cX5_isEven 101 = .ok (.lcmp, 1) := by decide +kernel
theorem dX5_isEven_102 : decode cX5_isEven 102 = .ok (.ifCond .eq 5, 3) := by decide +kernel
theorem dX5_isEven_105 : decode cX5_isEven 105 = .ok (.iconst 0, 1) := by decide +kernel
theorem dX5_isEven_106 : decode cX5_isEven 106 = .ok (.ireturn, 1) := by decide +kernel
theorem dX5_isEven_107 : decode cX5_isEven 107 = .ok (.iinc 4 1, 3) := by decide +kernel
theorem dX5_isEven_110 : decode cX5_isEven 110 = .ok (.goto (-27), 3) := by decide +kernel
theorem dX5_isEven_113 : decode cX5_isEven 113 = .ok (.iconst 1, 1) := by decide +kernel
theorem dX5_isEven_114 : decode cX5_isEven 114 = .ok (.ireturn, 1) := by decide +kernel
def m_X5_isEven_83 : Nat → (Int32 → Hp → Prop) → Int32 → Hp → Prop
  | 0, _, _, _ => False
  | n + 1, Q, v4, h => (48 ≤ v4 → Q 1 h) ∧ (¬ 48 ≤ v4 → vp_in v4 48 ∧ (((lg_cmp (hJ h 19 (ix v4)) 0) = 0 → ∀ x1 : Int32, x1 = v4 + 1 → m_X5_isEven_83 n Q x1 h) ∧ (¬ (lg_cmp (hJ h 19 (ix v4)) 0) = 0 → Q 0 h)))
set_option maxHeartbeats 4000000 in
set_option maxRecDepth 100000 in
theorem s_X5_isEven_83 {l : Launch} {G : Cx} {d : Nat} {h0 : Hp} (hd : 6 ≤ d) {Q : Int32 → Hp → Prop} : ∀ {n : Nat} {v4 : Int32} {h : Hp}, m_X5_isEven_83 n Q v4 h → Rn l G d 0 0 MX5_isEven h0 (qI Q) 83 [some (tR 5 0 (some 14)), none, none, none, some (tI v4)] [] h 0 0 := by
  intro n
  induction n with
  | zero => intro v4 h hm; exact hm.elim
  | succ n ih =>
    intro v4 h hm
    have hk83 := fun (v4 : Int32) (hh : Hp) (hm : m_X5_isEven_83 n Q v4 hh) => ih hm
    rw [m_X5_isEven_83] at hm
    refine r_iload dX5_isEven_83 rfl ?_
    refine r_aload_n dX5_isEven_85 rfl rfl ?_
    refine r_getC (k := 8) cl_5 dX5_isEven_86 t_151 gf_5_8.1 gf_5_8.2 (gc_5_8 _) ?_
    refine r_alen (ti := 3) (ty := .long) dX5_isEven_89 rfl (by decide) rfl ?_
    refine r_icmp_ge (tgt := 113) dX5_isEven_90 rfl (fun hc => ?_) (fun hc => ?_)
    · replace hm := hm.1 hc
      refine r_iconst (v := 1) dX5_isEven_113 rfl ?_
      exact r_bret dX5_isEven_114 rfl ⟨by decide, by decide⟩ (by unfold bz; decide) ⟨_, rfl, hm⟩
    · replace hm := hm.2 hc
      refine r_aload_n dX5_isEven_93 rfl rfl ?_
      refine r_getC (k := 8) cl_5 dX5_isEven_94 t_151 gf_5_8.1 gf_5_8.2 (gc_5_8 _) ?_
      refine r_iload dX5_isEven_97 rfl ?_
      refine r_lald dX5_isEven_99 hm.1 ?_
      replace hm := hm.2
      refine r_lconst (v := 0) dX5_isEven_100 rfl ?_
      refine r_lcmp dX5_isEven_101 ?_
      refine r_if_eq (tgt := 107) dX5_isEven_102 rfl (fun hc => ?_) (fun hc => ?_)
      · replace hm := hm.1 hc
        obtain ⟨x1, e_x1⟩ : ∃ y : Int32, y = v4 + 1 := ⟨_, rfl⟩
        replace hm := hm x1 e_x1
        refine r_iinc (L' := [some (tR 5 0 (some 14)), none, none, none, some (tI x1)]) dX5_isEven_107 rfl (by rw [e_x1]; rfl) (by decide) rfl ?_
        refine r_goto (tgt := 83) dX5_isEven_110 rfl ?_
        refine r_keep (L' := [some (tR 5 0 (some 14)), none, none, none, some (tI x1)]) [true, false, false, false, true] rfl ?_
        exact hk83 _ _ hm
      · replace hm := hm.2 hc
        refine r_iconst (v := 0) dX5_isEven_105 rfl ?_
        exact r_bret dX5_isEven_106 rfl ⟨by decide, by decide⟩ (by unfold bz; decide) ⟨_, rfl, hm⟩
def m_X5_isEven_80  (Q : Int32 → Hp → Prop) (h : Hp) : Prop := ∃ n83, m_X5_isEven_83 n83 Q 0 h
set_option maxHeartbeats 4000000 in
set_option maxRecDepth 100000 in
theorem s_X5_isEven_80 {l : Launch} {G : Cx} {d : Nat} {h0 : Hp} (hd : 6 ≤ d) {Q : Int32 → Hp → Prop} {h : Hp} (hm : m_X5_isEven_80 Q h) : Rn l G d 0 0 MX5_isEven h0 (qI Q) 80 [some (tR 5 0 (some 14))] [] h 0 0 := by
  unfold m_X5_isEven_80 at hm
  refine r_iconst (v := 0) dX5_isEven_80 rfl ?_
  refine r_istore (L' := [some (tR 5 0 (some 14)), none, none, none, some (tI 0)]) dX5_isEven_81 (by decide) rfl ?_
  refine r_keep (L' := [some (tR 5 0 (some 14)), none, none, none, some (tI 0)]) [true, false, false, false, true] rfl ?_
  obtain ⟨n, hm⟩ := hm
  refine s_X5_isEven_83 hd hm
def m_X5_isEven_47 : Nat → (Hp → Prop) → (Int32 → Hp → Prop) → Nat → Int32 → Int32 → Hp → Prop
  | 0, _, _, _, _, _, _ => False
  | n + 1, k80, Q, v2, v3, v4, h => ((hI h v2 1) ≤ v4 → k80 h) ∧ (¬ (hI h v2 1) ≤ v4 → vp_in v4 6 ∧ ∃ b2 : Nat, hR h (v2 + 1) (ix v4) = some b2 ∧ (m_X5_sumInto b2 v3 (-1) 19 48 0 h (fun (h4 : Hp) => ∀ x5 : Int32, x5 = v4 + 1 → m_X5_isEven_47 n k80 Q v2 v3 x5 h4)))
set_option maxHeartbeats 4000000 in
set_option maxRecDepth 100000 in
theorem s_X5_isEven_47 {l : Launch} {G : Cx} {d : Nat} {h0 : Hp} (hd : 6 ≤ d) {k80 : Hp → Prop} {Q : Int32 → Hp → Prop} (hk80 : ∀ (hh : Hp), k80 hh → Rn l G d 0 0 MX5_isEven h0 (qI Q) 80 [some (tR 5 0 (some 14))] [] hh 0 0) : ∀ {n : Nat} {v2 : Nat} {v3 : Int32} {v4 : Int32} {h : Hp}, m_X5_isEven_47 n k80 Q v2 v3 v4 h → Rn l G d 0 0 MX5_isEven h0 (qI Q) 47 [some (tR 5 0 (some 14)), none, some (tR 0 0 (some v2)), some (tI v3), some (tI v4)] [] h 0 0 := by
  intro n
  induction n with
  | zero => intro v2 v3 v4 h hm; exact hm.elim
  | succ n ih =>
    intro v2 v3 v4 h hm
    have hk47 := fun (v2 : Nat) (v3 : Int32) (v4 : Int32) (hh : Hp) (hm : m_X5_isEven_47 n k80 Q v2 v3 v4 hh) => ih hm
    rw [m_X5_isEven_47] at hm
    refine r_iload dX5_isEven_47 rfl ?_
    refine r_aload_n dX5_isEven_49 rfl rfl ?_
    refine r_getI (k := 1) cl_0 dX5_isEven_50 t_127 (Or.inl rfl) gf_0_1 ?_
    refine r_icmp_ge (tgt := 80) dX5_isEven_53 rfl (fun hc => ?_) (fun hc => ?_)
    · replace hm := hm.1 hc
      refine r_keep (L' := [some (tR 5 0 (some 14))]) [true] rfl ?_
      exact hk80 _ hm
    · replace hm := hm.2 hc
      refine r_aload_n dX5_isEven_56 rfl rfl ?_
      refine r_aload_n dX5_isEven_57 rfl rfl ?_
      refine r_getC (k := 0) cl_0 dX5_isEven_58 t_123 gf_0_0.1 gf_0_0.2 (gc_0_0 _) ?_
      refine r_iload dX5_isEven_61 rfl ?_
      obtain ⟨hi_b2, b2, hb_b2, hm⟩ := hm
      refine r_aaldS (kd := 1) (ti := 5) (cn := RX1) dX5_isEven_63 rfl hi_b2 hb_b2 ?_
      refine r_iload_n dX5_isEven_64 rfl rfl ?_
      refine r_iconst (v := (-1)) dX5_isEven_65 rfl ?_
      refine r_aload_n dX5_isEven_66 rfl rfl ?_
      refine r_getC (k := 8) cl_5 dX5_isEven_67 t_151 gf_5_8.1 gf_5_8.2 (gc_5_8 _) ?_
      refine r_iconst (v := 0) dX5_isEven_70 rfl ?_
      refine r_callVU (d' := d - 1) (as := [tR 1 0 (some b2), tI v3, tI (-1), tR 43 48 (some 19), tI 0]) (st := []) cl_5 dX5_isEven_71 mi_X5_sumInto t_1198 t_1130 t_1131 rfl rfl (Nat.le_of_ble_eq_true rfl) (by omega) ⟨by decide, by decide⟩ ⟨rfl, rfl⟩ (s_X5_sumInto (by omega) hm) (fun h4 hm => ?_)
      obtain ⟨x5, e_x5⟩ : ∃ y : Int32, y = v4 + 1 := ⟨_, rfl⟩
      replace hm := hm x5 e_x5
      refine r_iinc (L' := [some (tR 5 0 (some 14)), none, some (tR 0 0 (some v2)), some (tI v3), some (tI x5)]) dX5_isEven_74 rfl (by rw [e_x5]; rfl) (by decide) rfl ?_
      refine r_goto (tgt := 47) dX5_isEven_77 rfl ?_
      refine r_keep (L' := [some (tR 5 0 (some 14)), none, some (tR 0 0 (some v2)), some (tI v3), some (tI x5)]) [true, false, true, true, true] rfl ?_
      exact hk47 _ _ _ _ hm
def m_X5_isEven_44  (Q : Int32 → Hp → Prop) (v2 : Nat) (v3 : Int32) (h : Hp) : Prop := ∃ n47, m_X5_isEven_47 n47 (m_X5_isEven_80 Q) Q v2 v3 0 h
set_option maxHeartbeats 4000000 in
set_option maxRecDepth 100000 in
theorem s_X5_isEven_44 {l : Launch} {G : Cx} {d : Nat} {h0 : Hp} (hd : 6 ≤ d) {Q : Int32 → Hp → Prop} {v2 : Nat} {v3 : Int32} {h : Hp} (hm : m_X5_isEven_44 Q v2 v3 h) : Rn l G d 0 0 MX5_isEven h0 (qI Q) 44 [some (tR 5 0 (some 14)), none, some (tR 0 0 (some v2)), some (tI v3)] [] h 0 0 := by
  unfold m_X5_isEven_44 at hm
  refine r_iconst (v := 0) dX5_isEven_44 rfl ?_
  refine r_istore (L' := [some (tR 5 0 (some 14)), none, some (tR 0 0 (some v2)), some (tI v3), some (tI 0)]) dX5_isEven_45 (by decide) rfl ?_
  refine r_keep (L' := [some (tR 5 0 (some 14)), none, some (tR 0 0 (some v2)), some (tI v3), some (tI 0)]) [true, false, true, true, true] rfl ?_
  obtain ⟨n, hm⟩ := hm
  refine s_X5_isEven_47 hd ?_ hm
  · exact (fun _ hm => s_X5_isEven_80 hd hm)
def m_X5_isEven_11 : Nat → (Nat → Int32 → Hp → Prop) → (Int32 → Hp → Prop) → Nat → Nat → Int32 → Int32 → Hp → Prop
  | 0, _, _, _, _, _, _, _ => False
  | n + 1, k44, Q, v1, v2, v3, v4, h => ((hI h v1 1) ≤ v4 → k44 v2 v3 h) ∧ (¬ (hI h v1 1) ≤ v4 → vp_in v4 6 ∧ ∃ b6 : Nat, hR h (v1 + 1) (ix v4) = some b6 ∧ (m_X5_sumInto b6 v3 1 19 48 0 h (fun (h8 : Hp) => ∀ x9 : Int32, x9 = v4 + 1 → m_X5_isEven_11 n k44 Q v1 v2 v3 x9 h8)))
set_option maxHeartbeats 4000000 in
set_option maxRecDepth 100000 in
theorem s_X5_isEven_11 {l : Launch} {G : Cx} {d : Nat} {h0 : Hp} (hd : 6 ≤ d) {k44 : Nat → Int32 → Hp → Prop} {Q : Int32 → Hp → Prop} (hk44 : ∀ (v2 : Nat) (v3 : Int32) (hh : Hp), k44 v2 v3 hh → Rn l G d 0 0 MX5_isEven h0 (qI Q) 44 [some (tR 5 0 (some 14)), none, some (tR 0 0 (some v2)), some (tI v3)] [] hh 0 0) : ∀ {n : Nat} {v1 : Nat} {v2 : Nat} {v3 : Int32} {v4 : Int32} {h : Hp}, m_X5_isEven_11 n k44 Q v1 v2 v3 v4 h → Rn l G d 0 0 MX5_isEven h0 (qI Q) 11 [some (tR 5 0 (some 14)), some (tR 0 0 (some v1)), some (tR 0 0 (some v2)), some (tI v3), some (tI v4)] [] h 0 0 := by
  intro n
  induction n with
  | zero => intro v1 v2 v3 v4 h hm; exact hm.elim
  | succ n ih =>
    intro v1 v2 v3 v4 h hm
    have hk11 := fun (v1 : Nat) (v2 : Nat) (v3 : Int32) (v4 : Int32) (hh : Hp) (hm : m_X5_isEven_11 n k44 Q v1 v2 v3 v4 hh) => ih hm
    rw [m_X5_isEven_11] at hm
    refine r_iload dX5_isEven_11 rfl ?_
    refine r_aload_n dX5_isEven_13 rfl rfl ?_
    refine r_getI (k := 1) cl_0 dX5_isEven_14 t_127 (Or.inl rfl) gf_0_1 ?_
    refine r_icmp_ge (tgt := 44) dX5_isEven_17 rfl (fun hc => ?_) (fun hc => ?_)
    · replace hm := hm.1 hc
      refine r_keep (L' := [some (tR 5 0 (some 14)), none, some (tR 0 0 (some v2)), some (tI v3)]) [true, false, true, true] rfl ?_
      exact hk44 _ _ _ hm
    · replace hm := hm.2 hc
      refine r_aload_n dX5_isEven_20 rfl rfl ?_
      refine r_aload_n dX5_isEven_21 rfl rfl ?_
      refine r_getC (k := 0) cl_0 dX5_isEven_22 t_123 gf_0_0.1 gf_0_0.2 (gc_0_0 _) ?_
      refine r_iload dX5_isEven_25 rfl ?_
      obtain ⟨hi_b6, b6, hb_b6, hm⟩ := hm
      refine r_aaldS (kd := 1) (ti := 5) (cn := RX1) dX5_isEven_27 rfl hi_b6 hb_b6 ?_
      refine r_iload_n dX5_isEven_28 rfl rfl ?_
      refine r_iconst (v := 1) dX5_isEven_29 rfl ?_
      refine r_aload_n dX5_isEven_30 rfl rfl ?_
      refine r_getC (k := 8) cl_5 dX5_isEven_31 t_151 gf_5_8.1 gf_5_8.2 (gc_5_8 _) ?_
      refine r_iconst (v := 0) dX5_isEven_34 rfl ?_
      refine r_callVU (d' := d - 1) (as := [tR 1 0 (some b6), tI v3, tI 1, tR 43 48 (some 19), tI 0]) (st := []) cl_5 dX5_isEven_35 mi_X5_sumInto t_1198 t_1130 t_1131 rfl rfl (Nat.le_of_ble_eq_true rfl) (by omega) ⟨by decide, by decide⟩ ⟨rfl, rfl⟩ (s_X5_sumInto (by omega) hm) (fun h8 hm => ?_)
      obtain ⟨x9, e_x9⟩ : ∃ y : Int32, y = v4 + 1 := ⟨_, rfl⟩
      replace hm := hm x9 e_x9
      refine r_iinc (L' := [some (tR 5 0 (some 14)), some (tR 0 0 (some v1)), some (tR 0 0 (some v2)), some (tI v3), some (tI x9)]) dX5_isEven_38 rfl (by rw [e_x9]; rfl) (by decide) rfl ?_
      refine r_goto (tgt := 11) dX5_isEven_41 rfl ?_
      refine r_keep (L' := [some (tR 5 0 (some 14)), some (tR 0 0 (some v1)), some (tR 0 0 (some v2)), some (tI v3), some (tI x9)]) [true, true, true, true, true] rfl ?_
      exact hk11 _ _ _ _ _ hm
def m_X5_isEven (v1 : Nat) (v2 : Nat) (v3 : Int32) (h : Hp) (Q : Int32 → Hp → Prop) : Prop := m_J7_fill_d0a16 19 48 0 h (fun (h11 : Hp) => ∃ n11, m_X5_isEven_11 n11 (m_X5_isEven_44 Q) Q v1 v2 v3 0 h11)
set_option maxHeartbeats 4000000 in
set_option maxRecDepth 100000 in
theorem s_X5_isEven {l : Launch} {G : Cx} {d : Nat} (hd : 6 ≤ d) {v1 : Nat} {v2 : Nat} {v3 : Int32} {h : Hp} {Q : Int32 → Hp → Prop} (hm : m_X5_isEven v1 v2 v3 h Q) : Ct l G d 0 0 yX5_isEven MX5_isEven [tR 5 0 (some 14), tR 0 0 (some v1), tR 0 0 (some v2), tI v3] h (qI Q) := by
  unfold m_X5_isEven at hm
  refine Ct.of (L := [some (tR 5 0 (some 14)), some (tR 0 0 (some v1)), some (tR 0 0 (some v2)), some (tI v3)]) (by decide) rfl rfl (Nat.le_of_ble_eq_true rfl) rfl ?_
  refine r_aload_n dX5_isEven_0 rfl rfl ?_
  refine r_getC (k := 8) cl_5 dX5_isEven_1 t_151 gf_5_8.1 gf_5_8.2 (gc_5_8 _) ?_
  refine r_lconst (v := 0) dX5_isEven_4 rfl ?_
  refine r_callSU (d' := d - 1) (as := [tR 43 48 (some 19), tJ 0]) (st := []) dX5_isEven_5 mi_J7_fill_d0a16 t_996 t_868 rfl rfl (Nat.le_of_ble_eq_true rfl) (by omega) ⟨by decide, by decide⟩ ⟨rfl, rfl⟩ (s_J7_fill_d0a16 (by omega) hm) (fun h11 hm => ?_)
  refine r_iconst (v := 0) dX5_isEven_8 rfl ?_
  refine r_istore (L' := [some (tR 5 0 (some 14)), some (tR 0 0 (some v1)), some (tR 0 0 (some v2)), some (tI v3), some (tI 0)]) dX5_isEven_9 (by decide) rfl ?_
  refine r_keep (L' := [some (tR 5 0 (some 14)), some (tR 0 0 (some v1)), some (tR 0 0 (some v2)), some (tI v3), some (tI 0)]) [true, true, true, true, true] rfl ?_
  obtain ⟨n, hm⟩ := hm
  refine s_X5_isEven_11 hd ?_ hm
  · exact (fun _ _ _ hm => s_X5_isEven_44 hd hm)
