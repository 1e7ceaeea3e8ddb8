theorem dX0_init_0 : decode cX0_init 0 = .ok (.aload_n 0, 1) := rfl
theorem dX0_init_1 : decode cX0_init 1 = .ok (.invokespecial 3, 3) := rfl
theorem dX0_init_4 : decode cX0_init 4 = .ok (.aload_n 0, 1) := rfl
theorem dX0_init_5 : decode cX0_init 5 = .ok (.bipush 6, 2) := by decide +kernel
theorem dX0_init_7 : decode cX0_init 7 = .ok (.anewarray 9, 3) := rfl
theorem dX0_init_10 : decode cX0_init 10 = .ok (.putfield 11, 3) := rfl
theorem dX0_init_13 : decode cX0_init 13 = .ok (.return_, 1) := rfl
def m_X0_init (v0 : Nat) (h : Hp) (Q : Hp → Prop) : Prop := ∀ a1 : Nat, a1 = hN h → ∀ h2 : Hp, h2 = nw h (51, 6) → Q (wR h2 v0 0 (some a1))
set_option maxHeartbeats 4000000 in
set_option maxRecDepth 100000 in
theorem s_X0_init {l : Launch} {G : Cx} {d : Nat} (hd : 2 ≤ d) {v0 : Nat} {h : Hp} {Q : Hp → Prop} (hm : m_X0_init v0 h Q) : Ct l G d 1 6 yX0_init MX0_init [tR 20 0 (some v0)] h (qV Q) := by
  unfold m_X0_init at hm
  refine Ct.of (L := [some (tR 20 0 (some v0))]) (by decide) rfl rfl (Nat.le_of_ble_eq_true rfl) rfl ?_
  refine r_aload_n dX0_init_0 rfl rfl ?_
  refine r_objInit dX0_init_1 t_119 t_29 t_30 (by omega) (Nat.le_of_ble_eq_true rfl) ?_
  refine r_aload_n dX0_init_4 rfl rfl ?_
  refine r_bipush (v := 6) dX0_init_5 rfl ?_
  refine r_newA (kd := 1) (ti := 5) (N := 6) dX0_init_7 rfl t_120 (by decide) (by decide) rfl (by decide) ⟨by decide, by decide⟩ ?_
  refine r_nmA (fun a1 e_a1 h2 e_h2 => ?_)
  replace hm := hm a1 e_a1 h2 e_h2
  refine r_putR0 (k := 0) cl_0 dX0_init_10 t_121 (Or.inr rfl) gf_0_0.1 gf_0_0.2 (fun z => absurd z (by decide)) pf_0_0.1 (Or.inr ⟨pf_0_0.2, rfl, rfl⟩) ?_
  exact r_return dX0_init_13 rfl ⟨by decide, by decide⟩ ⟨rfl, hm⟩
theorem dX0_push_0 : decode cX0_push 0 = .ok (.aload_n 0, 1) := rfl
theorem dX0_push_1 : decode cX0_push 1 = .ok (.getfield 17, 3) := rfl
theorem dX0_push_4 : decode cX0_push 4 = .ok (.bipush 6, 2) := by decide +kernel
theorem dX0_push_6 : decode cX0_push 6 = .ok (.if_icmp .ge 23, 3) := by decide +kernel
theorem dX0_push_9 : decode cX0_push 9 = .ok (.aload_n 0, 1) := rfl
theorem dX0_push_10 : decode cX0_push 10 = .ok (.getfield 11, 3) := rfl
theorem dX0_push_13 : decode cX0_push 13 = .ok (.aload_n 0, 1) := rfl
theorem dX0_push_14 : decode cX0_push 14 = .ok (.getfield 17, 3) := rfl
theorem dX0_push_17 : decode cX0_push 17 = .ok (.aload_n 1, 1) := rfl
theorem dX0_push_18 : decode cX0_push 18 = .ok (.aastore, 1) := rfl
theorem dX0_push_19 : decode cX0_push 19 = .ok (.aload_n 0, 1) := rfl
theorem dX0_push_20 : decode cX0_push 20 = .ok (.dup, 1) := rfl
theorem dX0_push_21 : decode cX0_push 21 = .ok (.getfield 17, 3) := rfl
theorem dX0_push_24 : decode cX0_push 24 = .ok (.iconst 1, 1) := rfl
theorem dX0_push_25 : decode cX0_push 25 = .ok (.iadd, 1) := rfl
theorem dX0_push_26 : decode cX0_push 26 = .ok (.putfield 17, 3) := rfl
theorem dX0_push_29 : decode cX0_push 29 = .ok (.return_, 1) := rfl
def m_X0_push (v0 : Nat) (v1 : Nat) (h : Hp) (Q : Hp → Prop) : Prop := (6 ≤ (hI h v0 1) → Q h) ∧ (¬ 6 ≤ (hI h v0 1) → vp_in (hI h v0 1) 6 ∧ (Q (wI (wR h (v0 + 1) (ix (hI h v0 1)) (some v1)) v0 1 ((hI (wR h (v0 + 1) (ix (hI h v0 1)) (some v1)) v0 1) + 1))))
set_option maxHeartbeats 4000000 in
set_option maxRecDepth 100000 in
theorem s_X0_push {l : Launch} {G : Cx} {d : Nat} (hd : 2 ≤ d) {v0 : Nat} {v1 : Nat} {h : Hp} {Q : Hp → Prop} (hm : m_X0_push v0 v1 h Q) : Ct l G d 0 0 yX0_push MX0_push [tR 0 0 (some v0), tR 1 0 (some v1)] h (qV Q) := by
  unfold m_X0_push at hm
  refine Ct.of (L := [some (tR 0 0 (some v0)), some (tR 1 0 (some v1))]) (by decide) rfl rfl (Nat.le_of_ble_eq_true rfl) rfl ?_
  refine r_aload_n dX0_push_0 rfl rfl ?_
  refine r_getI (k := 1) cl_0 dX0_push_1 t_125 (Or.inl rfl) gf_0_1 ?_
  refine r_bipush (v := 6) dX0_push_4 rfl ?_
  refine r_icmp_ge (tgt := 29) dX0_push_6 rfl (fun hc => ?_) (fun hc => ?_)
  · replace hm := hm.1 hc
    exact r_return dX0_push_29 rfl ⟨by decide, by decide⟩ ⟨rfl, hm⟩
  · replace hm := hm.2 hc
    refine r_aload_n dX0_push_9 rfl rfl ?_
    refine r_getC (k := 0) cl_0 dX0_push_10 t_121 gf_0_0.1 gf_0_0.2 (gc_0_0 _) ?_
    refine r_aload_n dX0_push_13 rfl rfl ?_
    refine r_getI (k := 1) cl_0 dX0_push_14 t_125 (Or.inl rfl) gf_0_1 ?_
    refine r_aload_n dX0_push_17 rfl rfl ?_
    refine r_aast (kd := 1) (ti := 5) cl_1 dX0_push_18 rfl hm.1 ?_
    replace hm := hm.2
    refine r_aload_n dX0_push_19 rfl rfl ?_
    refine r_dup dX0_push_20 cv_cat1R ?_
    refine r_getI (k := 1) cl_0 dX0_push_21 t_125 (Or.inl rfl) gf_0_1 ?_
    refine r_iconst (v := 1) dX0_push_24 rfl ?_
    refine r_iadd dX0_push_25 ?_
    refine r_putI0 (k := 1) cl_0 dX0_push_26 t_125 (Or.inl rfl) gf_0_1 pf_0_1.1 (Or.inl pf_0_1.2) ?_
    exact r_return dX0_push_29 rfl ⟨by decide, by decide⟩ ⟨rfl, hm⟩
theorem dX0_copyFrom_0 : decode cX0_copyFrom 0 = .ok (.aload_n 0, 1) := rfl
theorem dX0_copyFrom_1 : decode cX0_copyFrom 1 = .ok (.iconst 0, 1) := rfl
theorem dX0_copyFrom_2 : decode cX0_copyFrom 2 = .ok (.putfield 17, 3) := rfl
theorem dX0_copyFrom_5 : decode cX0_copyFrom 5 = .ok (.iconst 0, 1) := rfl
theorem dX0_copyFrom_6 : decode cX0_copyFrom 6 = .ok (.istore_n 2, 1) := rfl
theorem dX0_copyFrom_7 : decode cX0_copyFrom 7 = .ok (.iload_n 2, 1) := rfl
theorem dX0_copyFrom_8 : decode cX0_copyFrom 8 = .ok (.aload_n 1, 1) := rfl
theorem dX0_copyFrom_9 : decode cX0_copyFrom 9 = .ok (.getfield 17, 3) := rfl
theorem dX0_copyFrom_12 : decode cX0_copyFrom 12 = .ok (.if_icmp .ge 19, 3) := by decide +kernel
theorem dX0_copyFrom_15 : decode cX0_copyFrom 15 = .ok (.aload_n 0, 1) := rfl
theorem dX0_copyFrom_16 : decode cX0_copyFrom 16 = .ok (.aload_n 1, 1) := rfl
theorem dX0_copyFrom_17 : decode cX0_copyFrom 17 = .ok (.getfield 11, 3) := rfl
theorem dX0_copyFrom_20 : decode cX0_copyFrom 20 = .ok (.iload_n 2, 1) := rfl
theorem dX0_copyFrom_21 : decode cX0_copyFrom 21 = .ok (.aaload, 1) := rfl
theorem dX0_copyFrom_22 : decode cX0_copyFrom 22 = .ok (.invokevirtual 21, 3) := rfl
theorem dX0_copyFrom_25 : decode cX0_copyFrom 25 = .ok (.iinc 2 1, 3) := by decide +kernel
theorem dX0_copyFrom_28 : decode cX0_copyFrom 28 = .ok (.goto (-21), 3) := by decide +kernel
theorem dX0_copyFrom_31 : decode cX0_copyFrom 31 = .ok (.return_, 1) := rfl
def m_X0_copyFrom_7 : Nat → (Hp → Prop) → Nat → Nat → Int32 → Hp → Prop
  | 0, _, _, _, _, _ => False
  | n + 1, Q, v0, v1, v2, h => ((hI h v1 1) ≤ v2 → Q h) ∧ (¬ (hI h v1 1) ≤ v2 → vp_in v2 6 ∧ ∃ b1 : Nat, hR h (v1 + 1) (ix v2) = some b1 ∧ (m_X0_push v0 b1 h (fun (h3 : Hp) => ∀ x4 : Int32, x4 = v2 + 1 → m_X0_copyFrom_7 n Q v0 v1 x4 h3)))
set_option maxHeartbeats 4000000 in
set_option maxRecDepth 100000 in
theorem s_X0_copyFrom_7 {l : Launch} {G : Cx} {d : Nat} {h0 : Hp} (hd : 4 ≤ d) {Q : Hp → Prop} : ∀ {n : Nat} {v0 : Nat} {v1 : Nat} {v2 : Int32} {h : Hp}, m_X0_copyFrom_7 n Q v0 v1 v2 h → Rn l G d 0 0 MX0_copyFrom h0 (qV Q) 7 [some (tR 0 0 (some v0)), some (tR 0 0 (some v1)), some (tI v2)] [] h 0 0 := by
  intro n
  induction n with
  | zero => intro v0 v1 v2 h hm; exact hm.elim
  | succ n ih =>
    intro v0 v1 v2 h hm
    have hk7 := fun (v0 : Nat) (v1 : Nat) (v2 : Int32) (hh : Hp) (hm : m_X0_copyFrom_7 n Q v0 v1 v2 hh) => ih hm
    rw [m_X0_copyFrom_7] at hm
    refine r_iload_n dX0_copyFrom_7 rfl rfl ?_
    refine r_aload_n dX0_copyFrom_8 rfl rfl ?_
    refine r_getI (k := 1) cl_0 dX0_copyFrom_9 t_125 (Or.inl rfl) gf_0_1 ?_
    refine r_icmp_ge (tgt := 31) dX0_copyFrom_12 rfl (fun hc => ?_) (fun hc => ?_)
    · replace hm := hm.1 hc
      exact r_return dX0_copyFrom_31 rfl ⟨by decide, by decide⟩ ⟨rfl, hm⟩
    · replace hm := hm.2 hc
      refine r_aload_n dX0_copyFrom_15 rfl rfl ?_
      refine r_aload_n dX0_copyFrom_16 rfl rfl ?_
      refine r_getC (k := 0) cl_0 dX0_copyFrom_17 t_121 gf_0_0.1 gf_0_0.2 (gc_0_0 _) ?_
      refine r_iload_n dX0_copyFrom_20 rfl rfl ?_
      obtain ⟨hi_b1, b1, hb_b1, hm⟩ := hm
      refine r_aaldS (kd := 1) (ti := 5) (cn := RX1) dX0_copyFrom_21 rfl hi_b1 hb_b1 ?_
      refine r_callVU (d' := d - 1) (as := [tR 1 0 (some b1)]) (st := []) cl_0 dX0_copyFrom_22 mi_X0_push t_1180 t_891 t_892 rfl rfl (Nat.le_of_ble_eq_true rfl) (by omega) ⟨by decide, by decide⟩ ⟨rfl, rfl⟩ (s_X0_push (by omega) hm) (fun h3 hm => ?_)
      obtain ⟨x4, e_x4⟩ : ∃ y : Int32, y = v2 + 1 := ⟨_, rfl⟩
      replace hm := hm x4 e_x4
      refine r_iinc (L' := [some (tR 0 0 (some v0)), some (tR 0 0 (some v1)), some (tI x4)]) dX0_copyFrom_25 rfl (by rw [e_x4]; rfl) (by decide) rfl ?_
      refine r_goto (tgt := 7) dX0_copyFrom_28 rfl ?_
      refine r_keep (L' := [some (tR 0 0 (some v0)), some (tR 0 0 (some v1)), some (tI x4)]) [true, true, true] rfl ?_
      exact hk7 _ _ _ _ hm
def m_X0_copyFrom (v0 : Nat) (v1 : Nat) (h : Hp) (Q : Hp → Prop) : Prop := ∃ n7, m_X0_copyFrom_7 n7 Q v0 v1 0 (wI h v0 1 0)
set_option maxHeartbeats 4000000 in
set_option maxRecDepth 100000 in
theorem s_X0_copyFrom {l : Launch} {G : Cx} {d : Nat} (hd : 4 ≤ d) {v0 : Nat} {v1 : Nat} {h : Hp} {Q : Hp → Prop} (hm : m_X0_copyFrom v0 v1 h Q) : Ct l G d 0 0 yX0_copyFrom MX0_copyFrom [tR 0 0 (some v0), tR 0 0 (some v1)] h (qV Q) := by
  unfold m_X0_copyFrom at hm
  refine Ct.of (L := [some (tR 0 0 (some v0)), some (tR 0 0 (some v1))]) (by decide) rfl rfl (Nat.le_of_ble_eq_true rfl) rfl ?_
  refine r_aload_n dX0_copyFrom_0 rfl rfl ?_
  refine r_iconst (v := 0) dX0_copyFrom_1 rfl ?_
  refine r_putI0 (k := 1) cl_0 dX0_copyFrom_2 t_125 (Or.inl rfl) gf_0_1 pf_0_1.1 (Or.inl pf_0_1.2) ?_
  refine r_iconst (v := 0) dX0_copyFrom_5 rfl ?_
  refine r_istore_n (L' := [some (tR 0 0 (some v0)), some (tR 0 0 (some v1)), some (tI 0)]) dX0_copyFrom_6 rfl (by decide) rfl ?_
  refine r_keep (L' := [some (tR 0 0 (some v0)), some (tR 0 0 (some v1)), some (tI 0)]) [true, true, true] rfl ?_
  obtain ⟨n, hm⟩ := hm
  refine s_X0_copyFrom_7 hd hm
theorem dX0_holds_0 : decode cX0_holds 0 = .ok (.iconst 0, 1) := rfl
theorem dX0_holds_1 : decode cX0_holds 1 = .ok (.istore_n 2, 1) := rfl
theorem dX0_holds_2 : decode cX0_holds 2 = .ok (.iload_n 2, 1) := rfl
theorem dX0_holds_3 : decode cX0_holds 3 = .ok (.aload_n 0, 1) := rfl
theorem dX0_holds_4 : decode cX0_holds 4 = .ok (.getfield 17, 3) := rfl
theorem dX0_holds_7 : decode cX0_holds 7 = .ok (.if_icmp .ge 21, 3) := by decide +kernel
theorem dX0_holds_10 : decode cX0_holds 10 = .ok (.aload_n 0, 1) := rfl
theorem dX0_holds_11 : decode cX0_holds 11 = .ok (.getfield 11, 3) := rfl
theorem dX0_holds_14 : decode cX0_holds 14 = .ok (.iload_n 2, 1) := rfl
theorem dX0_holds_15 : decode cX0_holds 15 = .ok (.aaload, 1) := rfl
theorem dX0_holds_16 : decode cX0_holds 16 = .ok (.aload_n 1, 1) := rfl
theorem dX0_holds_17 : decode cX0_holds 17 = .ok (.if_acmp .ne 5, 3) := by decide +kernel
theorem dX0_holds_20 : decode cX0_holds 20 = .ok (.iconst 1, 1) := rfl
theorem dX0_holds_21 : decode cX0_holds 21 = .ok (.ireturn, 1) := rfl
theorem dX0_holds_22 : decode cX0_holds 22 = .ok (.iinc 2 1, 3) := by decide +kernel
theorem dX0_holds_25 : decode cX0_holds 25 = .ok (.goto (-23), 3) := by decide +kernel
theorem dX0_holds_28 : decode cX0_holds 28 = .ok (.iconst 0, 1) := rfl
theorem dX0_holds_29 : decode cX0_holds 29 = .ok (.ireturn, 1) := rfl
def m_X0_holds_2 : Nat → (Int32 → Hp → Prop) → Nat → Nat → Int32 → Hp → Prop
  | 0, _, _, _, _, _ => False
  | n + 1, Q, v0, v1, v2, h => ((hI h v0 1) ≤ v2 → Q 0 h) ∧ (¬ (hI h v0 1) ≤ v2 → vp_in v2 6 ∧ ∃ b1 : Nat, hR h (v0 + 1) (ix v2) = some b1 ∧ ((¬ (some b1) = (some v1) → ∀ x2 : Int32, x2 = v2 + 1 → m_X0_holds_2 n Q v0 v1 x2 h) ∧ ((some b1) = (some v1) → Q 1 h)))
set_option maxHeartbeats 4000000 in
set_option maxRecDepth 100000 in
theorem s_X0_holds_2 {l : Launch} {G : Cx} {d : Nat} {h0 : Hp} (hd : 2 ≤ d) {Q : Int32 → Hp → Prop} : ∀ {n : Nat} {v0 : Nat} {v1 : Nat} {v2 : Int32} {h : Hp}, m_X0_holds_2 n Q v0 v1 v2 h → Rn l G d 0 0 MX0_holds h0 (qI Q) 2 [some (tR 0 0 (some v0)), some (tR 1 0 (some v1)), some (tI v2)] [] h 0 0 := by
  intro n
  induction n with
  | zero => intro v0 v1 v2 h hm; exact hm.elim
  | succ n ih =>
    intro v0 v1 v2 h hm
    have hk2 := fun (v0 : Nat) (v1 : Nat) (v2 : Int32) (hh : Hp) (hm : m_X0_holds_2 n Q v0 v1 v2 hh) => ih hm
    rw [m_X0_holds_2] at hm
    refine r_iload_n dX0_holds_2 rfl rfl ?_
    refine r_aload_n dX0_holds_3 rfl rfl ?_
    refine r_getI (k := 1) cl_0 dX0_holds_4 t_125 (Or.inl rfl) gf_0_1 ?_
    refine r_icmp_ge (tgt := 28) dX0_holds_7 rfl (fun hc => ?_) (fun hc => ?_)
    · replace hm := hm.1 hc
      refine r_iconst (v := 0) dX0_holds_28 rfl ?_
      exact r_bret dX0_holds_29 rfl ⟨by decide, by decide⟩ (by unfold bz; decide) ⟨_, rfl, hm⟩
    · replace hm := hm.2 hc
      refine r_aload_n dX0_holds_10 rfl rfl ?_
      refine r_getC (k := 0) cl_0 dX0_holds_11 t_121 gf_0_0.1 gf_0_0.2 (gc_0_0 _) ?_
      refine r_iload_n dX0_holds_14 rfl rfl ?_
      obtain ⟨hi_b1, b1, hb_b1, hm⟩ := hm
      refine r_aaldS (kd := 1) (ti := 5) (cn := RX1) dX0_holds_15 rfl hi_b1 hb_b1 ?_
      refine r_aload_n dX0_holds_16 rfl rfl ?_
      refine r_acmp_ne (tgt := 22) dX0_holds_17 rfl (fun hc => ?_) (fun hc => ?_)
      · replace hm := hm.1 hc
        obtain ⟨x2, e_x2⟩ : ∃ y : Int32, y = v2 + 1 := ⟨_, rfl⟩
        replace hm := hm x2 e_x2
        refine r_iinc (L' := [some (tR 0 0 (some v0)), some (tR 1 0 (some v1)), some (tI x2)]) dX0_holds_22 rfl (by rw [e_x2]; rfl) (by decide) rfl ?_
        refine r_goto (tgt := 2) dX0_holds_25 rfl ?_
        refine r_keep (L' := [some (tR 0 0 (some v0)), some (tR 1 0 (some v1)), some (tI x2)]) [true, true, true] rfl ?_
        exact hk2 _ _ _ _ hm
      · replace hm := hm.2 hc
        refine r_iconst (v := 1) dX0_holds_20 rfl ?_
        exact r_bret dX0_holds_21 rfl ⟨by decide, by decide⟩ (by unfold bz; decide) ⟨_, rfl, hm⟩
def m_X0_holds (v0 : Nat) (v1 : Nat) (h : Hp) (Q : Int32 → Hp → Prop) : Prop := ∃ n2, m_X0_holds_2 n2 Q v0 v1 0 h
set_option maxHeartbeats 4000000 in
set_option maxRecDepth 100000 in
theorem s_X0_holds {l : Launch} {G : Cx} {d : Nat} (hd : 2 ≤ d) {v0 : Nat} {v1 : Nat} {h : Hp} {Q : Int32 → Hp → Prop} (hm : m_X0_holds v0 v1 h Q) : Ct l G d 0 0 yX0_holds MX0_holds [tR 0 0 (some v0), tR 1 0 (some v1)] h (qI Q) := by
  unfold m_X0_holds at hm
  refine Ct.of (L := [some (tR 0 0 (some v0)), some (tR 1 0 (some v1))]) (by decide) rfl rfl (Nat.le_of_ble_eq_true rfl) rfl ?_
  refine r_iconst (v := 0) dX0_holds_0 rfl ?_
  refine r_istore_n (L' := [some (tR 0 0 (some v0)), some (tR 1 0 (some v1)), some (tI 0)]) dX0_holds_1 rfl (by decide) rfl ?_
  refine r_keep (L' := [some (tR 0 0 (some v0)), some (tR 1 0 (some v1)), some (tI 0)]) [true, true, true] rfl ?_
  obtain ⟨n, hm⟩ := hm
  refine s_X0_holds_2 hd hm
theorem dX0_choicesBefore_0 : decode cX0_choicesBefore 0 = .ok (.iconst 0, 1) := rfl
theorem dX0_choicesBefore_1 : decode cX0_choicesBefore 1 = .ok (.istore_n 2, 1) := rfl
theorem dX0_choicesBefore_2 : decode cX0_choicesBefore 2 = .ok (.iconst 0, 1) := rfl
theorem dX0_choicesBefore_3 : decode cX0_choicesBefore 3 = .ok (.istore_n 3, 1) := rfl
theorem dX0_choicesBefore_4 : decode cX0_choicesBefore 4 = .ok (.iload_n 3, 1) := rfl
theorem dX0_choicesBefore_5 : decode cX0_choicesBefore 5 = .ok (.iload_n 1, 1) := rfl
theorem dX0_choicesBefore_6 : decode cX0_choicesBefore 6 = .ok (.if_icmp .ge 29, 3) := by decide +kernel
theorem dX0_choicesBefore_9 : decode cX0_choicesBefore 9 = .ok (.iload_n 3, 1) := rfl
theorem dX0_choicesBefore_10 : decode cX0_choicesBefore 10 = .ok (.aload_n 0, 1) := rfl
theorem dX0_choicesBefore_11 : decode cX0_choicesBefore 11 = .ok (.getfield 17, 3) := rfl
theorem dX0_choicesBefore_14 : decode cX0_choicesBefore 14 = .ok (.if_icmp .ge 21, 3) := by decide +kernel
theorem dX0_choicesBefore_17 : decode cX0_choicesBefore 17 = .ok (.iload_n 2, 1) := rfl
theorem dX0_choicesBefore_18 : decode cX0_choicesBefore 18 = .ok (.aload_n 0, 1) := rfl
theorem dX0_choicesBefore_19 : decode cX0_choicesBefore 19 = .ok (.getfield 11, 3) := rfl
theorem dX0_choicesBefore_22 : decode cX0_choicesBefore 22 = .ok (.iload_n 3, 1) := rfl
theorem dX0_choicesBefore_23 : decode cX0_choicesBefore 23 = .ok (.aaload, 1) := rfl
theorem dX0_choicesBefore_24 : decode cX0_choicesBefore 24 = .ok (.getfield 25, 3) := rfl
theorem dX0_choicesBefore_27 : decode cX0_choicesBefore 27 = .ok (.iadd, 1) := rfl
theorem dX0_choicesBefore_28 : decode cX0_choicesBefore 28 = .ok (.istore_n 2, 1) := rfl
theorem dX0_choicesBefore_29 : decode cX0_choicesBefore 29 = .ok (.iinc 3 1, 3) := by decide +kernel
theorem dX0_choicesBefore_32 : decode cX0_choicesBefore 32 = .ok (.goto (-28), 3) := by decide +kernel
theorem dX0_choicesBefore_35 : decode cX0_choicesBefore 35 = .ok (.iload_n 2, 1) := rfl
theorem dX0_choicesBefore_36 : decode cX0_choicesBefore 36 = .ok (.ireturn, 1) := rfl
def m_X0_choicesBefore_4 : Nat → (Int32 → Hp → Prop) → Nat → Int32 → Int32 → Int32 → Hp → Prop
  | 0, _, _, _, _, _, _ => False
  | n + 1, Q, v0, v1, v2, v3, h => (v1 ≤ v3 → Q v2 h) ∧ (¬ v1 ≤ v3 → ((hI h v0 1) ≤ v3 → Q v2 h) ∧ (¬ (hI h v0 1) ≤ v3 → vp_in v3 6 ∧ ∃ b1 : Nat, hR h (v0 + 1) (ix v3) = some b1 ∧ (∀ x2 : Int32, x2 = (v2 + (hI h b1 3)) → ∀ x3 : Int32, x3 = v3 + 1 → m_X0_choicesBefore_4 n Q v0 v1 x2 x3 h)))
set_option maxHeartbeats 4000000 in
set_option maxRecDepth 100000 in
theorem s_X0_choicesBefore_4 {l : Launch} {G : Cx} {d : Nat} {h0 : Hp} (hd : 2 ≤ d) {Q : Int32 → Hp → Prop} : ∀ {n : Nat} {v0 : Nat} {v1 : Int32} {v2 : Int32} {v3 : Int32} {h : Hp}, m_X0_choicesBefore_4 n Q v0 v1 v2 v3 h → Rn l G d 0 0 MX0_choicesBefore h0 (qI Q) 4 [some (tR 0 0 (some v0)), some (tI v1), some (tI v2), some (tI v3)] [] h 0 0 := by
  intro n
  induction n with
  | zero => intro v0 v1 v2 v3 h hm; exact hm.elim
  | succ n ih =>
    intro v0 v1 v2 v3 h hm
    have hk4 := fun (v0 : Nat) (v1 : Int32) (v2 : Int32) (v3 : Int32) (hh : Hp) (hm : m_X0_choicesBefore_4 n Q v0 v1 v2 v3 hh) => ih hm
    rw [m_X0_choicesBefore_4] at hm
    refine r_iload_n dX0_choicesBefore_4 rfl rfl ?_
    refine r_iload_n dX0_choicesBefore_5 rfl rfl ?_
    refine r_icmp_ge (tgt := 35) dX0_choicesBefore_6 rfl (fun hc => ?_) (fun hc => ?_)
    · replace hm := hm.1 hc
      refine r_iload_n dX0_choicesBefore_35 rfl rfl ?_
      exact r_ireturn dX0_choicesBefore_36 rfl ⟨by decide, by decide⟩ ⟨_, rfl, hm⟩
    · replace hm := hm.2 hc
      refine r_iload_n dX0_choicesBefore_9 rfl rfl ?_
      refine r_aload_n dX0_choicesBefore_10 rfl rfl ?_
      refine r_getI (k := 1) cl_0 dX0_choicesBefore_11 t_125 (Or.inl rfl) gf_0_1 ?_
      refine r_icmp_ge (tgt := 35) dX0_choicesBefore_14 rfl (fun hc => ?_) (fun hc => ?_)
      · replace hm := hm.1 hc
        refine r_iload_n dX0_choicesBefore_35 rfl rfl ?_
        exact r_ireturn dX0_choicesBefore_36 rfl ⟨by decide, by decide⟩ ⟨_, rfl, hm⟩
      · replace hm := hm.2 hc
        refine r_iload_n dX0_choicesBefore_17 rfl rfl ?_
        refine r_aload_n dX0_choicesBefore_18 rfl rfl ?_
        refine r_getC (k := 0) cl_0 dX0_choicesBefore_19 t_121 gf_0_0.1 gf_0_0.2 (gc_0_0 _) ?_
        refine r_iload_n dX0_choicesBefore_22 rfl rfl ?_
        obtain ⟨hi_b1, b1, hb_b1, hm⟩ := hm
        refine r_aaldS (kd := 1) (ti := 5) (cn := RX1) dX0_choicesBefore_23 rfl hi_b1 hb_b1 ?_
        refine r_getI (k := 3) cl_1 dX0_choicesBefore_24 t_449 (Or.inl rfl) gf_1_3 ?_
        refine r_iadd dX0_choicesBefore_27 ?_
        refine r_nmI (fun x2 e_x2 => ?_)
        replace hm := hm x2 e_x2
        refine r_istore_n (L' := [some (tR 0 0 (some v0)), some (tI v1), some (tI x2), some (tI v3)]) dX0_choicesBefore_28 rfl (by decide) rfl ?_
        obtain ⟨x3, e_x3⟩ : ∃ y : Int32, y = v3 + 1 := ⟨_, rfl⟩
        replace hm := hm x3 e_x3
        refine r_iinc (L' := [some (tR 0 0 (some v0)), some (tI v1), some (tI x2), some (tI x3)]) dX0_choicesBefore_29 rfl (by rw [e_x3]; rfl) (by decide) rfl ?_
        refine r_goto (tgt := 4) dX0_choicesBefore_32 rfl ?_
        refine r_keep (L' := [some (tR 0 0 (some v0)), some (tI v1), some (tI x2), some (tI x3)]) [true, true, true, true] rfl ?_
        exact hk4 _ _ _ _ _ hm
def m_X0_choicesBefore (v0 : Nat) (v1 : Int32) (h : Hp) (Q : Int32 → Hp → Prop) : Prop := ∃ n4, m_X0_choicesBefore_4 n4 Q v0 v1 0 0 h
set_option maxHeartbeats 4000000 in
set_option maxRecDepth 100000 in
theorem s_X0_choicesBefore {l : Launch} {G : Cx} {d : Nat} (hd : 2 ≤ d) {v0 : Nat} {v1 : Int32} {h : Hp} {Q : Int32 → Hp → Prop} (hm : m_X0_choicesBefore v0 v1 h Q) : Ct l G d 0 0 yX0_choicesBefore MX0_choicesBefore [tR 0 0 (some v0), tI v1] h (qI Q) := by
  unfold m_X0_choicesBefore at hm
  refine Ct.of (L := [some (tR 0 0 (some v0)), some (tI v1)]) (by decide) rfl rfl (Nat.le_of_ble_eq_true rfl) rfl ?_
  refine r_iconst (v := 0) dX0_choicesBefore_0 rfl ?_
  refine r_istore_n (L' := [some (tR 0 0 (some v0)), some (tI v1), some (tI 0)]) dX0_choicesBefore_1 rfl (by decide) rfl ?_
  refine r_iconst (v := 0) dX0_choicesBefore_2 rfl ?_
  refine r_istore_n (L' := [some (tR 0 0 (some v0)), some (tI v1), some (tI 0), some (tI 0)]) dX0_choicesBefore_3 rfl (by decide) rfl ?_
  refine r_keep (L' := [some (tR 0 0 (some v0)), some (tI v1), some (tI 0), some (tI 0)]) [true, true, true, true] rfl ?_
  obtain ⟨n, hm⟩ := hm
  refine s_X0_choicesBefore_4 hd hm
theorem dX0_allLeaves_0 : decode cX0_allLeaves 0 = .ok (.iconst 0, 1) := rfl
theorem dX0_allLeaves_1 : decode cX0_allLeaves 1 = .ok (.istore_n 1, 1) := rfl
theorem dX0_allLeaves_2 : decode cX0_allLeaves 2 = .ok (.iconst 0, 1) := rfl
theorem dX0_allLeaves_3 : decode cX0_allLeaves 3 = .ok (.istore_n 2, 1) := rfl
theorem dX0_allLeaves_4 : decode cX0_allLeaves 4 = .ok (.iload_n 2, 1) := rfl
theorem dX0_allLeaves_5 : decode cX0_allLeaves 5 = .ok (.aload_n 0, 1) := rfl
theorem dX0_allLeaves_6 : decode cX0_allLeaves 6 = .ok (.getfield 17, 3) := rfl
theorem dX0_allLeaves_9 : decode cX0_allLeaves 9 = .ok (.if_icmp .ge 21, 3) := by decide +kernel
theorem dX0_allLeaves_12 : decode cX0_allLeaves 12 = .ok (.iload_n 1, 1) := rfl
theorem dX0_allLeaves_13 : decode cX0_allLeaves 13 = .ok (.aload_n 0, 1) := rfl
theorem dX0_allLeaves_14 : decode cX0_allLeaves 14 = .ok (.getfield 11, 3) := rfl
theorem dX0_allLeaves_17 : decode cX0_allLeaves 17 = .ok (.iload_n 2, 1) := rfl
theorem dX0_allLeaves_18 : decode cX0_allLeaves 18 = .ok (.aaload, 1) := rfl
theorem dX0_allLeaves_19 : decode cX0_allLeaves 19 = .ok (.getfield 28, 3) := rfl
theorem dX0_allLeaves_22 : decode cX0_allLeaves 22 = .ok (.iadd, 1) := rfl
theorem dX0_allLeaves_23 : decode cX0_allLeaves 23 = .ok (.istore_n 1, 1) := rfl
theorem dX0_allLeaves_24 : decode cX0_allLeaves 24 = .ok (.iinc 2 1, 3) := by decide +kernel
theorem dX0_allLeaves_27 : decode cX0_allLeaves 27 = .ok (.goto (-23), 3) := by decide +kernel
theorem dX0_allLeaves_30 : decode cX0_allLeaves 30 = .ok (.iload_n 1, 1) := rfl
theorem dX0_allLeaves_31 : decode cX0_allLeaves 31 = .ok (.ireturn, 1) := rfl
def m_X0_allLeaves_4 : Nat → (Int32 → Hp → Prop) → Nat → Int32 → Int32 → Hp → Prop
  | 0, _, _, _, _, _ => False
  | n + 1, Q, v0, v1, v2, h => ((hI h v0 1) ≤ v2 → Q v1 h) ∧ (¬ (hI h v0 1) ≤ v2 → vp_in v2 6 ∧ ∃ b1 : Nat, hR h (v0 + 1) (ix v2) = some b1 ∧ (∀ x2 : Int32, x2 = (v1 + (hI h b1 2)) → ∀ x3 : Int32, x3 = v2 + 1 → m_X0_allLeaves_4 n Q v0 x2 x3 h))
set_option maxHeartbeats 4000000 in
set_option maxRecDepth 100000 in
theorem s_X0_allLeaves_4 {l : Launch} {G : Cx} {d : Nat} {h0 : Hp} (hd : 2 ≤ d) {Q : Int32 → Hp → Prop} : ∀ {n : Nat} {v0 : Nat} {v1 : Int32} {v2 : Int32} {h : Hp}, m_X0_allLeaves_4 n Q v0 v1 v2 h → Rn l G d 0 0 MX0_allLeaves h0 (qI Q) 4 [some (tR 0 0 (some v0)), some (tI v1), some (tI v2)] [] h 0 0 := by
  intro n
  induction n with
  | zero => intro v0 v1 v2 h hm; exact hm.elim
  | succ n ih =>
    intro v0 v1 v2 h hm
    have hk4 := fun (v0 : Nat) (v1 : Int32) (v2 : Int32) (hh : Hp) (hm : m_X0_allLeaves_4 n Q v0 v1 v2 hh) => ih hm
    rw [m_X0_allLeaves_4] at hm
    refine r_iload_n dX0_allLeaves_4 rfl rfl ?_
    refine r_aload_n dX0_allLeaves_5 rfl rfl ?_
    refine r_getI (k := 1) cl_0 dX0_allLeaves_6 t_125 (Or.inl rfl) gf_0_1 ?_
    refine r_icmp_ge (tgt := 30) dX0_allLeaves_9 rfl (fun hc => ?_) (fun hc => ?_)
    · replace hm := hm.1 hc
      refine r_iload_n dX0_allLeaves_30 rfl rfl ?_
      exact r_ireturn dX0_allLeaves_31 rfl ⟨by decide, by decide⟩ ⟨_, rfl, hm⟩
    · replace hm := hm.2 hc
      refine r_iload_n dX0_allLeaves_12 rfl rfl ?_
      refine r_aload_n dX0_allLeaves_13 rfl rfl ?_
      refine r_getC (k := 0) cl_0 dX0_allLeaves_14 t_121 gf_0_0.1 gf_0_0.2 (gc_0_0 _) ?_
      refine r_iload_n dX0_allLeaves_17 rfl rfl ?_
      obtain ⟨hi_b1, b1, hb_b1, hm⟩ := hm
      refine r_aaldS (kd := 1) (ti := 5) (cn := RX1) dX0_allLeaves_18 rfl hi_b1 hb_b1 ?_
      refine r_getI (k := 2) cl_1 dX0_allLeaves_19 t_444 (Or.inl rfl) gf_1_2 ?_
      refine r_iadd dX0_allLeaves_22 ?_
      refine r_nmI (fun x2 e_x2 => ?_)
      replace hm := hm x2 e_x2
      refine r_istore_n (L' := [some (tR 0 0 (some v0)), some (tI x2), some (tI v2)]) dX0_allLeaves_23 rfl (by decide) rfl ?_
      obtain ⟨x3, e_x3⟩ : ∃ y : Int32, y = v2 + 1 := ⟨_, rfl⟩
      replace hm := hm x3 e_x3
      refine r_iinc (L' := [some (tR 0 0 (some v0)), some (tI x2), some (tI x3)]) dX0_allLeaves_24 rfl (by rw [e_x3]; rfl) (by decide) rfl ?_
      refine r_goto (tgt := 4) dX0_allLeaves_27 rfl ?_
      refine r_keep (L' := [some (tR 0 0 (some v0)), some (tI x2), some (tI x3)]) [true, true, true] rfl ?_
      exact hk4 _ _ _ _ hm
def m_X0_allLeaves (v0 : Nat) (h : Hp) (Q : Int32 → Hp → Prop) : Prop := ∃ n4, m_X0_allLeaves_4 n4 Q v0 0 0 h
set_option maxHeartbeats 4000000 in
set_option maxRecDepth 100000 in
theorem s_X0_allLeaves {l : Launch} {G : Cx} {d : Nat} (hd : 2 ≤ d) {v0 : Nat} {h : Hp} {Q : Int32 → Hp → Prop} (hm : m_X0_allLeaves v0 h Q) : Ct l G d 0 0 yX0_allLeaves MX0_allLeaves [tR 0 0 (some v0)] h (qI Q) := by
  unfold m_X0_allLeaves at hm
  refine Ct.of (L := [some (tR 0 0 (some v0))]) (by decide) rfl rfl (Nat.le_of_ble_eq_true rfl) rfl ?_
  refine r_iconst (v := 0) dX0_allLeaves_0 rfl ?_
  refine r_istore_n (L' := [some (tR 0 0 (some v0)), some (tI 0)]) dX0_allLeaves_1 rfl (by decide) rfl ?_
  refine r_iconst (v := 0) dX0_allLeaves_2 rfl ?_
  refine r_istore_n (L' := [some (tR 0 0 (some v0)), some (tI 0), some (tI 0)]) dX0_allLeaves_3 rfl (by decide) rfl ?_
  refine r_keep (L' := [some (tR 0 0 (some v0)), some (tI 0), some (tI 0)]) [true, true, true] rfl ?_
  obtain ⟨n, hm⟩ := hm
  refine s_X0_allLeaves_4 hd hm
theorem dX0_allChoices_0 : decode cX0_allChoices 0 = .ok (.aload_n 0, 1) := rfl
theorem dX0_allChoices_1 : decode cX0_allChoices 1 = .ok (.aload_n 0, 1) := rfl
theorem dX0_allChoices_2 : decode cX0_allChoices 2 = .ok (.getfield 17, 3) := rfl
theorem dX0_allChoices_5 : decode cX0_allChoices 5 = .ok (.invokevirtual 31, 3) := rfl
theorem dX0_allChoices_8 : decode cX0_allChoices 8 = .ok (.ireturn, 1) := rfl
def m_X0_allChoices (v0 : Nat) (h : Hp) (Q : Int32 → Hp → Prop) : Prop := m_X0_choicesBefore v0 (hI h v0 1) h (fun (x1 : Int32) (h2 : Hp) => Q x1 h2)
set_option maxHeartbeats 4000000 in
set_option maxRecDepth 100000 in
theorem s_X0_allChoices {l : Launch} {G : Cx} {d : Nat} (hd : 4 ≤ d) {v0 : Nat} {h : Hp} {Q : Int32 → Hp → Prop} (hm : m_X0_allChoices v0 h Q) : Ct l G d 0 0 yX0_allChoices MX0_allChoices [tR 0 0 (some v0)] h (qI Q) := by
  unfold m_X0_allChoices at hm
  refine Ct.of (L := [some (tR 0 0 (some v0))]) (by decide) rfl rfl (Nat.le_of_ble_eq_true rfl) rfl ?_
  refine r_aload_n dX0_allChoices_0 rfl rfl ?_
  refine r_aload_n dX0_allChoices_1 rfl rfl ?_
  refine r_getI (k := 1) cl_0 dX0_allChoices_2 t_125 (Or.inl rfl) gf_0_1 ?_
  refine r_callVI (d' := d - 1) (as := [tI (hI h v0 1)]) (st := []) cl_0 dX0_allChoices_5 mi_X0_choicesBefore t_910 t_911 t_912 rfl rfl (Nat.le_of_ble_eq_true rfl) (by omega) ⟨by decide, by decide⟩ ⟨rfl, rfl⟩ (s_X0_choicesBefore (by omega) hm) (fun x1 h2 hm => ?_)
  exact r_ireturn dX0_allChoices_8 rfl ⟨by decide, by decide⟩ ⟨_, rfl, hm⟩
theorem dX0_namedBits_0 : decode cX0_namedBits 0 = .ok (.iconst 0, 1) := rfl
theorem dX0_namedBits_1 : decode cX0_namedBits 1 = .ok (.istore_n 1, 1) := rfl
theorem dX0_namedBits_2 : decode cX0_namedBits 2 = .ok (.iconst 0, 1) := rfl
theorem dX0_namedBits_3 : decode cX0_namedBits 3 = .ok (.istore_n 2, 1) := rfl
theorem dX0_namedBits_4 : decode cX0_namedBits 4 = .ok (.iload_n 2, 1) := rfl
theorem dX0_namedBits_5 : decode cX0_namedBits 5 = .ok (.aload_n 0, 1) := rfl
theorem dX0_namedBits_6 : decode cX0_namedBits 6 = .ok (.getfield 17, 3) := rfl
theorem dX0_namedBits_9 : decode cX0_namedBits 9 = .ok (.if_icmp .ge 21, 3) := by decide +kernel
theorem dX0_namedBits_12 : decode cX0_namedBits 12 = .ok (.iload_n 1, 1) := rfl
theorem dX0_namedBits_13 : decode cX0_namedBits 13 = .ok (.aload_n 0, 1) := rfl
theorem dX0_namedBits_14 : decode cX0_namedBits 14 = .ok (.getfield 11, 3) := rfl
theorem dX0_namedBits_17 : decode cX0_namedBits 17 = .ok (.iload_n 2, 1) := rfl
theorem dX0_namedBits_18 : decode cX0_namedBits 18 = .ok (.aaload, 1) := rfl
theorem dX0_namedBits_19 : decode cX0_namedBits 19 = .ok (.getfield 35, 3) := rfl
theorem dX0_namedBits_22 : decode cX0_namedBits 22 = .ok (.ior, 1) := rfl
theorem dX0_namedBits_23 : decode cX0_namedBits 23 = .ok (.istore_n 1, 1) := rfl
theorem dX0_namedBits_24 : decode cX0_namedBits 24 = .ok (.iinc 2 1, 3) := by decide +kernel
theorem dX0_namedBits_27 : decode cX0_namedBits 27 = .ok (.goto (-23), 3) := by decide +kernel
theorem dX0_namedBits_30 : decode cX0_namedBits 30 = .ok (.iload_n 1, 1) := rfl
theorem dX0_namedBits_31 : decode cX0_namedBits 31 = .ok (.iconst 1, 1) := rfl
theorem dX0_namedBits_32 : decode cX0_namedBits 32 = .ok (.aload_n 0, 1) := rfl
theorem dX0_namedBits_33 : decode cX0_namedBits 33 = .ok (.invokevirtual 38, 3) := rfl
theorem dX0_namedBits_36 : decode cX0_namedBits 36 = .ok (.ishl, 1) := rfl
theorem dX0_namedBits_37 : decode cX0_namedBits 37 = .ok (.iconst 1, 1) := rfl
theorem dX0_namedBits_38 : decode cX0_namedBits 38 = .ok (.isub, 1) := rfl
theorem dX0_namedBits_39 : decode cX0_namedBits 39 = .ok (.iconst 5, 1) := rfl
theorem dX0_namedBits_40 : decode cX0_namedBits 40 = .ok (.ishl, 1) := rfl
theorem dX0_namedBits_41 : decode cX0_namedBits 41 = .ok (.ior, 1) := rfl
theorem dX0_namedBits_42 : decode cX0_namedBits 42 = .ok (.ireturn, 1) := rfl
def m_X0_namedBits_30  (Q : Int32 → Hp → Prop) (v0 : Nat) (v1 : Int32) (h : Hp) : Prop := m_X0_allChoices v0 h (fun (x1 : Int32) (h2 : Hp) => Q (v1 ||| (((1 <<< (x1 &&& 31)) - 1) <<< (5 &&& 31))) h2)
set_option maxHeartbeats 4000000 in
set_option maxRecDepth 100000 in
theorem s_X0_namedBits_30 {l : Launch} {G : Cx} {d : Nat} {h0 : Hp} (hd : 6 ≤ d) {Q : Int32 → Hp → Prop} {v0 : Nat} {v1 : Int32} {h : Hp} (hm : m_X0_namedBits_30 Q v0 v1 h) : Rn l G d 0 0 MX0_namedBits h0 (qI Q) 30 [some (tR 0 0 (some v0)), some (tI v1)] [] h 0 0 := by
  unfold m_X0_namedBits_30 at hm
  refine r_iload_n dX0_namedBits_30 rfl rfl ?_
  refine r_iconst (v := 1) dX0_namedBits_31 rfl ?_
  refine r_aload_n dX0_namedBits_32 rfl rfl ?_
  refine r_callVI (d' := d - 1) (as := []) (st := [tI 1, tI v1]) cl_0 dX0_namedBits_33 mi_X0_allChoices t_906 t_907 t_908 rfl rfl (Nat.le_of_ble_eq_true rfl) (by omega) ⟨by decide, by decide⟩ ⟨rfl, rfl⟩ (s_X0_allChoices (by omega) hm) (fun x1 h2 hm => ?_)
  refine r_ishl dX0_namedBits_36 ?_
  refine r_iconst (v := 1) dX0_namedBits_37 rfl ?_
  refine r_isub dX0_namedBits_38 ?_
  refine r_iconst (v := 5) dX0_namedBits_39 rfl ?_
  refine r_ishl dX0_namedBits_40 ?_
  refine r_ior dX0_namedBits_41 ?_
  exact r_ireturn dX0_namedBits_42 rfl ⟨by decide, by decide⟩ ⟨_, rfl, hm⟩
def m_X0_namedBits_4 : Nat → (Nat → Int32 → Hp → Prop) → (Int32 → Hp → Prop) → Nat → Int32 → Int32 → Hp → Prop
  | 0, _, _, _, _, _, _ => False
  | n + 1, k30, Q, v0, v1, v2, h => ((hI h v0 1) ≤ v2 → k30 v0 v1 h) ∧ (¬ (hI h v0 1) ≤ v2 → vp_in v2 6 ∧ ∃ b3 : Nat, hR h (v0 + 1) (ix v2) = some b3 ∧ (∀ x4 : Int32, x4 = (v1 ||| (hI h b3 4)) → ∀ x5 : Int32, x5 = v2 + 1 → m_X0_namedBits_4 n k30 Q v0 x4 x5 h))
set_option maxHeartbeats 4000000 in
set_option maxRecDepth 100000 in
theorem s_X0_namedBits_4 {l : Launch} {G : Cx} {d : Nat} {h0 : Hp} (hd : 6 ≤ d) {k30 : Nat → Int32 → Hp → Prop} {Q : Int32 → Hp → Prop} (hk30 : ∀ (v0 : Nat) (v1 : Int32) (hh : Hp), k30 v0 v1 hh → Rn l G d 0 0 MX0_namedBits h0 (qI Q) 30 [some (tR 0 0 (some v0)), some (tI v1)] [] hh 0 0) : ∀ {n : Nat} {v0 : Nat} {v1 : Int32} {v2 : Int32} {h : Hp}, m_X0_namedBits_4 n k30 Q v0 v1 v2 h → Rn l G d 0 0 MX0_namedBits h0 (qI Q) 4 [some (tR 0 0 (some v0)), some (tI v1), some (tI v2)] [] h 0 0 := by
  intro n
  induction n with
  | zero => intro v0 v1 v2 h hm; exact hm.elim
  | succ n ih =>
    intro v0 v1 v2 h hm
    have hk4 := fun (v0 : Nat) (v1 : Int32) (v2 : Int32) (hh : Hp) (hm : m_X0_namedBits_4 n k30 Q v0 v1 v2 hh) => ih hm
    rw [m_X0_namedBits_4] at hm
    refine r_iload_n dX0_namedBits_4 rfl rfl ?_
    refine r_aload_n dX0_namedBits_5 rfl rfl ?_
    refine r_getI (k := 1) cl_0 dX0_namedBits_6 t_125 (Or.inl rfl) gf_0_1 ?_
    refine r_icmp_ge (tgt := 30) dX0_namedBits_9 rfl (fun hc => ?_) (fun hc => ?_)
    · replace hm := hm.1 hc
      refine r_keep (L' := [some (tR 0 0 (some v0)), some (tI v1)]) [true, true] rfl ?_
      exact hk30 _ _ _ hm
    · replace hm := hm.2 hc
      refine r_iload_n dX0_namedBits_12 rfl rfl ?_
      refine r_aload_n dX0_namedBits_13 rfl rfl ?_
      refine r_getC (k := 0) cl_0 dX0_namedBits_14 t_121 gf_0_0.1 gf_0_0.2 (gc_0_0 _) ?_
      refine r_iload_n dX0_namedBits_17 rfl rfl ?_
      obtain ⟨hi_b3, b3, hb_b3, hm⟩ := hm
      refine r_aaldS (kd := 1) (ti := 5) (cn := RX1) dX0_namedBits_18 rfl hi_b3 hb_b3 ?_
      refine r_getI (k := 4) cl_1 dX0_namedBits_19 t_454 (Or.inl rfl) gf_1_4 ?_
      refine r_ior dX0_namedBits_22 ?_
      refine r_nmI (fun x4 e_x4 => ?_)
      replace hm := hm x4 e_x4
      refine r_istore_n (L' := [some (tR 0 0 (some v0)), some (tI x4), some (tI v2)]) dX0_namedBits_23 rfl (by decide) rfl ?_
      obtain ⟨x5, e_x5⟩ : ∃ y : Int32, y = v2 + 1 := ⟨_, rfl⟩
      replace hm := hm x5 e_x5
      refine r_iinc (L' := [some (tR 0 0 (some v0)), some (tI x4), some (tI x5)]) dX0_namedBits_24 rfl (by rw [e_x5]; rfl) (by decide) rfl ?_
      refine r_goto (tgt := 4) dX0_namedBits_27 rfl ?_
      refine r_keep (L' := [some (tR 0 0 (some v0)), some (tI x4), some (tI x5)]) [true, true, true] rfl ?_
      exact hk4 _ _ _ _ hm
def m_X0_namedBits (v0 : Nat) (h : Hp) (Q : Int32 → Hp → Prop) : Prop := ∃ n4, m_X0_namedBits_4 n4 (m_X0_namedBits_30 Q) Q v0 0 0 h
set_option maxHeartbeats 4000000 in
set_option maxRecDepth 100000 in
theorem s_X0_namedBits {l : Launch} {G : Cx} {d : Nat} (hd : 6 ≤ d) {v0 : Nat} {h : Hp} {Q : Int32 → Hp → Prop} (hm : m_X0_namedBits v0 h Q) : Ct l G d 0 0 yX0_namedBits MX0_namedBits [tR 0 0 (some v0)] h (qI Q) := by
  unfold m_X0_namedBits at hm
  refine Ct.of (L := [some (tR 0 0 (some v0))]) (by decide) rfl rfl (Nat.le_of_ble_eq_true rfl) rfl ?_
  refine r_iconst (v := 0) dX0_namedBits_0 rfl ?_
  refine r_istore_n (L' := [some (tR 0 0 (some v0)), some (tI 0)]) dX0_namedBits_1 rfl (by decide) rfl ?_
  refine r_iconst (v := 0) dX0_namedBits_2 rfl ?_
  refine r_istore_n (L' := [some (tR 0 0 (some v0)), some (tI 0), some (tI 0)]) dX0_namedBits_3 rfl (by decide) rfl ?_
  refine r_keep (L' := [some (tR 0 0 (some v0)), some (tI 0), some (tI 0)]) [true, true, true] rfl ?_
  obtain ⟨n, hm⟩ := hm
  refine s_X0_namedBits_4 hd ?_ hm
  · exact (fun _ _ _ hm => s_X0_namedBits_30 hd hm)
theorem dJ6_bitCount_0f7a4_0 : decode cJ6_bitCount_0f7a4 0 = .ok (.iload_n 0, 1) := rfl
theorem dJ6_bitCount_0f7a4_1 : decode cJ6_bitCount_0f7a4 1 = .ok (.iload_n 0, 1) := rfl
theorem dJ6_bitCount_0f7a4_2 : decode cJ6_bitCount_0f7a4 2 = .ok (.iconst 1, 1) := rfl
theorem dJ6_bitCount_0f7a4_3 : decode cJ6_bitCount_0f7a4 3 = .ok (.iushr, 1) := rfl
theorem dJ6_bitCount_0f7a4_4 : decode cJ6_bitCount_0f7a4 4 = .ok (.ldc_w 265, 3) := rfl
theorem dJ6_bitCount_0f7a4_7 : decode cJ6_bitCount_0f7a4 7 = .ok (.iand, 1) := rfl
theorem dJ6_bitCount_0f7a4_8 : decode cJ6_bitCount_0f7a4 8 = .ok (.isub, 1) := rfl
theorem dJ6_bitCount_0f7a4_9 : decode cJ6_bitCount_0f7a4 9 = .ok (.istore_n 0, 1) := rfl
theorem dJ6_bitCount_0f7a4_10 : decode cJ6_bitCount_0f7a4 10 = .ok (.iload_n 0, 1) := rfl
theorem dJ6_bitCount_0f7a4_11 : decode cJ6_bitCount_0f7a4 11 = .ok (.ldc_w 266, 3) := rfl
theorem dJ6_bitCount_0f7a4_14 : decode cJ6_bitCount_0f7a4 14 = .ok (.iand, 1) := rfl
theorem dJ6_bitCount_0f7a4_15 : decode cJ6_bitCount_0f7a4 15 = .ok (.iload_n 0, 1) := rfl
theorem dJ6_bitCount_0f7a4_16 : decode cJ6_bitCount_0f7a4 16 = .ok (.iconst 2, 1) := rfl
theorem dJ6_bitCount_0f7a4_17 : decode cJ6_bitCount_0f7a4 17 = .ok (.iushr, 1) := rfl
theorem dJ6_bitCount_0f7a4_18 : decode cJ6_bitCount_0f7a4 18 = .ok (.ldc_w 266, 3) := rfl
theorem dJ6_bitCount_0f7a4_21 : decode cJ6_bitCount_0f7a4 21 = .ok (.iand, 1) := rfl
theorem dJ6_bitCount_0f7a4_22 : decode cJ6_bitCount_0f7a4 22 = .ok (.iadd, 1) := rfl
theorem dJ6_bitCount_0f7a4_23 : decode cJ6_bitCount_0f7a4 23 = .ok (.istore_n 0, 1) := rfl
theorem dJ6_bitCount_0f7a4_24 : decode cJ6_bitCount_0f7a4 24 = .ok (.iload_n 0, 1) := rfl
theorem dJ6_bitCount_0f7a4_25 : decode cJ6_bitCount_0f7a4 25 = .ok (.iload_n 0, 1) := rfl
theorem dJ6_bitCount_0f7a4_26 : decode cJ6_bitCount_0f7a4 26 = .ok (.iconst 4, 1) := rfl
theorem dJ6_bitCount_0f7a4_27 : decode cJ6_bitCount_0f7a4 27 = .ok (.iushr, 1) := rfl
theorem dJ6_bitCount_0f7a4_28 : decode cJ6_bitCount_0f7a4 28 = .ok (.iadd, 1) := rfl
theorem dJ6_bitCount_0f7a4_29 : decode cJ6_bitCount_0f7a4 29 = .ok (.ldc_w 267, 3) := rfl
theorem dJ6_bitCount_0f7a4_32 : decode cJ6_bitCount_0f7a4 32 = .ok (.iand, 1) := rfl
theorem dJ6_bitCount_0f7a4_33 : decode cJ6_bitCount_0f7a4 33 = .ok (.istore_n 0, 1) := rfl
theorem dJ6_bitCount_0f7a4_34 : decode cJ6_bitCount_0f7a4 34 = .ok (.iload_n 0, 1) := rfl
theorem dJ6_bitCount_0f7a4_35 : decode cJ6_bitCount_0f7a4 35 = .ok (.iload_n 0, 1) := rfl
theorem dJ6_bitCount_0f7a4_36 : decode cJ6_bitCount_0f7a4 36 = .ok (.bipush 8, 2) := by decide +kernel
theorem dJ6_bitCount_0f7a4_38 : decode cJ6_bitCount_0f7a4 38 = .ok (.iushr, 1) := rfl
theorem dJ6_bitCount_0f7a4_39 : decode cJ6_bitCount_0f7a4 39 = .ok (.iadd, 1) := rfl
theorem dJ6_bitCount_0f7a4_40 : decode cJ6_bitCount_0f7a4 40 = .ok (.istore_n 0, 1) := rfl
theorem dJ6_bitCount_0f7a4_41 : decode cJ6_bitCount_0f7a4 41 = .ok (.iload_n 0, 1) := rfl
theorem dJ6_bitCount_0f7a4_42 : decode cJ6_bitCount_0f7a4 42 = .ok (.iload_n 0, 1) := rfl
theorem dJ6_bitCount_0f7a4_43 : decode cJ6_bitCount_0f7a4 43 = .ok (.bipush 16, 2) := by decide +kernel
theorem dJ6_bitCount_0f7a4_45 : decode cJ6_bitCount_0f7a4 45 = .ok (.iushr, 1) := rfl
theorem dJ6_bitCount_0f7a4_46 : decode cJ6_bitCount_0f7a4 46 = .ok (.iadd, 1) := rfl
theorem dJ6_bitCount_0f7a4_47 : decode cJ6_bitCount_0f7a4 47 = .ok (.istore_n 0, 1) := rfl
theorem dJ6_bitCount_0f7a4_48 : decode cJ6_bitCount_0f7a4 48 = .ok (.iload_n 0, 1) := rfl
theorem dJ6_bitCount_0f7a4_49 : decode cJ6_bitCount_0f7a4 49 = .ok (.bipush 63, 2) := by decide +kernel
theorem dJ6_bitCount_0f7a4_51 : decode cJ6_bitCount_0f7a4 51 = .ok (.iand, 1) := rfl
theorem dJ6_bitCount_0f7a4_52 : decode cJ6_bitCount_0f7a4 52 = .ok (.ireturn, 1) := rfl
def m_J6_bitCount_0f7a4 (v0 : Int32) (h : Hp) (Q : Int32 → Hp → Prop) : Prop := ∀ x1 : Int32, x1 = (v0 - (((v0.toUInt32 >>> ((1 : Int32).toUInt32 &&& Int32.toUInt32 31)).toInt32) &&& 1431655765)) → ∀ x2 : Int32, x2 = ((x1 &&& 858993459) + (((x1.toUInt32 >>> ((2 : Int32).toUInt32 &&& Int32.toUInt32 31)).toInt32) &&& 858993459)) → ∀ x3 : Int32, x3 = ((x2 + ((x2.toUInt32 >>> ((4 : Int32).toUInt32 &&& Int32.toUInt32 31)).toInt32)) &&& 252645135) → ∀ x4 : Int32, x4 = (x3 + ((x3.toUInt32 >>> ((8 : Int32).toUInt32 &&& Int32.toUInt32 31)).toInt32)) → ∀ x5 : Int32, x5 = (x4 + ((x4.toUInt32 >>> ((16 : Int32).toUInt32 &&& Int32.toUInt32 31)).toInt32)) → Q (x5 &&& 63) h
set_option maxHeartbeats 4000000 in
set_option maxRecDepth 100000 in
theorem s_J6_bitCount_0f7a4 {l : Launch} {G : Cx} {d : Nat} (hd : 2 ≤ d) {v0 : Int32} {h : Hp} {Q : Int32 → Hp → Prop} (hm : m_J6_bitCount_0f7a4 v0 h Q) : Ct l G d 0 0 yJ6_bitCount_0f7a4 MJ6_bitCount_0f7a4 [tI v0] h (qI Q) := by
  unfold m_J6_bitCount_0f7a4 at hm
  refine Ct.of (L := [some (tI v0)]) (by decide) rfl rfl (Nat.le_of_ble_eq_true rfl) rfl ?_
  refine r_iload_n dJ6_bitCount_0f7a4_0 rfl rfl ?_
  refine r_iload_n dJ6_bitCount_0f7a4_1 rfl rfl ?_
  refine r_iconst (v := 1) dJ6_bitCount_0f7a4_2 rfl ?_
  refine r_iushr dJ6_bitCount_0f7a4_3 ?_
  refine r_ldc_w dJ6_bitCount_0f7a4_4 t_864 ?_
  refine r_iand dJ6_bitCount_0f7a4_7 ?_
  refine r_isub dJ6_bitCount_0f7a4_8 ?_
  refine r_nmI (fun x1 e_x1 => ?_)
  replace hm := hm x1 e_x1
  refine r_istore_n (L' := [some (tI x1)]) dJ6_bitCount_0f7a4_9 rfl (by decide) rfl ?_
  refine r_iload_n dJ6_bitCount_0f7a4_10 rfl rfl ?_
  refine r_ldc_w dJ6_bitCount_0f7a4_11 t_865 ?_
  refine r_iand dJ6_bitCount_0f7a4_14 ?_
  refine r_iload_n dJ6_bitCount_0f7a4_15 rfl rfl ?_
  refine r_iconst (v := 2) dJ6_bitCount_0f7a4_16 rfl ?_
  refine r_iushr dJ6_bitCount_0f7a4_17 ?_
  refine r_ldc_w dJ6_bitCount_0f7a4_18 t_865 ?_
  refine r_iand dJ6_bitCount_0f7a4_21 ?_
  refine r_iadd dJ6_bitCount_0f7a4_22 ?_
  refine r_nmI (fun x2 e_x2 => ?_)
  replace hm := hm x2 e_x2
  refine r_istore_n (L' := [some (tI x2)]) dJ6_bitCount_0f7a4_23 rfl (by decide) rfl ?_
  refine r_iload_n dJ6_bitCount_0f7a4_24 rfl rfl ?_
  refine r_iload_n dJ6_bitCount_0f7a4_25 rfl rfl ?_
  refine r_iconst (v := 4) dJ6_bitCount_0f7a4_26 rfl ?_
  refine r_iushr dJ6_bitCount_0f7a4_27 ?_
  refine r_iadd dJ6_bitCount_0f7a4_28 ?_
  refine r_ldc_w dJ6_bitCount_0f7a4_29 t_866 ?_
  refine r_iand dJ6_bitCount_0f7a4_32 ?_
  refine r_nmI (fun x3 e_x3 => ?_)
  replace hm := hm x3 e_x3
  refine r_istore_n (L' := [some (tI x3)]) dJ6_bitCount_0f7a4_33 rfl (by decide) rfl ?_
  refine r_iload_n dJ6_bitCount_0f7a4_34 rfl rfl ?_
  refine r_iload_n dJ6_bitCount_0f7a4_35 rfl rfl ?_
  refine r_bipush (v := 8) dJ6_bitCount_0f7a4_36 rfl ?_
  refine r_iushr dJ6_bitCount_0f7a4_38 ?_
  refine r_iadd dJ6_bitCount_0f7a4_39 ?_
  refine r_nmI (fun x4 e_x4 => ?_)
  replace hm := hm x4 e_x4
  refine r_istore_n (L' := [some (tI x4)]) dJ6_bitCount_0f7a4_40 rfl (by decide) rfl ?_
  refine r_iload_n dJ6_bitCount_0f7a4_41 rfl rfl ?_
  refine r_iload_n dJ6_bitCount_0f7a4_42 rfl rfl ?_
  refine r_bipush (v := 16) dJ6_bitCount_0f7a4_43 rfl ?_
  refine r_iushr dJ6_bitCount_0f7a4_45 ?_
  refine r_iadd dJ6_bitCount_0f7a4_46 ?_
  refine r_nmI (fun x5 e_x5 => ?_)
  replace hm := hm x5 e_x5
  refine r_istore_n (L' := [some (tI x5)]) dJ6_bitCount_0f7a4_47 rfl (by decide) rfl ?_
  refine r_iload_n dJ6_bitCount_0f7a4_48 rfl rfl ?_
  refine r_bipush (v := 63) dJ6_bitCount_0f7a4_49 rfl ?_
  refine r_iand dJ6_bitCount_0f7a4_51 ?_
  exact r_ireturn dJ6_bitCount_0f7a4_52 rfl ⟨by decide, by decide⟩ ⟨_, rfl, hm⟩
theorem dX0_isLooked_0 : decode cX0_isLooked 0 = .ok (.aload_n 0, 1) := rfl
theorem dX0_isLooked_1 : decode cX0_isLooked 1 = .ok (.invokevirtual 42, 3) := rfl
theorem dX0_isLooked_4 : decode cX0_isLooked 4 = .ok (.invokestatic 45, 3) := rfl
theorem dX0_isLooked_7 : decode cX0_isLooked 7 = .ok (.bipush 8, 2) := by decide +kernel
theorem dX0_isLooked_9 : decode cX0_isLooked 9 = .ok (.if_icmp .gt 7, 3) := by decide +kernel
theorem dX0_isLooked_12 : decode cX0_isLooked 12 = .ok (.iconst 1, 1) := rfl
theorem dX0_isLooked_13 : decode cX0_isLooked 13 = .ok (.goto 4, 3) := by decide +kernel
theorem dX0_isLooked_16 : decode cX0_isLooked 16 = .ok (.iconst 0, 1) := rfl
theorem dX0_isLooked_17 : decode cX0_isLooked 17 = .ok (.ireturn, 1) := rfl
def m_X0_isLooked (v0 : Nat) (h : Hp) (Q : Int32 → Hp → Prop) : Prop := m_X0_namedBits v0 h (fun (x1 : Int32) (h2 : Hp) => m_J6_bitCount_0f7a4 x1 h2 (fun (x3 : Int32) (h4 : Hp) => (8 < x3 → Q 0 h4) ∧ (¬ 8 < x3 → Q 1 h4)))
set_option maxHeartbeats 4000000 in
set_option maxRecDepth 100000 in
theorem s_X0_isLooked {l : Launch} {G : Cx} {d : Nat} (hd : 8 ≤ d) {v0 : Nat} {h : Hp} {Q : Int32 → Hp → Prop} (hm : m_X0_isLooked v0 h Q) : Ct l G d 0 0 yX0_isLooked MX0_isLooked [tR 0 0 (some v0)] h (qI Q) := by
  unfold m_X0_isLooked at hm
  refine Ct.of (L := [some (tR 0 0 (some v0))]) (by decide) rfl rfl (Nat.le_of_ble_eq_true rfl) rfl ?_
  refine r_aload_n dX0_isLooked_0 rfl rfl ?_
  refine r_callVI (d' := d - 1) (as := []) (st := []) cl_0 dX0_isLooked_1 mi_X0_namedBits t_952 t_953 t_954 rfl rfl (Nat.le_of_ble_eq_true rfl) (by omega) ⟨by decide, by decide⟩ ⟨rfl, rfl⟩ (s_X0_namedBits (by omega) hm) (fun x1 h2 hm => ?_)
  refine r_callSI (d' := d - 1) (as := [tI x1]) (st := []) dX0_isLooked_4 mi_J6_bitCount_0f7a4 t_956 t_862 rfl rfl (Nat.le_of_ble_eq_true rfl) (by omega) ⟨by decide, by decide⟩ ⟨rfl, rfl⟩ (s_J6_bitCount_0f7a4 (by omega) hm) (fun x3 h4 hm => ?_)
  refine r_bipush (v := 8) dX0_isLooked_7 rfl ?_
  refine r_icmp_gt (tgt := 16) dX0_isLooked_9 rfl (fun hc => ?_) (fun hc => ?_)
  · replace hm := hm.1 hc
    refine r_iconst (v := 0) dX0_isLooked_16 rfl ?_
    exact r_bret dX0_isLooked_17 rfl ⟨by decide, by decide⟩ (by unfold bz; decide) ⟨_, rfl, hm⟩
  · replace hm := hm.2 hc
    refine r_iconst (v := 1) dX0_isLooked_12 rfl ?_
    refine r_goto (tgt := 17) dX0_isLooked_13 rfl ?_
    exact r_bret dX0_isLooked_17 rfl ⟨by decide, by decide⟩ (by unfold bz; decide) ⟨_, rfl, hm⟩
theorem dX0_codesLooked_0 : decode cX0_codesLooked 0 = .ok (.iconst 1, 1) := rfl
theorem dX0_codesLooked_1 : decode cX0_codesLooked 1 = .ok (.aload_n 0, 1) := rfl
theorem dX0_codesLooked_2 : decode cX0_codesLooked 2 = .ok (.invokevirtual 42, 3) := rfl
theorem dX0_codesLooked_5 : decode cX0_codesLooked 5 = .ok (.invokestatic 45, 3) := rfl
theorem dX0_codesLooked_8 : decode cX0_codesLooked 8 = .ok (.ishl, 1) := rfl
theorem dX0_codesLooked_9 : decode cX0_codesLooked 9 = .ok (.ireturn, 1) := rfl
def m_X0_codesLooked (v0 : Nat) (h : Hp) (Q : Int32 → Hp → Prop) : Prop := m_X0_namedBits v0 h (fun (x1 : Int32) (h2 : Hp) => m_J6_bitCount_0f7a4 x1 h2 (fun (x3 : Int32) (h4 : Hp) => Q (1 <<< (x3 &&& 31)) h4))
set_option maxHeartbeats 4000000 in
set_option maxRecDepth 100000 in
theorem s_X0_codesLooked {l : Launch} {G : Cx} {d : Nat} (hd : 8 ≤ d) {v0 : Nat} {h : Hp} {Q : Int32 → Hp → Prop} (hm : m_X0_codesLooked v0 h Q) : Ct l G d 0 0 yX0_codesLooked MX0_codesLooked [tR 0 0 (some v0)] h (qI Q) := by
  unfold m_X0_codesLooked at hm
  refine Ct.of (L := [some (tR 0 0 (some v0))]) (by decide) rfl rfl (Nat.le_of_ble_eq_true rfl) rfl ?_
  refine r_iconst (v := 1) dX0_codesLooked_0 rfl ?_
  refine r_aload_n dX0_codesLooked_1 rfl rfl ?_
  refine r_callVI (d' := d - 1) (as := []) (st := [tI 1]) cl_0 dX0_codesLooked_2 mi_X0_namedBits t_952 t_953 t_954 rfl rfl (Nat.le_of_ble_eq_true rfl) (by omega) ⟨by decide, by decide⟩ ⟨rfl, rfl⟩ (s_X0_namedBits (by omega) hm) (fun x1 h2 hm => ?_)
  refine r_callSI (d' := d - 1) (as := [tI x1]) (st := [tI 1]) dX0_codesLooked_5 mi_J6_bitCount_0f7a4 t_956 t_862 rfl rfl (Nat.le_of_ble_eq_true rfl) (by omega) ⟨by decide, by decide⟩ ⟨rfl, rfl⟩ (s_J6_bitCount_0f7a4 (by omega) hm) (fun x3 h4 hm => ?_)
  refine r_ishl dX0_codesLooked_8 ?_
  exact r_ireturn dX0_codesLooked_9 rfl ⟨by decide, by decide⟩ ⟨_, rfl, hm⟩
theorem dX0_hasCode_0 : decode cX0_hasCode 0 = .ok (.iload_n 1, 1) := rfl
theorem dX0_hasCode_1 : decode cX0_hasCode 1 = .ok (.ifCond .lt 19, 3) := by decide +kernel
theorem dX0_hasCode_4 : decode cX0_hasCode 4 = .ok (.iload_n 1, 1) := rfl
theorem dX0_hasCode_5 : decode cX0_hasCode 5 = .ok (.iconst 1, 1) := rfl
theorem dX0_hasCode_6 : decode cX0_hasCode 6 = .ok (.iconst 5, 1) := rfl
theorem dX0_hasCode_7 : decode cX0_hasCode 7 = .ok (.aload_n 0, 1) := rfl
theorem dX0_hasCode_8 : decode cX0_hasCode 8 = .ok (.invokevirtual 38, 3) := rfl
theorem dX0_hasCode_11 : decode cX0_hasCode 11 = .ok (.iadd, 1) := rfl
theorem dX0_hasCode_12 : decode cX0_hasCode 12 = .ok (.ishl, 1) := rfl
theorem dX0_hasCode_13 : decode cX0_hasCode 13 = .ok (.if_icmp .ge 7, 3) := by decide +kernel
theorem dX0_hasCode_16 : decode cX0_hasCode 16 = .ok (.iconst 1, 1) := rfl
theorem dX0_hasCode_17 : decode cX0_hasCode 17 = .ok (.goto 4, 3) := by decide +kernel
theorem dX0_hasCode_20 : decode cX0_hasCode 20 = .ok (.iconst 0, 1) := rfl
theorem dX0_hasCode_21 : decode cX0_hasCode 21 = .ok (.ireturn, 1) := rfl
def m_X0_hasCode (v0 : Nat) (v1 : Int32) (h : Hp) (Q : Int32 → Hp → Prop) : Prop := (v1 < 0 → Q 0 h) ∧ (¬ v1 < 0 → m_X0_allChoices v0 h (fun (x1 : Int32) (h2 : Hp) => ((1 <<< ((5 + x1) &&& 31)) ≤ v1 → Q 0 h2) ∧ (¬ (1 <<< ((5 + x1) &&& 31)) ≤ v1 → Q 1 h2)))
set_option maxHeartbeats 4000000 in
set_option maxRecDepth 100000 in
theorem s_X0_hasCode {l : Launch} {G : Cx} {d : Nat} (hd : 6 ≤ d) {v0 : Nat} {v1 : Int32} {h : Hp} {Q : Int32 → Hp → Prop} (hm : m_X0_hasCode v0 v1 h Q) : Ct l G d 0 0 yX0_hasCode MX0_hasCode [tR 0 0 (some v0), tI v1] h (qI Q) := by
  unfold m_X0_hasCode at hm
  refine Ct.of (L := [some (tR 0 0 (some v0)), some (tI v1)]) (by decide) rfl rfl (Nat.le_of_ble_eq_true rfl) rfl ?_
  refine r_iload_n dX0_hasCode_0 rfl rfl ?_
  refine r_if_lt (tgt := 20) dX0_hasCode_1 rfl (fun hc => ?_) (fun hc => ?_)
  · replace hm := hm.1 hc
    refine r_iconst (v := 0) dX0_hasCode_20 rfl ?_
    exact r_bret dX0_hasCode_21 rfl ⟨by decide, by decide⟩ (by unfold bz; decide) ⟨_, rfl, hm⟩
  · replace hm := hm.2 hc
    refine r_iload_n dX0_hasCode_4 rfl rfl ?_
    refine r_iconst (v := 1) dX0_hasCode_5 rfl ?_
    refine r_iconst (v := 5) dX0_hasCode_6 rfl ?_
    refine r_aload_n dX0_hasCode_7 rfl rfl ?_
    refine r_callVI (d' := d - 1) (as := []) (st := [tI 5, tI 1, tI v1]) cl_0 dX0_hasCode_8 mi_X0_allChoices t_906 t_907 t_908 rfl rfl (Nat.le_of_ble_eq_true rfl) (by omega) ⟨by decide, by decide⟩ ⟨rfl, rfl⟩ (s_X0_allChoices (by omega) hm) (fun x1 h2 hm => ?_)
    refine r_iadd dX0_hasCode_11 ?_
    refine r_ishl dX0_hasCode_12 ?_
    refine r_icmp_ge (tgt := 20) dX0_hasCode_13 rfl (fun hc => ?_) (fun hc => ?_)
    · replace hm := hm.1 hc
      refine r_iconst (v := 0) dX0_hasCode_20 rfl ?_
      exact r_bret dX0_hasCode_21 rfl ⟨by decide, by decide⟩ (by unfold bz; decide) ⟨_, rfl, hm⟩
    · replace hm := hm.2 hc
      refine r_iconst (v := 1) dX0_hasCode_16 rfl ?_
      refine r_goto (tgt := 21) dX0_hasCode_17 rfl ?_
      exact r_bret dX0_hasCode_21 rfl ⟨by decide, by decide⟩ (by unfold bz; decide) ⟨_, rfl, hm⟩
theorem dX0_codeFor_0 : decode cX0_codeFor 0 = .ok (.iload_n 0, 1) := rfl
theorem dX0_codeFor_1 : decode cX0_codeFor 1 = .ok (.bipush 31, 2) := by decide +kernel
theorem dX0_codeFor_3 : decode cX0_codeFor 3 = .ok (.iand, 1) := rfl
theorem dX0_codeFor_4 : decode cX0_codeFor 4 = .ok (.iload_n 0, 1) := rfl
theorem dX0_codeFor_5 : decode cX0_codeFor 5 = .ok (.iload_n 1, 1) := rfl
theorem dX0_codeFor_6 : decode cX0_codeFor 6 = .ok (.ishr, 1) := rfl
theorem dX0_codeFor_7 : decode cX0_codeFor 7 = .ok (.bipush (-32), 2) := by decide +kernel
theorem dX0_codeFor_9 : decode cX0_codeFor 9 = .ok (.iand, 1) := rfl
theorem dX0_codeFor_10 : decode cX0_codeFor 10 = .ok (.ior, 1) := rfl
theorem dX0_codeFor_11 : decode cX0_codeFor 11 = .ok (.ireturn, 1) := rfl
def m_X0_codeFor (v0 : Int32) (v1 : Int32) (h : Hp) (Q : Int32 → Hp → Prop) : Prop := Q ((v0 &&& 31) ||| ((v0 >>> (v1 &&& 31)) &&& (-32))) h
set_option maxHeartbeats 4000000 in
set_option maxRecDepth 100000 in
theorem s_X0_codeFor {l : Launch} {G : Cx} {d : Nat} (hd : 2 ≤ d) {v0 : Int32} {v1 : Int32} {h : Hp} {Q : Int32 → Hp → Prop} (hm : m_X0_codeFor v0 v1 h Q) : Ct l G d 0 0 yX0_codeFor MX0_codeFor [tI v0, tI v1] h (qI Q) := by
  unfold m_X0_codeFor at hm
  refine Ct.of (L := [some (tI v0), some (tI v1)]) (by decide) rfl rfl (Nat.le_of_ble_eq_true rfl) rfl ?_
  refine r_iload_n dX0_codeFor_0 rfl rfl ?_
  refine r_bipush (v := 31) dX0_codeFor_1 rfl ?_
  refine r_iand dX0_codeFor_3 ?_
  refine r_iload_n dX0_codeFor_4 rfl rfl ?_
  refine r_iload_n dX0_codeFor_5 rfl rfl ?_
  refine r_ishr dX0_codeFor_6 ?_
  refine r_bipush (v := (-32)) dX0_codeFor_7 rfl ?_
  refine r_iand dX0_codeFor_9 ?_
  refine r_ior dX0_codeFor_10 ?_
  exact r_ireturn dX0_codeFor_11 rfl ⟨by decide, by decide⟩ ⟨_, rfl, hm⟩
theorem dX1_isPassing_0 : decode cX1_isPassing 0 = .ok (.iload_n 2, 1) := rfl
theorem dX1_isPassing_1 : decode cX1_isPassing 1 = .ok (.aload_n 0, 1) := rfl
theorem dX1_isPassing_2 : decode cX1_isPassing 2 = .ok (.getfield 15, 3) := rfl
theorem dX1_isPassing_5 : decode cX1_isPassing 5 = .ok (.iload_n 1, 1) := rfl
theorem dX1_isPassing_6 : decode cX1_isPassing 6 = .ok (.bipush 6, 2) := by decide +kernel
theorem dX1_isPassing_8 : decode cX1_isPassing 8 = .ok (.imul, 1) := rfl
theorem dX1_isPassing_9 : decode cX1_isPassing 9 = .ok (.iconst 4, 1) := rfl
theorem dX1_isPassing_10 : decode cX1_isPassing 10 = .ok (.iadd, 1) := rfl
theorem dX1_isPassing_11 : decode cX1_isPassing 11 = .ok (.iaload, 1) := rfl
theorem dX1_isPassing_12 : decode cX1_isPassing 12 = .ok (.iand, 1) := rfl
theorem dX1_isPassing_13 : decode cX1_isPassing 13 = .ok (.aload_n 0, 1) := rfl
theorem dX1_isPassing_14 : decode cX1_isPassing 14 = .ok (.getfield 15, 3) := rfl
theorem dX1_isPassing_17 : decode cX1_isPassing 17 = .ok (.iload_n 1, 1) := rfl
theorem dX1_isPassing_18 : decode cX1_isPassing 18 = .ok (.bipush 6, 2) := by decide +kernel
theorem dX1_isPassing_20 : decode cX1_isPassing 20 = .ok (.imul, 1) := rfl
theorem dX1_isPassing_21 : decode cX1_isPassing 21 = .ok (.iconst 5, 1) := rfl
theorem dX1_isPassing_22 : decode cX1_isPassing 22 = .ok (.iadd, 1) := rfl
theorem dX1_isPassing_23 : decode cX1_isPassing 23 = .ok (.iaload, 1) := rfl
theorem dX1_isPassing_24 : decode cX1_isPassing 24 = .ok (.if_icmp .ne 7, 3) := by decide +kernel
theorem dX1_isPassing_27 : decode cX1_isPassing 27 = .ok (.iconst 1, 1) := rfl
theorem dX1_isPassing_28 : decode cX1_isPassing 28 = .ok (.goto 4, 3) := by decide +kernel
theorem dX1_isPassing_31 : decode cX1_isPassing 31 = .ok (.iconst 0, 1) := rfl
theorem dX1_isPassing_32 : decode cX1_isPassing 32 = .ok (.ireturn, 1) := rfl
def m_X1_isPassing (v0 : Nat) (v1 : Int32) (v2 : Int32) (h : Hp) (Q : Int32 → Hp → Prop) : Prop := vp_in ((v1 * 6) + 4) 216 ∧ (vp_in ((v1 * 6) + 5) 216 ∧ ((¬ (v2 &&& (hI h (v0 + 2) (ix ((v1 * 6) + 4)))) = (hI h (v0 + 2) (ix ((v1 * 6) + 5))) → Q 0 h) ∧ ((v2 &&& (hI h (v0 + 2) (ix ((v1 * 6) + 4)))) = (hI h (v0 + 2) (ix ((v1 * 6) + 5))) → Q 1 h)))
set_option maxHeartbeats 4000000 in
set_option maxRecDepth 100000 in
theorem s_X1_isPassing {l : Launch} {G : Cx} {d : Nat} (hd : 2 ≤ d) {v0 : Nat} {v1 : Int32} {v2 : Int32} {h : Hp} {Q : Int32 → Hp → Prop} (hm : m_X1_isPassing v0 v1 v2 h Q) : Ct l G d 0 0 yX1_isPassing MX1_isPassing [tR 1 0 (some v0), tI v1, tI v2] h (qI Q) := by
  unfold m_X1_isPassing at hm
  refine Ct.of (L := [some (tR 1 0 (some v0)), some (tI v1), some (tI v2)]) (by decide) rfl rfl (Nat.le_of_ble_eq_true rfl) rfl ?_
  refine r_iload_n dX1_isPassing_0 rfl rfl ?_
  refine r_aload_n dX1_isPassing_1 rfl rfl ?_
  refine r_getC (k := 10) cl_1 dX1_isPassing_2 t_471 gf_1_10.1 gf_1_10.2 (gc_1_10 _) ?_
  refine r_iload_n dX1_isPassing_5 rfl rfl ?_
  refine r_bipush (v := 6) dX1_isPassing_6 rfl ?_
  refine r_imul dX1_isPassing_8 ?_
  refine r_iconst (v := 4) dX1_isPassing_9 rfl ?_
  refine r_iadd dX1_isPassing_10 ?_
  refine r_iald dX1_isPassing_11 hm.1 ?_
  replace hm := hm.2
  refine r_iand dX1_isPassing_12 ?_
  refine r_aload_n dX1_isPassing_13 rfl rfl ?_
  refine r_getC (k := 10) cl_1 dX1_isPassing_14 t_471 gf_1_10.1 gf_1_10.2 (gc_1_10 _) ?_
  refine r_iload_n dX1_isPassing_17 rfl rfl ?_
  refine r_bipush (v := 6) dX1_isPassing_18 rfl ?_
  refine r_imul dX1_isPassing_20 ?_
  refine r_iconst (v := 5) dX1_isPassing_21 rfl ?_
  refine r_iadd dX1_isPassing_22 ?_
  refine r_iald dX1_isPassing_23 hm.1 ?_
  replace hm := hm.2
  refine r_icmp_ne (tgt := 31) dX1_isPassing_24 rfl (fun hc => ?_) (fun hc => ?_)
  · replace hm := hm.1 hc
    refine r_iconst (v := 0) dX1_isPassing_31 rfl ?_
    exact r_bret dX1_isPassing_32 rfl ⟨by decide, by decide⟩ (by unfold bz; decide) ⟨_, rfl, hm⟩
  · replace hm := hm.2 hc
    refine r_iconst (v := 1) dX1_isPassing_27 rfl ?_
    refine r_goto (tgt := 32) dX1_isPassing_28 rfl ?_
    exact r_bret dX1_isPassing_32 rfl ⟨by decide, by decide⟩ (by unfold bz; decide) ⟨_, rfl, hm⟩
theorem dX0_rowsBy_0 : decode cX0_rowsBy 0 = .ok (.iconst 0, 1) := by decide +kernel
theorem dX0_rowsBy_1 : decode cX0_rowsBy 1 = .ok (.istore_n 2, 1) := by decide +kernel
theorem dX0_rowsBy_2 : decode cX0_rowsBy 2 = .ok (.iconst 0, 1) := by decide +kernel
theorem dX0_rowsBy_3 : decode cX0_rowsBy 3 = .ok (.istore_n 3, 1) := by decide +kernel
theorem dX0_rowsBy_4 : decode cX0_rowsBy 4 = .ok (.iconst 0, 1) := by decide +kernel
theorem dX0_rowsBy_5 : decode cX0_rowsBy 5 = .ok (.istore 4, 2) := by decide +kernel
theorem dX0_rowsBy_7 : decode cX0_rowsBy 7 = .ok (.iload 4, 2) := by decide +kernel
theorem dX0_rowsBy_9 : decode cX0_rowsBy 9 = .ok (.aload_n 0, 1) := by decide +kernel
theorem dX0_rowsBy_10 : decode cX0_rowsBy 10 = .ok (.getfield 17, 3) := by decide +kernel
theorem dX0_rowsBy_13 : decode cX0_rowsBy 13 = .ok (.if_icmp .ge 73, 3) := by decide +kernel
theorem dX0_rowsBy_16 : decode cX0_rowsBy 16 = .ok (.iload_n 1, 1) := by decide +kernel
theorem dX0_rowsBy_17 : decode cX0_rowsBy 17 = .ok (.iload_n 3, 1) := by decide +kernel
theorem dX0_rowsBy_18 : decode cX0_rowsBy 18 = .ok (.invokestatic 50, 3) := by decide +kernel
theorem dX0_rowsBy_21 : decode cX0_rowsBy 21 = .ok (.istore 5, 2) := by decide +kernel
theorem dX0_rowsBy_23 : decode cX0_rowsBy 23 = .ok (.iconst 0, 1) := by decide +kernel
theorem dX0_rowsBy_24 : decode cX0_rowsBy 24 = .ok (.istore 6, 2) := by decide +kernel
theorem dX0_rowsBy_26 : decode cX0_rowsBy 26 = .ok (.iload 6, 2) := by decide +kernel
theorem dX0_rowsBy_28 : decode cX0_rowsBy 28 = .ok (.aload_n 0, 1) := by decide +kernel
theorem dX0_rowsBy_29 : decode cX0_rowsBy 29 = .ok (.getfield 11, 3) := by decide +kernel
theorem dX0_rowsBy_32 : decode cX0_rowsBy 32 = .ok (.iload 4, 2) := by decide +kernel
theorem dX0_rowsBy_34 : decode cX0_rowsBy 34 = .ok (.aaload, 1) := by decide +kernel
theorem dX0_rowsBy_35 : decode cX0_rowsBy 35 = .ok (.getfield 54, 3) := by decide +kernel
theorem dX0_rowsBy_38 : decode cX0_rowsBy 38 = .ok (.if_icmp .ge 29, 3) := by decide +kernel
theorem dX0_rowsBy_41 : decode cX0_rowsBy 41 = .ok (.aload_n 0, 1) := by decide +kernel
theorem dX0_rowsBy_42 : decode cX0_rowsBy 42 = .ok (.getfield 11, 3) := by decide +kernel
theorem dX0_rowsBy_45 : decode cX0_rowsBy 45 = .ok (.iload 4, 2) := by decide +kernel
theorem dX0_rowsBy_47 : decode cX0_rowsBy 47 = .ok (.aaload, 1) := by decide +kernel
theorem dX0_rowsBy_48 : decode cX0_rowsBy 48 = .ok (.iload 6, 2) := by decide +kernel
theorem dX0_rowsBy_50 : decode cX0_rowsBy 50 = .ok (.iload 5, 2) := by decide +kernel
theorem dX0_rowsBy_52 : decode cX0_rowsBy 52 = .ok (.invokevirtual 57, 3) := by decide +kernel
theorem dX0_rowsBy_55 : decode cX0_rowsBy 55 = .ok (.ifCond .eq 6, 3) := by decide +kernel
theorem dX0_rowsBy_58 : decode cX0_rowsBy 58 = .ok (.iinc 2 1, 3) := by decide +kernel
theorem dX0_rowsBy_61 : decode cX0_rowsBy 61 = .ok (.iinc 6 1, 3) := by decide +kernel
theorem dX0_rowsBy_64 : decode cX0_rowsBy 64 = .ok (.goto (-38), 3) := by decide +kernel
theorem dX0_rowsBy_67 : decode cX0_rowsBy 67 = .ok (.iload_n 3, 1) := by decide +kernel
theorem dX0_rowsBy_68 : decode cX0_rowsBy 68 = .ok (.aload_n 0, 1) := by decide +kernel
theorem dX0_rowsBy_69 : decode cX0_rowsBy 69 = .ok (.getfield 11, 3) := by decide +kernel
theorem dX0_rowsBy_72 : decode cX0_rowsBy 72 = .ok (.iload 4, 2) := by decide +kernel
theorem dX0_rowsBy_74 : decode cX0_rowsBy 74 = .ok (.aaload, 1) := by decide +kernel
theorem dX0_rowsBy_75 : decode cX0_rowsBy 75 = .ok (.getfield 25, 3) := by decide +kernel
theorem dX0_rowsBy_78 : decode cX0_rowsBy 78 = .ok (.iadd, 1) := by decide +kernel
theorem dX0_rowsBy_79 : decode cX0_rowsBy 79 = .ok (.istore_n 3, 1) := by decide +kernel
theorem dX0_rowsBy_80 : decode cX0_rowsBy 80 = .ok (.iinc 4 1, 3) := by decide +kernel
theorem dX0_rowsBy_83 : decode cX0_rowsBy 83 = .ok (.goto (-76), 3) := by decide +kernel
theorem dX0_rowsBy_86 : decode cX0_rowsBy 86 = .ok (.iload_n 2, 1) := by decide +kernel
theorem dX0_rowsBy_87 : decode cX0_rowsBy 87 = .ok (.ireturn, 1) := by decide +kernel
def m_X0_rowsBy_67 (k7 : Nat → Int32 → Int32 → Int32 → Int32 → Hp → Prop) (Q : Int32 → Hp → Prop) (v0 : Nat) (v1 : Int32) (v2 : Int32) (v3 : Int32) (v4 : Int32) (h : Hp) : Prop := vp_in v4 6 ∧ ∃ b1 : Nat, hR h (v0 + 1) (ix v4) = some b1 ∧ (∀ x2 : Int32, x2 = (v3 + (hI h b1 3)) → ∀ x3 : Int32, x3 = v4 + 1 → k7 v0 v1 v2 x2 x3 h)
set_option maxHeartbeats 4000000 in
set_option maxRecDepth 100000 in
theorem s_X0_rowsBy_67 {l : Launch} {G : Cx} {d : Nat} {h0 : Hp} (hd : 4 ≤ d) {k7 : Nat → Int32 → Int32 → Int32 → Int32 → Hp → Prop} {Q : Int32 → Hp → Prop} (hk7 : ∀ (v0 : Nat) (v1 : Int32) (v2 : Int32) (v3 : Int32) (v4 : Int32) (hh : Hp), k7 v0 v1 v2 v3 v4 hh → Rn l G d 0 0 MX0_rowsBy h0 (qI Q) 7 [some (tR 0 0 (some v0)), some (tI v1), some (tI v2), some (tI v3), some (tI v4)] [] hh 0 0) {v0 : Nat} {v1 : Int32} {v2 : Int32} {v3 : Int32} {v4 : Int32} {h : Hp} (hm : m_X0_rowsBy_67 k7 Q v0 v1 v2 v3 v4 h) : Rn l G d 0 0 MX0_rowsBy h0 (qI Q) 67 [some (tR 0 0 (some v0)), some (tI v1), some (tI v2), some (tI v3), some (tI v4)] [] h 0 0 := by
  unfold m_X0_rowsBy_67 at hm
  refine r_iload_n dX0_rowsBy_67 rfl rfl ?_
  refine r_aload_n dX0_rowsBy_68 rfl rfl ?_
  refine r_getC (k := 0) cl_0 dX0_rowsBy_69 t_121 gf_0_0.1 gf_0_0.2 (gc_0_0 _) ?_
  refine r_iload dX0_rowsBy_72 rfl ?_
  obtain ⟨hi_b1, b1, hb_b1, hm⟩ := hm
  refine r_aaldS (kd := 1) (ti := 5) (cn := RX1) dX0_rowsBy_74 rfl hi_b1 hb_b1 ?_
  refine r_getI (k := 3) cl_1 dX0_rowsBy_75 t_449 (Or.inl rfl) gf_1_3 ?_
  refine r_iadd dX0_rowsBy_78 ?_
  refine r_nmI (fun x2 e_x2 => ?_)
  replace hm := hm x2 e_x2
  refine r_istore_n (L' := [some (tR 0 0 (some v0)), some (tI v1), some (tI v2), some (tI x2), some (tI v4)]) dX0_rowsBy_79 rfl (by decide) rfl ?_
  obtain ⟨x3, e_x3⟩ : ∃ y : Int32, y = v4 + 1 := ⟨_, rfl⟩
  replace hm := hm x3 e_x3
  refine r_iinc (L' := [some (tR 0 0 (some v0)), some (tI v1), some (tI v2), some (tI x2), some (tI x3)]) dX0_rowsBy_80 rfl (by rw [e_x3]; rfl) (by decide) rfl ?_
  refine r_goto (tgt := 7) dX0_rowsBy_83 rfl ?_
  refine r_keep (L' := [some (tR 0 0 (some v0)), some (tI v1), some (tI v2), some (tI x2), some (tI x3)]) [true, true, true, true, true] rfl ?_
  exact hk7 _ _ _ _ _ _ hm
def m_X0_rowsBy_61 (k26 : Nat → Int32 → Int32 → Int32 → Int32 → Int32 → Int32 → Hp → Prop) (k67 : Nat → Int32 → Int32 → Int32 → Int32 → Hp → Prop) (Q : Int32 → Hp → Prop) (v0 : Nat) (v1 : Int32) (v2 : Int32) (v3 : Int32) (v4 : Int32) (v5 : Int32) (v6 : Int32) (h : Hp) : Prop := ∀ x4 : Int32, x4 = v6 + 1 → k26 v0 v1 v2 v3 v4 v5 x4 h
set_option maxHeartbeats 4000000 in
set_option maxRecDepth 100000 in
theorem s_X0_rowsBy_61 {l : Launch} {G : Cx} {d : Nat} {h0 : Hp} (hd : 4 ≤ d) {k26 : Nat → Int32 → Int32 → Int32 → Int32 → Int32 → Int32 → Hp → Prop} {k67 : Nat → Int32 → Int32 → Int32 → Int32 → Hp → Prop} {Q : Int32 → Hp → Prop} (hk26 : ∀ (v0 : Nat) (v1 : Int32) (v2 : Int32) (v3 : Int32) (v4 : Int32) (v5 : Int32) (v6 : Int32) (hh : Hp), k26 v0 v1 v2 v3 v4 v5 v6 hh → Rn l G d 0 0 MX0_rowsBy h0 (qI Q) 26 [some (tR 0 0 (some v0)), some (tI v1), some (tI v2), some (tI v3), some (tI v4), some (tI v5), some (tI v6)] [] hh 0 0) (hk67 : ∀ (v0 : Nat) (v1 : Int32) (v2 : Int32) (v3 : Int32) (v4 : Int32) (hh : Hp), k67 v0 v1 v2 v3 v4 hh → Rn l G d 0 0 MX0_rowsBy h0 (qI Q) 67 [some (tR 0 0 (some v0)), some (tI v1), some (tI v2), some (tI v3), some (tI v4)] [] hh 0 0) {v0 : Nat} {v1 : Int32} {v2 : Int32} {v3 : Int32} {v4 : Int32} {v5 : Int32} {v6 : Int32} {h : Hp} (hm : m_X0_rowsBy_61 k26 k67 Q v0 v1 v2 v3 v4 v5 v6 h) : Rn l G d 0 0 MX0_rowsBy h0 (qI Q) 61 [some (tR 0 0 (some v0)), some (tI v1), some (tI v2), some (tI v3), some (tI v4), some (tI v5), some (tI v6)] [] h 0 0 := by
  unfold m_X0_rowsBy_61 at hm
  obtain ⟨x4, e_x4⟩ : ∃ y : Int32, y = v6 + 1 := ⟨_, rfl⟩
  replace hm := hm x4 e_x4
  refine r_iinc (L' := [some (tR 0 0 (some v0)), some (tI v1), some (tI v2), some (tI v3), some (tI v4), some (tI v5), some (tI x4)]) dX0_rowsBy_61 rfl (by rw [e_x4]; rfl) (by decide) rfl ?_
  refine r_goto (tgt := 26) dX0_rowsBy_64 rfl ?_
  refine r_keep (L' := [some (tR 0 0 (some v0)), some (tI v1), some (tI v2), some (tI v3), some (tI v4), some (tI v5), some (tI x4)]) [true, true, true, true, true, true, true] rfl ?_
  exact hk26 _ _ _ _ _ _ _ _ hm
def m_X0_rowsBy_26 : Nat → (Nat → Int32 → Int32 → Int32 → Int32 → Hp → Prop) → (Int32 → Hp → Prop) → Nat → Int32 → Int32 → Int32 → Int32 → Int32 → Int32 → Hp → Prop
  | 0, _, _, _, _, _, _, _, _, _, _ => False
  | n + 1, k67, Q, v0, v1, v2, v3, v4, v5, v6, h => vp_in v4 6 ∧ ∃ b5 : Nat, hR h (v0 + 1) (ix v4) = some b5 ∧ (((hI h b5 6) ≤ v6 → k67 v0 v1 v2 v3 v4 h) ∧ (¬ (hI h b5 6) ≤ v6 → vp_in v4 6 ∧ ∃ b6 : Nat, hR h (v0 + 1) (ix v4) = some b6 ∧ (m_X1_isPassing b6 v6 v5 h (fun (x7 : Int32) (h8 : Hp) => (x7 = 0 → m_X0_rowsBy_61 (fun (v0 : Nat) (v1 : Int32) (v2 : Int32) (v3 : Int32) (v4 : Int32) (v5 : Int32) (v6 : Int32) (hh : Hp) => m_X0_rowsBy_26 n k67 Q v0 v1 v2 v3 v4 v5 v6 hh) k67 Q v0 v1 v2 v3 v4 v5 v6 h8) ∧ (¬ x7 = 0 → ∀ x9 : Int32, x9 = v2 + 1 → m_X0_rowsBy_61 (fun (v0 : Nat) (v1 : Int32) (v2 : Int32) (v3 : Int32) (v4 : Int32) (v5 : Int32) (v6 : Int32) (hh : Hp) => m_X0_rowsBy_26 n k67 Q v0 v1 v2 v3 v4 v5 v6 hh) k67 Q v0 v1 x9 v3 v4 v5 v6 h8)))))
set_option maxHeartbeats 4000000 in
set_option maxRecDepth 100000 in
theorem s_X0_rowsBy_26 {l : Launch} {G : Cx} {d : Nat} {h0 : Hp} (hd : 4 ≤ d) {k67 : Nat → Int32 → Int32 → Int32 → Int32 → Hp → Prop} {Q : Int32 → Hp → Prop} (hk67 : ∀ (v0 : Nat) (v1 : Int32) (v2 : Int32) (v3 : Int32) (v4 : Int32) (hh : Hp), k67 v0 v1 v2 v3 v4 hh → Rn l G d 0 0 MX0_rowsBy h0 (qI Q) 67 [some (tR 0 0 (some v0)), some (tI v1), some (tI v2), some (tI v3), some (tI v4)] [] hh 0 0) : ∀ {n : Nat} {v0 : Nat} {v1 : Int32} {v2 : Int32} {v3 : Int32} {v4 : Int32} {v5 : Int32} {v6 : Int32} {h : Hp}, m_X0_rowsBy_26 n k67 Q v0 v1 v2 v3 v4 v5 v6 h → Rn l G d 0 0 MX0_rowsBy h0 (qI Q) 26 [some (tR 0 0 (some v0)), some (tI v1), some (tI v2), some (tI v3), some (tI v4), some (tI v5), some (tI v6)] [] h 0 0 := by
  intro n
  induction n with
  | zero => intro v0 v1 v2 v3 v4 v5 v6 h hm; exact hm.elim
  | succ n ih =>
    intro v0 v1 v2 v3 v4 v5 v6 h hm
    have hk26 := fun (v0 : Nat) (v1 : Int32) (v2 : Int32) (v3 : Int32) (v4 : Int32) (v5 : Int32) (v6 : Int32) (hh : Hp) (hm : m_X0_rowsBy_26 n k67 Q v0 v1 v2 v3 v4 v5 v6 hh) => ih hm
    rw [m_X0_rowsBy_26] at hm
    refine r_iload dX0_rowsBy_26 rfl ?_
    refine r_aload_n dX0_rowsBy_28 rfl rfl ?_
    refine r_getC (k := 0) cl_0 dX0_rowsBy_29 t_121 gf_0_0.1 gf_0_0.2 (gc_0_0 _) ?_
    refine r_iload dX0_rowsBy_32 rfl ?_
    obtain ⟨hi_b5, b5, hb_b5, hm⟩ := hm
    refine r_aaldS (kd := 1) (ti := 5) (cn := RX1) dX0_rowsBy_34 rfl hi_b5 hb_b5 ?_
    refine r_getI (k := 6) cl_1 dX0_rowsBy_35 t_463 (Or.inl rfl) gf_1_6 ?_
    refine r_icmp_ge (tgt := 67) dX0_rowsBy_38 rfl (fun hc => ?_) (fun hc => ?_)
    · replace hm := hm.1 hc
      refine r_keep (L' := [some (tR 0 0 (some v0)), some (tI v1), some (tI v2), some (tI v3), some (tI v4)]) [true, true, true, true, true] rfl ?_
      exact hk67 _ _ _ _ _ _ hm
    · replace hm := hm.2 hc
      refine r_aload_n dX0_rowsBy_41 rfl rfl ?_
      refine r_getC (k := 0) cl_0 dX0_rowsBy_42 t_121 gf_0_0.1 gf_0_0.2 (gc_0_0 _) ?_
      refine r_iload dX0_rowsBy_45 rfl ?_
      obtain ⟨hi_b6, b6, hb_b6, hm⟩ := hm
      refine r_aaldS (kd := 1) (ti := 5) (cn := RX1) dX0_rowsBy_47 rfl hi_b6 hb_b6 ?_
      refine r_iload dX0_rowsBy_48 rfl ?_
      refine r_iload dX0_rowsBy_50 rfl ?_
      refine r_callVI (d' := d - 1) (as := [tI v6, tI v5]) (st := []) cl_1 dX0_rowsBy_52 mi_X1_isPassing t_922 t_875 t_876 rfl rfl (Nat.le_of_ble_eq_true rfl) (by omega) ⟨by decide, by decide⟩ ⟨rfl, rfl⟩ (s_X1_isPassing (by omega) hm) (fun x7 h8 hm => ?_)
      refine r_if_eq (tgt := 61) dX0_rowsBy_55 rfl (fun hc => ?_) (fun hc => ?_)
      · replace hm := hm.1 hc
        refine r_keep (L' := [some (tR 0 0 (some v0)), some (tI v1), some (tI v2), some (tI v3), some (tI v4), some (tI v5), some (tI v6)]) [true, true, true, true, true, true, true] rfl ?_
        exact s_X0_rowsBy_61 hd hk26 hk67 hm
      · replace hm := hm.2 hc
        obtain ⟨x9, e_x9⟩ : ∃ y : Int32, y = v2 + 1 := ⟨_, rfl⟩
        replace hm := hm x9 e_x9
        refine r_iinc (L' := [some (tR 0 0 (some v0)), some (tI v1), some (tI x9), some (tI v3), some (tI v4), some (tI v5), some (tI v6)]) dX0_rowsBy_58 rfl (by rw [e_x9]; rfl) (by decide) rfl ?_
        refine r_keep (L' := [some (tR 0 0 (some v0)), some (tI v1), some (tI x9), some (tI v3), some (tI v4), some (tI v5), some (tI v6)]) [true, true, true, true, true, true, true] rfl ?_
        exact s_X0_rowsBy_61 hd hk26 hk67 hm
def m_X0_rowsBy_7 : Nat → (Int32 → Hp → Prop) → Nat → Int32 → Int32 → Int32 → Int32 → Hp → Prop
  | 0, _, _, _, _, _, _, _ => False
  | n + 1, Q, v0, v1, v2, v3, v4, h => ((hI h v0 1) ≤ v4 → Q v2 h) ∧ (¬ (hI h v0 1) ≤ v4 → m_X0_codeFor v1 v3 h (fun (x10 : Int32) (h11 : Hp) => ∃ n26, m_X0_rowsBy_26 n26 (m_X0_rowsBy_67 (fun (v0 : Nat) (v1 : Int32) (v2 : Int32) (v3 : Int32) (v4 : Int32) (hh : Hp) => m_X0_rowsBy_7 n Q v0 v1 v2 v3 v4 hh) Q) Q v0 v1 v2 v3 v4 x10 0 h11))
set_option maxHeartbeats 4000000 in
set_option maxRecDepth 100000 in
theorem s_X0_rowsBy_7 {l : Launch} {G : Cx} {d : Nat} {h0 : Hp} (hd : 4 ≤ d) {Q : Int32 → Hp → Prop} : ∀ {n : Nat} {v0 : Nat} {v1 : Int32} {v2 : Int32} {v3 : Int32} {v4 : Int32} {h : Hp}, m_X0_rowsBy_7 n Q v0 v1 v2 v3 v4 h → Rn l G d 0 0 MX0_rowsBy h0 (qI Q) 7 [some (tR 0 0 (some v0)), some (tI v1), some (tI v2), some (tI v3), some (tI v4)] [] h 0 0 := by
  intro n
  induction n with
  | zero => intro v0 v1 v2 v3 v4 h hm; exact hm.elim
  | succ n ih =>
    intro v0 v1 v2 v3 v4 h hm
    have hk7 := fun (v0 : Nat) (v1 : Int32) (v2 : Int32) (v3 : Int32) (v4 : Int32) (hh : Hp) (hm : m_X0_rowsBy_7 n Q v0 v1 v2 v3 v4 hh) => ih hm
    rw [m_X0_rowsBy_7] at hm
    refine r_iload dX0_rowsBy_7 rfl ?_
    refine r_aload_n dX0_rowsBy_9 rfl rfl ?_
    refine r_getI (k := 1) cl_0 dX0_rowsBy_10 t_125 (Or.inl rfl) gf_0_1 ?_
    refine r_icmp_ge (tgt := 86) dX0_rowsBy_13 rfl (fun hc => ?_) (fun hc => ?_)
    · replace hm := hm.1 hc
      refine r_iload_n dX0_rowsBy_86 rfl rfl ?_
      exact r_ireturn dX0_rowsBy_87 rfl ⟨by decide, by decide⟩ ⟨_, rfl, hm⟩
    · replace hm := hm.2 hc
      refine r_iload_n dX0_rowsBy_16 rfl rfl ?_
      refine r_iload_n dX0_rowsBy_17 rfl rfl ?_
      refine r_callSI (d' := d - 1) (as := [tI v1, tI v3]) (st := []) dX0_rowsBy_18 mi_X0_codeFor t_919 t_920 rfl rfl (Nat.le_of_ble_eq_true rfl) (by omega) ⟨by decide, by decide⟩ ⟨rfl, rfl⟩ (s_X0_codeFor (by omega) hm) (fun x10 h11 hm => ?_)
      refine r_istore (L' := [some (tR 0 0 (some v0)), some (tI v1), some (tI v2), some (tI v3), some (tI v4), some (tI x10)]) dX0_rowsBy_21 (by decide) rfl ?_
      refine r_iconst (v := 0) dX0_rowsBy_23 rfl ?_
      refine r_istore (L' := [some (tR 0 0 (some v0)), some (tI v1), some (tI v2), some (tI v3), some (tI v4), some (tI x10), some (tI 0)]) dX0_rowsBy_24 (by decide) rfl ?_
      refine r_keep (L' := [some (tR 0 0 (some v0)), some (tI v1), some (tI v2), some (tI v3), some (tI v4), some (tI x10), some (tI 0)]) [true, true, true, true, true, true, true] rfl ?_
      obtain ⟨n, hm⟩ := hm
      refine s_X0_rowsBy_26 hd ?_ hm
      · exact (fun _ _ _ _ _ _ hm => s_X0_rowsBy_67 hd hk7 hm)
def m_X0_rowsBy (v0 : Nat) (v1 : Int32) (h : Hp) (Q : Int32 → Hp → Prop) : Prop := ∃ n7, m_X0_rowsBy_7 n7 Q v0 v1 0 0 0 h
set_option maxHeartbeats 4000000 in
set_option maxRecDepth 100000 in
theorem s_X0_rowsBy {l : Launch} {G : Cx} {d : Nat} (hd : 4 ≤ d) {v0 : Nat} {v1 : Int32} {h : Hp} {Q : Int32 → Hp → Prop} (hm : m_X0_rowsBy v0 v1 h Q) : Ct l G d 0 0 yX0_rowsBy MX0_rowsBy [tR 0 0 (some v0), tI v1] h (qI Q) := by
  unfold m_X0_rowsBy at hm
  refine Ct.of (L := [some (tR 0 0 (some v0)), some (tI v1)]) (by decide) rfl rfl (Nat.le_of_ble_eq_true rfl) rfl ?_
  refine r_iconst (v := 0) dX0_rowsBy_0 rfl ?_
  refine r_istore_n (L' := [some (tR 0 0 (some v0)), some (tI v1), some (tI 0)]) dX0_rowsBy_1 rfl (by decide) rfl ?_
  refine r_iconst (v := 0) dX0_rowsBy_2 rfl ?_
  refine r_istore_n (L' := [some (tR 0 0 (some v0)), some (tI v1), some (tI 0), some (tI 0)]) dX0_rowsBy_3 rfl (by decide) rfl ?_
  refine r_iconst (v := 0) dX0_rowsBy_4 rfl ?_
  refine r_istore (L' := [some (tR 0 0 (some v0)), some (tI v1), some (tI 0), some (tI 0), some (tI 0)]) dX0_rowsBy_5 (by decide) rfl ?_
  refine r_keep (L' := [some (tR 0 0 (some v0)), some (tI v1), some (tI 0), some (tI 0), some (tI 0)]) [true, true, true, true, true] rfl ?_
  obtain ⟨n, hm⟩ := hm
  refine s_X0_rowsBy_7 hd hm
theorem dX0_toldOfRow_0 : decode cX0_toldOfRow 0 = .ok (.iconst 0, 1) := by decide +kernel
theorem dX0_toldOfRow_1 : decode cX0_toldOfRow 1 = .ok (.istore 4, 2) := by decide +kernel
theorem dX0_toldOfRow_3 : decode cX0_toldOfRow 3 = .ok (.iconst 0, 1) := by decide +kernel
theorem dX0_toldOfRow_4 : decode cX0_toldOfRow 4 = .ok (.istore 5, 2) := by decide +kernel
theorem dX0_toldOfRow_6 : decode cX0_toldOfRow 6 = .ok (.iconst 0, 1) := by decide +kernel
theorem dX0_toldOfRow_7 : decode cX0_toldOfRow 7 = .ok (.istore 6, 2) := by decide +kernel
theorem dX0_toldOfRow_9 : decode cX0_toldOfRow 9 = .ok (.iload 6, 2) := by decide +kernel
theorem dX0_toldOfRow_11 : decode cX0_toldOfRow 11 = .ok (.aload_n 0, 1) := by decide +kernel
theorem dX0_toldOfRow_12 : decode cX0_toldOfRow 12 = .ok (.getfield 17, 3) := by decide +kernel
theorem dX0_toldOfRow_15 : decode cX0_toldOfRow 15 = .ok (.if_icmp .ge 123, 3) := by decide +kernel
theorem dX0_toldOfRow_18 : decode cX0_toldOfRow 18 = .ok (.iload_n 1, 1) := by decide +kernel
theorem dX0_toldOfRow_19 : decode cX0_toldOfRow 19 = .ok (.iload 5, 2) := by decide +kernel
theorem dX0_toldOfRow_21 : decode cX0_toldOfRow 21 = .ok (.invokestatic 50, 3) := by decide +kernel
theorem dX0_toldOfRow_24 : decode cX0_toldOfRow 24 = .ok (.istore 7, 2) := by decide +kernel
theorem dX0_toldOfRow_26 : decode cX0_toldOfRow 26 = .ok (.iconst 0, 1) := by decide +kernel
theorem dX0_toldOfRow_27 : decode cX0_toldOfRow 27 = .ok (.istore 8, 2) := by decide +kernel
theorem dX0_toldOfRow_29 : decode cX0_toldOfRow 29 = .ok (.iload 8, 2) := by decide +kernel
theorem dX0_toldOfRow_31 : decode cX0_toldOfRow 31 = .ok (.aload_n 0, 1) := by decide +kernel
theorem dX0_toldOfRow_32 : decode cX0_toldOfRow 32 = .ok (.getfield 11, 3) := by decide +kernel
theorem dX0_toldOfRow_35 : decode cX0_toldOfRow 35 = .ok (.iload 6, 2) := by decide +kernel
theorem dX0_toldOfRow_37 : decode cX0_toldOfRow 37 = .ok (.aaload, 1) := by decide +kernel
theorem dX0_toldOfRow_38 : decode cX0_toldOfRow 38 = .ok (.getfield 54, 3) := by decide +kernel
theorem dX0_toldOfRow_41 : decode cX0_toldOfRow 41 = .ok (.if_icmp .ge 76, 3) := by decide +kernel
theorem dX0_toldOfRow_44 : decode cX0_toldOfRow 44 = .ok (.aload_n 0, 1) := by decide +kernel
theorem dX0_toldOfRow_45 : decode cX0_toldOfRow 45 = .ok (.getfield 11, 3) := by decide +kernel
theorem dX0_toldOfRow_48 : decode cX0_toldOfRow 48 = .ok (.iload 6, 2) := by decide +kernel
theorem dX0_toldOfRow_50 : decode cX0_toldOfRow 50 = .ok (.aaload, 1) := by decide +kernel
theorem dX0_toldOfRow_51 : decode cX0_toldOfRow 51 = .ok (.iload 8, 2) := by decide +kernel
theorem dX0_toldOfRow_53 : decode cX0_toldOfRow 53 = .ok (.iload 7, 2) := by decide +kernel
theorem dX0_toldOfRow_55 : decode cX0_toldOfRow 55 = .ok (.invokevirtual 57, 3) := by decide +kernel
theorem dX0_toldOfRow_58 : decode cX0_toldOfRow 58 = .ok (.ifCond .eq 53, 3) := by decide +kernel
theorem dX0_toldOfRow_61 : decode cX0_toldOfRow 61 = .ok (.iload 4, 2) := by decide +kernel
theorem dX0_toldOfRow_63 : decode cX0_toldOfRow 63 = .ok (.iload_n 2, 1) := by decide +kernel
theorem dX0_toldOfRow_64 : decode cX0_toldOfRow 64 = .ok (.if_icmp .ne 44, 3) := by decide +kernel
theorem dX0_toldOfRow_67 : decode cX0_toldOfRow 67 = .ok (.iload_n 3, 1) := by decide +kernel
theorem dX0_toldOfRow_68 : decode cX0_toldOfRow 68 = .ok (.iconst 4, 1) := by decide +kernel
theorem dX0_toldOfRow_69 : decode cX0_toldOfRow 69 = .ok (.if_icmp .ne 19, 3) := by decide +kernel
theorem dX0_toldOfRow_72 : decode cX0_toldOfRow 72 = .ok (.aload_n 0, 1) := by decide +kernel
theorem dX0_toldOfRow_73 : decode cX0_toldOfRow 73 = .ok (.getfield 11, 3) := by decide +kernel
theorem dX0_toldOfRow_76 : decode cX0_toldOfRow 76 = .ok (.iload 6, 2) := by decide +kernel
theorem dX0_toldOfRow_78 : decode cX0_toldOfRow 78 = .ok (.aaload, 1) := by decide +kernel
theorem dX0_toldOfRow_79 : decode cX0_toldOfRow 79 = .ok (.getfield 61, 3) := by decide +kernel
theorem dX0_toldOfRow_82 : decode cX0_toldOfRow 82 = .ok (.iload 8, 2) := by decide +kernel
theorem dX0_toldOfRow_84 : decode cX0_toldOfRow 84 = .ok (.laload, 1) := by decide +kernel
theorem dX0_toldOfRow_85 : decode cX0_toldOfRow 85 = .ok (.goto 22, 3) := by decide +kernel
theorem dX0_toldOfRow_88 : decode cX0_toldOfRow 88 = .ok (.aload_n 0, 1) := by decide +kernel
theorem dX0_toldOfRow_89 : decode cX0_toldOfRow 89 = .ok (.getfield 11, 3) := by decide +kernel
theorem dX0_toldOfRow_92 : decode cX0_toldOfRow 92 = .ok (.iload 6, 2) := by decide +kernel
theorem dX0_toldOfRow_94 : decode cX0_toldOfRow 94 = .ok (.aaload, 1) := by decide +kernel
theorem dX0_toldOfRow_95 : decode cX0_toldOfRow 95 = .ok (.getfield 65, 3) := by decide +kernel
theorem dX0_toldOfRow_98 : decode cX0_toldOfRow 98 = .ok (.iload 8, 2) := by decide +kernel
theorem dX0_toldOfRow_100 : decode cX0_toldOfRow 100 = .ok (.bipush 6, 2) := by decide +kernel
theorem dX0_toldOfRow_102 : decode cX0_toldOfRow 102 = .ok (.imul, 1) := by decide +kernel
theorem dX0_toldOfRow_103 : decode cX0_toldOfRow 103 = .ok (.iload_n 3, 1) := by decide +kernel
theorem dX0_toldOfRow_104 : decode cX0_toldOfRow 104 = .ok (.iadd, 1) := by decide +kernel
theorem dX0_toldOfRow_105 : decode cX0_toldOfRow 105 = .ok (.iaload, 1) := by decide +kernel
theorem dX0_toldOfRow_106 : decode cX0_toldOfRow 106 = .ok (.i2l, 1) := by decide +kernel
theorem dX0_toldOfRow_107 : decode cX0_toldOfRow 107 = .ok (.lreturn, 1) := by decide +kernel
theorem dX0_toldOfRow_108 : decode cX0_toldOfRow 108 = .ok (.iinc 4 1, 3) := by decide +kernel
theorem dX0_toldOfRow_111 : decode cX0_toldOfRow 111 = .ok (.iinc 8 1, 3) := by decide +kernel
theorem dX0_toldOfRow_114 : decode cX0_toldOfRow 114 = .ok (.goto (-85), 3) := by decide +kernel
theorem dX0_toldOfRow_117 : decode cX0_toldOfRow 117 = .ok (.iload 5, 2) := by decide +kernel
theorem dX0_toldOfRow_119 : decode cX0_toldOfRow 119 = .ok (.aload_n 0, 1) := by decide +kernel
theorem dX0_toldOfRow_120 : decode cX0_toldOfRow 120 = .ok (.getfield 11, 3) := by decide +kernel
theorem dX0_toldOfRow_123 : decode cX0_toldOfRow 123 = .ok (.iload 6, 2) := by decide +kernel
theorem dX0_toldOfRow_125 : decode cX0_toldOfRow 125 = .ok (.aaload, 1) := by decide +kernel
theorem dX0_toldOfRow_126 : decode cX0_toldOfRow 126 = .ok (.getfield 25, 3) := by decide +kernel
theorem dX0_toldOfRow_129 : decode cX0_toldOfRow 129 = .ok (.iadd, 1) := by decide +kernel
theorem dX0_toldOfRow_130 : decode cX0_toldOfRow 130 = .ok (.istore 5, 2) := by decide +kernel
theorem dX0_toldOfRow_132 : decode cX0_toldOfRow 132 = .ok (.iinc 6 1, 3) := by decide +kernel
theorem dX0_toldOfRow_135 : decode cX0_toldOfRow 135 = .ok (.goto (-126), 3) := by decide +kernel
theorem dX0_toldOfRow_138 : decode cX0_toldOfRow 138 = .ok (.ldc2_w 69, 3) := by decide +kernel
theorem dX0_toldOfRow_141 : decode cX0_toldOfRow 141 = .ok (.lreturn, 1) := by decide +kernel
def m_X0_toldOfRow_117 (k9 : Nat → Int32 → Int32 → Int32 → Int32 → Int32 → Int32 → Hp → Prop) (k67 : Nat → Int32 → Int32 → Int32 → Hp → Prop) (Q : Int64 → Hp → Prop) (v0 : Nat) (v1 : Int32) (v2 : Int32) (v3 : Int32) (v4 : Int32) (v5 : Int32) (v6 : Int32) (h : Hp) : Prop := vp_in v6 6 ∧ ∃ b1 : Nat, hR h (v0 + 1) (ix v6) = some b1 ∧ (∀ x2 : Int32, x2 = (v5 + (hI h b1 3)) → ∀ x3 : Int32, x3 = v6 + 1 → k9 v0 v1 v2 v3 v4 x2 x3 h)
set_option maxHeartbeats 4000000 in
set_option maxRecDepth 100000 in
theorem s_X0_toldOfRow_117 {l : Launch} {G : Cx} {d : Nat} {h0 : Hp} (hd : 4 ≤ d) {k9 : Nat → Int32 → Int32 → Int32 → Int32 → Int32 → Int32 → Hp → Prop} {k67 : Nat → Int32 → Int32 → Int32 → Hp → Prop} {Q : Int64 → Hp → Prop} (hk9 : ∀ (v0 : Nat) (v1 : Int32) (v2 : Int32) (v3 : Int32) (v4 : Int32) (v5 : Int32) (v6 : Int32) (hh : Hp), k9 v0 v1 v2 v3 v4 v5 v6 hh → Rn l G d 0 0 MX0_toldOfRow h0 (qJ Q) 9 [some (tR 0 0 (some v0)), some (tI v1), some (tI v2), some (tI v3), some (tI v4), some (tI v5), some (tI v6)] [] hh 0 0) (hk67 : ∀ (v0 : Nat) (v3 : Int32) (v6 : Int32) (v8 : Int32) (hh : Hp), k67 v0 v3 v6 v8 hh → Rn l G d 0 0 MX0_toldOfRow h0 (qJ Q) 67 [some (tR 0 0 (some v0)), none, none, some (tI v3), none, none, some (tI v6), none, some (tI v8)] [] hh 0 0) {v0 : Nat} {v1 : Int32} {v2 : Int32} {v3 : Int32} {v4 : Int32} {v5 : Int32} {v6 : Int32} {h : Hp} (hm : m_X0_toldOfRow_117 k9 k67 Q v0 v1 v2 v3 v4 v5 v6 h) : Rn l G d 0 0 MX0_toldOfRow h0 (qJ Q) 117 [some (tR 0 0 (some v0)), some (tI v1), some (tI v2), some (tI v3), some (tI v4), some (tI v5), some (tI v6)] [] h 0 0 := by
  unfold m_X0_toldOfRow_117 at hm
  refine r_iload dX0_toldOfRow_117 rfl ?_
  refine r_aload_n dX0_toldOfRow_119 rfl rfl ?_
  refine r_getC (k := 0) cl_0 dX0_toldOfRow_120 t_121 gf_0_0.1 gf_0_0.2 (gc_0_0 _) ?_
  refine r_iload dX0_toldOfRow_123 rfl ?_
  obtain ⟨hi_b1, b1, hb_b1, hm⟩ := hm
  refine r_aaldS (kd := 1) (ti := 5) (cn := RX1) dX0_toldOfRow_125 rfl hi_b1 hb_b1 ?_
  refine r_getI (k := 3) cl_1 dX0_toldOfRow_126 t_449 (Or.inl rfl) gf_1_3 ?_
  refine r_iadd dX0_toldOfRow_129 ?_
  refine r_nmI (fun x2 e_x2 => ?_)
  replace hm := hm x2 e_x2
  refine r_istore (L' := [some (tR 0 0 (some v0)), some (tI v1), some (tI v2), some (tI v3), some (tI v4), some (tI x2), some (tI v6)]) dX0_toldOfRow_130 (by decide) rfl ?_
  obtain ⟨x3, e_x3⟩ : ∃ y : Int32, y = v6 + 1 := ⟨_, rfl⟩
  replace hm := hm x3 e_x3
  refine r_iinc (L' := [some (tR 0 0 (some v0)), some (tI v1), some (tI v2), some (tI v3), some (tI v4), some (tI x2), some (tI x3)]) dX0_toldOfRow_132 rfl (by rw [e_x3]; rfl) (by decide) rfl ?_
  refine r_goto (tgt := 9) dX0_toldOfRow_135 rfl ?_
  refine r_keep (L' := [some (tR 0 0 (some v0)), some (tI v1), some (tI v2), some (tI v3), some (tI v4), some (tI x2), some (tI x3)]) [true, true, true, true, true, true, true] rfl ?_
  exact hk9 _ _ _ _ _ _ _ _ hm
def m_X0_toldOfRow_111 (k29 : Nat → Int32 → Int32 → Int32 → Int32 → Int32 → Int32 → Int32 → Int32 → Hp → Prop) (k67 : Nat → Int32 → Int32 → Int32 → Hp → Prop) (k117 : Nat → Int32 → Int32 → Int32 → Int32 → Int32 → Int32 → Hp → Prop) (Q : Int64 → Hp → Prop) (v0 : Nat) (v1 : Int32) (v2 : Int32) (v3 : Int32) (v4 : Int32) (v5 : Int32) (v6 : Int32) (v7 : Int32) (v8 : Int32) (h : Hp) : Prop := ∀ x4 : Int32, x4 = v8 + 1 → k29 v0 v1 v2 v3 v4 v5 v6 v7 x4 h
set_option maxHeartbeats 4000000 in
set_option maxRecDepth 100000 in
theorem s_X0_toldOfRow_111 {l : Launch} {G : Cx} {d : Nat} {h0 : Hp} (hd : 4 ≤ d) {k29 : Nat → Int32 → Int32 → Int32 → Int32 → Int32 → Int32 → Int32 → Int32 → Hp → Prop} {k67 : Nat → Int32 → Int32 → Int32 → Hp → Prop} {k117 : Nat → Int32 → Int32 → Int32 → Int32 → Int32 → Int32 → Hp → Prop} {Q : Int64 → Hp → Prop} (hk29 : ∀ (v0 : Nat) (v1 : Int32) (v2 : Int32) (v3 : Int32) (v4 : Int32) (v5 : Int32) (v6 : Int32) (v7 : Int32) (v8 : Int32) (hh : Hp), k29 v0 v1 v2 v3 v4 v5 v6 v7 v8 hh → Rn l G d 0 0 MX0_toldOfRow h0 (qJ Q) 29 [some (tR 0 0 (some v0)), some (tI v1), some (tI v2), some (tI v3), some (tI v4), some (tI v5), some (tI v6), some (tI v7), some (tI v8)] [] hh 0 0) (hk67 : ∀ (v0 : Nat) (v3 : Int32) (v6 : Int32) (v8 : Int32) (hh : Hp), k67 v0 v3 v6 v8 hh → Rn l G d 0 0 MX0_toldOfRow h0 (qJ Q) 67 [some (tR 0 0 (some v0)), none, none, some (tI v3), none, none, some (tI v6), none, some (tI v8)] [] hh 0 0) (hk117 : ∀ (v0 : Nat) (v1 : Int32) (v2 : Int32) (v3 : Int32) (v4 : Int32) (v5 : Int32) (v6 : Int32) (hh : Hp), k117 v0 v1 v2 v3 v4 v5 v6 hh → Rn l G d 0 0 MX0_toldOfRow h0 (qJ Q) 117 [some (tR 0 0 (some v0)), some (tI v1), some (tI v2), some (tI v3), some (tI v4), some (tI v5), some (tI v6)] [] hh 0 0) {v0 : Nat} {v1 : Int32} {v2 : Int32} {v3 : Int32} {v4 : Int32} {v5 : Int32} {v6 : Int32} {v7 : Int32} {v8 : Int32} {h : Hp} (hm : m_X0_toldOfRow_111 k29 k67 k117 Q v0 v1 v2 v3 v4 v5 v6 v7 v8 h) : Rn l G d 0 0 MX0_toldOfRow h0 (qJ Q) 111 [some (tR 0 0 (some v0)), some (tI v1), some (tI v2), some (tI v3), some (tI v4), some (tI v5), some (tI v6), some (tI v7), some (tI v8)] [] h 0 0 := by
  unfold m_X0_toldOfRow_111 at hm
  obtain ⟨x4, e_x4⟩ : ∃ y : Int32, y = v8 + 1 := ⟨_, rfl⟩
  replace hm := hm x4 e_x4
  refine r_iinc (L' := [some (tR 0 0 (some v0)), some (tI v1), some (tI v2), some (tI v3), some (tI v4), some (tI v5), some (tI v6), some (tI v7), some (tI x4)]) dX0_toldOfRow_111 rfl (by rw [e_x4]; rfl) (by decide) rfl ?_
  refine r_goto (tgt := 29) dX0_toldOfRow_114 rfl ?_
  refine r_keep (L' := [some (tR 0 0 (some v0)), some (tI v1), some (tI v2), some (tI v3), some (tI v4), some (tI v5), some (tI v6), some (tI v7), some (tI x4)]) [true, true, true, true, true, true, true, true, true] rfl ?_
  exact hk29 _ _ _ _ _ _ _ _ _ _ hm
def m_X0_toldOfRow_67  (Q : Int64 → Hp → Prop) (v0 : Nat) (v3 : Int32) (v6 : Int32) (v8 : Int32) (h : Hp) : Prop := (¬ v3 = 4 → vp_in v6 6 ∧ ∃ b5 : Nat, hR h (v0 + 1) (ix v6) = some b5 ∧ (vp_in ((v8 * 6) + v3) 216 ∧ (Q ((hI h (b5 + 2) (ix ((v8 * 6) + v3))).toInt64) h))) ∧ (v3 = 4 → vp_in v6 6 ∧ ∃ b6 : Nat, hR h (v0 + 1) (ix v6) = some b6 ∧ (vp_in v8 36 ∧ (Q (hJ h (b6 + 3) (ix v8)) h)))
set_option maxHeartbeats 4000000 in
set_option maxRecDepth 100000 in
theorem s_X0_toldOfRow_67 {l : Launch} {G : Cx} {d : Nat} {h0 : Hp} (hd : 4 ≤ d) {Q : Int64 → Hp → Prop} {v0 : Nat} {v3 : Int32} {v6 : Int32} {v8 : Int32} {h : Hp} (hm : m_X0_toldOfRow_67 Q v0 v3 v6 v8 h) : Rn l G d 0 0 MX0_toldOfRow h0 (qJ Q) 67 [some (tR 0 0 (some v0)), none, none, some (tI v3), none, none, some (tI v6), none, some (tI v8)] [] h 0 0 := by
  unfold m_X0_toldOfRow_67 at hm
  refine r_iload_n dX0_toldOfRow_67 rfl rfl ?_
  refine r_iconst (v := 4) dX0_toldOfRow_68 rfl ?_
  refine r_icmp_ne (tgt := 88) dX0_toldOfRow_69 rfl (fun hc => ?_) (fun hc => ?_)
  · replace hm := hm.1 hc
    refine r_aload_n dX0_toldOfRow_88 rfl rfl ?_
    refine r_getC (k := 0) cl_0 dX0_toldOfRow_89 t_121 gf_0_0.1 gf_0_0.2 (gc_0_0 _) ?_
    refine r_iload dX0_toldOfRow_92 rfl ?_
    obtain ⟨hi_b5, b5, hb_b5, hm⟩ := hm
    refine r_aaldS (kd := 1) (ti := 5) (cn := RX1) dX0_toldOfRow_94 rfl hi_b5 hb_b5 ?_
    refine r_getC (k := 10) cl_1 dX0_toldOfRow_95 t_474 gf_1_10.1 gf_1_10.2 (gc_1_10 _) ?_
    refine r_iload dX0_toldOfRow_98 rfl ?_
    refine r_bipush (v := 6) dX0_toldOfRow_100 rfl ?_
    refine r_imul dX0_toldOfRow_102 ?_
    refine r_iload_n dX0_toldOfRow_103 rfl rfl ?_
    refine r_iadd dX0_toldOfRow_104 ?_
    refine r_iald dX0_toldOfRow_105 hm.1 ?_
    replace hm := hm.2
    refine r_i2l dX0_toldOfRow_106 ?_
    exact r_lreturn dX0_toldOfRow_107 rfl ⟨by decide, by decide⟩ ⟨_, rfl, hm⟩
  · replace hm := hm.2 hc
    refine r_aload_n dX0_toldOfRow_72 rfl rfl ?_
    refine r_getC (k := 0) cl_0 dX0_toldOfRow_73 t_121 gf_0_0.1 gf_0_0.2 (gc_0_0 _) ?_
    refine r_iload dX0_toldOfRow_76 rfl ?_
    obtain ⟨hi_b6, b6, hb_b6, hm⟩ := hm
    refine r_aaldS (kd := 1) (ti := 5) (cn := RX1) dX0_toldOfRow_78 rfl hi_b6 hb_b6 ?_
    refine r_getC (k := 11) cl_1 dX0_toldOfRow_79 t_478 gf_1_11.1 gf_1_11.2 (gc_1_11 _) ?_
    refine r_iload dX0_toldOfRow_82 rfl ?_
    refine r_lald dX0_toldOfRow_84 hm.1 ?_
    replace hm := hm.2
    refine r_goto (tgt := 107) dX0_toldOfRow_85 rfl ?_
    exact r_lreturn dX0_toldOfRow_107 rfl ⟨by decide, by decide⟩ ⟨_, rfl, hm⟩
def m_X0_toldOfRow_29 : Nat → (Nat → Int32 → Int32 → Int32 → Hp → Prop) → (Nat → Int32 → Int32 → Int32 → Int32 → Int32 → Int32 → Hp → Prop) → (Int64 → Hp → Prop) → Nat → Int32 → Int32 → Int32 → Int32 → Int32 → Int32 → Int32 → Int32 → Hp → Prop
  | 0, _, _, _, _, _, _, _, _, _, _, _, _, _ => False
  | n + 1, k67, k117, Q, v0, v1, v2, v3, v4, v5, v6, v7, v8, h => vp_in v6 6 ∧ ∃ b7 : Nat, hR h (v0 + 1) (ix v6) = some b7 ∧ (((hI h b7 6) ≤ v8 → k117 v0 v1 v2 v3 v4 v5 v6 h) ∧ (¬ (hI h b7 6) ≤ v8 → vp_in v6 6 ∧ ∃ b8 : Nat, hR h (v0 + 1) (ix v6) = some b8 ∧ (m_X1_isPassing b8 v8 v7 h (fun (x9 : Int32) (h10 : Hp) => (x9 = 0 → m_X0_toldOfRow_111 (fun (v0 : Nat) (v1 : Int32) (v2 : Int32) (v3 : Int32) (v4 : Int32) (v5 : Int32) (v6 : Int32) (v7 : Int32) (v8 : Int32) (hh : Hp) => m_X0_toldOfRow_29 n k67 k117 Q v0 v1 v2 v3 v4 v5 v6 v7 v8 hh) k67 k117 Q v0 v1 v2 v3 v4 v5 v6 v7 v8 h10) ∧ (¬ x9 = 0 → (¬ v4 = v2 → ∀ x11 : Int32, x11 = v4 + 1 → m_X0_toldOfRow_111 (fun (v0 : Nat) (v1 : Int32) (v2 : Int32) (v3 : Int32) (v4 : Int32) (v5 : Int32) (v6 : Int32) (v7 : Int32) (v8 : Int32) (hh : Hp) => m_X0_toldOfRow_29 n k67 k117 Q v0 v1 v2 v3 v4 v5 v6 v7 v8 hh) k67 k117 Q v0 v1 v2 v3 x11 v5 v6 v7 v8 h10) ∧ (v4 = v2 → k67 v0 v3 v6 v8 h10))))))
set_option maxHeartbeats 4000000 in
set_option maxRecDepth 100000 in
theorem s_X0_toldOfRow_29 {l : Launch} {G : Cx} {d : Nat} {h0 : Hp} (hd : 4 ≤ d) {k67 : Nat → Int32 → Int32 → Int32 → Hp → Prop} {k117 : Nat → Int32 → Int32 → Int32 → Int32 → Int32 → Int32 → Hp → Prop} {Q : Int64 → Hp → Prop} (hk67 : ∀ (v0 : Nat) (v3 : Int32) (v6 : Int32) (v8 : Int32) (hh : Hp), k67 v0 v3 v6 v8 hh → Rn l G d 0 0 MX0_toldOfRow h0 (qJ Q) 67 [some (tR 0 0 (some v0)), none, none, some (tI v3), none, none, some (tI v6), none, some (tI v8)] [] hh 0 0) (hk117 : ∀ (v0 : Nat) (v1 : Int32) (v2 : Int32) (v3 : Int32) (v4 : Int32) (v5 : Int32) (v6 : Int32) (hh : Hp), k117 v0 v1 v2 v3 v4 v5 v6 hh → Rn l G d 0 0 MX0_toldOfRow h0 (qJ Q) 117 [some (tR 0 0 (some v0)), some (tI v1), some (tI v2), some (tI v3), some (tI v4), some (tI v5), some (tI v6)] [] hh 0 0) : ∀ {n : Nat} {v0 : Nat} {v1 : Int32} {v2 : Int32} {v3 : Int32} {v4 : Int32} {v5 : Int32} {v6 : Int32} {v7 : Int32} {v8 : Int32} {h : Hp}, m_X0_toldOfRow_29 n k67 k117 Q v0 v1 v2 v3 v4 v5 v6 v7 v8 h → Rn l G d 0 0 MX0_toldOfRow h0 (qJ Q) 29 [some (tR 0 0 (some v0)), some (tI v1), some (tI v2), some (tI v3), some (tI v4), some (tI v5), some (tI v6), some (tI v7), some (tI v8)] [] h 0 0 := by
  intro n
  induction n with
  | zero => intro v0 v1 v2 v3 v4 v5 v6 v7 v8 h hm; exact hm.elim
  | succ n ih =>
    intro v0 v1 v2 v3 v4 v5 v6 v7 v8 h hm
    have hk29 := fun (v0 : Nat) (v1 : Int32) (v2 : Int32) (v3 : Int32) (v4 : Int32) (v5 : Int32) (v6 : Int32) (v7 : Int32) (v8 : Int32) (hh : Hp) (hm : m_X0_toldOfRow_29 n k67 k117 Q v0 v1 v2 v3 v4 v5 v6 v7 v8 hh) => ih hm
    rw [m_X0_toldOfRow_29] at hm
    refine r_iload dX0_toldOfRow_29 rfl ?_
    refine r_aload_n dX0_toldOfRow_31 rfl rfl ?_
    refine r_getC (k := 0) cl_0 dX0_toldOfRow_32 t_121 gf_0_0.1 gf_0_0.2 (gc_0_0 _) ?_
    refine r_iload dX0_toldOfRow_35 rfl ?_
    obtain ⟨hi_b7, b7, hb_b7, hm⟩ := hm
    refine r_aaldS (kd := 1) (ti := 5) (cn := RX1) dX0_toldOfRow_37 rfl hi_b7 hb_b7 ?_
    refine r_getI (k := 6) cl_1 dX0_toldOfRow_38 t_463 (Or.inl rfl) gf_1_6 ?_
    refine r_icmp_ge (tgt := 117) dX0_toldOfRow_41 rfl (fun hc => ?_) (fun hc => ?_)
    · replace hm := hm.1 hc
      refine r_keep (L' := [some (tR 0 0 (some v0)), some (tI v1), some (tI v2), some (tI v3), some (tI v4), some (tI v5), some (tI v6)]) [true, true, true, true, true, true, true] rfl ?_
      exact hk117 _ _ _ _ _ _ _ _ hm
    · replace hm := hm.2 hc
      refine r_aload_n dX0_toldOfRow_44 rfl rfl ?_
      refine r_getC (k := 0) cl_0 dX0_toldOfRow_45 t_121 gf_0_0.1 gf_0_0.2 (gc_0_0 _) ?_
      refine r_iload dX0_toldOfRow_48 rfl ?_
      obtain ⟨hi_b8, b8, hb_b8, hm⟩ := hm
      refine r_aaldS (kd := 1) (ti := 5) (cn := RX1) dX0_toldOfRow_50 rfl hi_b8 hb_b8 ?_
      refine r_iload dX0_toldOfRow_51 rfl ?_
      refine r_iload dX0_toldOfRow_53 rfl ?_
      refine r_callVI (d' := d - 1) (as := [tI v8, tI v7]) (st := []) cl_1 dX0_toldOfRow_55 mi_X1_isPassing t_922 t_875 t_876 rfl rfl (Nat.le_of_ble_eq_true rfl) (by omega) ⟨by decide, by decide⟩ ⟨rfl, rfl⟩ (s_X1_isPassing (by omega) hm) (fun x9 h10 hm => ?_)
      refine r_if_eq (tgt := 111) dX0_toldOfRow_58 rfl (fun hc => ?_) (fun hc => ?_)
      · replace hm := hm.1 hc
        refine r_keep (L' := [some (tR 0 0 (some v0)), some (tI v1), some (tI v2), some (tI v3), some (tI v4), some (tI v5), some (tI v6), some (tI v7), some (tI v8)]) [true, true, true, true, true, true, true, true, true] rfl ?_
        exact s_X0_toldOfRow_111 hd hk29 hk67 hk117 hm
      · replace hm := hm.2 hc
        refine r_iload dX0_toldOfRow_61 rfl ?_
        refine r_iload_n dX0_toldOfRow_63 rfl rfl ?_
        refine r_icmp_ne (tgt := 108) dX0_toldOfRow_64 rfl (fun hc => ?_) (fun hc => ?_)
        · replace hm := hm.1 hc
          obtain ⟨x11, e_x11⟩ : ∃ y : Int32, y = v4 + 1 := ⟨_, rfl⟩
          replace hm := hm x11 e_x11
          refine r_iinc (L' := [some (tR 0 0 (some v0)), some (tI v1), some (tI v2), some (tI v3), some (tI x11), some (tI v5), some (tI v6), some (tI v7), some (tI v8)]) dX0_toldOfRow_108 rfl (by rw [e_x11]; rfl) (by decide) rfl ?_
          refine r_keep (L' := [some (tR 0 0 (some v0)), some (tI v1), some (tI v2), some (tI v3), some (tI x11), some (tI v5), some (tI v6), some (tI v7), some (tI v8)]) [true, true, true, true, true, true, true, true, true] rfl ?_
          exact s_X0_toldOfRow_111 hd hk29 hk67 hk117 hm
        · replace hm := hm.2 hc
          refine r_keep (L' := [some (tR 0 0 (some v0)), none, none, some (tI v3), none, none, some (tI v6), none, some (tI v8)]) [true, false, false, true, false, false, true, false, true] rfl ?_
          exact hk67 _ _ _ _ _ hm
def m_X0_toldOfRow_9 : Nat → (Nat → Int32 → Int32 → Int32 → Hp → Prop) → (Int64 → Hp → Prop) → Nat → Int32 → Int32 → Int32 → Int32 → Int32 → Int32 → Hp → Prop
  | 0, _, _, _, _, _, _, _, _, _, _ => False
  | n + 1, k67, Q, v0, v1, v2, v3, v4, v5, v6, h => ((hI h v0 1) ≤ v6 → Q (-1) h) ∧ (¬ (hI h v0 1) ≤ v6 → m_X0_codeFor v1 v5 h (fun (x12 : Int32) (h13 : Hp) => ∃ n29, m_X0_toldOfRow_29 n29 k67 (m_X0_toldOfRow_117 (fun (v0 : Nat) (v1 : Int32) (v2 : Int32) (v3 : Int32) (v4 : Int32) (v5 : Int32) (v6 : Int32) (hh : Hp) => m_X0_toldOfRow_9 n k67 Q v0 v1 v2 v3 v4 v5 v6 hh) k67 Q) Q v0 v1 v2 v3 v4 v5 v6 x12 0 h13))
set_option maxHeartbeats 4000000 in
set_option maxRecDepth 100000 in
theorem s_X0_toldOfRow_9 {l : Launch} {G : Cx} {d : Nat} {h0 : Hp} (hd : 4 ≤ d) {k67 : Nat → Int32 → Int32 → Int32 → Hp → Prop} {Q : Int64 → Hp → Prop} (hk67 : ∀ (v0 : Nat) (v3 : Int32) (v6 : Int32) (v8 : Int32) (hh : Hp), k67 v0 v3 v6 v8 hh → Rn l G d 0 0 MX0_toldOfRow h0 (qJ Q) 67 [some (tR 0 0 (some v0)), none, none, some (tI v3), none, none, some (tI v6), none, some (tI v8)] [] hh 0 0) : ∀ {n : Nat} {v0 : Nat} {v1 : Int32} {v2 : Int32} {v3 : Int32} {v4 : Int32} {v5 : Int32} {v6 : Int32} {h : Hp}, m_X0_toldOfRow_9 n k67 Q v0 v1 v2 v3 v4 v5 v6 h → Rn l G d 0 0 MX0_toldOfRow h0 (qJ Q) 9 [some (tR 0 0 (some v0)), some (tI v1), some (tI v2), some (tI v3), some (tI v4), some (tI v5), some (tI v6)] [] h 0 0 := by
  intro n
  induction n with
  | zero => intro v0 v1 v2 v3 v4 v5 v6 h hm; exact hm.elim
  | succ n ih =>
    intro v0 v1 v2 v3 v4 v5 v6 h hm
    have hk9 := fun (v0 : Nat) (v1 : Int32) (v2 : Int32) (v3 : Int32) (v4 : Int32) (v5 : Int32) (v6 : Int32) (hh : Hp) (hm : m_X0_toldOfRow_9 n k67 Q v0 v1 v2 v3 v4 v5 v6 hh) => ih hm
    rw [m_X0_toldOfRow_9] at hm
    refine r_iload dX0_toldOfRow_9 rfl ?_
    refine r_aload_n dX0_toldOfRow_11 rfl rfl ?_
    refine r_getI (k := 1) cl_0 dX0_toldOfRow_12 t_125 (Or.inl rfl) gf_0_1 ?_
    refine r_icmp_ge (tgt := 138) dX0_toldOfRow_15 rfl (fun hc => ?_) (fun hc => ?_)
    · replace hm := hm.1 hc
      refine r_ldc2_w dX0_toldOfRow_138 t_927 ?_
      exact r_lreturn dX0_toldOfRow_141 rfl ⟨by decide, by decide⟩ ⟨_, rfl, hm⟩
    · replace hm := hm.2 hc
      refine r_iload_n dX0_toldOfRow_18 rfl rfl ?_
      refine r_iload dX0_toldOfRow_19 rfl ?_
      refine r_callSI (d' := d - 1) (as := [tI v1, tI v5]) (st := []) dX0_toldOfRow_21 mi_X0_codeFor t_919 t_920 rfl rfl (Nat.le_of_ble_eq_true rfl) (by omega) ⟨by decide, by decide⟩ ⟨rfl, rfl⟩ (s_X0_codeFor (by omega) hm) (fun x12 h13 hm => ?_)
      refine r_istore (L' := [some (tR 0 0 (some v0)), some (tI v1), some (tI v2), some (tI v3), some (tI v4), some (tI v5), some (tI v6), some (tI x12)]) dX0_toldOfRow_24 (by decide) rfl ?_
      refine r_iconst (v := 0) dX0_toldOfRow_26 rfl ?_
      refine r_istore (L' := [some (tR 0 0 (some v0)), some (tI v1), some (tI v2), some (tI v3), some (tI v4), some (tI v5), some (tI v6), some (tI x12), some (tI 0)]) dX0_toldOfRow_27 (by decide) rfl ?_
      refine r_keep (L' := [some (tR 0 0 (some v0)), some (tI v1), some (tI v2), some (tI v3), some (tI v4), some (tI v5), some (tI v6), some (tI x12), some (tI 0)]) [true, true, true, true, true, true, true, true, true] rfl ?_
      obtain ⟨n, hm⟩ := hm
      refine s_X0_toldOfRow_29 hd ?_ ?_ hm
      · exact hk67
      · exact (fun _ _ _ _ _ _ _ _ hm => s_X0_toldOfRow_117 hd hk9 hk67 hm)
def m_X0_toldOfRow (v0 : Nat) (v1 : Int32) (v2 : Int32) (v3 : Int32) (h : Hp) (Q : Int64 → Hp → Prop) : Prop := ∃ n9, m_X0_toldOfRow_9 n9 (m_X0_toldOfRow_67 Q) Q v0 v1 v2 v3 0 0 0 h
set_option maxHeartbeats 4000000 in
set_option maxRecDepth 100000 in
theorem s_X0_toldOfRow {l : Launch} {G : Cx} {d : Nat} (hd : 4 ≤ d) {v0 : Nat} {v1 : Int32} {v2 : Int32} {v3 : Int32} {h : Hp} {Q : Int64 → Hp → Prop} (hm : m_X0_toldOfRow v0 v1 v2 v3 h Q) : Ct l G d 0 0 yX0_toldOfRow MX0_toldOfRow [tR 0 0 (some v0), tI v1, tI v2, tI v3] h (qJ Q) := by
  unfold m_X0_toldOfRow at hm
  refine Ct.of (L := [some (tR 0 0 (some v0)), some (tI v1), some (tI v2), some (tI v3)]) (by decide) rfl rfl (Nat.le_of_ble_eq_true rfl) rfl ?_
  refine r_iconst (v := 0) dX0_toldOfRow_0 rfl ?_
  refine r_istore (L' := [some (tR 0 0 (some v0)), some (tI v1), some (tI v2), some (tI v3), some (tI 0)]) dX0_toldOfRow_1 (by decide) rfl ?_
  refine r_iconst (v := 0) dX0_toldOfRow_3 rfl ?_
  refine r_istore (L' := [some (tR 0 0 (some v0)), some (tI v1), some (tI v2), some (tI v3), some (tI 0), some (tI 0)]) dX0_toldOfRow_4 (by decide) rfl ?_
  refine r_iconst (v := 0) dX0_toldOfRow_6 rfl ?_
  refine r_istore (L' := [some (tR 0 0 (some v0)), some (tI v1), some (tI v2), some (tI v3), some (tI 0), some (tI 0), some (tI 0)]) dX0_toldOfRow_7 (by decide) rfl ?_
  refine r_keep (L' := [some (tR 0 0 (some v0)), some (tI v1), some (tI v2), some (tI v3), some (tI 0), some (tI 0), some (tI 0)]) [true, true, true, true, true, true, true] rfl ?_
  obtain ⟨n, hm⟩ := hm
  refine s_X0_toldOfRow_9 hd ?_ hm
  · exact (fun _ _ _ _ _ hm => s_X0_toldOfRow_67 hd hm)
theorem dX1_init_0 : decode cX1_init 0 = .ok (.aload_n 0, 1) := rfl
theorem dX1_init_1 : decode cX1_init 1 = .ok (.invokespecial 3, 3) := rfl
theorem dX1_init_4 : decode cX1_init 4 = .ok (.aload_n 0, 1) := rfl
theorem dX1_init_5 : decode cX1_init 5 = .ok (.bipush 96, 2) := by decide +kernel
theorem dX1_init_7 : decode cX1_init 7 = .ok (.newarray .int, 2) := rfl
theorem dX1_init_9 : decode cX1_init 9 = .ok (.putfield 9, 3) := rfl
theorem dX1_init_12 : decode cX1_init 12 = .ok (.aload_n 0, 1) := rfl
theorem dX1_init_13 : decode cX1_init 13 = .ok (.sipush 216, 3) := by decide +kernel
theorem dX1_init_16 : decode cX1_init 16 = .ok (.newarray .int, 2) := rfl
theorem dX1_init_18 : decode cX1_init 18 = .ok (.putfield 15, 3) := rfl
theorem dX1_init_21 : decode cX1_init 21 = .ok (.aload_n 0, 1) := rfl
theorem dX1_init_22 : decode cX1_init 22 = .ok (.bipush 36, 2) := by decide +kernel
theorem dX1_init_24 : decode cX1_init 24 = .ok (.newarray .long, 2) := rfl
theorem dX1_init_26 : decode cX1_init 26 = .ok (.putfield 18, 3) := rfl
theorem dX1_init_29 : decode cX1_init 29 = .ok (.aload_n 0, 1) := rfl
theorem dX1_init_30 : decode cX1_init 30 = .ok (.bipush 36, 2) := by decide +kernel
theorem dX1_init_32 : decode cX1_init 32 = .ok (.newarray .int, 2) := rfl
theorem dX1_init_34 : decode cX1_init 34 = .ok (.putfield 22, 3) := rfl
theorem dX1_init_37 : decode cX1_init 37 = .ok (.aload_n 0, 1) := rfl
theorem dX1_init_38 : decode cX1_init 38 = .ok (.iload_n 1, 1) := rfl
theorem dX1_init_39 : decode cX1_init 39 = .ok (.putfield 25, 3) := rfl
theorem dX1_init_42 : decode cX1_init 42 = .ok (.return_, 1) := rfl
def m_X1_init (v0 : Nat) (v1 : Int32) (h : Hp) (Q : Hp → Prop) : Prop := ∀ a1 : Nat, a1 = hN h → ∀ h2 : Hp, h2 = nw h (40, 96) → ∀ a3 : Nat, a3 = hN (wR h2 v0 9 (some a1)) → ∀ h4 : Hp, h4 = nw (wR h2 v0 9 (some a1)) (40, 216) → ∀ a5 : Nat, a5 = hN (wR h4 v0 10 (some a3)) → ∀ h6 : Hp, h6 = nw (wR h4 v0 10 (some a3)) (43, 36) → ∀ a7 : Nat, a7 = hN (wR h6 v0 11 (some a5)) → ∀ h8 : Hp, h8 = nw (wR h6 v0 11 (some a5)) (40, 36) → Q (wI (wR h8 v0 12 (some a7)) v0 0 v1)
set_option maxHeartbeats 4000000 in
set_option maxRecDepth 100000 in
theorem s_X1_init {l : Launch} {G : Cx} {d : Nat} (hd : 2 ≤ d) {v0 : Nat} {v1 : Int32} {h : Hp} {Q : Hp → Prop} (hm : m_X1_init v0 v1 h Q) : Ct l G d 4 384 yX1_init MX1_init [tR 21 0 (some v0), tI v1] h (qV Q) := by
  unfold m_X1_init at hm
  refine Ct.of (L := [some (tR 21 0 (some v0)), some (tI v1)]) (by decide) rfl rfl (Nat.le_of_ble_eq_true rfl) rfl ?_
  refine r_aload_n dX1_init_0 rfl rfl ?_
  refine r_objInit dX1_init_1 t_435 t_29 t_30 (by omega) (Nat.le_of_ble_eq_true rfl) ?_
  refine r_aload_n dX1_init_4 rfl rfl ?_
  refine r_bipush (v := 96) dX1_init_5 rfl ?_
  refine r_newI (N := 96) dX1_init_7 t_61 (by decide) rfl (by decide) ⟨by decide, by decide⟩ ?_
  refine r_nmA (fun a1 e_a1 h2 e_h2 => ?_)
  replace hm := hm a1 e_a1 h2 e_h2
  refine r_putR0 (k := 9) cl_1 dX1_init_9 t_468 (Or.inr rfl) gf_1_9.1 gf_1_9.2 (fun z => absurd z (by decide)) pf_1_9.1 (Or.inr ⟨pf_1_9.2, rfl, rfl⟩) ?_
  refine r_aload_n dX1_init_12 rfl rfl ?_
  refine r_sipush (v := 216) dX1_init_13 rfl ?_
  refine r_newI (N := 216) dX1_init_16 t_61 (by decide) rfl (by decide) ⟨by decide, by decide⟩ ?_
  refine r_nmA (fun a3 e_a3 h4 e_h4 => ?_)
  replace hm := hm a3 e_a3 h4 e_h4
  refine r_putR0 (k := 10) cl_1 dX1_init_18 t_471 (Or.inr rfl) gf_1_10.1 gf_1_10.2 (fun z => absurd z (by decide)) pf_1_10.1 (Or.inr ⟨pf_1_10.2, rfl, rfl⟩) ?_
  refine r_aload_n dX1_init_21 rfl rfl ?_
  refine r_bipush (v := 36) dX1_init_22 rfl ?_
  refine r_newJ (N := 36) dX1_init_24 t_206 (by decide) rfl (by decide) ⟨by decide, by decide⟩ ?_
  refine r_nmA (fun a5 e_a5 h6 e_h6 => ?_)
  replace hm := hm a5 e_a5 h6 e_h6
  refine r_putR0 (k := 11) cl_1 dX1_init_26 t_475 (Or.inr rfl) gf_1_11.1 gf_1_11.2 (fun z => absurd z (by decide)) pf_1_11.1 (Or.inr ⟨pf_1_11.2, rfl, rfl⟩) ?_
  refine r_aload_n dX1_init_29 rfl rfl ?_
  refine r_bipush (v := 36) dX1_init_30 rfl ?_
  refine r_newI (N := 36) dX1_init_32 t_61 (by decide) rfl (by decide) ⟨by decide, by decide⟩ ?_
  refine r_nmA (fun a7 e_a7 h8 e_h8 => ?_)
  replace hm := hm a7 e_a7 h8 e_h8
  refine r_putR0 (k := 12) cl_1 dX1_init_34 t_479 (Or.inr rfl) gf_1_12.1 gf_1_12.2 (fun z => absurd z (by decide)) pf_1_12.1 (Or.inr ⟨pf_1_12.2, rfl, rfl⟩) ?_
  refine r_aload_n dX1_init_37 rfl rfl ?_
  refine r_iload_n dX1_init_38 rfl rfl ?_
  refine r_putI0 (k := 0) cl_1 dX1_init_39 t_436 (Or.inr rfl) gf_1_0 pf_1_0.1 (Or.inr ⟨pf_1_0.2, rfl, rfl⟩) ?_
  exact r_return dX1_init_42 rfl ⟨by decide, by decide⟩ ⟨rfl, hm⟩
theorem dX1_empty_0 : decode cX1_empty 0 = .ok (.aload_n 0, 1) := rfl
theorem dX1_empty_1 : decode cX1_empty 1 = .ok (.iconst 0, 1) := rfl
theorem dX1_empty_2 : decode cX1_empty 2 = .ok (.putfield 29, 3) := rfl
theorem dX1_empty_5 : decode cX1_empty 5 = .ok (.aload_n 0, 1) := rfl
theorem dX1_empty_6 : decode cX1_empty 6 = .ok (.iconst 0, 1) := rfl
theorem dX1_empty_7 : decode cX1_empty 7 = .ok (.putfield 32, 3) := rfl
theorem dX1_empty_10 : decode cX1_empty 10 = .ok (.aload_n 0, 1) := rfl
theorem dX1_empty_11 : decode cX1_empty 11 = .ok (.iconst 0, 1) := rfl
theorem dX1_empty_12 : decode cX1_empty 12 = .ok (.putfield 35, 3) := rfl
theorem dX1_empty_15 : decode cX1_empty 15 = .ok (.aload_n 0, 1) := rfl
theorem dX1_empty_16 : decode cX1_empty 16 = .ok (.iconst 0, 1) := rfl
theorem dX1_empty_17 : decode cX1_empty 17 = .ok (.putfield 38, 3) := rfl
theorem dX1_empty_20 : decode cX1_empty 20 = .ok (.aload_n 0, 1) := rfl
theorem dX1_empty_21 : decode cX1_empty 21 = .ok (.iconst 0, 1) := rfl
theorem dX1_empty_22 : decode cX1_empty 22 = .ok (.putfield 41, 3) := rfl
theorem dX1_empty_25 : decode cX1_empty 25 = .ok (.return_, 1) := rfl
def m_X1_empty (v0 : Nat) (h : Hp) (Q : Hp → Prop) : Prop := Q (wI (wI (wI (wI (wI h v0 2 0) v0 3 0) v0 4 0) v0 5 0) v0 6 0)
set_option maxHeartbeats 4000000 in
set_option maxRecDepth 100000 in
theorem s_X1_empty {l : Launch} {G : Cx} {d : Nat} (hd : 2 ≤ d) {v0 : Nat} {h : Hp} {Q : Hp → Prop} (hm : m_X1_empty v0 h Q) : Ct l G d 0 0 yX1_empty MX1_empty [tR 1 0 (some v0)] h (qV Q) := by
  unfold m_X1_empty at hm
  refine Ct.of (L := [some (tR 1 0 (some v0))]) (by decide) rfl rfl (Nat.le_of_ble_eq_true rfl) rfl ?_
  refine r_aload_n dX1_empty_0 rfl rfl ?_
  refine r_iconst (v := 0) dX1_empty_1 rfl ?_
  refine r_putI0 (k := 2) cl_1 dX1_empty_2 t_441 (Or.inl rfl) gf_1_2 pf_1_2.1 (Or.inl pf_1_2.2) ?_
  refine r_aload_n dX1_empty_5 rfl rfl ?_
  refine r_iconst (v := 0) dX1_empty_6 rfl ?_
  refine r_putI0 (k := 3) cl_1 dX1_empty_7 t_446 (Or.inl rfl) gf_1_3 pf_1_3.1 (Or.inl pf_1_3.2) ?_
  refine r_aload_n dX1_empty_10 rfl rfl ?_
  refine r_iconst (v := 0) dX1_empty_11 rfl ?_
  refine r_putI0 (k := 4) cl_1 dX1_empty_12 t_452 (Or.inl rfl) gf_1_4 pf_1_4.1 (Or.inl pf_1_4.2) ?_
  refine r_aload_n dX1_empty_15 rfl rfl ?_
  refine r_iconst (v := 0) dX1_empty_16 rfl ?_
  refine r_putI0 (k := 5) cl_1 dX1_empty_17 t_457 (Or.inl rfl) gf_1_5 pf_1_5.1 (Or.inl pf_1_5.2) ?_
  refine r_aload_n dX1_empty_20 rfl rfl ?_
  refine r_iconst (v := 0) dX1_empty_21 rfl ?_
  refine r_putI0 (k := 6) cl_1 dX1_empty_22 t_460 (Or.inl rfl) gf_1_6 pf_1_6.1 (Or.inl pf_1_6.2) ?_
  exact r_return dX1_empty_25 rfl ⟨by decide, by decide⟩ ⟨rfl, hm⟩
theorem dX1_putLeaf_0 : decode cX1_putLeaf 0 = .ok (.aload_n 0, 1) := rfl
theorem dX1_putLeaf_1 : decode cX1_putLeaf 1 = .ok (.getfield 29, 3) := rfl
theorem dX1_putLeaf_4 : decode cX1_putLeaf 4 = .ok (.bipush 12, 2) := by decide +kernel
theorem dX1_putLeaf_6 : decode cX1_putLeaf 6 = .ok (.if_icmp .lt 4, 3) := by decide +kernel
theorem dX1_putLeaf_9 : decode cX1_putLeaf 9 = .ok (.return_, 1) := rfl
theorem dX1_putLeaf_10 : decode cX1_putLeaf 10 = .ok (.aload_n 0, 1) := rfl
theorem dX1_putLeaf_11 : decode cX1_putLeaf 11 = .ok (.getfield 29, 3) := rfl
theorem dX1_putLeaf_14 : decode cX1_putLeaf 14 = .ok (.bipush 8, 2) := by decide +kernel
theorem dX1_putLeaf_16 : decode cX1_putLeaf 16 = .ok (.imul, 1) := rfl
theorem dX1_putLeaf_17 : decode cX1_putLeaf 17 = .ok (.istore_n 3, 1) := rfl
theorem dX1_putLeaf_18 : decode cX1_putLeaf 18 = .ok (.aload_n 1, 1) := rfl
theorem dX1_putLeaf_19 : decode cX1_putLeaf 19 = .ok (.iconst 0, 1) := rfl
theorem dX1_putLeaf_20 : decode cX1_putLeaf 20 = .ok (.aload_n 0, 1) := rfl
theorem dX1_putLeaf_21 : decode cX1_putLeaf 21 = .ok (.getfield 9, 3) := rfl
theorem dX1_putLeaf_24 : decode cX1_putLeaf 24 = .ok (.iload_n 3, 1) := rfl
theorem dX1_putLeaf_25 : decode cX1_putLeaf 25 = .ok (.bipush 8, 2) := by decide +kernel
theorem dX1_putLeaf_27 : decode cX1_putLeaf 27 = .ok (.invokestatic 44, 3) := rfl
theorem dX1_putLeaf_30 : decode cX1_putLeaf 30 = .ok (.aload_n 0, 1) := rfl
theorem dX1_putLeaf_31 : decode cX1_putLeaf 31 = .ok (.getfield 9, 3) := rfl
theorem dX1_putLeaf_34 : decode cX1_putLeaf 34 = .ok (.iload_n 3, 1) := rfl
theorem dX1_putLeaf_35 : decode cX1_putLeaf 35 = .ok (.bipush 6, 2) := by decide +kernel
theorem dX1_putLeaf_37 : decode cX1_putLeaf 37 = .ok (.iadd, 1) := rfl
theorem dX1_putLeaf_38 : decode cX1_putLeaf 38 = .ok (.dup2, 1) := rfl
theorem dX1_putLeaf_39 : decode cX1_putLeaf 39 = .ok (.iaload, 1) := rfl
theorem dX1_putLeaf_40 : decode cX1_putLeaf 40 = .ok (.iload_n 2, 1) := rfl
theorem dX1_putLeaf_41 : decode cX1_putLeaf 41 = .ok (.iadd, 1) := rfl
theorem dX1_putLeaf_42 : decode cX1_putLeaf 42 = .ok (.iastore, 1) := rfl
theorem dX1_putLeaf_43 : decode cX1_putLeaf 43 = .ok (.aload_n 0, 1) := rfl
theorem dX1_putLeaf_44 : decode cX1_putLeaf 44 = .ok (.getfield 9, 3) := rfl
theorem dX1_putLeaf_47 : decode cX1_putLeaf 47 = .ok (.iload_n 3, 1) := rfl
theorem dX1_putLeaf_48 : decode cX1_putLeaf 48 = .ok (.bipush 7, 2) := by decide +kernel
theorem dX1_putLeaf_50 : decode cX1_putLeaf 50 = .ok (.iadd, 1) := rfl
theorem dX1_putLeaf_51 : decode cX1_putLeaf 51 = .ok (.dup2, 1) := rfl
theorem dX1_putLeaf_52 : decode cX1_putLeaf 52 = .ok (.iaload, 1) := rfl
theorem dX1_putLeaf_53 : decode cX1_putLeaf 53 = .ok (.iload_n 2, 1) := rfl
theorem dX1_putLeaf_54 : decode cX1_putLeaf 54 = .ok (.iadd, 1) := rfl
theorem dX1_putLeaf_55 : decode cX1_putLeaf 55 = .ok (.iastore, 1) := rfl
theorem dX1_putLeaf_56 : decode cX1_putLeaf 56 = .ok (.aload_n 0, 1) := rfl
theorem dX1_putLeaf_57 : decode cX1_putLeaf 57 = .ok (.dup, 1) := rfl
theorem dX1_putLeaf_58 : decode cX1_putLeaf 58 = .ok (.getfield 38, 3) := rfl
theorem dX1_putLeaf_61 : decode cX1_putLeaf 61 = .ok (.iconst 1, 1) := rfl
theorem dX1_putLeaf_62 : decode cX1_putLeaf 62 = .ok (.aload_n 1, 1) := rfl
theorem dX1_putLeaf_63 : decode cX1_putLeaf 63 = .ok (.iconst 3, 1) := rfl
theorem dX1_putLeaf_64 : decode cX1_putLeaf 64 = .ok (.iaload, 1) := rfl
theorem dX1_putLeaf_65 : decode cX1_putLeaf 65 = .ok (.ishl, 1) := rfl
theorem dX1_putLeaf_66 : decode cX1_putLeaf 66 = .ok (.ior, 1) := rfl
theorem dX1_putLeaf_67 : decode cX1_putLeaf 67 = .ok (.putfield 38, 3) := rfl
theorem dX1_putLeaf_70 : decode cX1_putLeaf 70 = .ok (.aload_n 0, 1) := rfl
theorem dX1_putLeaf_71 : decode cX1_putLeaf 71 = .ok (.dup, 1) := rfl
theorem dX1_putLeaf_72 : decode cX1_putLeaf 72 = .ok (.getfield 29, 3) := rfl
theorem dX1_putLeaf_75 : decode cX1_putLeaf 75 = .ok (.iconst 1, 1) := rfl
theorem dX1_putLeaf_76 : decode cX1_putLeaf 76 = .ok (.iadd, 1) := rfl
theorem dX1_putLeaf_77 : decode cX1_putLeaf 77 = .ok (.putfield 29, 3) := rfl
theorem dX1_putLeaf_80 : decode cX1_putLeaf 80 = .ok (.return_, 1) := rfl
def m_X1_putLeaf (v0 : Nat) (v1 : Nat) (v1n : Nat) (v2 : Int32) (h : Hp) (Q : Hp → Prop) : Prop := ((hI h v0 2) < 12 → ∀ x1 : Int32, x1 = ((hI h v0 2) * 8) → ¬ (0 : Int32) < 0 ∧ ¬ x1 < 0 ∧ ¬ (8 : Int32) < 0 ∧ ix (0 : Int32) + ix (8 : Int32) ≤ v1n ∧ ix x1 + ix (8 : Int32) ≤ 96 ∧ (vp_in (x1 + 6) 96 ∧ (vp_in (x1 + 6) 96 ∧ (vp_in (x1 + 7) 96 ∧ (vp_in (x1 + 7) 96 ∧ (vp_in 3 v1n ∧ (Q (wI (wI (wI (wI (cpI h v1 (ix (0 : Int32)) (v0 + 1) (ix x1) (ix (8 : Int32))) (v0 + 1) (ix (x1 + 6)) ((hI (cpI h v1 (ix (0 : Int32)) (v0 + 1) (ix x1) (ix (8 : Int32))) (v0 + 1) (ix (x1 + 6))) + v2)) (v0 + 1) (ix (x1 + 7)) ((hI (wI (cpI h v1 (ix (0 : Int32)) (v0 + 1) (ix x1) (ix (8 : Int32))) (v0 + 1) (ix (x1 + 6)) ((hI (cpI h v1 (ix (0 : Int32)) (v0 + 1) (ix x1) (ix (8 : Int32))) (v0 + 1) (ix (x1 + 6))) + v2)) (v0 + 1) (ix (x1 + 7))) + v2)) v0 5 ((hI (wI (wI (cpI h v1 (ix (0 : Int32)) (v0 + 1) (ix x1) (ix (8 : Int32))) (v0 + 1) (ix (x1 + 6)) ((hI (cpI h v1 (ix (0 : Int32)) (v0 + 1) (ix x1) (ix (8 : Int32))) (v0 + 1) (ix (x1 + 6))) + v2)) (v0 + 1) (ix (x1 + 7)) ((hI (wI (cpI h v1 (ix (0 : Int32)) (v0 + 1) (ix x1) (ix (8 : Int32))) (v0 + 1) (ix (x1 + 6)) ((hI (cpI h v1 (ix (0 : Int32)) (v0 + 1) (ix x1) (ix (8 : Int32))) (v0 + 1) (ix (x1 + 6))) + v2)) (v0 + 1) (ix (x1 + 7))) + v2)) v0 5) ||| (1 <<< ((hI (wI (wI (cpI h v1 (ix (0 : Int32)) (v0 + 1) (ix x1) (ix (8 : Int32))) (v0 + 1) (ix (x1 + 6)) ((hI (cpI h v1 (ix (0 : Int32)) (v0 + 1) (ix x1) (ix (8 : Int32))) (v0 + 1) (ix (x1 + 6))) + v2)) (v0 + 1) (ix (x1 + 7)) ((hI (wI (cpI h v1 (ix (0 : Int32)) (v0 + 1) (ix x1) (ix (8 : Int32))) (v0 + 1) (ix (x1 + 6)) ((hI (cpI h v1 (ix (0 : Int32)) (v0 + 1) (ix x1) (ix (8 : Int32))) (v0 + 1) (ix (x1 + 6))) + v2)) (v0 + 1) (ix (x1 + 7))) + v2)) v1 (ix 3)) &&& 31)))) v0 2 ((hI (wI (wI (wI (cpI h v1 (ix (0 : Int32)) (v0 + 1) (ix x1) (ix (8 : Int32))) (v0 + 1) (ix (x1 + 6)) ((hI (cpI h v1 (ix (0 : Int32)) (v0 + 1) (ix x1) (ix (8 : Int32))) (v0 + 1) (ix (x1 + 6))) + v2)) (v0 + 1) (ix (x1 + 7)) ((hI (wI (cpI h v1 (ix (0 : Int32)) (v0 + 1) (ix x1) (ix (8 : Int32))) (v0 + 1) (ix (x1 + 6)) ((hI (cpI h v1 (ix (0 : Int32)) (v0 + 1) (ix x1) (ix (8 : Int32))) (v0 + 1) (ix (x1 + 6))) + v2)) (v0 + 1) (ix (x1 + 7))) + v2)) v0 5 ((hI (wI (wI (cpI h v1 (ix (0 : Int32)) (v0 + 1) (ix x1) (ix (8 : Int32))) (v0 + 1) (ix (x1 + 6)) ((hI (cpI h v1 (ix (0 : Int32)) (v0 + 1) (ix x1) (ix (8 : Int32))) (v0 + 1) (ix (x1 + 6))) + v2)) (v0 + 1) (ix (x1 + 7)) ((hI (wI (cpI h v1 (ix (0 : Int32)) (v0 + 1) (ix x1) (ix (8 : Int32))) (v0 + 1) (ix (x1 + 6)) ((hI (cpI h v1 (ix (0 : Int32)) (v0 + 1) (ix x1) (ix (8 : Int32))) (v0 + 1) (ix (x1 + 6))) + v2)) (v0 + 1) (ix (x1 + 7))) + v2)) v0 5) ||| (1 <<< ((hI (wI (wI (cpI h v1 (ix (0 : Int32)) (v0 + 1) (ix x1) (ix (8 : Int32))) (v0 + 1) (ix (x1 + 6)) ((hI (cpI h v1 (ix (0 : Int32)) (v0 + 1) (ix x1) (ix (8 : Int32))) (v0 + 1) (ix (x1 + 6))) + v2)) (v0 + 1) (ix (x1 + 7)) ((hI (wI (cpI h v1 (ix (0 : Int32)) (v0 + 1) (ix x1) (ix (8 : Int32))) (v0 + 1) (ix (x1 + 6)) ((hI (cpI h v1 (ix (0 : Int32)) (v0 + 1) (ix x1) (ix (8 : Int32))) (v0 + 1) (ix (x1 + 6))) + v2)) (v0 + 1) (ix (x1 + 7))) + v2)) v1 (ix 3)) &&& 31)))) v0 2) + 1))))))))) ∧ (¬ (hI h v0 2) < 12 → Q h)
set_option maxHeartbeats 4000000 in
set_option maxRecDepth 100000 in
theorem s_X1_putLeaf {l : Launch} {G : Cx} {d : Nat} (hd : 2 ≤ d) {v0 : Nat} {v1 : Nat} {v1n : Nat} {v2 : Int32} {h : Hp} {Q : Hp → Prop} (hm : m_X1_putLeaf v0 v1 v1n v2 h Q) : Ct l G d 0 0 yX1_putLeaf MX1_putLeaf [tR 1 0 (some v0), tR 40 v1n (some v1), tI v2] h (qV Q) := by
  unfold m_X1_putLeaf at hm
  refine Ct.of (L := [some (tR 1 0 (some v0)), some (tR 40 v1n (some v1)), some (tI v2)]) (by decide) rfl rfl (Nat.le_of_ble_eq_true rfl) rfl ?_
  refine r_aload_n dX1_putLeaf_0 rfl rfl ?_
  refine r_getI (k := 2) cl_1 dX1_putLeaf_1 t_441 (Or.inl rfl) gf_1_2 ?_
  refine r_bipush (v := 12) dX1_putLeaf_4 rfl ?_
  refine r_icmp_lt (tgt := 10) dX1_putLeaf_6 rfl (fun hc => ?_) (fun hc => ?_)
  · replace hm := hm.1 hc
    refine r_aload_n dX1_putLeaf_10 rfl rfl ?_
    refine r_getI (k := 2) cl_1 dX1_putLeaf_11 t_441 (Or.inl rfl) gf_1_2 ?_
    refine r_bipush (v := 8) dX1_putLeaf_14 rfl ?_
    refine r_imul dX1_putLeaf_16 ?_
    refine r_nmI (fun x1 e_x1 => ?_)
    replace hm := hm x1 e_x1
    refine r_istore_n (L' := [some (tR 1 0 (some v0)), some (tR 40 v1n (some v1)), some (tI v2), some (tI x1)]) dX1_putLeaf_17 rfl (by decide) rfl ?_
    refine r_aload_n dX1_putLeaf_18 rfl rfl ?_
    refine r_iconst (v := 0) dX1_putLeaf_19 rfl ?_
    refine r_aload_n dX1_putLeaf_20 rfl rfl ?_
    refine r_getC (k := 9) cl_1 dX1_putLeaf_21 t_468 gf_1_9.1 gf_1_9.2 (gc_1_9 _) ?_
    refine r_iload_n dX1_putLeaf_24 rfl rfl ?_
    refine r_bipush (v := 8) dX1_putLeaf_25 rfl ?_
    obtain ⟨g1, g2, g3, g4, g5, hm⟩ := hm
    refine r_copy dX1_putLeaf_27 t_657 t_652 t_651 t_19 g1 g2 g3 g4 g5 (by omega) (Nat.le_of_ble_eq_true rfl) ?_
    refine r_aload_n dX1_putLeaf_30 rfl rfl ?_
    refine r_getC (k := 9) cl_1 dX1_putLeaf_31 t_468 gf_1_9.1 gf_1_9.2 (gc_1_9 _) ?_
    refine r_iload_n dX1_putLeaf_34 rfl rfl ?_
    refine r_bipush (v := 6) dX1_putLeaf_35 rfl ?_
    refine r_iadd dX1_putLeaf_37 ?_
    refine r_dup2 dX1_putLeaf_38 rfl cv_cat1R ?_
    refine r_iald dX1_putLeaf_39 hm.1 ?_
    replace hm := hm.2
    refine r_iload_n dX1_putLeaf_40 rfl rfl ?_
    refine r_iadd dX1_putLeaf_41 ?_
    refine r_iast dX1_putLeaf_42 hm.1 ?_
    replace hm := hm.2
    refine r_aload_n dX1_putLeaf_43 rfl rfl ?_
    refine r_getC (k := 9) cl_1 dX1_putLeaf_44 t_468 gf_1_9.1 gf_1_9.2 (gc_1_9 _) ?_
    refine r_iload_n dX1_putLeaf_47 rfl rfl ?_
    refine r_bipush (v := 7) dX1_putLeaf_48 rfl ?_
    refine r_iadd dX1_putLeaf_50 ?_
    refine r_dup2 dX1_putLeaf_51 rfl cv_cat1R ?_
    refine r_iald dX1_putLeaf_52 hm.1 ?_
    replace hm := hm.2
    refine r_iload_n dX1_putLeaf_53 rfl rfl ?_
    refine r_iadd dX1_putLeaf_54 ?_
    refine r_iast dX1_putLeaf_55 hm.1 ?_
    replace hm := hm.2
    refine r_aload_n dX1_putLeaf_56 rfl rfl ?_
    refine r_dup dX1_putLeaf_57 cv_cat1R ?_
    refine r_getI (k := 5) cl_1 dX1_putLeaf_58 t_457 (Or.inl rfl) gf_1_5 ?_
    refine r_iconst (v := 1) dX1_putLeaf_61 rfl ?_
    refine r_aload_n dX1_putLeaf_62 rfl rfl ?_
    refine r_iconst (v := 3) dX1_putLeaf_63 rfl ?_
    refine r_iald dX1_putLeaf_64 hm.1 ?_
    replace hm := hm.2
    refine r_ishl dX1_putLeaf_65 ?_
    refine r_ior dX1_putLeaf_66 ?_
    refine r_putI0 (k := 5) cl_1 dX1_putLeaf_67 t_457 (Or.inl rfl) gf_1_5 pf_1_5.1 (Or.inl pf_1_5.2) ?_
    refine r_aload_n dX1_putLeaf_70 rfl rfl ?_
    refine r_dup dX1_putLeaf_71 cv_cat1R ?_
    refine r_getI (k := 2) cl_1 dX1_putLeaf_72 t_441 (Or.inl rfl) gf_1_2 ?_
    refine r_iconst (v := 1) dX1_putLeaf_75 rfl ?_
    refine r_iadd dX1_putLeaf_76 ?_
    refine r_putI0 (k := 2) cl_1 dX1_putLeaf_77 t_441 (Or.inl rfl) gf_1_2 pf_1_2.1 (Or.inl pf_1_2.2) ?_
    exact r_return dX1_putLeaf_80 rfl ⟨by decide, by decide⟩ ⟨rfl, hm⟩
  · replace hm := hm.2 hc
    exact r_return dX1_putLeaf_9 rfl ⟨by decide, by decide⟩ ⟨rfl, hm⟩
theorem dX1_putRow_0 : decode cX1_putRow 0 = .ok (.aload_n 0, 1) := by decide +kernel
theorem dX1_putRow_1 : decode cX1_putRow 1 = .ok (.getfield 41, 3) := by decide +kernel
theorem dX1_putRow_4 : decode cX1_putRow 4 = .ok (.bipush 36, 2) := by decide +kernel
theorem dX1_putRow_6 : decode cX1_putRow 6 = .ok (.if_icmp .lt 4, 3) := by decide +kernel
theorem dX1_putRow_9 : decode cX1_putRow 9 = .ok (.return_, 1) := by decide +kernel
theorem dX1_putRow_10 : decode cX1_putRow 10 = .ok (.aload_n 0, 1) := by decide +kernel
theorem dX1_putRow_11 : decode cX1_putRow 11 = .ok (.getfield 41, 3) := by decide +kernel
theorem dX1_putRow_14 : decode cX1_putRow 14 = .ok (.bipush 6, 2) := by decide +kernel
theorem dX1_putRow_16 : decode cX1_putRow 16 = .ok (.imul, 1) := by decide +kernel
theorem dX1_putRow_17 : decode cX1_putRow 17 = .ok (.istore 8, 2) := by decide +kernel
theorem dX1_putRow_19 : decode cX1_putRow 19 = .ok (.aload_n 0, 1) := by decide +kernel
theorem dX1_putRow_20 : decode cX1_putRow 20 = .ok (.getfield 15, 3) := by decide +kernel
theorem dX1_putRow_23 : decode cX1_putRow 23 = .ok (.iload 8, 2) := by decide +kernel
theorem dX1_putRow_25 : decode cX1_putRow 25 = .ok (.iconst 0, 1) := by decide +kernel
theorem dX1_putRow_26 : decode cX1_putRow 26 = .ok (.iadd, 1) := by decide +kernel
theorem dX1_putRow_27 : decode cX1_putRow 27 = .ok (.aload_n 0, 1) := by decide +kernel
theorem dX1_putRow_28 : decode cX1_putRow 28 = .ok (.getfield 9, 3) := by decide +kernel
theorem dX1_putRow_31 : decode cX1_putRow 31 = .ok (.iload_n 1, 1) := by decide +kernel
theorem dX1_putRow_32 : decode cX1_putRow 32 = .ok (.iload_n 2, 1) := by decide +kernel
theorem dX1_putRow_33 : decode cX1_putRow 33 = .ok (.ifCond .eq 8, 3) := by decide +kernel
theorem dX1_putRow_36 : decode cX1_putRow 36 = .ok (.bipush 7, 2) := by decide +kernel
theorem dX1_putRow_38 : decode cX1_putRow 38 = .ok (.goto 5, 3) := by decide +kernel
theorem dX1_putRow_41 : decode cX1_putRow 41 = .ok (.bipush 6, 2) := by decide +kernel
theorem dX1_putRow_43 : decode cX1_putRow 43 = .ok (.iadd, 1) := by decide +kernel
theorem dX1_putRow_44 : decode cX1_putRow 44 = .ok (.iaload, 1) := by decide +kernel
theorem dX1_putRow_45 : decode cX1_putRow 45 = .ok (.iastore, 1) := by decide +kernel
theorem dX1_putRow_46 : decode cX1_putRow 46 = .ok (.aload_n 0, 1) := by decide +kernel
theorem dX1_putRow_47 : decode cX1_putRow 47 = .ok (.getfield 15, 3) := by decide +kernel
theorem dX1_putRow_50 : decode cX1_putRow 50 = .ok (.iload 8, 2) := by decide +kernel
theorem dX1_putRow_52 : decode cX1_putRow 52 = .ok (.iconst 1, 1) := by decide +kernel
theorem dX1_putRow_53 : decode cX1_putRow 53 = .ok (.iadd, 1) := by decide +kernel
theorem dX1_putRow_54 : decode cX1_putRow 54 = .ok (.aload_n 0, 1) := by decide +kernel
theorem dX1_putRow_55 : decode cX1_putRow 55 = .ok (.getfield 9, 3) := by decide +kernel
theorem dX1_putRow_58 : decode cX1_putRow 58 = .ok (.iload_n 1, 1) := by decide +kernel
theorem dX1_putRow_59 : decode cX1_putRow 59 = .ok (.iload_n 2, 1) := by decide +kernel
theorem dX1_putRow_60 : decode cX1_putRow 60 = .ok (.ifCond .eq 7, 3) := by decide +kernel
theorem dX1_putRow_63 : decode cX1_putRow 63 = .ok (.iconst 2, 1) := by decide +kernel
theorem dX1_putRow_64 : decode cX1_putRow 64 = .ok (.goto 4, 3) := by decide +kernel
theorem dX1_putRow_67 : decode cX1_putRow 67 = .ok (.iconst 1, 1) := by decide +kernel
theorem dX1_putRow_68 : decode cX1_putRow 68 = .ok (.iadd, 1) := by decide +kernel
theorem dX1_putRow_69 : decode cX1_putRow 69 = .ok (.iaload, 1) := by decide +kernel
theorem dX1_putRow_70 : decode cX1_putRow 70 = .ok (.iastore, 1) := by decide +kernel
theorem dX1_putRow_71 : decode cX1_putRow 71 = .ok (.aload_n 0, 1) := by decide +kernel
theorem dX1_putRow_72 : decode cX1_putRow 72 = .ok (.getfield 15, 3) := by decide +kernel
theorem dX1_putRow_75 : decode cX1_putRow 75 = .ok (.iload 8, 2) := by decide +kernel
theorem dX1_putRow_77 : decode cX1_putRow 77 = .ok (.iconst 2, 1) := by decide +kernel
theorem dX1_putRow_78 : decode cX1_putRow 78 = .ok (.iadd, 1) := by decide +kernel
theorem dX1_putRow_79 : decode cX1_putRow 79 = .ok (.aload_n 0, 1) := by decide +kernel
theorem dX1_putRow_80 : decode cX1_putRow 80 = .ok (.getfield 9, 3) := by decide +kernel
theorem dX1_putRow_83 : decode cX1_putRow 83 = .ok (.iload_n 1, 1) := by decide +kernel
theorem dX1_putRow_84 : decode cX1_putRow 84 = .ok (.iload_n 2, 1) := by decide +kernel
theorem dX1_putRow_85 : decode cX1_putRow 85 = .ok (.ifCond .eq 7, 3) := by decide +kernel
theorem dX1_putRow_88 : decode cX1_putRow 88 = .ok (.iconst 1, 1) := by decide +kernel
theorem dX1_putRow_89 : decode cX1_putRow 89 = .ok (.goto 4, 3) := by decide +kernel
theorem dX1_putRow_92 : decode cX1_putRow 92 = .ok (.iconst 2, 1) := by decide +kernel
theorem dX1_putRow_93 : decode cX1_putRow 93 = .ok (.iadd, 1) := by decide +kernel
theorem dX1_putRow_94 : decode cX1_putRow 94 = .ok (.iaload, 1) := by decide +kernel
theorem dX1_putRow_95 : decode cX1_putRow 95 = .ok (.iastore, 1) := by decide +kernel
theorem dX1_putRow_96 : decode cX1_putRow 96 = .ok (.aload_n 0, 1) := by decide +kernel
theorem dX1_putRow_97 : decode cX1_putRow 97 = .ok (.getfield 15, 3) := by decide +kernel
theorem dX1_putRow_100 : decode cX1_putRow 100 = .ok (.iload 8, 2) := by decide +kernel
theorem dX1_putRow_102 : decode cX1_putRow 102 = .ok (.iconst 3, 1) := by decide +kernel
theorem dX1_putRow_103 : decode cX1_putRow 103 = .ok (.iadd, 1) := by decide +kernel
theorem dX1_putRow_104 : decode cX1_putRow 104 = .ok (.iload_n 3, 1) := by decide +kernel
theorem dX1_putRow_105 : decode cX1_putRow 105 = .ok (.iastore, 1) := by decide +kernel
theorem dX1_putRow_106 : decode cX1_putRow 106 = .ok (.aload_n 0, 1) := by decide +kernel
theorem dX1_putRow_107 : decode cX1_putRow 107 = .ok (.getfield 15, 3) := by decide +kernel
theorem dX1_putRow_110 : decode cX1_putRow 110 = .ok (.iload 8, 2) := by decide +kernel
theorem dX1_putRow_112 : decode cX1_putRow 112 = .ok (.iconst 4, 1) := by decide +kernel
theorem dX1_putRow_113 : decode cX1_putRow 113 = .ok (.iadd, 1) := by decide +kernel
theorem dX1_putRow_114 : decode cX1_putRow 114 = .ok (.iload 6, 2) := by decide +kernel
theorem dX1_putRow_116 : decode cX1_putRow 116 = .ok (.iastore, 1) := by decide +kernel
theorem dX1_putRow_117 : decode cX1_putRow 117 = .ok (.aload_n 0, 1) := by decide +kernel
theorem dX1_putRow_118 : decode cX1_putRow 118 = .ok (.getfield 15, 3) := by decide +kernel
theorem dX1_putRow_121 : decode cX1_putRow 121 = .ok (.iload 8, 2) := by decide +kernel
theorem dX1_putRow_123 : decode cX1_putRow 123 = .ok (.iconst 5, 1) := by decide +kernel
theorem dX1_putRow_124 : decode cX1_putRow 124 = .ok (.iadd, 1) := by decide +kernel
theorem dX1_putRow_125 : decode cX1_putRow 125 = .ok (.iload 7, 2) := by decide +kernel
theorem dX1_putRow_127 : decode cX1_putRow 127 = .ok (.iastore, 1) := by decide +kernel
theorem dX1_putRow_128 : decode cX1_putRow 128 = .ok (.aload_n 0, 1) := by decide +kernel
theorem dX1_putRow_129 : decode cX1_putRow 129 = .ok (.getfield 18, 3) := by decide +kernel
theorem dX1_putRow_132 : decode cX1_putRow 132 = .ok (.aload_n 0, 1) := by decide +kernel
theorem dX1_putRow_133 : decode cX1_putRow 133 = .ok (.getfield 41, 3) := by decide +kernel
theorem dX1_putRow_136 : decode cX1_putRow 136 = .ok (.lload 4, 2) := by decide +kernel
theorem dX1_putRow_138 : decode cX1_putRow 138 = .ok (.lastore, 1) := by decide +kernel
theorem dX1_putRow_139 : decode cX1_putRow 139 = .ok (.aload_n 0, 1) := by decide +kernel
theorem dX1_putRow_140 : decode cX1_putRow 140 = .ok (.dup, 1) := by decide +kernel
theorem dX1_putRow_141 : decode cX1_putRow 141 = .ok (.getfield 41, 3) := by decide +kernel
theorem dX1_putRow_144 : decode cX1_putRow 144 = .ok (.iconst 1, 1) := by decide +kernel
theorem dX1_putRow_145 : decode cX1_putRow 145 = .ok (.iadd, 1) := by decide +kernel
theorem dX1_putRow_146 : decode cX1_putRow 146 = .ok (.putfield 41, 3) := by decide +kernel
theorem dX1_putRow_149 : decode cX1_putRow 149 = .ok (.return_, 1) := by decide +kernel
def m_X1_putRow_93  (Q : Hp → Prop) (v0 : Nat) (v3 : Int32) (v4 : Int64) (v6 : Int32) (v7 : Int32) (v8 : Int32) (s0 : Nat) (s1 : Int32) (s2 : Nat) (s3 : Int32) (s4 : Int32) (h : Hp) : Prop := vp_in (s3 + s4) 96 ∧ (vp_in s1 216 ∧ (vp_in (v8 + 3) 216 ∧ (vp_in (v8 + 4) 216 ∧ (vp_in (v8 + 5) 216 ∧ (vp_in (hI (wI (wI (wI (wI h s0 (ix s1) (hI h s2 (ix (s3 + s4)))) (v0 + 2) (ix (v8 + 3)) v3) (v0 + 2) (ix (v8 + 4)) v6) (v0 + 2) (ix (v8 + 5)) v7) v0 6) 36 ∧ (Q (wI (wJ (wI (wI (wI (wI h s0 (ix s1) (hI h s2 (ix (s3 + s4)))) (v0 + 2) (ix (v8 + 3)) v3) (v0 + 2) (ix (v8 + 4)) v6) (v0 + 2) (ix (v8 + 5)) v7) (v0 + 3) (ix (hI (wI (wI (wI (wI h s0 (ix s1) (hI h s2 (ix (s3 + s4)))) (v0 + 2) (ix (v8 + 3)) v3) (v0 + 2) (ix (v8 + 4)) v6) (v0 + 2) (ix (v8 + 5)) v7) v0 6)) v4) v0 6 ((hI (wJ (wI (wI (wI (wI h s0 (ix s1) (hI h s2 (ix (s3 + s4)))) (v0 + 2) (ix (v8 + 3)) v3) (v0 + 2) (ix (v8 + 4)) v6) (v0 + 2) (ix (v8 + 5)) v7) (v0 + 3) (ix (hI (wI (wI (wI (wI h s0 (ix s1) (hI h s2 (ix (s3 + s4)))) (v0 + 2) (ix (v8 + 3)) v3) (v0 + 2) (ix (v8 + 4)) v6) (v0 + 2) (ix (v8 + 5)) v7) v0 6)) v4) v0 6) + 1))))))))
set_option maxHeartbeats 4000000 in
set_option maxRecDepth 100000 in
theorem s_X1_putRow_93 {l : Launch} {G : Cx} {d : Nat} {h0 : Hp} (hd : 2 ≤ d) {Q : Hp → Prop} {v0 : Nat} {v3 : Int32} {v4 : Int64} {v6 : Int32} {v7 : Int32} {v8 : Int32} {s0 : Nat} {s1 : Int32} {s2 : Nat} {s3 : Int32} {s4 : Int32} {h : Hp} (hm : m_X1_putRow_93 Q v0 v3 v4 v6 v7 v8 s0 s1 s2 s3 s4 h) : Rn l G d 0 0 MX1_putRow h0 (qV Q) 93 [some (tR 1 0 (some v0)), none, none, some (tI v3), some (tJ v4), none, some (tI v6), some (tI v7), some (tI v8)] [tI s4, tI s3, tR 40 96 (some s2), tI s1, tR 40 216 (some s0)] h 0 0 := by
  unfold m_X1_putRow_93 at hm
  refine r_iadd dX1_putRow_93 ?_
  refine r_iald dX1_putRow_94 hm.1 ?_
  replace hm := hm.2
  refine r_iast dX1_putRow_95 hm.1 ?_
  replace hm := hm.2
  refine r_aload_n dX1_putRow_96 rfl rfl ?_
  refine r_getC (k := 10) cl_1 dX1_putRow_97 t_471 gf_1_10.1 gf_1_10.2 (gc_1_10 _) ?_
  refine r_iload dX1_putRow_100 rfl ?_
  refine r_iconst (v := 3) dX1_putRow_102 rfl ?_
  refine r_iadd dX1_putRow_103 ?_
  refine r_iload_n dX1_putRow_104 rfl rfl ?_
  refine r_iast dX1_putRow_105 hm.1 ?_
  replace hm := hm.2
  refine r_aload_n dX1_putRow_106 rfl rfl ?_
  refine r_getC (k := 10) cl_1 dX1_putRow_107 t_471 gf_1_10.1 gf_1_10.2 (gc_1_10 _) ?_
  refine r_iload dX1_putRow_110 rfl ?_
  refine r_iconst (v := 4) dX1_putRow_112 rfl ?_
  refine r_iadd dX1_putRow_113 ?_
  refine r_iload dX1_putRow_114 rfl ?_
  refine r_iast dX1_putRow_116 hm.1 ?_
  replace hm := hm.2
  refine r_aload_n dX1_putRow_117 rfl rfl ?_
  refine r_getC (k := 10) cl_1 dX1_putRow_118 t_471 gf_1_10.1 gf_1_10.2 (gc_1_10 _) ?_
  refine r_iload dX1_putRow_121 rfl ?_
  refine r_iconst (v := 5) dX1_putRow_123 rfl ?_
  refine r_iadd dX1_putRow_124 ?_
  refine r_iload dX1_putRow_125 rfl ?_
  refine r_iast dX1_putRow_127 hm.1 ?_
  replace hm := hm.2
  refine r_aload_n dX1_putRow_128 rfl rfl ?_
  refine r_getC (k := 11) cl_1 dX1_putRow_129 t_475 gf_1_11.1 gf_1_11.2 (gc_1_11 _) ?_
  refine r_aload_n dX1_putRow_132 rfl rfl ?_
  refine r_getI (k := 6) cl_1 dX1_putRow_133 t_460 (Or.inl rfl) gf_1_6 ?_
  refine r_lload dX1_putRow_136 rfl ?_
  refine r_last dX1_putRow_138 hm.1 ?_
  replace hm := hm.2
  refine r_aload_n dX1_putRow_139 rfl rfl ?_
  refine r_dup dX1_putRow_140 cv_cat1R ?_
  refine r_getI (k := 6) cl_1 dX1_putRow_141 t_460 (Or.inl rfl) gf_1_6 ?_
  refine r_iconst (v := 1) dX1_putRow_144 rfl ?_
  refine r_iadd dX1_putRow_145 ?_
  refine r_putI0 (k := 6) cl_1 dX1_putRow_146 t_460 (Or.inl rfl) gf_1_6 pf_1_6.1 (Or.inl pf_1_6.2) ?_
  exact r_return dX1_putRow_149 rfl ⟨by decide, by decide⟩ ⟨rfl, hm⟩
def m_X1_putRow_68  (Q : Hp → Prop) (v0 : Nat) (v1 : Int32) (v2 : Int32) (v3 : Int32) (v4 : Int64) (v6 : Int32) (v7 : Int32) (v8 : Int32) (s0 : Nat) (s1 : Int32) (s2 : Nat) (s3 : Int32) (s4 : Int32) (h : Hp) : Prop := vp_in (s3 + s4) 96 ∧ (vp_in s1 216 ∧ ((v2 = 0 → m_X1_putRow_93 Q v0 v3 v4 v6 v7 v8 (v0 + 2) (v8 + 2) (v0 + 1) v1 2 (wI h s0 (ix s1) (hI h s2 (ix (s3 + s4))))) ∧ (¬ v2 = 0 → m_X1_putRow_93 Q v0 v3 v4 v6 v7 v8 (v0 + 2) (v8 + 2) (v0 + 1) v1 1 (wI h s0 (ix s1) (hI h s2 (ix (s3 + s4)))))))
set_option maxHeartbeats 4000000 in
set_option maxRecDepth 100000 in
theorem s_X1_putRow_68 {l : Launch} {G : Cx} {d : Nat} {h0 : Hp} (hd : 2 ≤ d) {Q : Hp → Prop} {v0 : Nat} {v1 : Int32} {v2 : Int32} {v3 : Int32} {v4 : Int64} {v6 : Int32} {v7 : Int32} {v8 : Int32} {s0 : Nat} {s1 : Int32} {s2 : Nat} {s3 : Int32} {s4 : Int32} {h : Hp} (hm : m_X1_putRow_68 Q v0 v1 v2 v3 v4 v6 v7 v8 s0 s1 s2 s3 s4 h) : Rn l G d 0 0 MX1_putRow h0 (qV Q) 68 [some (tR 1 0 (some v0)), some (tI v1), some (tI v2), some (tI v3), some (tJ v4), none, some (tI v6), some (tI v7), some (tI v8)] [tI s4, tI s3, tR 40 96 (some s2), tI s1, tR 40 216 (some s0)] h 0 0 := by
  unfold m_X1_putRow_68 at hm
  refine r_iadd dX1_putRow_68 ?_
  refine r_iald dX1_putRow_69 hm.1 ?_
  replace hm := hm.2
  refine r_iast dX1_putRow_70 hm.1 ?_
  replace hm := hm.2
  refine r_aload_n dX1_putRow_71 rfl rfl ?_
  refine r_getC (k := 10) cl_1 dX1_putRow_72 t_471 gf_1_10.1 gf_1_10.2 (gc_1_10 _) ?_
  refine r_iload dX1_putRow_75 rfl ?_
  refine r_iconst (v := 2) dX1_putRow_77 rfl ?_
  refine r_iadd dX1_putRow_78 ?_
  refine r_aload_n dX1_putRow_79 rfl rfl ?_
  refine r_getC (k := 9) cl_1 dX1_putRow_80 t_468 gf_1_9.1 gf_1_9.2 (gc_1_9 _) ?_
  refine r_iload_n dX1_putRow_83 rfl rfl ?_
  refine r_iload_n dX1_putRow_84 rfl rfl ?_
  refine r_if_eq (tgt := 92) dX1_putRow_85 rfl (fun hc => ?_) (fun hc => ?_)
  · replace hm := hm.1 hc
    refine r_iconst (v := 2) dX1_putRow_92 rfl ?_
    refine r_keep (L' := [some (tR 1 0 (some v0)), none, none, some (tI v3), some (tJ v4), none, some (tI v6), some (tI v7), some (tI v8)]) [true, false, false, true, true, false, true, true, true] rfl ?_
    exact s_X1_putRow_93 hd hm
  · replace hm := hm.2 hc
    refine r_iconst (v := 1) dX1_putRow_88 rfl ?_
    refine r_goto (tgt := 93) dX1_putRow_89 rfl ?_
    refine r_keep (L' := [some (tR 1 0 (some v0)), none, none, some (tI v3), some (tJ v4), none, some (tI v6), some (tI v7), some (tI v8)]) [true, false, false, true, true, false, true, true, true] rfl ?_
    exact s_X1_putRow_93 hd hm
def m_X1_putRow_43  (Q : Hp → Prop) (v0 : Nat) (v1 : Int32) (v2 : Int32) (v3 : Int32) (v4 : Int64) (v6 : Int32) (v7 : Int32) (v8 : Int32) (s0 : Nat) (s1 : Int32) (s2 : Nat) (s3 : Int32) (s4 : Int32) (h : Hp) : Prop := vp_in (s3 + s4) 96 ∧ (vp_in s1 216 ∧ ((v2 = 0 → m_X1_putRow_68 Q v0 v1 v2 v3 v4 v6 v7 v8 (v0 + 2) (v8 + 1) (v0 + 1) v1 1 (wI h s0 (ix s1) (hI h s2 (ix (s3 + s4))))) ∧ (¬ v2 = 0 → m_X1_putRow_68 Q v0 v1 v2 v3 v4 v6 v7 v8 (v0 + 2) (v8 + 1) (v0 + 1) v1 2 (wI h s0 (ix s1) (hI h s2 (ix (s3 + s4)))))))
set_option maxHeartbeats 4000000 in
set_option maxRecDepth 100000 in
theorem s_X1_putRow_43 {l : Launch} {G : Cx} {d : Nat} {h0 : Hp} (hd : 2 ≤ d) {Q : Hp → Prop} {v0 : Nat} {v1 : Int32} {v2 : Int32} {v3 : Int32} {v4 : Int64} {v6 : Int32} {v7 : Int32} {v8 : Int32} {s0 : Nat} {s1 : Int32} {s2 : Nat} {s3 : Int32} {s4 : Int32} {h : Hp} (hm : m_X1_putRow_43 Q v0 v1 v2 v3 v4 v6 v7 v8 s0 s1 s2 s3 s4 h) : Rn l G d 0 0 MX1_putRow h0 (qV Q) 43 [some (tR 1 0 (some v0)), some (tI v1), some (tI v2), some (tI v3), some (tJ v4), none, some (tI v6), some (tI v7), some (tI v8)] [tI s4, tI s3, tR 40 96 (some s2), tI s1, tR 40 216 (some s0)] h 0 0 := by
  unfold m_X1_putRow_43 at hm
  refine r_iadd dX1_putRow_43 ?_
  refine r_iald dX1_putRow_44 hm.1 ?_
  replace hm := hm.2
  refine r_iast dX1_putRow_45 hm.1 ?_
  replace hm := hm.2
  refine r_aload_n dX1_putRow_46 rfl rfl ?_
  refine r_getC (k := 10) cl_1 dX1_putRow_47 t_471 gf_1_10.1 gf_1_10.2 (gc_1_10 _) ?_
  refine r_iload dX1_putRow_50 rfl ?_
  refine r_iconst (v := 1) dX1_putRow_52 rfl ?_
  refine r_iadd dX1_putRow_53 ?_
  refine r_aload_n dX1_putRow_54 rfl rfl ?_
  refine r_getC (k := 9) cl_1 dX1_putRow_55 t_468 gf_1_9.1 gf_1_9.2 (gc_1_9 _) ?_
  refine r_iload_n dX1_putRow_58 rfl rfl ?_
  refine r_iload_n dX1_putRow_59 rfl rfl ?_
  refine r_if_eq (tgt := 67) dX1_putRow_60 rfl (fun hc => ?_) (fun hc => ?_)
  · replace hm := hm.1 hc
    refine r_iconst (v := 1) dX1_putRow_67 rfl ?_
    refine r_keep (L' := [some (tR 1 0 (some v0)), some (tI v1), some (tI v2), some (tI v3), some (tJ v4), none, some (tI v6), some (tI v7), some (tI v8)]) [true, true, true, true, true, false, true, true, true] rfl ?_
    exact s_X1_putRow_68 hd hm
  · replace hm := hm.2 hc
    refine r_iconst (v := 2) dX1_putRow_63 rfl ?_
    refine r_goto (tgt := 68) dX1_putRow_64 rfl ?_
    refine r_keep (L' := [some (tR 1 0 (some v0)), some (tI v1), some (tI v2), some (tI v3), some (tJ v4), none, some (tI v6), some (tI v7), some (tI v8)]) [true, true, true, true, true, false, true, true, true] rfl ?_
    exact s_X1_putRow_68 hd hm
def m_X1_putRow (v0 : Nat) (v1 : Int32) (v2 : Int32) (v3 : Int32) (v4 : Int64) (v6 : Int32) (v7 : Int32) (h : Hp) (Q : Hp → Prop) : Prop := ((hI h v0 6) < 36 → ∀ x1 : Int32, x1 = ((hI h v0 6) * 6) → (v2 = 0 → m_X1_putRow_43 Q v0 v1 v2 v3 v4 v6 v7 x1 (v0 + 2) (x1 + 0) (v0 + 1) v1 6 h) ∧ (¬ v2 = 0 → m_X1_putRow_43 Q v0 v1 v2 v3 v4 v6 v7 x1 (v0 + 2) (x1 + 0) (v0 + 1) v1 7 h)) ∧ (¬ (hI h v0 6) < 36 → Q h)
set_option maxHeartbeats 4000000 in
set_option maxRecDepth 100000 in
theorem s_X1_putRow {l : Launch} {G : Cx} {d : Nat} (hd : 2 ≤ d) {v0 : Nat} {v1 : Int32} {v2 : Int32} {v3 : Int32} {v4 : Int64} {v6 : Int32} {v7 : Int32} {h : Hp} {Q : Hp → Prop} (hm : m_X1_putRow v0 v1 v2 v3 v4 v6 v7 h Q) : Ct l G d 0 0 yX1_putRow MX1_putRow [tR 1 0 (some v0), tI v1, tI v2, tI v3, tJ v4, tI v6, tI v7] h (qV Q) := by
  unfold m_X1_putRow at hm
  refine Ct.of (L := [some (tR 1 0 (some v0)), some (tI v1), some (tI v2), some (tI v3), some (tJ v4), none, some (tI v6), some (tI v7)]) (by decide) rfl rfl (Nat.le_of_ble_eq_true rfl) rfl ?_
  refine r_aload_n dX1_putRow_0 rfl rfl ?_
  refine r_getI (k := 6) cl_1 dX1_putRow_1 t_460 (Or.inl rfl) gf_1_6 ?_
  refine r_bipush (v := 36) dX1_putRow_4 rfl ?_
  refine r_icmp_lt (tgt := 10) dX1_putRow_6 rfl (fun hc => ?_) (fun hc => ?_)
  · replace hm := hm.1 hc
    refine r_aload_n dX1_putRow_10 rfl rfl ?_
    refine r_getI (k := 6) cl_1 dX1_putRow_11 t_460 (Or.inl rfl) gf_1_6 ?_
    refine r_bipush (v := 6) dX1_putRow_14 rfl ?_
    refine r_imul dX1_putRow_16 ?_
    refine r_nmI (fun x1 e_x1 => ?_)
    replace hm := hm x1 e_x1
    refine r_istore (L' := [some (tR 1 0 (some v0)), some (tI v1), some (tI v2), some (tI v3), some (tJ v4), none, some (tI v6), some (tI v7), some (tI x1)]) dX1_putRow_17 (by decide) rfl ?_
    refine r_aload_n dX1_putRow_19 rfl rfl ?_
    refine r_getC (k := 10) cl_1 dX1_putRow_20 t_471 gf_1_10.1 gf_1_10.2 (gc_1_10 _) ?_
    refine r_iload dX1_putRow_23 rfl ?_
    refine r_iconst (v := 0) dX1_putRow_25 rfl ?_
    refine r_iadd dX1_putRow_26 ?_
    refine r_aload_n dX1_putRow_27 rfl rfl ?_
    refine r_getC (k := 9) cl_1 dX1_putRow_28 t_468 gf_1_9.1 gf_1_9.2 (gc_1_9 _) ?_
    refine r_iload_n dX1_putRow_31 rfl rfl ?_
    refine r_iload_n dX1_putRow_32 rfl rfl ?_
    refine r_if_eq (tgt := 41) dX1_putRow_33 rfl (fun hc => ?_) (fun hc => ?_)
    · replace hm := hm.1 hc
      refine r_bipush (v := 6) dX1_putRow_41 rfl ?_
      refine r_keep (L' := [some (tR 1 0 (some v0)), some (tI v1), some (tI v2), some (tI v3), some (tJ v4), none, some (tI v6), some (tI v7), some (tI x1)]) [true, true, true, true, true, false, true, true, true] rfl ?_
      exact s_X1_putRow_43 hd hm
    · replace hm := hm.2 hc
      refine r_bipush (v := 7) dX1_putRow_36 rfl ?_
      refine r_goto (tgt := 43) dX1_putRow_38 rfl ?_
      refine r_keep (L' := [some (tR 1 0 (some v0)), some (tI v1), some (tI v2), some (tI v3), some (tJ v4), none, some (tI v6), some (tI v7), some (tI x1)]) [true, true, true, true, true, false, true, true, true] rfl ?_
      exact s_X1_putRow_43 hd hm
  · replace hm := hm.2 hc
    exact r_return dX1_putRow_9 rfl ⟨by decide, by decide⟩ ⟨rfl, hm⟩
theorem dX1_putRows_0 : decode cX1_putRows 0 = .ok (.aload_n 0, 1) := by decide +kernel
theorem dX1_putRows_1 : decode cX1_putRows 1 = .ok (.getfield 29, 3) := by decide +kernel
theorem dX1_putRows_4 : decode cX1_putRows 4 = .ok (.iconst 1, 1) := by decide +kernel
theorem dX1_putRows_5 : decode cX1_putRows 5 = .ok (.isub, 1) := by decide +kernel
theorem dX1_putRows_6 : decode cX1_putRows 6 = .ok (.bipush 8, 2) := by decide +kernel
theorem dX1_putRows_8 : decode cX1_putRows 8 = .ok (.imul, 1) := by decide +kernel
theorem dX1_putRows_9 : decode cX1_putRows 9 = .ok (.istore 4, 2) := by decide +kernel
theorem dX1_putRows_11 : decode cX1_putRows 11 = .ok (.iload 4, 2) := by decide +kernel
theorem dX1_putRows_13 : decode cX1_putRows 13 = .ok (.ifCond .lt 7, 3) := by decide +kernel
theorem dX1_putRows_16 : decode cX1_putRows 16 = .ok (.iload_n 1, 1) := by decide +kernel
theorem dX1_putRows_17 : decode cX1_putRows 17 = .ok (.ifCond .ne 4, 3) := by decide +kernel
theorem dX1_putRows_20 : decode cX1_putRows 20 = .ok (.return_, 1) := by decide +kernel
theorem dX1_putRows_21 : decode cX1_putRows 21 = .ok (.aload_n 0, 1) := by decide +kernel
theorem dX1_putRows_22 : decode cX1_putRows 22 = .ok (.getfield 9, 3) := by decide +kernel
theorem dX1_putRows_25 : decode cX1_putRows 25 = .ok (.iload 4, 2) := by decide +kernel
theorem dX1_putRows_27 : decode cX1_putRows 27 = .ok (.iconst 0, 1) := by decide +kernel
theorem dX1_putRows_28 : decode cX1_putRows 28 = .ok (.iadd, 1) := by decide +kernel
theorem dX1_putRows_29 : decode cX1_putRows 29 = .ok (.iaload, 1) := by decide +kernel
theorem dX1_putRows_30 : decode cX1_putRows 30 = .ok (.istore 5, 2) := by decide +kernel
theorem dX1_putRows_32 : decode cX1_putRows 32 = .ok (.aload_n 0, 1) := by decide +kernel
theorem dX1_putRows_33 : decode cX1_putRows 33 = .ok (.getfield 9, 3) := by decide +kernel
theorem dX1_putRows_36 : decode cX1_putRows 36 = .ok (.iload 4, 2) := by decide +kernel
theorem dX1_putRows_38 : decode cX1_putRows 38 = .ok (.iconst 3, 1) := by decide +kernel
theorem dX1_putRows_39 : decode cX1_putRows 39 = .ok (.iadd, 1) := by decide +kernel
theorem dX1_putRows_40 : decode cX1_putRows 40 = .ok (.iaload, 1) := by decide +kernel
theorem dX1_putRows_41 : decode cX1_putRows 41 = .ok (.istore 6, 2) := by decide +kernel
theorem dX1_putRows_43 : decode cX1_putRows 43 = .ok (.aload_n 0, 1) := by decide +kernel
theorem dX1_putRows_44 : decode cX1_putRows 44 = .ok (.getfield 9, 3) := by decide +kernel
theorem dX1_putRows_47 : decode cX1_putRows 47 = .ok (.iload 4, 2) := by decide +kernel
theorem dX1_putRows_49 : decode cX1_putRows 49 = .ok (.iconst 4, 1) := by decide +kernel
theorem dX1_putRows_50 : decode cX1_putRows 50 = .ok (.iadd, 1) := by decide +kernel
theorem dX1_putRows_51 : decode cX1_putRows 51 = .ok (.iaload, 1) := by decide +kernel
theorem dX1_putRows_52 : decode cX1_putRows 52 = .ok (.i2l, 1) := by decide +kernel
theorem dX1_putRows_53 : decode cX1_putRows 53 = .ok (.iload_n 1, 1) := by decide +kernel
theorem dX1_putRows_54 : decode cX1_putRows 54 = .ok (.i2l, 1) := by decide +kernel
theorem dX1_putRows_55 : decode cX1_putRows 55 = .ok (.lmul, 1) := by decide +kernel
theorem dX1_putRows_56 : decode cX1_putRows 56 = .ok (.lstore 7, 2) := by decide +kernel
theorem dX1_putRows_58 : decode cX1_putRows 58 = .ok (.aload_n 0, 1) := by decide +kernel
theorem dX1_putRows_59 : decode cX1_putRows 59 = .ok (.iload 4, 2) := by decide +kernel
theorem dX1_putRows_61 : decode cX1_putRows 61 = .ok (.iconst 0, 1) := by decide +kernel
theorem dX1_putRows_62 : decode cX1_putRows 62 = .ok (.iload 6, 2) := by decide +kernel
theorem dX1_putRows_64 : decode cX1_putRows 64 = .ok (.lload 7, 2) := by decide +kernel
theorem dX1_putRows_66 : decode cX1_putRows 66 = .ok (.iload_n 2, 1) := by decide +kernel
theorem dX1_putRows_67 : decode cX1_putRows 67 = .ok (.iload_n 3, 1) := by decide +kernel
theorem dX1_putRows_68 : decode cX1_putRows 68 = .ok (.invokevirtual 50, 3) := by decide +kernel
theorem dX1_putRows_71 : decode cX1_putRows 71 = .ok (.iload 5, 2) := by decide +kernel
theorem dX1_putRows_73 : decode cX1_putRows 73 = .ok (.iconst 3, 1) := by decide +kernel
theorem dX1_putRows_74 : decode cX1_putRows 74 = .ok (.if_icmp .ne 16, 3) := by decide +kernel
theorem dX1_putRows_77 : decode cX1_putRows 77 = .ok (.aload_n 0, 1) := by decide +kernel
theorem dX1_putRows_78 : decode cX1_putRows 78 = .ok (.iload 4, 2) := by decide +kernel
theorem dX1_putRows_80 : decode cX1_putRows 80 = .ok (.iconst 1, 1) := by decide +kernel
theorem dX1_putRows_81 : decode cX1_putRows 81 = .ok (.iload 6, 2) := by decide +kernel
theorem dX1_putRows_83 : decode cX1_putRows 83 = .ok (.lload 7, 2) := by decide +kernel
theorem dX1_putRows_85 : decode cX1_putRows 85 = .ok (.iload_n 2, 1) := by decide +kernel
theorem dX1_putRows_86 : decode cX1_putRows 86 = .ok (.iload_n 3, 1) := by decide +kernel
theorem dX1_putRows_87 : decode cX1_putRows 87 = .ok (.invokevirtual 50, 3) := by decide +kernel
theorem dX1_putRows_90 : decode cX1_putRows 90 = .ok (.iload 5, 2) := by decide +kernel
theorem dX1_putRows_92 : decode cX1_putRows 92 = .ok (.iconst 2, 1) := by decide +kernel
theorem dX1_putRows_93 : decode cX1_putRows 93 = .ok (.if_icmp .eq 9, 3) := by decide +kernel
theorem dX1_putRows_96 : decode cX1_putRows 96 = .ok (.iload 5, 2) := by decide +kernel
theorem dX1_putRows_98 : decode cX1_putRows 98 = .ok (.iconst 3, 1) := by decide +kernel
theorem dX1_putRows_99 : decode cX1_putRows 99 = .ok (.if_icmp .ne 26, 3) := by decide +kernel
theorem dX1_putRows_102 : decode cX1_putRows 102 = .ok (.aload_n 0, 1) := by decide +kernel
theorem dX1_putRows_103 : decode cX1_putRows 103 = .ok (.iload 4, 2) := by decide +kernel
theorem dX1_putRows_105 : decode cX1_putRows 105 = .ok (.iconst 1, 1) := by decide +kernel
theorem dX1_putRows_106 : decode cX1_putRows 106 = .ok (.iconst 0, 1) := by decide +kernel
theorem dX1_putRows_107 : decode cX1_putRows 107 = .ok (.aload_n 0, 1) := by decide +kernel
theorem dX1_putRows_108 : decode cX1_putRows 108 = .ok (.getfield 9, 3) := by decide +kernel
theorem dX1_putRows_111 : decode cX1_putRows 111 = .ok (.iload 4, 2) := by decide +kernel
theorem dX1_putRows_113 : decode cX1_putRows 113 = .ok (.iconst 5, 1) := by decide +kernel
theorem dX1_putRows_114 : decode cX1_putRows 114 = .ok (.iadd, 1) := by decide +kernel
theorem dX1_putRows_115 : decode cX1_putRows 115 = .ok (.iaload, 1) := by decide +kernel
theorem dX1_putRows_116 : decode cX1_putRows 116 = .ok (.i2l, 1) := by decide +kernel
theorem dX1_putRows_117 : decode cX1_putRows 117 = .ok (.iload_n 1, 1) := by decide +kernel
theorem dX1_putRows_118 : decode cX1_putRows 118 = .ok (.i2l, 1) := by decide +kernel
theorem dX1_putRows_119 : decode cX1_putRows 119 = .ok (.lmul, 1) := by decide +kernel
theorem dX1_putRows_120 : decode cX1_putRows 120 = .ok (.iload_n 2, 1) := by decide +kernel
theorem dX1_putRows_121 : decode cX1_putRows 121 = .ok (.iload_n 3, 1) := by decide +kernel
theorem dX1_putRows_122 : decode cX1_putRows 122 = .ok (.invokevirtual 50, 3) := by decide +kernel
theorem dX1_putRows_125 : decode cX1_putRows 125 = .ok (.return_, 1) := by decide +kernel
def m_X1_putRows_102  (Q : Hp → Prop) (v0 : Nat) (v1 : Int32) (v2 : Int32) (v3 : Int32) (v4 : Int32) (h : Hp) : Prop := vp_in (v4 + 5) 96 ∧ (m_X1_putRow v0 v4 1 0 (((hI h (v0 + 1) (ix (v4 + 5))).toInt64) * v1.toInt64) v2 v3 h (fun (h2 : Hp) => Q h2))
set_option maxHeartbeats 4000000 in
set_option maxRecDepth 100000 in
theorem s_X1_putRows_102 {l : Launch} {G : Cx} {d : Nat} {h0 : Hp} (hd : 4 ≤ d) {Q : Hp → Prop} {v0 : Nat} {v1 : Int32} {v2 : Int32} {v3 : Int32} {v4 : Int32} {h : Hp} (hm : m_X1_putRows_102 Q v0 v1 v2 v3 v4 h) : Rn l G d 0 0 MX1_putRows h0 (qV Q) 102 [some (tR 1 0 (some v0)), some (tI v1), some (tI v2), some (tI v3), some (tI v4)] [] h 0 0 := by
  unfold m_X1_putRows_102 at hm
  refine r_aload_n dX1_putRows_102 rfl rfl ?_
  refine r_iload dX1_putRows_103 rfl ?_
  refine r_iconst (v := 1) dX1_putRows_105 rfl ?_
  refine r_iconst (v := 0) dX1_putRows_106 rfl ?_
  refine r_aload_n dX1_putRows_107 rfl rfl ?_
  refine r_getC (k := 9) cl_1 dX1_putRows_108 t_468 gf_1_9.1 gf_1_9.2 (gc_1_9 _) ?_
  refine r_iload dX1_putRows_111 rfl ?_
  refine r_iconst (v := 5) dX1_putRows_113 rfl ?_
  refine r_iadd dX1_putRows_114 ?_
  refine r_iald dX1_putRows_115 hm.1 ?_
  replace hm := hm.2
  refine r_i2l dX1_putRows_116 ?_
  refine r_iload_n dX1_putRows_117 rfl rfl ?_
  refine r_i2l dX1_putRows_118 ?_
  refine r_lmul dX1_putRows_119 ?_
  refine r_iload_n dX1_putRows_120 rfl rfl ?_
  refine r_iload_n dX1_putRows_121 rfl rfl ?_
  refine r_callVU (d' := d - 1) (as := [tI v4, tI 1, tI 0, tJ (((hI h (v0 + 1) (ix (v4 + 5))).toInt64) * v1.toInt64), tI v2, tI v3]) (st := []) cl_1 dX1_putRows_122 mi_X1_putRow t_662 t_664 ts_9 rfl rfl (Nat.le_of_ble_eq_true rfl) (by omega) ⟨by decide, by decide⟩ ⟨rfl, rfl⟩ (s_X1_putRow (by omega) hm) (fun h2 hm => ?_)
  exact r_return dX1_putRows_125 rfl ⟨by decide, by decide⟩ ⟨rfl, hm⟩
def m_X1_putRows_90  (Q : Hp → Prop) (v0 : Nat) (v1 : Int32) (v2 : Int32) (v3 : Int32) (v4 : Int32) (v5 : Int32) (h : Hp) : Prop := (v5 = 2 → m_X1_putRows_102 Q v0 v1 v2 v3 v4 h) ∧ (¬ v5 = 2 → (¬ v5 = 3 → Q h) ∧ (v5 = 3 → m_X1_putRows_102 Q v0 v1 v2 v3 v4 h))
set_option maxHeartbeats 4000000 in
set_option maxRecDepth 100000 in
theorem s_X1_putRows_90 {l : Launch} {G : Cx} {d : Nat} {h0 : Hp} (hd : 4 ≤ d) {Q : Hp → Prop} {v0 : Nat} {v1 : Int32} {v2 : Int32} {v3 : Int32} {v4 : Int32} {v5 : Int32} {h : Hp} (hm : m_X1_putRows_90 Q v0 v1 v2 v3 v4 v5 h) : Rn l G d 0 0 MX1_putRows h0 (qV Q) 90 [some (tR 1 0 (some v0)), some (tI v1), some (tI v2), some (tI v3), some (tI v4), some (tI v5)] [] h 0 0 := by
  unfold m_X1_putRows_90 at hm
  refine r_iload dX1_putRows_90 rfl ?_
  refine r_iconst (v := 2) dX1_putRows_92 rfl ?_
  refine r_icmp_eq (tgt := 102) dX1_putRows_93 rfl (fun hc => ?_) (fun hc => ?_)
  · replace hm := hm.1 hc
    refine r_keep (L' := [some (tR 1 0 (some v0)), some (tI v1), some (tI v2), some (tI v3), some (tI v4)]) [true, true, true, true, true] rfl ?_
    exact s_X1_putRows_102 hd hm
  · replace hm := hm.2 hc
    refine r_iload dX1_putRows_96 rfl ?_
    refine r_iconst (v := 3) dX1_putRows_98 rfl ?_
    refine r_icmp_ne (tgt := 125) dX1_putRows_99 rfl (fun hc => ?_) (fun hc => ?_)
    · replace hm := hm.1 hc
      exact r_return dX1_putRows_125 rfl ⟨by decide, by decide⟩ ⟨rfl, hm⟩
    · replace hm := hm.2 hc
      refine r_keep (L' := [some (tR 1 0 (some v0)), some (tI v1), some (tI v2), some (tI v3), some (tI v4)]) [true, true, true, true, true] rfl ?_
      exact s_X1_putRows_102 hd hm
def m_X1_putRows (v0 : Nat) (v1 : Int32) (v2 : Int32) (v3 : Int32) (h : Hp) (Q : Hp → Prop) : Prop := ∀ x3 : Int32, x3 = (((hI h v0 2) - 1) * 8) → (x3 < 0 → Q h) ∧ (¬ x3 < 0 → (¬ v1 = 0 → vp_in (x3 + 0) 96 ∧ (∀ x4 : Int32, x4 = (hI h (v0 + 1) (ix (x3 + 0))) → vp_in (x3 + 3) 96 ∧ (∀ x5 : Int32, x5 = (hI h (v0 + 1) (ix (x3 + 3))) → vp_in (x3 + 4) 96 ∧ (∀ x6 : Int64, x6 = (((hI h (v0 + 1) (ix (x3 + 4))).toInt64) * v1.toInt64) → m_X1_putRow v0 x3 0 x5 x6 v2 v3 h (fun (h8 : Hp) => (¬ x4 = 3 → m_X1_putRows_90 Q v0 v1 v2 v3 x3 x4 h8) ∧ (x4 = 3 → m_X1_putRow v0 x3 1 x5 x6 v2 v3 h8 (fun (h10 : Hp) => m_X1_putRows_90 Q v0 v1 v2 v3 x3 x4 h10))))))) ∧ (v1 = 0 → Q h))
set_option maxHeartbeats 4000000 in
set_option maxRecDepth 100000 in
theorem s_X1_putRows {l : Launch} {G : Cx} {d : Nat} (hd : 4 ≤ d) {v0 : Nat} {v1 : Int32} {v2 : Int32} {v3 : Int32} {h : Hp} {Q : Hp → Prop} (hm : m_X1_putRows v0 v1 v2 v3 h Q) : Ct l G d 0 0 yX1_putRows MX1_putRows [tR 1 0 (some v0), tI v1, tI v2, tI v3] h (qV Q) := by
  unfold m_X1_putRows at hm
  refine Ct.of (L := [some (tR 1 0 (some v0)), some (tI v1), some (tI v2), some (tI v3)]) (by decide) rfl rfl (Nat.le_of_ble_eq_true rfl) rfl ?_
  refine r_aload_n dX1_putRows_0 rfl rfl ?_
  refine r_getI (k := 2) cl_1 dX1_putRows_1 t_441 (Or.inl rfl) gf_1_2 ?_
  refine r_iconst (v := 1) dX1_putRows_4 rfl ?_
  refine r_isub dX1_putRows_5 ?_
  refine r_bipush (v := 8) dX1_putRows_6 rfl ?_
  refine r_imul dX1_putRows_8 ?_
  refine r_nmI (fun x3 e_x3 => ?_)
  replace hm := hm x3 e_x3
  refine r_istore (L' := [some (tR 1 0 (some v0)), some (tI v1), some (tI v2), some (tI v3), some (tI x3)]) dX1_putRows_9 (by decide) rfl ?_
  refine r_iload dX1_putRows_11 rfl ?_
  refine r_if_lt (tgt := 20) dX1_putRows_13 rfl (fun hc => ?_) (fun hc => ?_)
  · replace hm := hm.1 hc
    exact r_return dX1_putRows_20 rfl ⟨by decide, by decide⟩ ⟨rfl, hm⟩
  · replace hm := hm.2 hc
    refine r_iload_n dX1_putRows_16 rfl rfl ?_
    refine r_if_ne (tgt := 21) dX1_putRows_17 rfl (fun hc => ?_) (fun hc => ?_)
    · replace hm := hm.1 hc
      refine r_aload_n dX1_putRows_21 rfl rfl ?_
      refine r_getC (k := 9) cl_1 dX1_putRows_22 t_468 gf_1_9.1 gf_1_9.2 (gc_1_9 _) ?_
      refine r_iload dX1_putRows_25 rfl ?_
      refine r_iconst (v := 0) dX1_putRows_27 rfl ?_
      refine r_iadd dX1_putRows_28 ?_
      refine r_iald dX1_putRows_29 hm.1 ?_
      replace hm := hm.2
      refine r_nmI (fun x4 e_x4 => ?_)
      replace hm := hm x4 e_x4
      refine r_istore (L' := [some (tR 1 0 (some v0)), some (tI v1), some (tI v2), some (tI v3), some (tI x3), some (tI x4)]) dX1_putRows_30 (by decide) rfl ?_
      refine r_aload_n dX1_putRows_32 rfl rfl ?_
      refine r_getC (k := 9) cl_1 dX1_putRows_33 t_468 gf_1_9.1 gf_1_9.2 (gc_1_9 _) ?_
      refine r_iload dX1_putRows_36 rfl ?_
      refine r_iconst (v := 3) dX1_putRows_38 rfl ?_
      refine r_iadd dX1_putRows_39 ?_
      refine r_iald dX1_putRows_40 hm.1 ?_
      replace hm := hm.2
      refine r_nmI (fun x5 e_x5 => ?_)
      replace hm := hm x5 e_x5
      refine r_istore (L' := [some (tR 1 0 (some v0)), some (tI v1), some (tI v2), some (tI v3), some (tI x3), some (tI x4), some (tI x5)]) dX1_putRows_41 (by decide) rfl ?_
      refine r_aload_n dX1_putRows_43 rfl rfl ?_
      refine r_getC (k := 9) cl_1 dX1_putRows_44 t_468 gf_1_9.1 gf_1_9.2 (gc_1_9 _) ?_
      refine r_iload dX1_putRows_47 rfl ?_
      refine r_iconst (v := 4) dX1_putRows_49 rfl ?_
      refine r_iadd dX1_putRows_50 ?_
      refine r_iald dX1_putRows_51 hm.1 ?_
      replace hm := hm.2
      refine r_i2l dX1_putRows_52 ?_
      refine r_iload_n dX1_putRows_53 rfl rfl ?_
      refine r_i2l dX1_putRows_54 ?_
      refine r_lmul dX1_putRows_55 ?_
      refine r_nmJ (fun x6 e_x6 => ?_)
      replace hm := hm x6 e_x6
      refine r_lstore (L' := [some (tR 1 0 (some v0)), some (tI v1), some (tI v2), some (tI v3), some (tI x3), some (tI x4), some (tI x5), some (tJ x6), none]) dX1_putRows_56 (by decide) rfl ?_
      refine r_aload_n dX1_putRows_58 rfl rfl ?_
      refine r_iload dX1_putRows_59 rfl ?_
      refine r_iconst (v := 0) dX1_putRows_61 rfl ?_
      refine r_iload dX1_putRows_62 rfl ?_
      refine r_lload dX1_putRows_64 rfl ?_
      refine r_iload_n dX1_putRows_66 rfl rfl ?_
      refine r_iload_n dX1_putRows_67 rfl rfl ?_
      refine r_callVU (d' := d - 1) (as := [tI x3, tI 0, tI x5, tJ x6, tI v2, tI v3]) (st := []) cl_1 dX1_putRows_68 mi_X1_putRow t_662 t_664 ts_9 rfl rfl (Nat.le_of_ble_eq_true rfl) (by omega) ⟨by decide, by decide⟩ ⟨rfl, rfl⟩ (s_X1_putRow (by omega) hm) (fun h8 hm => ?_)
      refine r_iload dX1_putRows_71 rfl ?_
      refine r_iconst (v := 3) dX1_putRows_73 rfl ?_
      refine r_icmp_ne (tgt := 90) dX1_putRows_74 rfl (fun hc => ?_) (fun hc => ?_)
      · replace hm := hm.1 hc
        refine r_keep (L' := [some (tR 1 0 (some v0)), some (tI v1), some (tI v2), some (tI v3), some (tI x3), some (tI x4)]) [true, true, true, true, true, true] rfl ?_
        exact s_X1_putRows_90 hd hm
      · replace hm := hm.2 hc
        refine r_aload_n dX1_putRows_77 rfl rfl ?_
        refine r_iload dX1_putRows_78 rfl ?_
        refine r_iconst (v := 1) dX1_putRows_80 rfl ?_
        refine r_iload dX1_putRows_81 rfl ?_
        refine r_lload dX1_putRows_83 rfl ?_
        refine r_iload_n dX1_putRows_85 rfl rfl ?_
        refine r_iload_n dX1_putRows_86 rfl rfl ?_
        refine r_callVU (d' := d - 1) (as := [tI x3, tI 1, tI x5, tJ x6, tI v2, tI v3]) (st := []) cl_1 dX1_putRows_87 mi_X1_putRow t_662 t_664 ts_9 rfl rfl (Nat.le_of_ble_eq_true rfl) (by omega) ⟨by decide, by decide⟩ ⟨rfl, rfl⟩ (s_X1_putRow (by omega) hm) (fun h10 hm => ?_)
        refine r_keep (L' := [some (tR 1 0 (some v0)), some (tI v1), some (tI v2), some (tI v3), some (tI x3), some (tI x4)]) [true, true, true, true, true, true] rfl ?_
        exact s_X1_putRows_90 hd hm
    · replace hm := hm.2 hc
      exact r_return dX1_putRows_20 rfl ⟨by decide, by decide⟩ ⟨rfl, hm⟩
theorem dX1_dayOf_0 : decode cX1_dayOf 0 = .ok (.aload_n 0, 1) := rfl
theorem dX1_dayOf_1 : decode cX1_dayOf 1 = .ok (.getfield 15, 3) := rfl
theorem dX1_dayOf_4 : decode cX1_dayOf 4 = .ok (.iload_n 1, 1) := rfl
theorem dX1_dayOf_5 : decode cX1_dayOf 5 = .ok (.bipush 6, 2) := by decide +kernel
theorem dX1_dayOf_7 : decode cX1_dayOf 7 = .ok (.imul, 1) := rfl
theorem dX1_dayOf_8 : decode cX1_dayOf 8 = .ok (.iconst 0, 1) := rfl
theorem dX1_dayOf_9 : decode cX1_dayOf 9 = .ok (.iadd, 1) := rfl
theorem dX1_dayOf_10 : decode cX1_dayOf 10 = .ok (.iaload, 1) := rfl
theorem dX1_dayOf_11 : decode cX1_dayOf 11 = .ok (.ireturn, 1) := rfl
def m_X1_dayOf (v0 : Nat) (v1 : Int32) (h : Hp) (Q : Int32 → Hp → Prop) : Prop := vp_in ((v1 * 6) + 0) 216 ∧ (Q (hI h (v0 + 2) (ix ((v1 * 6) + 0))) h)
set_option maxHeartbeats 4000000 in
set_option maxRecDepth 100000 in
theorem s_X1_dayOf {l : Launch} {G : Cx} {d : Nat} (hd : 2 ≤ d) {v0 : Nat} {v1 : Int32} {h : Hp} {Q : Int32 → Hp → Prop} (hm : m_X1_dayOf v0 v1 h Q) : Ct l G d 0 0 yX1_dayOf MX1_dayOf [tR 1 0 (some v0), tI v1] h (qI Q) := by
  unfold m_X1_dayOf at hm
  refine Ct.of (L := [some (tR 1 0 (some v0)), some (tI v1)]) (by decide) rfl rfl (Nat.le_of_ble_eq_true rfl) rfl ?_
  refine r_aload_n dX1_dayOf_0 rfl rfl ?_
  refine r_getC (k := 10) cl_1 dX1_dayOf_1 t_471 gf_1_10.1 gf_1_10.2 (gc_1_10 _) ?_
  refine r_iload_n dX1_dayOf_4 rfl rfl ?_
  refine r_bipush (v := 6) dX1_dayOf_5 rfl ?_
  refine r_imul dX1_dayOf_7 ?_
  refine r_iconst (v := 0) dX1_dayOf_8 rfl ?_
  refine r_iadd dX1_dayOf_9 ?_
  refine r_iald dX1_dayOf_10 hm.1 ?_
  replace hm := hm.2
  exact r_ireturn dX1_dayOf_11 rfl ⟨by decide, by decide⟩ ⟨_, rfl, hm⟩
theorem dX1_sortByDay_0 : decode cX1_sortByDay 0 = .ok (.iconst 0, 1) := rfl
theorem dX1_sortByDay_1 : decode cX1_sortByDay 1 = .ok (.istore_n 1, 1) := rfl
theorem dX1_sortByDay_2 : decode cX1_sortByDay 2 = .ok (.iload_n 1, 1) := rfl
theorem dX1_sortByDay_3 : decode cX1_sortByDay 3 = .ok (.aload_n 0, 1) := rfl
theorem dX1_sortByDay_4 : decode cX1_sortByDay 4 = .ok (.getfield 41, 3) := rfl
theorem dX1_sortByDay_7 : decode cX1_sortByDay 7 = .ok (.if_icmp .ge 62, 3) := by decide +kernel
theorem dX1_sortByDay_10 : decode cX1_sortByDay 10 = .ok (.iload_n 1, 1) := rfl
theorem dX1_sortByDay_11 : decode cX1_sortByDay 11 = .ok (.istore_n 2, 1) := rfl
theorem dX1_sortByDay_12 : decode cX1_sortByDay 12 = .ok (.iload_n 2, 1) := rfl
theorem dX1_sortByDay_13 : decode cX1_sortByDay 13 = .ok (.ifCond .le 43, 3) := by decide +kernel
theorem dX1_sortByDay_16 : decode cX1_sortByDay 16 = .ok (.aload_n 0, 1) := rfl
theorem dX1_sortByDay_17 : decode cX1_sortByDay 17 = .ok (.aload_n 0, 1) := rfl
theorem dX1_sortByDay_18 : decode cX1_sortByDay 18 = .ok (.getfield 22, 3) := rfl
theorem dX1_sortByDay_21 : decode cX1_sortByDay 21 = .ok (.iload_n 2, 1) := rfl
theorem dX1_sortByDay_22 : decode cX1_sortByDay 22 = .ok (.iconst 1, 1) := rfl
theorem dX1_sortByDay_23 : decode cX1_sortByDay 23 = .ok (.isub, 1) := rfl
theorem dX1_sortByDay_24 : decode cX1_sortByDay 24 = .ok (.iaload, 1) := rfl
theorem dX1_sortByDay_25 : decode cX1_sortByDay 25 = .ok (.invokevirtual 54, 3) := rfl
theorem dX1_sortByDay_28 : decode cX1_sortByDay 28 = .ok (.aload_n 0, 1) := rfl
theorem dX1_sortByDay_29 : decode cX1_sortByDay 29 = .ok (.iload_n 1, 1) := rfl
theorem dX1_sortByDay_30 : decode cX1_sortByDay 30 = .ok (.invokevirtual 54, 3) := rfl
theorem dX1_sortByDay_33 : decode cX1_sortByDay 33 = .ok (.if_icmp .le 23, 3) := by decide +kernel
theorem dX1_sortByDay_36 : decode cX1_sortByDay 36 = .ok (.aload_n 0, 1) := rfl
theorem dX1_sortByDay_37 : decode cX1_sortByDay 37 = .ok (.getfield 22, 3) := rfl
theorem dX1_sortByDay_40 : decode cX1_sortByDay 40 = .ok (.iload_n 2, 1) := rfl
theorem dX1_sortByDay_41 : decode cX1_sortByDay 41 = .ok (.aload_n 0, 1) := rfl
theorem dX1_sortByDay_42 : decode cX1_sortByDay 42 = .ok (.getfield 22, 3) := rfl
theorem dX1_sortByDay_45 : decode cX1_sortByDay 45 = .ok (.iload_n 2, 1) := rfl
theorem dX1_sortByDay_46 : decode cX1_sortByDay 46 = .ok (.iconst 1, 1) := rfl
theorem dX1_sortByDay_47 : decode cX1_sortByDay 47 = .ok (.isub, 1) := rfl
theorem dX1_sortByDay_48 : decode cX1_sortByDay 48 = .ok (.iaload, 1) := rfl
theorem dX1_sortByDay_49 : decode cX1_sortByDay 49 = .ok (.iastore, 1) := rfl
theorem dX1_sortByDay_50 : decode cX1_sortByDay 50 = .ok (.iinc 2 (-1), 3) := by decide +kernel
theorem dX1_sortByDay_53 : decode cX1_sortByDay 53 = .ok (.goto (-41), 3) := by decide +kernel
theorem dX1_sortByDay_56 : decode cX1_sortByDay 56 = .ok (.aload_n 0, 1) := rfl
theorem dX1_sortByDay_57 : decode cX1_sortByDay 57 = .ok (.getfield 22, 3) := rfl
theorem dX1_sortByDay_60 : decode cX1_sortByDay 60 = .ok (.iload_n 2, 1) := rfl
theorem dX1_sortByDay_61 : decode cX1_sortByDay 61 = .ok (.iload_n 1, 1) := rfl
theorem dX1_sortByDay_62 : decode cX1_sortByDay 62 = .ok (.iastore, 1) := rfl
theorem dX1_sortByDay_63 : decode cX1_sortByDay 63 = .ok (.iinc 1 1, 3) := by decide +kernel
theorem dX1_sortByDay_66 : decode cX1_sortByDay 66 = .ok (.goto (-64), 3) := by decide +kernel
theorem dX1_sortByDay_69 : decode cX1_sortByDay 69 = .ok (.return_, 1) := rfl
def m_X1_sortByDay_56 (k2 : Nat → Int32 → Hp → Prop) (Q : Hp → Prop) (v0 : Nat) (v1 : Int32) (v2 : Int32) (h : Hp) : Prop := vp_in v2 36 ∧ (∀ x1 : Int32, x1 = v1 + 1 → k2 v0 x1 (wI h (v0 + 4) (ix v2) v1))
set_option maxHeartbeats 4000000 in
set_option maxRecDepth 100000 in
theorem s_X1_sortByDay_56 {l : Launch} {G : Cx} {d : Nat} {h0 : Hp} (hd : 4 ≤ d) {k2 : Nat → Int32 → Hp → Prop} {Q : Hp → Prop} (hk2 : ∀ (v0 : Nat) (v1 : Int32) (hh : Hp), k2 v0 v1 hh → Rn l G d 0 0 MX1_sortByDay h0 (qV Q) 2 [some (tR 1 0 (some v0)), some (tI v1)] [] hh 0 0) {v0 : Nat} {v1 : Int32} {v2 : Int32} {h : Hp} (hm : m_X1_sortByDay_56 k2 Q v0 v1 v2 h) : Rn l G d 0 0 MX1_sortByDay h0 (qV Q) 56 [some (tR 1 0 (some v0)), some (tI v1), some (tI v2)] [] h 0 0 := by
  unfold m_X1_sortByDay_56 at hm
  refine r_aload_n dX1_sortByDay_56 rfl rfl ?_
  refine r_getC (k := 12) cl_1 dX1_sortByDay_57 t_479 gf_1_12.1 gf_1_12.2 (gc_1_12 _) ?_
  refine r_iload_n dX1_sortByDay_60 rfl rfl ?_
  refine r_iload_n dX1_sortByDay_61 rfl rfl ?_
  refine r_iast dX1_sortByDay_62 hm.1 ?_
  replace hm := hm.2
  obtain ⟨x1, e_x1⟩ : ∃ y : Int32, y = v1 + 1 := ⟨_, rfl⟩
  replace hm := hm x1 e_x1
  refine r_iinc (L' := [some (tR 1 0 (some v0)), some (tI x1), some (tI v2)]) dX1_sortByDay_63 rfl (by rw [e_x1]; rfl) (by decide) rfl ?_
  refine r_goto (tgt := 2) dX1_sortByDay_66 rfl ?_
  refine r_keep (L' := [some (tR 1 0 (some v0)), some (tI x1)]) [true, true] rfl ?_
  exact hk2 _ _ _ hm
def m_X1_sortByDay_12 : Nat → (Nat → Int32 → Int32 → Hp → Prop) → (Hp → Prop) → Nat → Int32 → Int32 → Hp → Prop
  | 0, _, _, _, _, _, _ => False
  | n + 1, k56, Q, v0, v1, v2, h => (v2 ≤ 0 → k56 v0 v1 v2 h) ∧ (¬ v2 ≤ 0 → vp_in (v2 - 1) 36 ∧ (m_X1_dayOf v0 (hI h (v0 + 4) (ix (v2 - 1))) h (fun (x2 : Int32) (h3 : Hp) => m_X1_dayOf v0 v1 h3 (fun (x4 : Int32) (h5 : Hp) => (x2 ≤ x4 → k56 v0 v1 v2 h5) ∧ (¬ x2 ≤ x4 → vp_in (v2 - 1) 36 ∧ (vp_in v2 36 ∧ (∀ x6 : Int32, x6 = v2 + (-1) → m_X1_sortByDay_12 n k56 Q v0 v1 x6 (wI h5 (v0 + 4) (ix v2) (hI h5 (v0 + 4) (ix (v2 - 1)))))))))))
set_option maxHeartbeats 4000000 in
set_option maxRecDepth 100000 in
theorem s_X1_sortByDay_12 {l : Launch} {G : Cx} {d : Nat} {h0 : Hp} (hd : 4 ≤ d) {k56 : Nat → Int32 → Int32 → Hp → Prop} {Q : Hp → Prop} (hk56 : ∀ (v0 : Nat) (v1 : Int32) (v2 : Int32) (hh : Hp), k56 v0 v1 v2 hh → Rn l G d 0 0 MX1_sortByDay h0 (qV Q) 56 [some (tR 1 0 (some v0)), some (tI v1), some (tI v2)] [] hh 0 0) : ∀ {n : Nat} {v0 : Nat} {v1 : Int32} {v2 : Int32} {h : Hp}, m_X1_sortByDay_12 n k56 Q v0 v1 v2 h → Rn l G d 0 0 MX1_sortByDay h0 (qV Q) 12 [some (tR 1 0 (some v0)), some (tI v1), some (tI v2)] [] h 0 0 := by
  intro n
  induction n with
  | zero => intro v0 v1 v2 h hm; exact hm.elim
  | succ n ih =>
    intro v0 v1 v2 h hm
    have hk12 := fun (v0 : Nat) (v1 : Int32) (v2 : Int32) (hh : Hp) (hm : m_X1_sortByDay_12 n k56 Q v0 v1 v2 hh) => ih hm
    rw [m_X1_sortByDay_12] at hm
    refine r_iload_n dX1_sortByDay_12 rfl rfl ?_
    refine r_if_le (tgt := 56) dX1_sortByDay_13 rfl (fun hc => ?_) (fun hc => ?_)
    · replace hm := hm.1 hc
      refine r_keep (L' := [some (tR 1 0 (some v0)), some (tI v1), some (tI v2)]) [true, true, true] rfl ?_
      exact hk56 _ _ _ _ hm
    · replace hm := hm.2 hc
      refine r_aload_n dX1_sortByDay_16 rfl rfl ?_
      refine r_aload_n dX1_sortByDay_17 rfl rfl ?_
      refine r_getC (k := 12) cl_1 dX1_sortByDay_18 t_479 gf_1_12.1 gf_1_12.2 (gc_1_12 _) ?_
      refine r_iload_n dX1_sortByDay_21 rfl rfl ?_
      refine r_iconst (v := 1) dX1_sortByDay_22 rfl ?_
      refine r_isub dX1_sortByDay_23 ?_
      refine r_iald dX1_sortByDay_24 hm.1 ?_
      replace hm := hm.2
      refine r_callVI (d' := d - 1) (as := [tI (hI h (v0 + 4) (ix (v2 - 1)))]) (st := []) cl_1 dX1_sortByDay_25 mi_X1_dayOf t_746 t_747 t_748 rfl rfl (Nat.le_of_ble_eq_true rfl) (by omega) ⟨by decide, by decide⟩ ⟨rfl, rfl⟩ (s_X1_dayOf (by omega) hm) (fun x2 h3 hm => ?_)
      refine r_aload_n dX1_sortByDay_28 rfl rfl ?_
      refine r_iload_n dX1_sortByDay_29 rfl rfl ?_
      refine r_callVI (d' := d - 1) (as := [tI v1]) (st := [tI x2]) cl_1 dX1_sortByDay_30 mi_X1_dayOf t_746 t_747 t_748 rfl rfl (Nat.le_of_ble_eq_true rfl) (by omega) ⟨by decide, by decide⟩ ⟨rfl, rfl⟩ (s_X1_dayOf (by omega) hm) (fun x4 h5 hm => ?_)
      refine r_icmp_le (tgt := 56) dX1_sortByDay_33 rfl (fun hc => ?_) (fun hc => ?_)
      · replace hm := hm.1 hc
        refine r_keep (L' := [some (tR 1 0 (some v0)), some (tI v1), some (tI v2)]) [true, true, true] rfl ?_
        exact hk56 _ _ _ _ hm
      · replace hm := hm.2 hc
        refine r_aload_n dX1_sortByDay_36 rfl rfl ?_
        refine r_getC (k := 12) cl_1 dX1_sortByDay_37 t_479 gf_1_12.1 gf_1_12.2 (gc_1_12 _) ?_
        refine r_iload_n dX1_sortByDay_40 rfl rfl ?_
        refine r_aload_n dX1_sortByDay_41 rfl rfl ?_
        refine r_getC (k := 12) cl_1 dX1_sortByDay_42 t_479 gf_1_12.1 gf_1_12.2 (gc_1_12 _) ?_
        refine r_iload_n dX1_sortByDay_45 rfl rfl ?_
        refine r_iconst (v := 1) dX1_sortByDay_46 rfl ?_
        refine r_isub dX1_sortByDay_47 ?_
        refine r_iald dX1_sortByDay_48 hm.1 ?_
        replace hm := hm.2
        refine r_iast dX1_sortByDay_49 hm.1 ?_
        replace hm := hm.2
        obtain ⟨x6, e_x6⟩ : ∃ y : Int32, y = v2 + (-1) := ⟨_, rfl⟩
        replace hm := hm x6 e_x6
        refine r_iinc (L' := [some (tR 1 0 (some v0)), some (tI v1), some (tI x6)]) dX1_sortByDay_50 rfl (by rw [e_x6]; rfl) (by decide) rfl ?_
        refine r_goto (tgt := 12) dX1_sortByDay_53 rfl ?_
        refine r_keep (L' := [some (tR 1 0 (some v0)), some (tI v1), some (tI x6)]) [true, true, true] rfl ?_
        exact hk12 _ _ _ _ hm
def m_X1_sortByDay_2 : Nat → (Hp → Prop) → Nat → Int32 → Hp → Prop
  | 0, _, _, _, _ => False
  | n + 1, Q, v0, v1, h => ((hI h v0 6) ≤ v1 → Q h) ∧ (¬ (hI h v0 6) ≤ v1 → ∃ n12, m_X1_sortByDay_12 n12 (m_X1_sortByDay_56 (fun (v0 : Nat) (v1 : Int32) (hh : Hp) => m_X1_sortByDay_2 n Q v0 v1 hh) Q) Q v0 v1 v1 h)
set_option maxHeartbeats 4000000 in
set_option maxRecDepth 100000 in
theorem s_X1_sortByDay_2 {l : Launch} {G : Cx} {d : Nat} {h0 : Hp} (hd : 4 ≤ d) {Q : Hp → Prop} : ∀ {n : Nat} {v0 : Nat} {v1 : Int32} {h : Hp}, m_X1_sortByDay_2 n Q v0 v1 h → Rn l G d 0 0 MX1_sortByDay h0 (qV Q) 2 [some (tR 1 0 (some v0)), some (tI v1)] [] h 0 0 := by
  intro n
  induction n with
  | zero => intro v0 v1 h hm; exact hm.elim
  | succ n ih =>
    intro v0 v1 h hm
    have hk2 := fun (v0 : Nat) (v1 : Int32) (hh : Hp) (hm : m_X1_sortByDay_2 n Q v0 v1 hh) => ih hm
    rw [m_X1_sortByDay_2] at hm
    refine r_iload_n dX1_sortByDay_2 rfl rfl ?_
    refine r_aload_n dX1_sortByDay_3 rfl rfl ?_
    refine r_getI (k := 6) cl_1 dX1_sortByDay_4 t_460 (Or.inl rfl) gf_1_6 ?_
    refine r_icmp_ge (tgt := 69) dX1_sortByDay_7 rfl (fun hc => ?_) (fun hc => ?_)
    · replace hm := hm.1 hc
      exact r_return dX1_sortByDay_69 rfl ⟨by decide, by decide⟩ ⟨rfl, hm⟩
    · replace hm := hm.2 hc
      refine r_iload_n dX1_sortByDay_10 rfl rfl ?_
      refine r_istore_n (L' := [some (tR 1 0 (some v0)), some (tI v1), some (tI v1)]) dX1_sortByDay_11 rfl (by decide) rfl ?_
      refine r_keep (L' := [some (tR 1 0 (some v0)), some (tI v1), some (tI v1)]) [true, true, true] rfl ?_
      obtain ⟨n, hm⟩ := hm
      refine s_X1_sortByDay_12 hd ?_ hm
      · exact (fun _ _ _ _ hm => s_X1_sortByDay_56 hd hk2 hm)
def m_X1_sortByDay (v0 : Nat) (h : Hp) (Q : Hp → Prop) : Prop := ∃ n2, m_X1_sortByDay_2 n2 Q v0 0 h
set_option maxHeartbeats 4000000 in
set_option maxRecDepth 100000 in
theorem s_X1_sortByDay {l : Launch} {G : Cx} {d : Nat} (hd : 4 ≤ d) {v0 : Nat} {h : Hp} {Q : Hp → Prop} (hm : m_X1_sortByDay v0 h Q) : Ct l G d 0 0 yX1_sortByDay MX1_sortByDay [tR 1 0 (some v0)] h (qV Q) := by
  unfold m_X1_sortByDay at hm
  refine Ct.of (L := [some (tR 1 0 (some v0))]) (by decide) rfl rfl (Nat.le_of_ble_eq_true rfl) rfl ?_
  refine r_iconst (v := 0) dX1_sortByDay_0 rfl ?_
  refine r_istore_n (L' := [some (tR 1 0 (some v0)), some (tI 0)]) dX1_sortByDay_1 rfl (by decide) rfl ?_
  refine r_keep (L' := [some (tR 1 0 (some v0)), some (tI 0)]) [true, true] rfl ?_
  obtain ⟨n, hm⟩ := hm
  refine s_X1_sortByDay_2 hd hm
theorem dX1_familiesIn_0 : decode cX1_familiesIn 0 = .ok (.iconst 0, 1) := rfl
theorem dX1_familiesIn_1 : decode cX1_familiesIn 1 = .ok (.istore_n 2, 1) := rfl
theorem dX1_familiesIn_2 : decode cX1_familiesIn 2 = .ok (.iconst 0, 1) := rfl
theorem dX1_familiesIn_3 : decode cX1_familiesIn 3 = .ok (.istore_n 3, 1) := rfl
theorem dX1_familiesIn_4 : decode cX1_familiesIn 4 = .ok (.iload_n 3, 1) := rfl
theorem dX1_familiesIn_5 : decode cX1_familiesIn 5 = .ok (.aload_n 0, 1) := rfl
theorem dX1_familiesIn_6 : decode cX1_familiesIn 6 = .ok (.getfield 29, 3) := rfl
theorem dX1_familiesIn_9 : decode cX1_familiesIn 9 = .ok (.if_icmp .ge 45, 3) := by decide +kernel
theorem dX1_familiesIn_12 : decode cX1_familiesIn 12 = .ok (.iload_n 2, 1) := rfl
theorem dX1_familiesIn_13 : decode cX1_familiesIn 13 = .ok (.iconst 1, 1) := rfl
theorem dX1_familiesIn_14 : decode cX1_familiesIn 14 = .ok (.aload_n 1, 1) := rfl
theorem dX1_familiesIn_15 : decode cX1_familiesIn 15 = .ok (.aload_n 0, 1) := rfl
theorem dX1_familiesIn_16 : decode cX1_familiesIn 16 = .ok (.getfield 9, 3) := rfl
theorem dX1_familiesIn_19 : decode cX1_familiesIn 19 = .ok (.iload_n 3, 1) := rfl
theorem dX1_familiesIn_20 : decode cX1_familiesIn 20 = .ok (.bipush 8, 2) := by decide +kernel
theorem dX1_familiesIn_22 : decode cX1_familiesIn 22 = .ok (.imul, 1) := rfl
theorem dX1_familiesIn_23 : decode cX1_familiesIn 23 = .ok (.iconst 1, 1) := rfl
theorem dX1_familiesIn_24 : decode cX1_familiesIn 24 = .ok (.iadd, 1) := rfl
theorem dX1_familiesIn_25 : decode cX1_familiesIn 25 = .ok (.iaload, 1) := rfl
theorem dX1_familiesIn_26 : decode cX1_familiesIn 26 = .ok (.iaload, 1) := rfl
theorem dX1_familiesIn_27 : decode cX1_familiesIn 27 = .ok (.ishl, 1) := rfl
theorem dX1_familiesIn_28 : decode cX1_familiesIn 28 = .ok (.ior, 1) := rfl
theorem dX1_familiesIn_29 : decode cX1_familiesIn 29 = .ok (.istore_n 2, 1) := rfl
theorem dX1_familiesIn_30 : decode cX1_familiesIn 30 = .ok (.iload_n 2, 1) := rfl
theorem dX1_familiesIn_31 : decode cX1_familiesIn 31 = .ok (.iconst 1, 1) := rfl
theorem dX1_familiesIn_32 : decode cX1_familiesIn 32 = .ok (.aload_n 1, 1) := rfl
theorem dX1_familiesIn_33 : decode cX1_familiesIn 33 = .ok (.aload_n 0, 1) := rfl
theorem dX1_familiesIn_34 : decode cX1_familiesIn 34 = .ok (.getfield 9, 3) := rfl
theorem dX1_familiesIn_37 : decode cX1_familiesIn 37 = .ok (.iload_n 3, 1) := rfl
theorem dX1_familiesIn_38 : decode cX1_familiesIn 38 = .ok (.bipush 8, 2) := by decide +kernel
theorem dX1_familiesIn_40 : decode cX1_familiesIn 40 = .ok (.imul, 1) := rfl
theorem dX1_familiesIn_41 : decode cX1_familiesIn 41 = .ok (.iconst 2, 1) := rfl
theorem dX1_familiesIn_42 : decode cX1_familiesIn 42 = .ok (.iadd, 1) := rfl
theorem dX1_familiesIn_43 : decode cX1_familiesIn 43 = .ok (.iaload, 1) := rfl
theorem dX1_familiesIn_44 : decode cX1_familiesIn 44 = .ok (.iaload, 1) := rfl
theorem dX1_familiesIn_45 : decode cX1_familiesIn 45 = .ok (.ishl, 1) := rfl
theorem dX1_familiesIn_46 : decode cX1_familiesIn 46 = .ok (.ior, 1) := rfl
theorem dX1_familiesIn_47 : decode cX1_familiesIn 47 = .ok (.istore_n 2, 1) := rfl
theorem dX1_familiesIn_48 : decode cX1_familiesIn 48 = .ok (.iinc 3 1, 3) := by decide +kernel
theorem dX1_familiesIn_51 : decode cX1_familiesIn 51 = .ok (.goto (-47), 3) := by decide +kernel
theorem dX1_familiesIn_54 : decode cX1_familiesIn 54 = .ok (.iload_n 2, 1) := rfl
theorem dX1_familiesIn_55 : decode cX1_familiesIn 55 = .ok (.ireturn, 1) := rfl
def m_X1_familiesIn_4 : Nat → (Int32 → Hp → Prop) → Nat → Nat → Nat → Int32 → Int32 → Hp → Prop
  | 0, _, _, _, _, _, _, _ => False
  | n + 1, Q, v0, v1n, v1, v2, v3, h => ((hI h v0 2) ≤ v3 → Q v2 h) ∧ (¬ (hI h v0 2) ≤ v3 → vp_in ((v3 * 8) + 1) 96 ∧ (vp_in (hI h (v0 + 1) (ix ((v3 * 8) + 1))) v1n ∧ (∀ x1 : Int32, x1 = (v2 ||| (1 <<< ((hI h v1 (ix (hI h (v0 + 1) (ix ((v3 * 8) + 1))))) &&& 31))) → vp_in ((v3 * 8) + 2) 96 ∧ (vp_in (hI h (v0 + 1) (ix ((v3 * 8) + 2))) v1n ∧ (∀ x2 : Int32, x2 = (x1 ||| (1 <<< ((hI h v1 (ix (hI h (v0 + 1) (ix ((v3 * 8) + 2))))) &&& 31))) → ∀ x3 : Int32, x3 = v3 + 1 → m_X1_familiesIn_4 n Q v0 v1n v1 x2 x3 h)))))
set_option maxHeartbeats 4000000 in
set_option maxRecDepth 100000 in
theorem s_X1_familiesIn_4 {l : Launch} {G : Cx} {d : Nat} {h0 : Hp} (hd : 2 ≤ d) {Q : Int32 → Hp → Prop} : ∀ {n : Nat} {v0 : Nat} {v1n : Nat} {v1 : Nat} {v2 : Int32} {v3 : Int32} {h : Hp}, m_X1_familiesIn_4 n Q v0 v1n v1 v2 v3 h → Rn l G d 0 0 MX1_familiesIn h0 (qI Q) 4 [some (tR 1 0 (some v0)), some (tR 40 v1n (some v1)), some (tI v2), some (tI v3)] [] h 0 0 := by
  intro n
  induction n with
  | zero => intro v0 v1n v1 v2 v3 h hm; exact hm.elim
  | succ n ih =>
    intro v0 v1n v1 v2 v3 h hm
    have hk4 := fun (v0 : Nat) (v1n : Nat) (v1 : Nat) (v2 : Int32) (v3 : Int32) (hh : Hp) (hm : m_X1_familiesIn_4 n Q v0 v1n v1 v2 v3 hh) => ih hm
    rw [m_X1_familiesIn_4] at hm
    refine r_iload_n dX1_familiesIn_4 rfl rfl ?_
    refine r_aload_n dX1_familiesIn_5 rfl rfl ?_
    refine r_getI (k := 2) cl_1 dX1_familiesIn_6 t_441 (Or.inl rfl) gf_1_2 ?_
    refine r_icmp_ge (tgt := 54) dX1_familiesIn_9 rfl (fun hc => ?_) (fun hc => ?_)
    · replace hm := hm.1 hc
      refine r_iload_n dX1_familiesIn_54 rfl rfl ?_
      exact r_ireturn dX1_familiesIn_55 rfl ⟨by decide, by decide⟩ ⟨_, rfl, hm⟩
    · replace hm := hm.2 hc
      refine r_iload_n dX1_familiesIn_12 rfl rfl ?_
      refine r_iconst (v := 1) dX1_familiesIn_13 rfl ?_
      refine r_aload_n dX1_familiesIn_14 rfl rfl ?_
      refine r_aload_n dX1_familiesIn_15 rfl rfl ?_
      refine r_getC (k := 9) cl_1 dX1_familiesIn_16 t_468 gf_1_9.1 gf_1_9.2 (gc_1_9 _) ?_
      refine r_iload_n dX1_familiesIn_19 rfl rfl ?_
      refine r_bipush (v := 8) dX1_familiesIn_20 rfl ?_
      refine r_imul dX1_familiesIn_22 ?_
      refine r_iconst (v := 1) dX1_familiesIn_23 rfl ?_
      refine r_iadd dX1_familiesIn_24 ?_
      refine r_iald dX1_familiesIn_25 hm.1 ?_
      replace hm := hm.2
      refine r_iald dX1_familiesIn_26 hm.1 ?_
      replace hm := hm.2
      refine r_ishl dX1_familiesIn_27 ?_
      refine r_ior dX1_familiesIn_28 ?_
      refine r_nmI (fun x1 e_x1 => ?_)
      replace hm := hm x1 e_x1
      refine r_istore_n (L' := [some (tR 1 0 (some v0)), some (tR 40 v1n (some v1)), some (tI x1), some (tI v3)]) dX1_familiesIn_29 rfl (by decide) rfl ?_
      refine r_iload_n dX1_familiesIn_30 rfl rfl ?_
      refine r_iconst (v := 1) dX1_familiesIn_31 rfl ?_
      refine r_aload_n dX1_familiesIn_32 rfl rfl ?_
      refine r_aload_n dX1_familiesIn_33 rfl rfl ?_
      refine r_getC (k := 9) cl_1 dX1_familiesIn_34 t_468 gf_1_9.1 gf_1_9.2 (gc_1_9 _) ?_
      refine r_iload_n dX1_familiesIn_37 rfl rfl ?_
      refine r_bipush (v := 8) dX1_familiesIn_38 rfl ?_
      refine r_imul dX1_familiesIn_40 ?_
      refine r_iconst (v := 2) dX1_familiesIn_41 rfl ?_
      refine r_iadd dX1_familiesIn_42 ?_
      refine r_iald dX1_familiesIn_43 hm.1 ?_
      replace hm := hm.2
      refine r_iald dX1_familiesIn_44 hm.1 ?_
      replace hm := hm.2
      refine r_ishl dX1_familiesIn_45 ?_
      refine r_ior dX1_familiesIn_46 ?_
      refine r_nmI (fun x2 e_x2 => ?_)
      replace hm := hm x2 e_x2
      refine r_istore_n (L' := [some (tR 1 0 (some v0)), some (tR 40 v1n (some v1)), some (tI x2), some (tI v3)]) dX1_familiesIn_47 rfl (by decide) rfl ?_
      obtain ⟨x3, e_x3⟩ : ∃ y : Int32, y = v3 + 1 := ⟨_, rfl⟩
      replace hm := hm x3 e_x3
      refine r_iinc (L' := [some (tR 1 0 (some v0)), some (tR 40 v1n (some v1)), some (tI x2), some (tI x3)]) dX1_familiesIn_48 rfl (by rw [e_x3]; rfl) (by decide) rfl ?_
      refine r_goto (tgt := 4) dX1_familiesIn_51 rfl ?_
      refine r_keep (L' := [some (tR 1 0 (some v0)), some (tR 40 v1n (some v1)), some (tI x2), some (tI x3)]) [true, true, true, true] rfl ?_
      exact hk4 _ _ _ _ _ _ hm
def m_X1_familiesIn (v0 : Nat) (v1 : Nat) (v1n : Nat) (h : Hp) (Q : Int32 → Hp → Prop) : Prop := ∃ n4, m_X1_familiesIn_4 n4 Q v0 v1n v1 0 0 h
set_option maxHeartbeats 4000000 in
set_option maxRecDepth 100000 in
theorem s_X1_familiesIn {l : Launch} {G : Cx} {d : Nat} (hd : 2 ≤ d) {v0 : Nat} {v1 : Nat} {v1n : Nat} {h : Hp} {Q : Int32 → Hp → Prop} (hm : m_X1_familiesIn v0 v1 v1n h Q) : Ct l G d 0 0 yX1_familiesIn MX1_familiesIn [tR 1 0 (some v0), tR 40 v1n (some v1)] h (qI Q) := by
  unfold m_X1_familiesIn at hm
  refine Ct.of (L := [some (tR 1 0 (some v0)), some (tR 40 v1n (some v1))]) (by decide) rfl rfl (Nat.le_of_ble_eq_true rfl) rfl ?_
  refine r_iconst (v := 0) dX1_familiesIn_0 rfl ?_
  refine r_istore_n (L' := [some (tR 1 0 (some v0)), some (tR 40 v1n (some v1)), some (tI 0)]) dX1_familiesIn_1 rfl (by decide) rfl ?_
  refine r_iconst (v := 0) dX1_familiesIn_2 rfl ?_
  refine r_istore_n (L' := [some (tR 1 0 (some v0)), some (tR 40 v1n (some v1)), some (tI 0), some (tI 0)]) dX1_familiesIn_3 rfl (by decide) rfl ?_
  refine r_keep (L' := [some (tR 1 0 (some v0)), some (tR 40 v1n (some v1)), some (tI 0), some (tI 0)]) [true, true, true, true] rfl ?_
  obtain ⟨n, hm⟩ := hm
  refine s_X1_familiesIn_4 hd hm
theorem dX8_init_0 : decode cX8_init 0 = .ok (.aload_n 0, 1) := rfl
theorem dX8_init_1 : decode cX8_init 1 = .ok (.invokespecial 3, 3) := rfl
theorem dX8_init_4 : decode cX8_init 4 = .ok (.aload_n 0, 1) := rfl
theorem dX8_init_5 : decode cX8_init 5 = .ok (.sipush 512, 3) := by decide +kernel
theorem dX8_init_8 : decode cX8_init 8 = .ok (.newarray .int, 2) := rfl
theorem dX8_init_10 : decode cX8_init 10 = .ok (.putfield 11, 3) := rfl
theorem dX8_init_13 : decode cX8_init 13 = .ok (.return_, 1) := rfl
def m_X8_init (v0 : Nat) (h : Hp) (Q : Hp → Prop) : Prop := ∀ a1 : Nat, a1 = hN h → ∀ h2 : Hp, h2 = nw h (40, 512) → Q (wR h2 v0 1 (some a1))
set_option maxHeartbeats 4000000 in
set_option maxRecDepth 100000 in
theorem s_X8_init {l : Launch} {G : Cx} {d : Nat} (hd : 2 ≤ d) {v0 : Nat} {h : Hp} {Q : Hp → Prop} (hm : m_X8_init v0 h Q) : Ct l G d 1 512 yX8_init MX8_init [tR 28 0 (some v0)] h (qV Q) := by
  unfold m_X8_init at hm
  refine Ct.of (L := [some (tR 28 0 (some v0))]) (by decide) rfl rfl (Nat.le_of_ble_eq_true rfl) rfl ?_
  refine r_aload_n dX8_init_0 rfl rfl ?_
  refine r_objInit dX8_init_1 t_73 t_29 t_30 (by omega) (Nat.le_of_ble_eq_true rfl) ?_
  refine r_aload_n dX8_init_4 rfl rfl ?_
  refine r_sipush (v := 512) dX8_init_5 rfl ?_
  refine r_newI (N := 512) dX8_init_8 t_61 (by decide) rfl (by decide) ⟨by decide, by decide⟩ ?_
  refine r_nmA (fun a1 e_a1 h2 e_h2 => ?_)
  replace hm := hm a1 e_a1 h2 e_h2
  refine r_putR0 (k := 1) cl_8 dX8_init_10 t_76 (Or.inr rfl) gf_8_1.1 gf_8_1.2 (fun z => absurd z (by decide)) pf_8_1.1 (Or.inr ⟨pf_8_1.2, rfl, rfl⟩) ?_
  exact r_return dX8_init_13 rfl ⟨by decide, by decide⟩ ⟨rfl, hm⟩
theorem dX2_init_0 : decode cX2_init 0 = .ok (.aload_n 0, 1) := rfl
theorem dX2_init_1 : decode cX2_init 1 = .ok (.invokespecial 3, 3) := rfl
theorem dX2_init_4 : decode cX2_init 4 = .ok (.aload_n 0, 1) := rfl
theorem dX2_init_5 : decode cX2_init 5 = .ok (.new 9, 3) := rfl
theorem dX2_init_8 : decode cX2_init 8 = .ok (.dup, 1) := rfl
theorem dX2_init_9 : decode cX2_init 9 = .ok (.invokespecial 11, 3) := rfl
theorem dX2_init_12 : decode cX2_init 12 = .ok (.putfield 12, 3) := rfl
theorem dX2_init_15 : decode cX2_init 15 = .ok (.aload_n 0, 1) := rfl
theorem dX2_init_16 : decode cX2_init 16 = .ok (.bipush 8, 2) := by decide +kernel
theorem dX2_init_18 : decode cX2_init 18 = .ok (.newarray .int, 2) := rfl
theorem dX2_init_20 : decode cX2_init 20 = .ok (.putfield 18, 3) := rfl
theorem dX2_init_23 : decode cX2_init 23 = .ok (.aload_n 0, 1) := rfl
theorem dX2_init_24 : decode cX2_init 24 = .ok (.aload_n 1, 1) := rfl
theorem dX2_init_25 : decode cX2_init 25 = .ok (.putfield 22, 3) := rfl
theorem dX2_init_28 : decode cX2_init 28 = .ok (.return_, 1) := rfl
def m_X2_init (v0 : Nat) (h : Hp) (Q : Hp → Prop) : Prop := ∀ a1 : Nat, a1 = hN h → ∀ h2 : Hp, h2 = nw h (28, 0) → m_X8_init a1 h2 (fun h4 => hN h ≤ a1 ∧ sealOK h4 a1 8 ∧ ∀ h5 : Hp, h5 = wT h4 a1 (8, 0) → ∀ a6 : Nat, a6 = hN (wR h5 v0 1 (some a1)) → ∀ h7 : Hp, h7 = nw (wR h5 v0 1 (some a1)) (40, 8) → Q (wR (wR h7 v0 2 (some a6)) v0 0 (some 2)))
set_option maxHeartbeats 4000000 in
set_option maxRecDepth 100000 in
theorem s_X2_init {l : Launch} {G : Cx} {d : Nat} (hd : 4 ≤ d) {v0 : Nat} {h : Hp} {Q : Hp → Prop} (hm : m_X2_init v0 h Q) : Ct l G d 3 523 yX2_init MX2_init [tR 22 0 (some v0), tR 10 0 (some 2)] h (qV Q) := by
  unfold m_X2_init at hm
  refine Ct.of (L := [some (tR 22 0 (some v0)), some (tR 10 0 (some 2))]) (by decide) rfl rfl (Nat.le_of_ble_eq_true rfl) rfl ?_
  refine r_aload_n dX2_init_0 rfl rfl ?_
  refine r_objInit dX2_init_1 t_67 t_29 t_30 (by omega) (Nat.le_of_ble_eq_true rfl) ?_
  refine r_aload_n dX2_init_4 rfl rfl ?_
  refine r_new cl_8 dX2_init_5 t_68 (N := 3) rfl t_69 t_4 ⟨by decide, by decide⟩ ?_
  refine r_nmA (fun a1 e_a1 h2 e_h2 => ?_)
  replace hm := hm a1 e_a1 h2 e_h2
  refine r_dup dX2_init_8 cv_cat1R ?_
  refine r_callINU (d' := d - 1) (ci := 8) (host := RX11) (as := []) (st := [tR 28 0 (some a1), tR 22 0 (some v0)]) (mc' := 1) (ms' := 512) dX2_init_9 mi_X8_init rfl (by decide) t_71 rfl rfl rfl (Nat.le_of_ble_eq_true rfl) (by omega) ⟨by decide, by decide⟩ ⟨rfl, rfl⟩ (s_X8_init (by omega) hm) (fun h4 hm => ?_)
  obtain ⟨hz, hs, hm⟩ := hm
  refine r_seal (by decide) hz hs (by simp [noK]) (by simp [noK]) ?_
  refine r_nmH (fun h5 e_h5 => ?_)
  replace hm := hm h5 e_h5
  refine r_putR0 (k := 1) cl_2 dX2_init_12 t_86 (Or.inr rfl) gf_2_1.1 gf_2_1.2 (fun z => absurd z (by decide)) pf_2_1.1 (Or.inr ⟨pf_2_1.2, rfl, rfl⟩) ?_
  refine r_aload_n dX2_init_15 rfl rfl ?_
  refine r_bipush (v := 8) dX2_init_16 rfl ?_
  refine r_newI (N := 8) dX2_init_18 t_61 (by decide) rfl (by decide) ⟨by decide, by decide⟩ ?_
  refine r_nmA (fun a6 e_a6 h7 e_h7 => ?_)
  replace hm := hm a6 e_a6 h7 e_h7
  refine r_putR0 (k := 2) cl_2 dX2_init_20 t_87 (Or.inr rfl) gf_2_2.1 gf_2_2.2 (fun z => absurd z (by decide)) pf_2_2.1 (Or.inr ⟨pf_2_2.2, rfl, rfl⟩) ?_
  refine r_aload_n dX2_init_23 rfl rfl ?_
  refine r_aload_n dX2_init_24 rfl rfl ?_
  refine r_putR0 (k := 0) cl_2 dX2_init_25 t_85 (Or.inr rfl) gf_2_0.1 gf_2_0.2 (fun z => absurd z (by decide)) pf_2_0.1 (Or.inr ⟨pf_2_0.2, rfl, rfl⟩) ?_
  exact r_return dX2_init_28 rfl ⟨by decide, by decide⟩ ⟨rfl, hm⟩
theorem dX8_empty_0 : decode cX8_empty 0 = .ok (.aload_n 0, 1) := rfl
theorem dX8_empty_1 : decode cX8_empty 1 = .ok (.iconst 0, 1) := rfl
theorem dX8_empty_2 : decode cX8_empty 2 = .ok (.putfield 15, 3) := rfl
theorem dX8_empty_5 : decode cX8_empty 5 = .ok (.aload_n 0, 1) := rfl
theorem dX8_empty_6 : decode cX8_empty 6 = .ok (.iconst 0, 1) := rfl
theorem dX8_empty_7 : decode cX8_empty 7 = .ok (.putfield 19, 3) := rfl
theorem dX8_empty_10 : decode cX8_empty 10 = .ok (.return_, 1) := rfl
def m_X8_empty  (h : Hp) (Q : Hp → Prop) : Prop := Q (wI (wI h 5 0 0) 5 2 0)
set_option maxHeartbeats 4000000 in
set_option maxRecDepth 100000 in
theorem s_X8_empty {l : Launch} {G : Cx} {d : Nat} (hd : 2 ≤ d) {h : Hp} {Q : Hp → Prop} (hm : m_X8_empty h Q) : Ct l G d 0 0 yX8_empty MX8_empty [tR 8 0 (some 5)] h (qV Q) := by
  unfold m_X8_empty at hm
  refine Ct.of (L := [some (tR 8 0 (some 5))]) (by decide) rfl rfl (Nat.le_of_ble_eq_true rfl) rfl ?_
  refine r_aload_n dX8_empty_0 rfl rfl ?_
  refine r_iconst (v := 0) dX8_empty_1 rfl ?_
  refine r_putI0 (k := 0) cl_8 dX8_empty_2 t_74 (Or.inl rfl) gf_8_0 pf_8_0.1 (Or.inl pf_8_0.2) ?_
  refine r_aload_n dX8_empty_5 rfl rfl ?_
  refine r_iconst (v := 0) dX8_empty_6 rfl ?_
  refine r_putI0 (k := 2) cl_8 dX8_empty_7 t_77 (Or.inl rfl) gf_8_2 pf_8_2.1 (Or.inl pf_8_2.2) ?_
  exact r_return dX8_empty_10 rfl ⟨by decide, by decide⟩ ⟨rfl, hm⟩
theorem dJ0_coder_7d493_0 : decode cJ0_coder_7d493 0 = .ok (.getstatic 38, 3) := rfl
theorem dJ0_coder_7d493_3 : decode cJ0_coder_7d493 3 = .ok (.ifCond .eq 10, 3) := by decide +kernel
theorem dJ0_coder_7d493_6 : decode cJ0_coder_7d493 6 = .ok (.aload_n 0, 1) := rfl
theorem dJ0_coder_7d493_7 : decode cJ0_coder_7d493 7 = .ok (.getfield 15, 3) := rfl
theorem dJ0_coder_7d493_10 : decode cJ0_coder_7d493 10 = .ok (.goto 4, 3) := by decide +kernel
theorem dJ0_coder_7d493_13 : decode cJ0_coder_7d493 13 = .ok (.iconst 1, 1) := rfl
theorem dJ0_coder_7d493_14 : decode cJ0_coder_7d493 14 = .ok (.ireturn, 1) := rfl
def m_J0_coder_7d493 (v0 : Nat) (h : Hp) (Q : Int32 → Hp → Prop) : Prop := ((1 : Int32) = 0 → narrow .byte (.int 1) = .int 1 ∧ Q 1 h) ∧ (¬ (1 : Int32) = 0 → narrow .byte (.int 0) = .int 0 ∧ Q 0 h)
set_option maxHeartbeats 4000000 in
set_option maxRecDepth 100000 in
theorem s_J0_coder_7d493 {l : Launch} {G : Cx} {v0 : Nat} {d : Nat} (hd : 2 ≤ d) (hv0 : v0 < 16) {h : Hp} {Q : Int32 → Hp → Prop} (hm : m_J0_coder_7d493 v0 h Q) : Ct l G d 0 0 yJ0_coder_7d493 MJ0_coder_7d493 [tS v0] h (qI Q) := by
  unfold m_J0_coder_7d493 at hm
  refine Ct.of (L := [some (tS v0)]) (by decide) rfl rfl (Nat.le_of_ble_eq_true rfl) rfl ?_
  refine r_getsC dJ0_coder_7d493_0 t_552 ?_
  refine r_if_eq (tgt := 13) dJ0_coder_7d493_3 rfl (fun hc => ?_) (fun hc => ?_)
  · replace hm := hm.1 hc
    refine r_iconst (v := 1) dJ0_coder_7d493_13 rfl ?_
    exact r_zreturn dJ0_coder_7d493_14 rfl hm.1 ⟨by decide, by decide⟩ ⟨_, rfl, hm.2⟩
  · replace hm := hm.2 hc
    refine r_aload_nS dJ0_coder_7d493_6 rfl rfl ?_
    refine r_strCoder hv0 dJ0_coder_7d493_7 t_2007 ?_
    refine r_goto (tgt := 14) dJ0_coder_7d493_10 rfl ?_
    exact r_zreturn dJ0_coder_7d493_14 rfl hm.1 ⟨by decide, by decide⟩ ⟨_, rfl, hm.2⟩
theorem dJ0_length_8abf5_0 : decode cJ0_length_8abf5 0 = .ok (.aload_n 0, 1) := rfl
theorem dJ0_length_8abf5_1 : decode cJ0_length_8abf5 1 = .ok (.getfield 9, 3) := rfl
theorem dJ0_length_8abf5_4 : decode cJ0_length_8abf5 4 = .ok (.arraylength, 1) := rfl
theorem dJ0_length_8abf5_5 : decode cJ0_length_8abf5 5 = .ok (.aload_n 0, 1) := rfl
theorem dJ0_length_8abf5_6 : decode cJ0_length_8abf5 6 = .ok (.invokevirtual 335, 3) := rfl
theorem dJ0_length_8abf5_9 : decode cJ0_length_8abf5 9 = .ok (.ishr, 1) := rfl
theorem dJ0_length_8abf5_10 : decode cJ0_length_8abf5 10 = .ok (.ireturn, 1) := rfl
def m_J0_length_8abf5 (v0 : Nat) (h : Hp) (Q : Int32 → Hp → Prop) : Prop := m_J0_coder_7d493 v0 h (fun (x1 : Int32) (h2 : Hp) => Q ((Int32.ofNat (lenS.getD v0 0)) >>> (x1 &&& 31)) h2)
set_option maxHeartbeats 4000000 in
set_option maxRecDepth 100000 in
theorem s_J0_length_8abf5 {l : Launch} {G : Cx} {v0 : Nat} {d : Nat} (hd : 4 ≤ d) (hv0 : v0 < 16) {h : Hp} {Q : Int32 → Hp → Prop} (hm : m_J0_length_8abf5 v0 h Q) : Ct l G d 0 0 yJ0_length_8abf5 MJ0_length_8abf5 [tS v0] h (qI Q) := by
  unfold m_J0_length_8abf5 at hm
  refine Ct.of (L := [some (tS v0)]) (by decide) rfl rfl (Nat.le_of_ble_eq_true rfl) rfl ?_
  refine r_aload_nS dJ0_length_8abf5_0 rfl rfl ?_
  refine r_strVal hv0 dJ0_length_8abf5_1 t_2006 ?_
  refine r_strLen hv0 dJ0_length_8abf5_4 rfl ?_
  refine r_aload_nS dJ0_length_8abf5_5 rfl rfl ?_
  refine r_callStrI (d' := d - 1) (as := []) (st := [tI (Int32.ofNat (lenS.getD v0 0))]) hv0 dJ0_length_8abf5_6 mi_J0_coder_7d493 t_548 t_549 t_550 rfl rfl (Nat.le_of_ble_eq_true rfl) (by omega) ⟨by decide, by decide⟩ ⟨rfl, rfl⟩ (s_J0_coder_7d493 (by omega) hv0 hm) (fun x1 h2 hm => ?_)
  refine r_ishr dJ0_length_8abf5_9 ?_
  exact r_ireturn dJ0_length_8abf5_10 rfl ⟨by decide, by decide⟩ ⟨_, rfl, hm⟩
theorem dJ0_isLatin1_aae02_0 : decode cJ0_isLatin1_aae02 0 = .ok (.getstatic 38, 3) := rfl
theorem dJ0_isLatin1_aae02_3 : decode cJ0_isLatin1_aae02 3 = .ok (.ifCond .eq 14, 3) := by decide +kernel
theorem dJ0_isLatin1_aae02_6 : decode cJ0_isLatin1_aae02 6 = .ok (.aload_n 0, 1) := rfl
theorem dJ0_isLatin1_aae02_7 : decode cJ0_isLatin1_aae02 7 = .ok (.getfield 15, 3) := rfl
theorem dJ0_isLatin1_aae02_10 : decode cJ0_isLatin1_aae02 10 = .ok (.ifCond .ne 7, 3) := by decide +kernel
theorem dJ0_isLatin1_aae02_13 : decode cJ0_isLatin1_aae02 13 = .ok (.iconst 1, 1) := rfl
theorem dJ0_isLatin1_aae02_14 : decode cJ0_isLatin1_aae02 14 = .ok (.goto 4, 3) := by decide +kernel
theorem dJ0_isLatin1_aae02_17 : decode cJ0_isLatin1_aae02 17 = .ok (.iconst 0, 1) := rfl
theorem dJ0_isLatin1_aae02_18 : decode cJ0_isLatin1_aae02 18 = .ok (.ireturn, 1) := rfl
def m_J0_isLatin1_aae02 (v0 : Nat) (h : Hp) (Q : Int32 → Hp → Prop) : Prop := ((1 : Int32) = 0 → Q 0 h) ∧ (¬ (1 : Int32) = 0 → (¬ (0 : Int32) = 0 → Q 0 h) ∧ ((0 : Int32) = 0 → Q 1 h))
set_option maxHeartbeats 4000000 in
set_option maxRecDepth 100000 in
theorem s_J0_isLatin1_aae02 {l : Launch} {G : Cx} {v0 : Nat} {d : Nat} (hd : 2 ≤ d) (hv0 : v0 < 16) {h : Hp} {Q : Int32 → Hp → Prop} (hm : m_J0_isLatin1_aae02 v0 h Q) : Ct l G d 0 0 yJ0_isLatin1_aae02 MJ0_isLatin1_aae02 [tS v0] h (qI Q) := by
  unfold m_J0_isLatin1_aae02 at hm
  refine Ct.of (L := [some (tS v0)]) (by decide) rfl rfl (Nat.le_of_ble_eq_true rfl) rfl ?_
  refine r_getsC dJ0_isLatin1_aae02_0 t_552 ?_
  refine r_if_eq (tgt := 17) dJ0_isLatin1_aae02_3 rfl (fun hc => ?_) (fun hc => ?_)
  · replace hm := hm.1 hc
    refine r_iconst (v := 0) dJ0_isLatin1_aae02_17 rfl ?_
    exact r_bret dJ0_isLatin1_aae02_18 rfl ⟨by decide, by decide⟩ (by unfold bz; decide) ⟨_, rfl, hm⟩
  · replace hm := hm.2 hc
    refine r_aload_nS dJ0_isLatin1_aae02_6 rfl rfl ?_
    refine r_strCoder hv0 dJ0_isLatin1_aae02_7 t_2007 ?_
    refine r_if_ne (tgt := 17) dJ0_isLatin1_aae02_10 rfl (fun hc => ?_) (fun hc => ?_)
    · replace hm := hm.1 hc
      refine r_iconst (v := 0) dJ0_isLatin1_aae02_17 rfl ?_
      exact r_bret dJ0_isLatin1_aae02_18 rfl ⟨by decide, by decide⟩ (by unfold bz; decide) ⟨_, rfl, hm⟩
    · replace hm := hm.2 hc
      refine r_iconst (v := 1) dJ0_isLatin1_aae02_13 rfl ?_
      refine r_goto (tgt := 18) dJ0_isLatin1_aae02_14 rfl ?_
      exact r_bret dJ0_isLatin1_aae02_18 rfl ⟨by decide, by decide⟩ (by unfold bz; decide) ⟨_, rfl, hm⟩
theorem dJ3_checkIndex_8e157_0 : decode cJ3_checkIndex_8e157 0 = .ok (.iload_n 0, 1) := rfl
theorem dJ3_checkIndex_8e157_1 : decode cJ3_checkIndex_8e157 1 = .ok (.ifCond .lt 8, 3) := by decide +kernel
theorem dJ3_checkIndex_8e157_4 : decode cJ3_checkIndex_8e157 4 = .ok (.iload_n 0, 1) := rfl
theorem dJ3_checkIndex_8e157_5 : decode cJ3_checkIndex_8e157 5 = .ok (.iload_n 1, 1) := rfl
theorem dJ3_checkIndex_8e157_6 : decode cJ3_checkIndex_8e157 6 = .ok (.if_icmp .lt 10, 3) := by decide +kernel
theorem dJ3_checkIndex_8e157_9 : decode cJ3_checkIndex_8e157 9 = .ok (.aload_n 2, 1) := rfl
theorem dJ3_checkIndex_8e157_10 : decode cJ3_checkIndex_8e157 10 = .ok (.iload_n 0, 1) := rfl
theorem dJ3_checkIndex_8e157_11 : decode cJ3_checkIndex_8e157 11 = .ok (.iload_n 1, 1) := rfl
theorem dJ3_checkIndex_8e157_12 : decode cJ3_checkIndex_8e157 12 = .ok (.invokestatic 95, 3) := rfl
theorem dJ3_checkIndex_8e157_15 : decode cJ3_checkIndex_8e157 15 = .ok (.athrow, 1) := rfl
theorem dJ3_checkIndex_8e157_16 : decode cJ3_checkIndex_8e157 16 = .ok (.iload_n 0, 1) := rfl
theorem dJ3_checkIndex_8e157_17 : decode cJ3_checkIndex_8e157 17 = .ok (.ireturn, 1) := rfl
def m_J3_checkIndex_8e157_9  (Q : Int32 → Hp → Prop) (v0 : Int32) (v1 : Int32) (h : Hp) : Prop := False
set_option maxHeartbeats 4000000 in
set_option maxRecDepth 100000 in
theorem s_J3_checkIndex_8e157_9 {l : Launch} {G : Cx} {d : Nat} {h0 : Hp} (hd : 2 ≤ d) {Q : Int32 → Hp → Prop} {v0 : Int32} {v1 : Int32} {h : Hp} (hm : m_J3_checkIndex_8e157_9 Q v0 v1 h) : Rn l G d 0 0 MJ3_checkIndex_8e157 h0 (qI Q) 9 [some (tI v0), some (tI v1)] [] h 0 0 := by
  unfold m_J3_checkIndex_8e157_9 at hm
  exact hm.elim
def m_J3_checkIndex_8e157 (v0 : Int32) (v1 : Int32) (h : Hp) (Q : Int32 → Hp → Prop) : Prop := (v0 < 0 → m_J3_checkIndex_8e157_9 Q v0 v1 h) ∧ (¬ v0 < 0 → (v0 < v1 → Q v0 h) ∧ (¬ v0 < v1 → m_J3_checkIndex_8e157_9 Q v0 v1 h))
set_option maxHeartbeats 4000000 in
set_option maxRecDepth 100000 in
theorem s_J3_checkIndex_8e157 {l : Launch} {G : Cx} {d : Nat} (hd : 2 ≤ d) {v0 : Int32} {v1 : Int32} {h : Hp} {Q : Int32 → Hp → Prop} (hm : m_J3_checkIndex_8e157 v0 v1 h Q) : Ct l G d 0 0 yJ3_checkIndex_8e157 MJ3_checkIndex_8e157 [tI v0, tI v1, tR 0 0 none] h (qI Q) := by
  unfold m_J3_checkIndex_8e157 at hm
  refine Ct.of (L := [some (tI v0), some (tI v1), some (tR 0 0 none)]) (by decide) rfl rfl (Nat.le_of_ble_eq_true rfl) rfl ?_
  refine r_iload_n dJ3_checkIndex_8e157_0 rfl rfl ?_
  refine r_if_lt (tgt := 9) dJ3_checkIndex_8e157_1 rfl (fun hc => ?_) (fun hc => ?_)
  · replace hm := hm.1 hc
    refine r_keep (L' := [some (tI v0), some (tI v1)]) [true, true] rfl ?_
    exact s_J3_checkIndex_8e157_9 hd hm
  · replace hm := hm.2 hc
    refine r_iload_n dJ3_checkIndex_8e157_4 rfl rfl ?_
    refine r_iload_n dJ3_checkIndex_8e157_5 rfl rfl ?_
    refine r_icmp_lt (tgt := 16) dJ3_checkIndex_8e157_6 rfl (fun hc => ?_) (fun hc => ?_)
    · replace hm := hm.1 hc
      refine r_iload_n dJ3_checkIndex_8e157_16 rfl rfl ?_
      exact r_ireturn dJ3_checkIndex_8e157_17 rfl ⟨by decide, by decide⟩ ⟨_, rfl, hm⟩
    · replace hm := hm.2 hc
      refine r_keep (L' := [some (tI v0), some (tI v1)]) [true, true] rfl ?_
      exact s_J3_checkIndex_8e157_9 hd hm
set_option maxHeartbeats 4000000 in
set_option maxRecDepth 100000 in
theorem s_J3_checkIndex_8e157F {l : Launch} {G : Cx} {d : Nat} (hd : 2 ≤ d) {v0 : Int32} {v1 : Int32} {h : Hp} {Q : Int32 → Hp → Prop} (hm : m_J3_checkIndex_8e157 v0 v1 h Q) : Ct l G d 0 0 yJ3_checkIndex_8e157 MJ3_checkIndex_8e157 [tI v0, tI v1, tS 400] h (qI Q) := by
  unfold m_J3_checkIndex_8e157 at hm
  refine Ct.of (L := [some (tI v0), some (tI v1), some (tS 400)]) (by decide) rfl rfl (Nat.le_of_ble_eq_true rfl) rfl ?_
  refine r_iload_n dJ3_checkIndex_8e157_0 rfl rfl ?_
  refine r_if_lt (tgt := 9) dJ3_checkIndex_8e157_1 rfl (fun hc => ?_) (fun hc => ?_)
  · replace hm := hm.1 hc
    refine r_keep (L' := [some (tI v0), some (tI v1)]) [true, true] rfl ?_
    exact s_J3_checkIndex_8e157_9 hd hm
  · replace hm := hm.2 hc
    refine r_iload_n dJ3_checkIndex_8e157_4 rfl rfl ?_
    refine r_iload_n dJ3_checkIndex_8e157_5 rfl rfl ?_
    refine r_icmp_lt (tgt := 16) dJ3_checkIndex_8e157_6 rfl (fun hc => ?_) (fun hc => ?_)
    · replace hm := hm.1 hc
      refine r_iload_n dJ3_checkIndex_8e157_16 rfl rfl ?_
      exact r_ireturn dJ3_checkIndex_8e157_17 rfl ⟨by decide, by decide⟩ ⟨_, rfl, hm⟩
    · replace hm := hm.2 hc
      refine r_keep (L' := [some (tI v0), some (tI v1)]) [true, true] rfl ?_
      exact s_J3_checkIndex_8e157_9 hd hm
theorem dJ0_checkIndex_df160_0 : decode cJ0_checkIndex_df160 0 = .ok (.iload_n 0, 1) := rfl
theorem dJ0_checkIndex_df160_1 : decode cJ0_checkIndex_df160 1 = .ok (.iload_n 1, 1) := rfl
theorem dJ0_checkIndex_df160_2 : decode cJ0_checkIndex_df160 2 = .ok (.getstatic 1053, 3) := rfl
theorem dJ0_checkIndex_df160_5 : decode cJ0_checkIndex_df160 5 = .ok (.invokestatic 1059, 3) := rfl
theorem dJ0_checkIndex_df160_8 : decode cJ0_checkIndex_df160 8 = .ok (.pop, 1) := rfl
theorem dJ0_checkIndex_df160_9 : decode cJ0_checkIndex_df160 9 = .ok (.return_, 1) := rfl
def m_J0_checkIndex_df160 (v0 : Int32) (v1 : Int32) (h : Hp) (Q : Hp → Prop) : Prop := m_J3_checkIndex_8e157 v0 v1 h (fun (x1 : Int32) (h2 : Hp) => Q h2)
set_option maxHeartbeats 4000000 in
set_option maxRecDepth 100000 in
theorem s_J0_checkIndex_df160 {l : Launch} {G : Cx} {d : Nat} (hd : 4 ≤ d) {v0 : Int32} {v1 : Int32} {h : Hp} {Q : Hp → Prop} (hm : m_J0_checkIndex_df160 v0 v1 h Q) : Ct l G d 0 0 yJ0_checkIndex_df160 MJ0_checkIndex_df160 [tI v0, tI v1] h (qV Q) := by
  unfold m_J0_checkIndex_df160 at hm
  refine Ct.of (L := [some (tI v0), some (tI v1)]) (by decide) rfl rfl (Nat.le_of_ble_eq_true rfl) rfl ?_
  refine r_iload_n dJ0_checkIndex_df160_0 rfl rfl ?_
  refine r_iload_n dJ0_checkIndex_df160_1 rfl rfl ?_
  refine r_getsF dJ0_checkIndex_df160_2 t_568 ?_ ?_
  · skip
    refine r_callSI (d' := d - 1) (as := [tI v0, tI v1, tR 0 0 none]) (st := []) dJ0_checkIndex_df160_5 mi_J3_checkIndex_8e157 t_570 t_571 rfl rfl (Nat.le_of_ble_eq_true rfl) (by omega) ⟨by decide, by decide⟩ ⟨rfl, rfl⟩ (s_J3_checkIndex_8e157 (by omega) hm) (fun x1 h2 hm => ?_)
    refine r_pop dJ0_checkIndex_df160_8 rfl ?_
    exact r_return dJ0_checkIndex_df160_9 rfl ⟨by decide, by decide⟩ ⟨rfl, hm⟩
  · skip
    refine r_callSI (d' := d - 1) (as := [tI v0, tI v1, tS 400]) (st := []) dJ0_checkIndex_df160_5 mi_J3_checkIndex_8e157 t_570 t_571 rfl rfl (Nat.le_of_ble_eq_true rfl) (by omega) ⟨by decide, by decide⟩ ⟨rfl, rfl⟩ (s_J3_checkIndex_8e157F (by omega) hm) (fun x1 h2 hm => ?_)
    refine r_pop dJ0_checkIndex_df160_8 rfl ?_
    exact r_return dJ0_checkIndex_df160_9 rfl ⟨by decide, by decide⟩ ⟨rfl, hm⟩
theorem dJ1_charAt_3b067_0 : decode cJ1_charAt_3b067 0 = .ok (.iload_n 1, 1) := rfl
theorem dJ1_charAt_3b067_1 : decode cJ1_charAt_3b067 1 = .ok (.aload_n 0, 1) := rfl
theorem dJ1_charAt_3b067_2 : decode cJ1_charAt_3b067 2 = .ok (.arraylength, 1) := rfl
theorem dJ1_charAt_3b067_3 : decode cJ1_charAt_3b067 3 = .ok (.invokestatic 9, 3) := rfl
theorem dJ1_charAt_3b067_6 : decode cJ1_charAt_3b067 6 = .ok (.aload_n 0, 1) := rfl
theorem dJ1_charAt_3b067_7 : decode cJ1_charAt_3b067 7 = .ok (.iload_n 1, 1) := rfl
theorem dJ1_charAt_3b067_8 : decode cJ1_charAt_3b067 8 = .ok (.baload, 1) := rfl
theorem dJ1_charAt_3b067_9 : decode cJ1_charAt_3b067 9 = .ok (.sipush 255, 3) := by decide +kernel
theorem dJ1_charAt_3b067_12 : decode cJ1_charAt_3b067 12 = .ok (.iand, 1) := rfl
theorem dJ1_charAt_3b067_13 : decode cJ1_charAt_3b067 13 = .ok (.i2c, 1) := rfl
theorem dJ1_charAt_3b067_14 : decode cJ1_charAt_3b067 14 = .ok (.ireturn, 1) := rfl
def m_J1_charAt_3b067 (v0 : Nat) (v1 : Int32) (h : Hp) (Q : Int32 → Hp → Prop) : Prop := m_J0_checkIndex_df160 v1 (Int32.ofNat (lenS.getD v0 0)) h (fun (h2 : Hp) => vp_in v1 (lenS.getD v0 0) ∧ (narrow .char (.int ((((((bytS.getD v0 []).getD (ix v1) 0) &&& 255)).toUInt32 % 65536).toInt32)) = .int ((((((bytS.getD v0 []).getD (ix v1) 0) &&& 255)).toUInt32 % 65536).toInt32) ∧ Q ((((((bytS.getD v0 []).getD (ix v1) 0) &&& 255)).toUInt32 % 65536).toInt32) h2))
set_option maxHeartbeats 4000000 in
set_option maxRecDepth 100000 in
theorem s_J1_charAt_3b067 {l : Launch} {G : Cx} {v0 : Nat} {d : Nat} (hd : 6 ≤ d) (hv0 : v0 < 16) {v1 : Int32} {h : Hp} {Q : Int32 → Hp → Prop} (hm : m_J1_charAt_3b067 v0 v1 h Q) : Ct l G d 0 0 yJ1_charAt_3b067 MJ1_charAt_3b067 [tS (100 + v0), tI v1] h (qI Q) := by
  unfold m_J1_charAt_3b067 at hm
  refine Ct.of (L := [some (tS (100 + v0)), some (tI v1)]) (by decide) rfl rfl (Nat.le_of_ble_eq_true rfl) rfl ?_
  refine r_iload_n dJ1_charAt_3b067_0 rfl rfl ?_
  refine r_aload_nS dJ1_charAt_3b067_1 rfl rfl ?_
  refine r_strLen hv0 dJ1_charAt_3b067_2 rfl ?_
  refine r_callSU (d' := d - 1) (as := [tI v1, tI (Int32.ofNat (lenS.getD v0 0))]) (st := []) dJ1_charAt_3b067_3 mi_J0_checkIndex_df160 t_565 t_566 rfl rfl (Nat.le_of_ble_eq_true rfl) (by omega) ⟨by decide, by decide⟩ ⟨rfl, rfl⟩ (s_J0_checkIndex_df160 (by omega) hm) (fun h2 hm => ?_)
  refine r_aload_nS dJ1_charAt_3b067_6 rfl rfl ?_
  refine r_iload_n dJ1_charAt_3b067_7 rfl rfl ?_
  refine r_strLd hv0 dJ1_charAt_3b067_8 hm.1 ?_
  replace hm := hm.2
  refine r_sipush (v := 255) dJ1_charAt_3b067_9 rfl ?_
  refine r_iand dJ1_charAt_3b067_12 ?_
  refine r_i2c dJ1_charAt_3b067_13 ?_
  exact r_zreturn dJ1_charAt_3b067_14 rfl hm.1 ⟨by decide, by decide⟩ ⟨_, rfl, hm.2⟩
theorem dJ0_charAt_5068e_0 : decode cJ0_charAt_5068e 0 = .ok (.aload_n 0, 1) := rfl
theorem dJ0_charAt_5068e_1 : decode cJ0_charAt_5068e 1 = .ok (.invokevirtual 492, 3) := rfl
theorem dJ0_charAt_5068e_4 : decode cJ0_charAt_5068e 4 = .ok (.ifCond .eq 12, 3) := by decide +kernel
theorem dJ0_charAt_5068e_7 : decode cJ0_charAt_5068e 7 = .ok (.aload_n 0, 1) := rfl
theorem dJ0_charAt_5068e_8 : decode cJ0_charAt_5068e 8 = .ok (.getfield 9, 3) := rfl
theorem dJ0_charAt_5068e_11 : decode cJ0_charAt_5068e 11 = .ok (.iload_n 1, 1) := rfl
theorem dJ0_charAt_5068e_12 : decode cJ0_charAt_5068e 12 = .ok (.invokestatic 495, 3) := rfl
theorem dJ0_charAt_5068e_15 : decode cJ0_charAt_5068e 15 = .ok (.ireturn, 1) := rfl
theorem dJ0_charAt_5068e_16 : decode cJ0_charAt_5068e 16 = .ok (.aload_n 0, 1) := rfl
theorem dJ0_charAt_5068e_17 : decode cJ0_charAt_5068e 17 = .ok (.getfield 9, 3) := rfl
theorem dJ0_charAt_5068e_20 : decode cJ0_charAt_5068e 20 = .ok (.iload_n 1, 1) := rfl
theorem dJ0_charAt_5068e_21 : decode cJ0_charAt_5068e 21 = .ok (.invokestatic 498, 3) := rfl
theorem dJ0_charAt_5068e_24 : decode cJ0_charAt_5068e 24 = .ok (.ireturn, 1) := rfl
def m_J0_charAt_5068e (v0 : Nat) (v1 : Int32) (h : Hp) (Q : Int32 → Hp → Prop) : Prop := m_J0_isLatin1_aae02 v0 h (fun (x1 : Int32) (h2 : Hp) => (x1 = 0 → False) ∧ (¬ x1 = 0 → m_J1_charAt_3b067 v0 v1 h2 (fun (x3 : Int32) (h4 : Hp) => narrow .char (.int x3) = .int x3 ∧ Q x3 h4)))
set_option maxHeartbeats 4000000 in
set_option maxRecDepth 100000 in
theorem s_J0_charAt_5068e {l : Launch} {G : Cx} {v0 : Nat} {d : Nat} (hd : 8 ≤ d) (hv0 : v0 < 16) {v1 : Int32} {h : Hp} {Q : Int32 → Hp → Prop} (hm : m_J0_charAt_5068e v0 v1 h Q) : Ct l G d 0 0 yJ0_charAt_5068e MJ0_charAt_5068e [tS v0, tI v1] h (qI Q) := by
  unfold m_J0_charAt_5068e at hm
  refine Ct.of (L := [some (tS v0), some (tI v1)]) (by decide) rfl rfl (Nat.le_of_ble_eq_true rfl) rfl ?_
  refine r_aload_nS dJ0_charAt_5068e_0 rfl rfl ?_
  refine r_callStrI (d' := d - 1) (as := []) (st := []) hv0 dJ0_charAt_5068e_1 mi_J0_isLatin1_aae02 t_558 t_559 t_560 rfl rfl (Nat.le_of_ble_eq_true rfl) (by omega) ⟨by decide, by decide⟩ ⟨rfl, rfl⟩ (s_J0_isLatin1_aae02 (by omega) hv0 hm) (fun x1 h2 hm => ?_)
  refine r_if_eq (tgt := 16) dJ0_charAt_5068e_4 rfl (fun hc => ?_) (fun hc => ?_)
  · replace hm := hm.1 hc
    refine r_aload_nS dJ0_charAt_5068e_16 rfl rfl ?_
    refine r_strVal hv0 dJ0_charAt_5068e_17 t_2006 ?_
    refine r_iload_n dJ0_charAt_5068e_20 rfl rfl ?_
    exact hm.elim
  · replace hm := hm.2 hc
    refine r_aload_nS dJ0_charAt_5068e_7 rfl rfl ?_
    refine r_strVal hv0 dJ0_charAt_5068e_8 t_2006 ?_
    refine r_iload_n dJ0_charAt_5068e_11 rfl rfl ?_
    refine r_callSI (d' := d - 1) (as := [tS (100 + v0), tI v1]) (st := []) dJ0_charAt_5068e_12 mi_J1_charAt_3b067 t_562 t_563 rfl rfl (Nat.le_of_ble_eq_true rfl) (by omega) ⟨by decide, by decide⟩ ⟨rfl, rfl⟩ (s_J1_charAt_3b067 (by omega) hv0 hm) (fun x3 h4 hm => ?_)
    exact r_zreturn dJ0_charAt_5068e_15 rfl hm.1 ⟨by decide, by decide⟩ ⟨_, rfl, hm.2⟩
theorem dX10_placeIn_0 : decode cX10_placeIn 0 = .ok (.aload_n 0, 1) := by decide +kernel
theorem dX10_placeIn_1 : decode cX10_placeIn 1 = .ok (.getfield 40, 3) := by decide +kernel
theorem dX10_placeIn_4 : decode cX10_placeIn 4 = .ok (.iconst 1, 1) := by decide +kernel
theorem dX10_placeIn_5 : decode cX10_placeIn 5 = .ok (.if_icmp .eq 5, 3) := by decide +kernel
theorem dX10_placeIn_8 : decode cX10_placeIn 8 = .ok (.iconst (-1), 1) := by decide +kernel
theorem dX10_placeIn_9 : decode cX10_placeIn 9 = .ok (.ireturn, 1) := by decide +kernel
theorem dX10_placeIn_10 : decode cX10_placeIn 10 = .ok (.iconst 0, 1) := by decide +kernel
theorem dX10_placeIn_11 : decode cX10_placeIn 11 = .ok (.istore_n 2, 1) := by decide +kernel
theorem dX10_placeIn_12 : decode cX10_placeIn 12 = .ok (.iconst 0, 1) := by decide +kernel
theorem dX10_placeIn_13 : decode cX10_placeIn 13 = .ok (.istore_n 3, 1) := by decide +kernel
theorem dX10_placeIn_14 : decode cX10_placeIn 14 = .ok (.iconst 0, 1) := by decide +kernel
theorem dX10_placeIn_15 : decode cX10_placeIn 15 = .ok (.istore 4, 2) := by decide +kernel
theorem dX10_placeIn_17 : decode cX10_placeIn 17 = .ok (.iload 4, 2) := by decide +kernel
theorem dX10_placeIn_19 : decode cX10_placeIn 19 = .ok (.aload_n 1, 1) := by decide +kernel
theorem dX10_placeIn_20 : decode cX10_placeIn 20 = .ok (.invokevirtual 51, 3) := by decide +kernel
theorem dX10_placeIn_23 : decode cX10_placeIn 23 = .ok (.if_icmp .ge 89, 3) := by decide +kernel
theorem dX10_placeIn_26 : decode cX10_placeIn 26 = .ok (.aload_n 1, 1) := by decide +kernel
theorem dX10_placeIn_27 : decode cX10_placeIn 27 = .ok (.iload 4, 2) := by decide +kernel
theorem dX10_placeIn_29 : decode cX10_placeIn 29 = .ok (.invokevirtual 56, 3) := by decide +kernel
theorem dX10_placeIn_32 : decode cX10_placeIn 32 = .ok (.istore 5, 2) := by decide +kernel
theorem dX10_placeIn_34 : decode cX10_placeIn 34 = .ok (.iload 5, 2) := by decide +kernel
theorem dX10_placeIn_36 : decode cX10_placeIn 36 = .ok (.bipush 32, 2) := by decide +kernel
theorem dX10_placeIn_38 : decode cX10_placeIn 38 = .ok (.if_icmp .ne 26, 3) := by decide +kernel
theorem dX10_placeIn_41 : decode cX10_placeIn 41 = .ok (.iload_n 3, 1) := by decide +kernel
theorem dX10_placeIn_42 : decode cX10_placeIn 42 = .ok (.aload_n 0, 1) := by decide +kernel
theorem dX10_placeIn_43 : decode cX10_placeIn 43 = .ok (.getfield 31, 3) := by decide +kernel
theorem dX10_placeIn_46 : decode cX10_placeIn 46 = .ok (.aload_n 0, 1) := by decide +kernel
theorem dX10_placeIn_47 : decode cX10_placeIn 47 = .ok (.getfield 37, 3) := by decide +kernel
theorem dX10_placeIn_50 : decode cX10_placeIn 50 = .ok (.isub, 1) := by decide +kernel
theorem dX10_placeIn_51 : decode cX10_placeIn 51 = .ok (.if_icmp .ne 5, 3) := by decide +kernel
theorem dX10_placeIn_54 : decode cX10_placeIn 54 = .ok (.iload_n 2, 1) := by decide +kernel
theorem dX10_placeIn_55 : decode cX10_placeIn 55 = .ok (.ireturn, 1) := by decide +kernel
theorem dX10_placeIn_56 : decode cX10_placeIn 56 = .ok (.iinc 2 1, 3) := by decide +kernel
theorem dX10_placeIn_59 : decode cX10_placeIn 59 = .ok (.iconst 0, 1) := by decide +kernel
theorem dX10_placeIn_60 : decode cX10_placeIn 60 = .ok (.istore_n 3, 1) := by decide +kernel
theorem dX10_placeIn_61 : decode cX10_placeIn 61 = .ok (.goto 45, 3) := by decide +kernel
theorem dX10_placeIn_64 : decode cX10_placeIn 64 = .ok (.iload_n 3, 1) := by decide +kernel
theorem dX10_placeIn_65 : decode cX10_placeIn 65 = .ok (.iconst (-1), 1) := by decide +kernel
theorem dX10_placeIn_66 : decode cX10_placeIn 66 = .ok (.if_icmp .eq 40, 3) := by decide +kernel
theorem dX10_placeIn_69 : decode cX10_placeIn 69 = .ok (.aload_n 0, 1) := by decide +kernel
theorem dX10_placeIn_70 : decode cX10_placeIn 70 = .ok (.getfield 37, 3) := by decide +kernel
theorem dX10_placeIn_73 : decode cX10_placeIn 73 = .ok (.iload_n 3, 1) := by decide +kernel
theorem dX10_placeIn_74 : decode cX10_placeIn 74 = .ok (.iadd, 1) := by decide +kernel
theorem dX10_placeIn_75 : decode cX10_placeIn 75 = .ok (.aload_n 0, 1) := by decide +kernel
theorem dX10_placeIn_76 : decode cX10_placeIn 76 = .ok (.getfield 31, 3) := by decide +kernel
theorem dX10_placeIn_79 : decode cX10_placeIn 79 = .ok (.if_icmp .ge 25, 3) := by decide +kernel
theorem dX10_placeIn_82 : decode cX10_placeIn 82 = .ok (.aload_n 0, 1) := by decide +kernel
theorem dX10_placeIn_83 : decode cX10_placeIn 83 = .ok (.getfield 9, 3) := by decide +kernel
theorem dX10_placeIn_86 : decode cX10_placeIn 86 = .ok (.aload_n 0, 1) := by decide +kernel
theorem dX10_placeIn_87 : decode cX10_placeIn 87 = .ok (.getfield 37, 3) := by decide +kernel
theorem dX10_placeIn_90 : decode cX10_placeIn 90 = .ok (.iload_n 3, 1) := by decide +kernel
theorem dX10_placeIn_91 : decode cX10_placeIn 91 = .ok (.iadd, 1) := by decide +kernel
theorem dX10_placeIn_92 : decode cX10_placeIn 92 = .ok (.iaload, 1) := by decide +kernel
theorem dX10_placeIn_93 : decode cX10_placeIn 93 = .ok (.iload 5, 2) := by decide +kernel
theorem dX10_placeIn_95 : decode cX10_placeIn 95 = .ok (.if_icmp .ne 9, 3) := by decide +kernel
theorem dX10_placeIn_98 : decode cX10_placeIn 98 = .ok (.iload_n 3, 1) := by decide +kernel
theorem dX10_placeIn_99 : decode cX10_placeIn 99 = .ok (.iconst 1, 1) := by decide +kernel
theorem dX10_placeIn_100 : decode cX10_placeIn 100 = .ok (.iadd, 1) := by decide +kernel
theorem dX10_placeIn_101 : decode cX10_placeIn 101 = .ok (.goto 4, 3) := by decide +kernel
theorem dX10_placeIn_104 : decode cX10_placeIn 104 = .ok (.iconst (-1), 1) := by decide +kernel
theorem dX10_placeIn_105 : decode cX10_placeIn 105 = .ok (.istore_n 3, 1) := by decide +kernel
theorem dX10_placeIn_106 : decode cX10_placeIn 106 = .ok (.iinc 4 1, 3) := by decide +kernel
theorem dX10_placeIn_109 : decode cX10_placeIn 109 = .ok (.goto (-92), 3) := by decide +kernel
theorem dX10_placeIn_112 : decode cX10_placeIn 112 = .ok (.iconst (-1), 1) := by decide +kernel
theorem dX10_placeIn_113 : decode cX10_placeIn 113 = .ok (.ireturn, 1) := by decide +kernel
def m_X10_placeIn_106 (v1 : Nat) (k17 : Int32 → Int32 → Int32 → Hp → Prop) (Q : Int32 → Hp → Prop) (v2 : Int32) (v3 : Int32) (v4 : Int32) (h : Hp) : Prop := ∀ x1 : Int32, x1 = v4 + 1 → k17 v2 v3 x1 h
set_option maxHeartbeats 4000000 in
set_option maxRecDepth 100000 in
theorem s_X10_placeIn_106 {l : Launch} {G : Cx} {v1 : Nat} {d : Nat} {h0 : Hp} (hd : 10 ≤ d) (hv1 : v1 < 16) {k17 : Int32 → Int32 → Int32 → Hp → Prop} {Q : Int32 → Hp → Prop} (hk17 : ∀ (v2 : Int32) (v3 : Int32) (v4 : Int32) (hh : Hp), k17 v2 v3 v4 hh → Rn l G d 0 0 MX10_placeIn h0 (qI Q) 17 [some (tR 10 0 (some 2)), some (tS v1), some (tI v2), some (tI v3), some (tI v4)] [] hh 0 0) {v2 : Int32} {v3 : Int32} {v4 : Int32} {h : Hp} (hm : m_X10_placeIn_106 v1 k17 Q v2 v3 v4 h) : Rn l G d 0 0 MX10_placeIn h0 (qI Q) 106 [some (tR 10 0 (some 2)), some (tS v1), some (tI v2), some (tI v3), some (tI v4)] [] h 0 0 := by
  unfold m_X10_placeIn_106 at hm
  obtain ⟨x1, e_x1⟩ : ∃ y : Int32, y = v4 + 1 := ⟨_, rfl⟩
  replace hm := hm x1 e_x1
  refine r_iinc (L' := [some (tR 10 0 (some 2)), some (tS v1), some (tI v2), some (tI v3), some (tI x1)]) dX10_placeIn_106 rfl (by rw [e_x1]; rfl) (by decide) rfl ?_
  refine r_goto (tgt := 17) dX10_placeIn_109 rfl ?_
  refine r_keep (L' := [some (tR 10 0 (some 2)), some (tS v1), some (tI v2), some (tI v3), some (tI x1)]) [true, true, true, true, true] rfl ?_
  exact hk17 _ _ _ _ hm
def m_X10_placeIn_105 (v1 : Nat) (k17 : Int32 → Int32 → Int32 → Hp → Prop) (Q : Int32 → Hp → Prop) (v2 : Int32) (v4 : Int32) (s0 : Int32) (h : Hp) : Prop := m_X10_placeIn_106 v1 k17 Q v2 s0 v4 h
set_option maxHeartbeats 4000000 in
set_option maxRecDepth 100000 in
theorem s_X10_placeIn_105 {l : Launch} {G : Cx} {v1 : Nat} {d : Nat} {h0 : Hp} (hd : 10 ≤ d) (hv1 : v1 < 16) {k17 : Int32 → Int32 → Int32 → Hp → Prop} {Q : Int32 → Hp → Prop} (hk17 : ∀ (v2 : Int32) (v3 : Int32) (v4 : Int32) (hh : Hp), k17 v2 v3 v4 hh → Rn l G d 0 0 MX10_placeIn h0 (qI Q) 17 [some (tR 10 0 (some 2)), some (tS v1), some (tI v2), some (tI v3), some (tI v4)] [] hh 0 0) {v2 : Int32} {v4 : Int32} {s0 : Int32} {h : Hp} (hm : m_X10_placeIn_105 v1 k17 Q v2 v4 s0 h) : Rn l G d 0 0 MX10_placeIn h0 (qI Q) 105 [some (tR 10 0 (some 2)), some (tS v1), some (tI v2), none, some (tI v4)] [tI s0] h 0 0 := by
  unfold m_X10_placeIn_105 at hm
  refine r_istore_n (L' := [some (tR 10 0 (some 2)), some (tS v1), some (tI v2), some (tI s0), some (tI v4)]) dX10_placeIn_105 rfl (by decide) rfl ?_
  refine r_keep (L' := [some (tR 10 0 (some 2)), some (tS v1), some (tI v2), some (tI s0), some (tI v4)]) [true, true, true, true, true] rfl ?_
  exact s_X10_placeIn_106 hd hv1 hk17 hm
def m_X10_placeIn_104 (v1 : Nat) (k17 : Int32 → Int32 → Int32 → Hp → Prop) (Q : Int32 → Hp → Prop) (v2 : Int32) (v4 : Int32) (h : Hp) : Prop := m_X10_placeIn_105 v1 k17 Q v2 v4 (-1) h
set_option maxHeartbeats 4000000 in
set_option maxRecDepth 100000 in
theorem s_X10_placeIn_104 {l : Launch} {G : Cx} {v1 : Nat} {d : Nat} {h0 : Hp} (hd : 10 ≤ d) (hv1 : v1 < 16) {k17 : Int32 → Int32 → Int32 → Hp → Prop} {Q : Int32 → Hp → Prop} (hk17 : ∀ (v2 : Int32) (v3 : Int32) (v4 : Int32) (hh : Hp), k17 v2 v3 v4 hh → Rn l G d 0 0 MX10_placeIn h0 (qI Q) 17 [some (tR 10 0 (some 2)), some (tS v1), some (tI v2), some (tI v3), some (tI v4)] [] hh 0 0) {v2 : Int32} {v4 : Int32} {h : Hp} (hm : m_X10_placeIn_104 v1 k17 Q v2 v4 h) : Rn l G d 0 0 MX10_placeIn h0 (qI Q) 104 [some (tR 10 0 (some 2)), some (tS v1), some (tI v2), none, some (tI v4)] [] h 0 0 := by
  unfold m_X10_placeIn_104 at hm
  refine r_iconst (v := (-1)) dX10_placeIn_104 rfl ?_
  refine r_keep (L' := [some (tR 10 0 (some 2)), some (tS v1), some (tI v2), none, some (tI v4)]) [true, true, true, false, true] rfl ?_
  exact s_X10_placeIn_105 hd hv1 hk17 hm
def m_X10_placeIn_17 (v1 : Nat) : Nat → (Int32 → Hp → Prop) → Int32 → Int32 → Int32 → Hp → Prop
  | 0, _, _, _, _, _ => False
  | n + 1, Q, v2, v3, v4, h => m_J0_length_8abf5 v1 h (fun (x2 : Int32) (h3 : Hp) => (x2 ≤ v4 → Q (-1) h3) ∧ (¬ x2 ≤ v4 → m_J0_charAt_5068e v1 v4 h3 (fun (x4 : Int32) (h5 : Hp) => (¬ x4 = 32 → (v3 = (-1) → m_X10_placeIn_106 v1 (fun (v2 : Int32) (v3 : Int32) (v4 : Int32) (hh : Hp) => m_X10_placeIn_17 v1 n Q v2 v3 v4 hh) Q v2 v3 v4 h5) ∧ (¬ v3 = (-1) → ((hI h5 2 6) ≤ ((hI h5 2 5) + v3) → m_X10_placeIn_104 v1 (fun (v2 : Int32) (v3 : Int32) (v4 : Int32) (hh : Hp) => m_X10_placeIn_17 v1 n Q v2 v3 v4 hh) Q v2 v4 h5) ∧ (¬ (hI h5 2 6) ≤ ((hI h5 2 5) + v3) → vp_in ((hI h5 2 5) + v3) 600 ∧ ((¬ (hI h5 3 (ix ((hI h5 2 5) + v3))) = x4 → m_X10_placeIn_104 v1 (fun (v2 : Int32) (v3 : Int32) (v4 : Int32) (hh : Hp) => m_X10_placeIn_17 v1 n Q v2 v3 v4 hh) Q v2 v4 h5) ∧ ((hI h5 3 (ix ((hI h5 2 5) + v3))) = x4 → m_X10_placeIn_105 v1 (fun (v2 : Int32) (v3 : Int32) (v4 : Int32) (hh : Hp) => m_X10_placeIn_17 v1 n Q v2 v3 v4 hh) Q v2 v4 (v3 + 1) h5))))) ∧ (x4 = 32 → (¬ v3 = ((hI h5 2 6) - (hI h5 2 5)) → ∀ x6 : Int32, x6 = v2 + 1 → m_X10_placeIn_106 v1 (fun (v2 : Int32) (v3 : Int32) (v4 : Int32) (hh : Hp) => m_X10_placeIn_17 v1 n Q v2 v3 v4 hh) Q x6 0 v4 h5) ∧ (v3 = ((hI h5 2 6) - (hI h5 2 5)) → Q v2 h5)))))
set_option maxHeartbeats 4000000 in
set_option maxRecDepth 100000 in
theorem s_X10_placeIn_17 {l : Launch} {G : Cx} {v1 : Nat} {d : Nat} {h0 : Hp} (hd : 10 ≤ d) (hv1 : v1 < 16) {Q : Int32 → Hp → Prop} : ∀ {n : Nat} {v2 : Int32} {v3 : Int32} {v4 : Int32} {h : Hp}, m_X10_placeIn_17 v1 n Q v2 v3 v4 h → Rn l G d 0 0 MX10_placeIn h0 (qI Q) 17 [some (tR 10 0 (some 2)), some (tS v1), some (tI v2), some (tI v3), some (tI v4)] [] h 0 0 := by
  intro n
  induction n with
  | zero => intro v2 v3 v4 h hm; exact hm.elim
  | succ n ih =>
    intro v2 v3 v4 h hm
    have hk17 := fun (v2 : Int32) (v3 : Int32) (v4 : Int32) (hh : Hp) (hm : m_X10_placeIn_17 v1 n Q v2 v3 v4 hh) => ih hm
    rw [m_X10_placeIn_17] at hm
    refine r_iload dX10_placeIn_17 rfl ?_
    refine r_aload_nS dX10_placeIn_19 rfl rfl ?_
    refine r_callStrI (d' := d - 1) (as := []) (st := [tI v4]) hv1 dX10_placeIn_20 mi_J0_length_8abf5 t_544 t_545 t_546 rfl rfl (Nat.le_of_ble_eq_true rfl) (by omega) ⟨by decide, by decide⟩ ⟨rfl, rfl⟩ (s_J0_length_8abf5 (by omega) hv1 hm) (fun x2 h3 hm => ?_)
    refine r_icmp_ge (tgt := 112) dX10_placeIn_23 rfl (fun hc => ?_) (fun hc => ?_)
    · replace hm := hm.1 hc
      refine r_iconst (v := (-1)) dX10_placeIn_112 rfl ?_
      exact r_ireturn dX10_placeIn_113 rfl ⟨by decide, by decide⟩ ⟨_, rfl, hm⟩
    · replace hm := hm.2 hc
      refine r_aload_nS dX10_placeIn_26 rfl rfl ?_
      refine r_iload dX10_placeIn_27 rfl ?_
      refine r_callStrI (d' := d - 1) (as := [tI v4]) (st := []) hv1 dX10_placeIn_29 mi_J0_charAt_5068e t_554 t_555 t_556 rfl rfl (Nat.le_of_ble_eq_true rfl) (by omega) ⟨by decide, by decide⟩ ⟨rfl, rfl⟩ (s_J0_charAt_5068e (by omega) hv1 hm) (fun x4 h5 hm => ?_)
      refine r_istore (L' := [some (tR 10 0 (some 2)), some (tS v1), some (tI v2), some (tI v3), some (tI v4), some (tI x4)]) dX10_placeIn_32 (by decide) rfl ?_
      refine r_iload dX10_placeIn_34 rfl ?_
      refine r_bipush (v := 32) dX10_placeIn_36 rfl ?_
      refine r_icmp_ne (tgt := 64) dX10_placeIn_38 rfl (fun hc => ?_) (fun hc => ?_)
      · replace hm := hm.1 hc
        refine r_iload_n dX10_placeIn_64 rfl rfl ?_
        refine r_iconst (v := (-1)) dX10_placeIn_65 rfl ?_
        refine r_icmp_eq (tgt := 106) dX10_placeIn_66 rfl (fun hc => ?_) (fun hc => ?_)
        · replace hm := hm.1 hc
          refine r_keep (L' := [some (tR 10 0 (some 2)), some (tS v1), some (tI v2), some (tI v3), some (tI v4)]) [true, true, true, true, true] rfl ?_
          exact s_X10_placeIn_106 hd hv1 hk17 hm
        · replace hm := hm.2 hc
          refine r_aload_n dX10_placeIn_69 rfl rfl ?_
          refine r_getI (k := 5) cl_10 dX10_placeIn_70 t_44 (Or.inl rfl) gf_10_5 ?_
          refine r_iload_n dX10_placeIn_73 rfl rfl ?_
          refine r_iadd dX10_placeIn_74 ?_
          refine r_aload_n dX10_placeIn_75 rfl rfl ?_
          refine r_getI (k := 6) cl_10 dX10_placeIn_76 t_45 (Or.inl rfl) gf_10_6 ?_
          refine r_icmp_ge (tgt := 104) dX10_placeIn_79 rfl (fun hc => ?_) (fun hc => ?_)
          · replace hm := hm.1 hc
            refine r_keep (L' := [some (tR 10 0 (some 2)), some (tS v1), some (tI v2), none, some (tI v4)]) [true, true, true, false, true] rfl ?_
            exact s_X10_placeIn_104 hd hv1 hk17 hm
          · replace hm := hm.2 hc
            refine r_aload_n dX10_placeIn_82 rfl rfl ?_
            refine r_getC (k := 0) cl_10 dX10_placeIn_83 t_37 gf_10_0.1 gf_10_0.2 (gc_10_0 _) ?_
            refine r_aload_n dX10_placeIn_86 rfl rfl ?_
            refine r_getI (k := 5) cl_10 dX10_placeIn_87 t_44 (Or.inl rfl) gf_10_5 ?_
            refine r_iload_n dX10_placeIn_90 rfl rfl ?_
            refine r_iadd dX10_placeIn_91 ?_
            refine r_iald dX10_placeIn_92 hm.1 ?_
            replace hm := hm.2
            refine r_iload dX10_placeIn_93 rfl ?_
            refine r_icmp_ne (tgt := 104) dX10_placeIn_95 rfl (fun hc => ?_) (fun hc => ?_)
            · replace hm := hm.1 hc
              refine r_keep (L' := [some (tR 10 0 (some 2)), some (tS v1), some (tI v2), none, some (tI v4)]) [true, true, true, false, true] rfl ?_
              exact s_X10_placeIn_104 hd hv1 hk17 hm
            · replace hm := hm.2 hc
              refine r_iload_n dX10_placeIn_98 rfl rfl ?_
              refine r_iconst (v := 1) dX10_placeIn_99 rfl ?_
              refine r_iadd dX10_placeIn_100 ?_
              refine r_goto (tgt := 105) dX10_placeIn_101 rfl ?_
              refine r_keep (L' := [some (tR 10 0 (some 2)), some (tS v1), some (tI v2), none, some (tI v4)]) [true, true, true, false, true] rfl ?_
              exact s_X10_placeIn_105 hd hv1 hk17 hm
      · replace hm := hm.2 hc
        refine r_iload_n dX10_placeIn_41 rfl rfl ?_
        refine r_aload_n dX10_placeIn_42 rfl rfl ?_
        refine r_getI (k := 6) cl_10 dX10_placeIn_43 t_45 (Or.inl rfl) gf_10_6 ?_
        refine r_aload_n dX10_placeIn_46 rfl rfl ?_
        refine r_getI (k := 5) cl_10 dX10_placeIn_47 t_44 (Or.inl rfl) gf_10_5 ?_
        refine r_isub dX10_placeIn_50 ?_
        refine r_icmp_ne (tgt := 56) dX10_placeIn_51 rfl (fun hc => ?_) (fun hc => ?_)
        · replace hm := hm.1 hc
          obtain ⟨x6, e_x6⟩ : ∃ y : Int32, y = v2 + 1 := ⟨_, rfl⟩
          replace hm := hm x6 e_x6
          refine r_iinc (L' := [some (tR 10 0 (some 2)), some (tS v1), some (tI x6), some (tI v3), some (tI v4), some (tI x4)]) dX10_placeIn_56 rfl (by rw [e_x6]; rfl) (by decide) rfl ?_
          refine r_iconst (v := 0) dX10_placeIn_59 rfl ?_
          refine r_istore_n (L' := [some (tR 10 0 (some 2)), some (tS v1), some (tI x6), some (tI 0), some (tI v4), some (tI x4)]) dX10_placeIn_60 rfl (by decide) rfl ?_
          refine r_goto (tgt := 106) dX10_placeIn_61 rfl ?_
          refine r_keep (L' := [some (tR 10 0 (some 2)), some (tS v1), some (tI x6), some (tI 0), some (tI v4)]) [true, true, true, true, true] rfl ?_
          exact s_X10_placeIn_106 hd hv1 hk17 hm
        · replace hm := hm.2 hc
          refine r_iload_n dX10_placeIn_54 rfl rfl ?_
          exact r_ireturn dX10_placeIn_55 rfl ⟨by decide, by decide⟩ ⟨_, rfl, hm⟩
def m_X10_placeIn (v1 : Nat) (h : Hp) (Q : Int32 → Hp → Prop) : Prop := ((hI h 2 4) = 1 → ∃ n17, m_X10_placeIn_17 v1 n17 Q 0 0 0 h) ∧ (¬ (hI h 2 4) = 1 → Q (-1) h)
set_option maxHeartbeats 4000000 in
set_option maxRecDepth 100000 in
theorem s_X10_placeIn {l : Launch} {G : Cx} {v1 : Nat} {d : Nat} (hd : 10 ≤ d) (hv1 : v1 < 16) {h : Hp} {Q : Int32 → Hp → Prop} (hm : m_X10_placeIn v1 h Q) : Ct l G d 0 0 yX10_placeIn MX10_placeIn [tR 10 0 (some 2), tS v1] h (qI Q) := by
  unfold m_X10_placeIn at hm
  refine Ct.of (L := [some (tR 10 0 (some 2)), some (tS v1)]) (by decide) rfl rfl (Nat.le_of_ble_eq_true rfl) rfl ?_
  refine r_aload_n dX10_placeIn_0 rfl rfl ?_
  refine r_getI (k := 4) cl_10 dX10_placeIn_1 t_43 (Or.inl rfl) gf_10_4 ?_
  refine r_iconst (v := 1) dX10_placeIn_4 rfl ?_
  refine r_icmp_eq (tgt := 10) dX10_placeIn_5 rfl (fun hc => ?_) (fun hc => ?_)
  · replace hm := hm.1 hc
    refine r_iconst (v := 0) dX10_placeIn_10 rfl ?_
    refine r_istore_n (L' := [some (tR 10 0 (some 2)), some (tS v1), some (tI 0)]) dX10_placeIn_11 rfl (by decide) rfl ?_
    refine r_iconst (v := 0) dX10_placeIn_12 rfl ?_
    refine r_istore_n (L' := [some (tR 10 0 (some 2)), some (tS v1), some (tI 0), some (tI 0)]) dX10_placeIn_13 rfl (by decide) rfl ?_
    refine r_iconst (v := 0) dX10_placeIn_14 rfl ?_
    refine r_istore (L' := [some (tR 10 0 (some 2)), some (tS v1), some (tI 0), some (tI 0), some (tI 0)]) dX10_placeIn_15 (by decide) rfl ?_
    refine r_keep (L' := [some (tR 10 0 (some 2)), some (tS v1), some (tI 0), some (tI 0), some (tI 0)]) [true, true, true, true, true] rfl ?_
    obtain ⟨n, hm⟩ := hm
    refine s_X10_placeIn_17 hd hv1 hm
  · replace hm := hm.2 hc
    refine r_iconst (v := (-1)) dX10_placeIn_8 rfl ?_
    exact r_ireturn dX10_placeIn_9 rfl ⟨by decide, by decide⟩ ⟨_, rfl, hm⟩
theorem dX10_refuse_0 : decode cX10_refuse 0 = .ok (.aload_n 0, 1) := rfl
theorem dX10_refuse_1 : decode cX10_refuse 1 = .ok (.aload_n 0, 1) := rfl
theorem dX10_refuse_2 : decode cX10_refuse 2 = .ok (.getfield 37, 3) := rfl
theorem dX10_refuse_5 : decode cX10_refuse 5 = .ok (.putfield 15, 3) := rfl
theorem dX10_refuse_8 : decode cX10_refuse 8 = .ok (.iconst 0, 1) := rfl
theorem dX10_refuse_9 : decode cX10_refuse 9 = .ok (.ireturn, 1) := rfl
def m_X10_refuse  (h : Hp) (Q : Int32 → Hp → Prop) : Prop := Q 0 (wI h 2 2 (hI h 2 5))
set_option maxHeartbeats 4000000 in
set_option maxRecDepth 100000 in
theorem s_X10_refuse {l : Launch} {G : Cx} {d : Nat} (hd : 2 ≤ d) {h : Hp} {Q : Int32 → Hp → Prop} (hm : m_X10_refuse h Q) : Ct l G d 0 0 yX10_refuse MX10_refuse [tR 10 0 (some 2)] h (qI Q) := by
  unfold m_X10_refuse at hm
  refine Ct.of (L := [some (tR 10 0 (some 2))]) (by decide) rfl rfl (Nat.le_of_ble_eq_true rfl) rfl ?_
  refine r_aload_n dX10_refuse_0 rfl rfl ?_
  refine r_aload_n dX10_refuse_1 rfl rfl ?_
  refine r_getI (k := 5) cl_10 dX10_refuse_2 t_44 (Or.inl rfl) gf_10_5 ?_
  refine r_putI0 (k := 2) cl_10 dX10_refuse_5 t_40 (Or.inl rfl) gf_10_2 pf_10_2.1 (Or.inl pf_10_2.2) ?_
  refine r_iconst (v := 0) dX10_refuse_8 rfl ?_
  exact r_bret dX10_refuse_9 rfl ⟨by decide, by decide⟩ (by unfold bz; decide) ⟨_, rfl, hm⟩
theorem dX10_advance_0 : decode cX10_advance 0 = .ok (.aload_n 0, 1) := by decide +kernel
theorem dX10_advance_1 : decode cX10_advance 1 = .ok (.aload_n 0, 1) := by decide +kernel
theorem dX10_advance_2 : decode cX10_advance 2 = .ok (.getfield 31, 3) := by decide +kernel
theorem dX10_advance_5 : decode cX10_advance 5 = .ok (.putfield 37, 3) := by decide +kernel
theorem dX10_advance_8 : decode cX10_advance 8 = .ok (.aload_n 0, 1) := by decide +kernel
theorem dX10_advance_9 : decode cX10_advance 9 = .ok (.getfield 37, 3) := by decide +kernel
theorem dX10_advance_12 : decode cX10_advance 12 = .ok (.aload_n 0, 1) := by decide +kernel
theorem dX10_advance_13 : decode cX10_advance 13 = .ok (.getfield 28, 3) := by decide +kernel
theorem dX10_advance_16 : decode cX10_advance 16 = .ok (.if_icmp .ge 44, 3) := by decide +kernel
theorem dX10_advance_19 : decode cX10_advance 19 = .ok (.aload_n 0, 1) := by decide +kernel
theorem dX10_advance_20 : decode cX10_advance 20 = .ok (.getfield 9, 3) := by decide +kernel
theorem dX10_advance_23 : decode cX10_advance 23 = .ok (.aload_n 0, 1) := by decide +kernel
theorem dX10_advance_24 : decode cX10_advance 24 = .ok (.getfield 37, 3) := by decide +kernel
theorem dX10_advance_27 : decode cX10_advance 27 = .ok (.iaload, 1) := by decide +kernel
theorem dX10_advance_28 : decode cX10_advance 28 = .ok (.bipush 32, 2) := by decide +kernel
theorem dX10_advance_30 : decode cX10_advance 30 = .ok (.if_icmp .eq 17, 3) := by decide +kernel
theorem dX10_advance_33 : decode cX10_advance 33 = .ok (.aload_n 0, 1) := by decide +kernel
theorem dX10_advance_34 : decode cX10_advance 34 = .ok (.getfield 9, 3) := by decide +kernel
theorem dX10_advance_37 : decode cX10_advance 37 = .ok (.aload_n 0, 1) := by decide +kernel
theorem dX10_advance_38 : decode cX10_advance 38 = .ok (.getfield 37, 3) := by decide +kernel
theorem dX10_advance_41 : decode cX10_advance 41 = .ok (.iaload, 1) := by decide +kernel
theorem dX10_advance_42 : decode cX10_advance 42 = .ok (.bipush 10, 2) := by decide +kernel
theorem dX10_advance_44 : decode cX10_advance 44 = .ok (.if_icmp .ne 16, 3) := by decide +kernel
theorem dX10_advance_47 : decode cX10_advance 47 = .ok (.aload_n 0, 1) := by decide +kernel
theorem dX10_advance_48 : decode cX10_advance 48 = .ok (.dup, 1) := by decide +kernel
theorem dX10_advance_49 : decode cX10_advance 49 = .ok (.getfield 37, 3) := by decide +kernel
theorem dX10_advance_52 : decode cX10_advance 52 = .ok (.iconst 1, 1) := by decide +kernel
theorem dX10_advance_53 : decode cX10_advance 53 = .ok (.iadd, 1) := by decide +kernel
theorem dX10_advance_54 : decode cX10_advance 54 = .ok (.putfield 37, 3) := by decide +kernel
theorem dX10_advance_57 : decode cX10_advance 57 = .ok (.goto (-49), 3) := by decide +kernel
theorem dX10_advance_60 : decode cX10_advance 60 = .ok (.aload_n 0, 1) := by decide +kernel
theorem dX10_advance_61 : decode cX10_advance 61 = .ok (.aload_n 0, 1) := by decide +kernel
theorem dX10_advance_62 : decode cX10_advance 62 = .ok (.getfield 37, 3) := by decide +kernel
theorem dX10_advance_65 : decode cX10_advance 65 = .ok (.putfield 31, 3) := by decide +kernel
theorem dX10_advance_68 : decode cX10_advance 68 = .ok (.aload_n 0, 1) := by decide +kernel
theorem dX10_advance_69 : decode cX10_advance 69 = .ok (.iconst 1, 1) := by decide +kernel
theorem dX10_advance_70 : decode cX10_advance 70 = .ok (.putfield 40, 3) := by decide +kernel
theorem dX10_advance_73 : decode cX10_advance 73 = .ok (.aload_n 0, 1) := by decide +kernel
theorem dX10_advance_74 : decode cX10_advance 74 = .ok (.getfield 31, 3) := by decide +kernel
theorem dX10_advance_77 : decode cX10_advance 77 = .ok (.aload_n 0, 1) := by decide +kernel
theorem dX10_advance_78 : decode cX10_advance 78 = .ok (.getfield 28, 3) := by decide +kernel
theorem dX10_advance_81 : decode cX10_advance 81 = .ok (.if_icmp .ge 44, 3) := by decide +kernel
theorem dX10_advance_84 : decode cX10_advance 84 = .ok (.aload_n 0, 1) := by decide +kernel
theorem dX10_advance_85 : decode cX10_advance 85 = .ok (.getfield 9, 3) := by decide +kernel
theorem dX10_advance_88 : decode cX10_advance 88 = .ok (.aload_n 0, 1) := by decide +kernel
theorem dX10_advance_89 : decode cX10_advance 89 = .ok (.getfield 31, 3) := by decide +kernel
theorem dX10_advance_92 : decode cX10_advance 92 = .ok (.iaload, 1) := by decide +kernel
theorem dX10_advance_93 : decode cX10_advance 93 = .ok (.bipush 97, 2) := by decide +kernel
theorem dX10_advance_95 : decode cX10_advance 95 = .ok (.if_icmp .lt 30, 3) := by decide +kernel
theorem dX10_advance_98 : decode cX10_advance 98 = .ok (.aload_n 0, 1) := by decide +kernel
theorem dX10_advance_99 : decode cX10_advance 99 = .ok (.getfield 9, 3) := by decide +kernel
theorem dX10_advance_102 : decode cX10_advance 102 = .ok (.aload_n 0, 1) := by decide +kernel
theorem dX10_advance_103 : decode cX10_advance 103 = .ok (.getfield 31, 3) := by decide +kernel
theorem dX10_advance_106 : decode cX10_advance 106 = .ok (.iaload, 1) := by decide +kernel
theorem dX10_advance_107 : decode cX10_advance 107 = .ok (.bipush 122, 2) := by decide +kernel
theorem dX10_advance_109 : decode cX10_advance 109 = .ok (.if_icmp .gt 16, 3) := by decide +kernel
theorem dX10_advance_112 : decode cX10_advance 112 = .ok (.aload_n 0, 1) := by decide +kernel
theorem dX10_advance_113 : decode cX10_advance 113 = .ok (.dup, 1) := by decide +kernel
theorem dX10_advance_114 : decode cX10_advance 114 = .ok (.getfield 31, 3) := by decide +kernel
theorem dX10_advance_117 : decode cX10_advance 117 = .ok (.iconst 1, 1) := by decide +kernel
theorem dX10_advance_118 : decode cX10_advance 118 = .ok (.iadd, 1) := by decide +kernel
theorem dX10_advance_119 : decode cX10_advance 119 = .ok (.putfield 31, 3) := by decide +kernel
theorem dX10_advance_122 : decode cX10_advance 122 = .ok (.goto (-49), 3) := by decide +kernel
theorem dX10_advance_125 : decode cX10_advance 125 = .ok (.aload_n 0, 1) := by decide +kernel
theorem dX10_advance_126 : decode cX10_advance 126 = .ok (.getfield 31, 3) := by decide +kernel
theorem dX10_advance_129 : decode cX10_advance 129 = .ok (.aload_n 0, 1) := by decide +kernel
theorem dX10_advance_130 : decode cX10_advance 130 = .ok (.getfield 37, 3) := by decide +kernel
theorem dX10_advance_133 : decode cX10_advance 133 = .ok (.if_icmp .ne 60, 3) := by decide +kernel
theorem dX10_advance_136 : decode cX10_advance 136 = .ok (.aload_n 0, 1) := by decide +kernel
theorem dX10_advance_137 : decode cX10_advance 137 = .ok (.iconst 2, 1) := by decide +kernel
theorem dX10_advance_138 : decode cX10_advance 138 = .ok (.putfield 40, 3) := by decide +kernel
theorem dX10_advance_141 : decode cX10_advance 141 = .ok (.aload_n 0, 1) := by decide +kernel
theorem dX10_advance_142 : decode cX10_advance 142 = .ok (.getfield 31, 3) := by decide +kernel
theorem dX10_advance_145 : decode cX10_advance 145 = .ok (.aload_n 0, 1) := by decide +kernel
theorem dX10_advance_146 : decode cX10_advance 146 = .ok (.getfield 28, 3) := by decide +kernel
theorem dX10_advance_149 : decode cX10_advance 149 = .ok (.if_icmp .ge 44, 3) := by decide +kernel
theorem dX10_advance_152 : decode cX10_advance 152 = .ok (.aload_n 0, 1) := by decide +kernel
theorem dX10_advance_153 : decode cX10_advance 153 = .ok (.getfield 9, 3) := by decide +kernel
theorem dX10_advance_156 : decode cX10_advance 156 = .ok (.aload_n 0, 1) := by decide +kernel
theorem dX10_advance_157 : decode cX10_advance 157 = .ok (.getfield 31, 3) := by decide +kernel
theorem dX10_advance_160 : decode cX10_advance 160 = .ok (.iaload, 1) := by decide +kernel
theorem dX10_advance_161 : decode cX10_advance 161 = .ok (.bipush 48, 2) := by decide +kernel
theorem dX10_advance_163 : decode cX10_advance 163 = .ok (.if_icmp .lt 30, 3) := by decide +kernel
theorem dX10_advance_166 : decode cX10_advance 166 = .ok (.aload_n 0, 1) := by decide +kernel
theorem dX10_advance_167 : decode cX10_advance 167 = .ok (.getfield 9, 3) := by decide +kernel
theorem dX10_advance_170 : decode cX10_advance 170 = .ok (.aload_n 0, 1) := by decide +kernel
theorem dX10_advance_171 : decode cX10_advance 171 = .ok (.getfield 31, 3) := by decide +kernel
theorem dX10_advance_174 : decode cX10_advance 174 = .ok (.iaload, 1) := by decide +kernel
theorem dX10_advance_175 : decode cX10_advance 175 = .ok (.bipush 57, 2) := by decide +kernel
theorem dX10_advance_177 : decode cX10_advance 177 = .ok (.if_icmp .gt 16, 3) := by decide +kernel
theorem dX10_advance_180 : decode cX10_advance 180 = .ok (.aload_n 0, 1) := by decide +kernel
theorem dX10_advance_181 : decode cX10_advance 181 = .ok (.dup, 1) := by decide +kernel
theorem dX10_advance_182 : decode cX10_advance 182 = .ok (.getfield 31, 3) := by decide +kernel
theorem dX10_advance_185 : decode cX10_advance 185 = .ok (.iconst 1, 1) := by decide +kernel
theorem dX10_advance_186 : decode cX10_advance 186 = .ok (.iadd, 1) := by decide +kernel
theorem dX10_advance_187 : decode cX10_advance 187 = .ok (.putfield 31, 3) := by decide +kernel
theorem dX10_advance_190 : decode cX10_advance 190 = .ok (.goto (-49), 3) := by decide +kernel
theorem dX10_advance_193 : decode cX10_advance 193 = .ok (.aload_n 0, 1) := by decide +kernel
theorem dX10_advance_194 : decode cX10_advance 194 = .ok (.getfield 31, 3) := by decide +kernel
theorem dX10_advance_197 : decode cX10_advance 197 = .ok (.aload_n 0, 1) := by decide +kernel
theorem dX10_advance_198 : decode cX10_advance 198 = .ok (.getfield 37, 3) := by decide +kernel
theorem dX10_advance_201 : decode cX10_advance 201 = .ok (.if_icmp .ne 40, 3) := by decide +kernel
theorem dX10_advance_204 : decode cX10_advance 204 = .ok (.aload_n 0, 1) := by decide +kernel
theorem dX10_advance_205 : decode cX10_advance 205 = .ok (.aload_n 0, 1) := by decide +kernel
theorem dX10_advance_206 : decode cX10_advance 206 = .ok (.getfield 37, 3) := by decide +kernel
theorem dX10_advance_209 : decode cX10_advance 209 = .ok (.aload_n 0, 1) := by decide +kernel
theorem dX10_advance_210 : decode cX10_advance 210 = .ok (.getfield 28, 3) := by decide +kernel
theorem dX10_advance_213 : decode cX10_advance 213 = .ok (.if_icmp .ge 7, 3) := by decide +kernel
theorem dX10_advance_216 : decode cX10_advance 216 = .ok (.iconst 3, 1) := by decide +kernel
theorem dX10_advance_217 : decode cX10_advance 217 = .ok (.goto 4, 3) := by decide +kernel
theorem dX10_advance_220 : decode cX10_advance 220 = .ok (.iconst 0, 1) := by decide +kernel
theorem dX10_advance_221 : decode cX10_advance 221 = .ok (.putfield 40, 3) := by decide +kernel
theorem dX10_advance_224 : decode cX10_advance 224 = .ok (.aload_n 0, 1) := by decide +kernel
theorem dX10_advance_225 : decode cX10_advance 225 = .ok (.aload_n 0, 1) := by decide +kernel
theorem dX10_advance_226 : decode cX10_advance 226 = .ok (.getfield 37, 3) := by decide +kernel
theorem dX10_advance_229 : decode cX10_advance 229 = .ok (.iconst 1, 1) := by decide +kernel
theorem dX10_advance_230 : decode cX10_advance 230 = .ok (.iadd, 1) := by decide +kernel
theorem dX10_advance_231 : decode cX10_advance 231 = .ok (.aload_n 0, 1) := by decide +kernel
theorem dX10_advance_232 : decode cX10_advance 232 = .ok (.getfield 28, 3) := by decide +kernel
theorem dX10_advance_235 : decode cX10_advance 235 = .ok (.invokestatic 22, 3) := by decide +kernel
theorem dX10_advance_238 : decode cX10_advance 238 = .ok (.putfield 31, 3) := by decide +kernel
theorem dX10_advance_241 : decode cX10_advance 241 = .ok (.return_, 1) := by decide +kernel
def m_X10_advance_221  (Q : Hp → Prop) (s1 : Int32) (h : Hp) : Prop := Q (wI (wI h 2 4 s1) 2 6 (if (hI (wI h 2 4 s1) 2 3) < ((hI (wI h 2 4 s1) 2 5) + 1) then (hI (wI h 2 4 s1) 2 3) else ((hI (wI h 2 4 s1) 2 5) + 1)))
set_option maxHeartbeats 4000000 in
set_option maxRecDepth 100000 in
theorem s_X10_advance_221 {l : Launch} {G : Cx} {d : Nat} {h0 : Hp} (hd : 2 ≤ d) {Q : Hp → Prop} {s1 : Int32} {h : Hp} (hm : m_X10_advance_221 Q s1 h) : Rn l G d 0 0 MX10_advance h0 (qV Q) 221 [some (tR 10 0 (some 2))] [tI s1, tR 10 0 (some 2)] h 0 0 := by
  unfold m_X10_advance_221 at hm
  refine r_putI0 (k := 4) cl_10 dX10_advance_221 t_43 (Or.inl rfl) gf_10_4 pf_10_4.1 (Or.inl pf_10_4.2) ?_
  refine r_aload_n dX10_advance_224 rfl rfl ?_
  refine r_aload_n dX10_advance_225 rfl rfl ?_
  refine r_getI (k := 5) cl_10 dX10_advance_226 t_44 (Or.inl rfl) gf_10_5 ?_
  refine r_iconst (v := 1) dX10_advance_229 rfl ?_
  refine r_iadd dX10_advance_230 ?_
  refine r_aload_n dX10_advance_231 rfl rfl ?_
  refine r_getI (k := 3) cl_10 dX10_advance_232 t_42 (Or.inl rfl) gf_10_3 ?_
  refine r_mmin dX10_advance_235 t_512 t_513 t_14 t_514 (by omega) ⟨by decide, by decide⟩ (Nat.le_of_ble_eq_true rfl) ?_
  refine r_putI0 (k := 6) cl_10 dX10_advance_238 t_45 (Or.inl rfl) gf_10_6 pf_10_6.1 (Or.inl pf_10_6.2) ?_
  exact r_return dX10_advance_241 rfl ⟨by decide, by decide⟩ ⟨rfl, hm⟩
def m_X10_advance_193  (Q : Hp → Prop) (h : Hp) : Prop := (¬ (hI h 2 6) = (hI h 2 5) → Q h) ∧ ((hI h 2 6) = (hI h 2 5) → ((hI h 2 3) ≤ (hI h 2 5) → m_X10_advance_221 Q 0 h) ∧ (¬ (hI h 2 3) ≤ (hI h 2 5) → m_X10_advance_221 Q 3 h))
set_option maxHeartbeats 4000000 in
set_option maxRecDepth 100000 in
theorem s_X10_advance_193 {l : Launch} {G : Cx} {d : Nat} {h0 : Hp} (hd : 2 ≤ d) {Q : Hp → Prop} {h : Hp} (hm : m_X10_advance_193 Q h) : Rn l G d 0 0 MX10_advance h0 (qV Q) 193 [some (tR 10 0 (some 2))] [] h 0 0 := by
  unfold m_X10_advance_193 at hm
  refine r_aload_n dX10_advance_193 rfl rfl ?_
  refine r_getI (k := 6) cl_10 dX10_advance_194 t_45 (Or.inl rfl) gf_10_6 ?_
  refine r_aload_n dX10_advance_197 rfl rfl ?_
  refine r_getI (k := 5) cl_10 dX10_advance_198 t_44 (Or.inl rfl) gf_10_5 ?_
  refine r_icmp_ne (tgt := 241) dX10_advance_201 rfl (fun hc => ?_) (fun hc => ?_)
  · replace hm := hm.1 hc
    exact r_return dX10_advance_241 rfl ⟨by decide, by decide⟩ ⟨rfl, hm⟩
  · replace hm := hm.2 hc
    refine r_aload_n dX10_advance_204 rfl rfl ?_
    refine r_aload_n dX10_advance_205 rfl rfl ?_
    refine r_getI (k := 5) cl_10 dX10_advance_206 t_44 (Or.inl rfl) gf_10_5 ?_
    refine r_aload_n dX10_advance_209 rfl rfl ?_
    refine r_getI (k := 3) cl_10 dX10_advance_210 t_42 (Or.inl rfl) gf_10_3 ?_
    refine r_icmp_ge (tgt := 220) dX10_advance_213 rfl (fun hc => ?_) (fun hc => ?_)
    · replace hm := hm.1 hc
      refine r_iconst (v := 0) dX10_advance_220 rfl ?_
      refine r_keep (L' := [some (tR 10 0 (some 2))]) [true] rfl ?_
      exact s_X10_advance_221 hd hm
    · replace hm := hm.2 hc
      refine r_iconst (v := 3) dX10_advance_216 rfl ?_
      refine r_goto (tgt := 221) dX10_advance_217 rfl ?_
      refine r_keep (L' := [some (tR 10 0 (some 2))]) [true] rfl ?_
      exact s_X10_advance_221 hd hm
def m_X10_advance_141 : Nat → (Hp → Prop) → (Hp → Prop) → Hp → Prop
  | 0, _, _, _ => False
  | n + 1, k193, Q, h => ((hI h 2 3) ≤ (hI h 2 6) → k193 h) ∧ (¬ (hI h 2 3) ≤ (hI h 2 6) → vp_in (hI h 2 6) 600 ∧ (((hI h 3 (ix (hI h 2 6))) < 48 → k193 h) ∧ (¬ (hI h 3 (ix (hI h 2 6))) < 48 → vp_in (hI h 2 6) 600 ∧ ((57 < (hI h 3 (ix (hI h 2 6))) → k193 h) ∧ (¬ 57 < (hI h 3 (ix (hI h 2 6))) → m_X10_advance_141 n k193 Q (wI h 2 6 ((hI h 2 6) + 1)))))))
set_option maxHeartbeats 4000000 in
set_option maxRecDepth 100000 in
theorem s_X10_advance_141 {l : Launch} {G : Cx} {d : Nat} {h0 : Hp} (hd : 2 ≤ d) {k193 : Hp → Prop} {Q : Hp → Prop} (hk193 : ∀ (hh : Hp), k193 hh → Rn l G d 0 0 MX10_advance h0 (qV Q) 193 [some (tR 10 0 (some 2))] [] hh 0 0) : ∀ {n : Nat} {h : Hp}, m_X10_advance_141 n k193 Q h → Rn l G d 0 0 MX10_advance h0 (qV Q) 141 [some (tR 10 0 (some 2))] [] h 0 0 := by
  intro n
  induction n with
  | zero => intro h hm; exact hm.elim
  | succ n ih =>
    intro h hm
    have hk141 := fun (hh : Hp) (hm : m_X10_advance_141 n k193 Q hh) => ih hm
    rw [m_X10_advance_141] at hm
    refine r_aload_n dX10_advance_141 rfl rfl ?_
    refine r_getI (k := 6) cl_10 dX10_advance_142 t_45 (Or.inl rfl) gf_10_6 ?_
    refine r_aload_n dX10_advance_145 rfl rfl ?_
    refine r_getI (k := 3) cl_10 dX10_advance_146 t_42 (Or.inl rfl) gf_10_3 ?_
    refine r_icmp_ge (tgt := 193) dX10_advance_149 rfl (fun hc => ?_) (fun hc => ?_)
    · replace hm := hm.1 hc
      refine r_keep (L' := [some (tR 10 0 (some 2))]) [true] rfl ?_
      exact hk193 _ hm
    · replace hm := hm.2 hc
      refine r_aload_n dX10_advance_152 rfl rfl ?_
      refine r_getC (k := 0) cl_10 dX10_advance_153 t_37 gf_10_0.1 gf_10_0.2 (gc_10_0 _) ?_
      refine r_aload_n dX10_advance_156 rfl rfl ?_
      refine r_getI (k := 6) cl_10 dX10_advance_157 t_45 (Or.inl rfl) gf_10_6 ?_
      refine r_iald dX10_advance_160 hm.1 ?_
      replace hm := hm.2
      refine r_bipush (v := 48) dX10_advance_161 rfl ?_
      refine r_icmp_lt (tgt := 193) dX10_advance_163 rfl (fun hc => ?_) (fun hc => ?_)
      · replace hm := hm.1 hc
        refine r_keep (L' := [some (tR 10 0 (some 2))]) [true] rfl ?_
        exact hk193 _ hm
      · replace hm := hm.2 hc
        refine r_aload_n dX10_advance_166 rfl rfl ?_
        refine r_getC (k := 0) cl_10 dX10_advance_167 t_37 gf_10_0.1 gf_10_0.2 (gc_10_0 _) ?_
        refine r_aload_n dX10_advance_170 rfl rfl ?_
        refine r_getI (k := 6) cl_10 dX10_advance_171 t_45 (Or.inl rfl) gf_10_6 ?_
        refine r_iald dX10_advance_174 hm.1 ?_
        replace hm := hm.2
        refine r_bipush (v := 57) dX10_advance_175 rfl ?_
        refine r_icmp_gt (tgt := 193) dX10_advance_177 rfl (fun hc => ?_) (fun hc => ?_)
        · replace hm := hm.1 hc
          refine r_keep (L' := [some (tR 10 0 (some 2))]) [true] rfl ?_
          exact hk193 _ hm
        · replace hm := hm.2 hc
          refine r_aload_n dX10_advance_180 rfl rfl ?_
          refine r_dup dX10_advance_181 cv_cat1R ?_
          refine r_getI (k := 6) cl_10 dX10_advance_182 t_45 (Or.inl rfl) gf_10_6 ?_
          refine r_iconst (v := 1) dX10_advance_185 rfl ?_
          refine r_iadd dX10_advance_186 ?_
          refine r_putI0 (k := 6) cl_10 dX10_advance_187 t_45 (Or.inl rfl) gf_10_6 pf_10_6.1 (Or.inl pf_10_6.2) ?_
          refine r_goto (tgt := 141) dX10_advance_190 rfl ?_
          refine r_keep (L' := [some (tR 10 0 (some 2))]) [true] rfl ?_
          exact hk141 _ hm
def m_X10_advance_125  (Q : Hp → Prop) (h : Hp) : Prop := (¬ (hI h 2 6) = (hI h 2 5) → m_X10_advance_193 Q h) ∧ ((hI h 2 6) = (hI h 2 5) → ∃ n141, m_X10_advance_141 n141 (m_X10_advance_193 Q) Q (wI h 2 4 2))
set_option maxHeartbeats 4000000 in
set_option maxRecDepth 100000 in
theorem s_X10_advance_125 {l : Launch} {G : Cx} {d : Nat} {h0 : Hp} (hd : 2 ≤ d) {Q : Hp → Prop} {h : Hp} (hm : m_X10_advance_125 Q h) : Rn l G d 0 0 MX10_advance h0 (qV Q) 125 [some (tR 10 0 (some 2))] [] h 0 0 := by
  unfold m_X10_advance_125 at hm
  refine r_aload_n dX10_advance_125 rfl rfl ?_
  refine r_getI (k := 6) cl_10 dX10_advance_126 t_45 (Or.inl rfl) gf_10_6 ?_
  refine r_aload_n dX10_advance_129 rfl rfl ?_
  refine r_getI (k := 5) cl_10 dX10_advance_130 t_44 (Or.inl rfl) gf_10_5 ?_
  refine r_icmp_ne (tgt := 193) dX10_advance_133 rfl (fun hc => ?_) (fun hc => ?_)
  · replace hm := hm.1 hc
    refine r_keep (L' := [some (tR 10 0 (some 2))]) [true] rfl ?_
    exact s_X10_advance_193 hd hm
  · replace hm := hm.2 hc
    refine r_aload_n dX10_advance_136 rfl rfl ?_
    refine r_iconst (v := 2) dX10_advance_137 rfl ?_
    refine r_putI0 (k := 4) cl_10 dX10_advance_138 t_43 (Or.inl rfl) gf_10_4 pf_10_4.1 (Or.inl pf_10_4.2) ?_
    refine r_keep (L' := [some (tR 10 0 (some 2))]) [true] rfl ?_
    obtain ⟨n, hm⟩ := hm
    refine s_X10_advance_141 hd ?_ hm
    · exact (fun _ hm => s_X10_advance_193 hd hm)
def m_X10_advance_73 : Nat → (Hp → Prop) → (Hp → Prop) → Hp → Prop
  | 0, _, _, _ => False
  | n + 1, k125, Q, h => ((hI h 2 3) ≤ (hI h 2 6) → k125 h) ∧ (¬ (hI h 2 3) ≤ (hI h 2 6) → vp_in (hI h 2 6) 600 ∧ (((hI h 3 (ix (hI h 2 6))) < 97 → k125 h) ∧ (¬ (hI h 3 (ix (hI h 2 6))) < 97 → vp_in (hI h 2 6) 600 ∧ ((122 < (hI h 3 (ix (hI h 2 6))) → k125 h) ∧ (¬ 122 < (hI h 3 (ix (hI h 2 6))) → m_X10_advance_73 n k125 Q (wI h 2 6 ((hI h 2 6) + 1)))))))
set_option maxHeartbeats 4000000 in
set_option maxRecDepth 100000 in
theorem s_X10_advance_73 {l : Launch} {G : Cx} {d : Nat} {h0 : Hp} (hd : 2 ≤ d) {k125 : Hp → Prop} {Q : Hp → Prop} (hk125 : ∀ (hh : Hp), k125 hh → Rn l G d 0 0 MX10_advance h0 (qV Q) 125 [some (tR 10 0 (some 2))] [] hh 0 0) : ∀ {n : Nat} {h : Hp}, m_X10_advance_73 n k125 Q h → Rn l G d 0 0 MX10_advance h0 (qV Q) 73 [some (tR 10 0 (some 2))] [] h 0 0 := by
  intro n
  induction n with
  | zero => intro h hm; exact hm.elim
  | succ n ih =>
    intro h hm
    have hk73 := fun (hh : Hp) (hm : m_X10_advance_73 n k125 Q hh) => ih hm
    rw [m_X10_advance_73] at hm
    refine r_aload_n dX10_advance_73 rfl rfl ?_
    refine r_getI (k := 6) cl_10 dX10_advance_74 t_45 (Or.inl rfl) gf_10_6 ?_
    refine r_aload_n dX10_advance_77 rfl rfl ?_
    refine r_getI (k := 3) cl_10 dX10_advance_78 t_42 (Or.inl rfl) gf_10_3 ?_
    refine r_icmp_ge (tgt := 125) dX10_advance_81 rfl (fun hc => ?_) (fun hc => ?_)
    · replace hm := hm.1 hc
      refine r_keep (L' := [some (tR 10 0 (some 2))]) [true] rfl ?_
      exact hk125 _ hm
    · replace hm := hm.2 hc
      refine r_aload_n dX10_advance_84 rfl rfl ?_
      refine r_getC (k := 0) cl_10 dX10_advance_85 t_37 gf_10_0.1 gf_10_0.2 (gc_10_0 _) ?_
      refine r_aload_n dX10_advance_88 rfl rfl ?_
      refine r_getI (k := 6) cl_10 dX10_advance_89 t_45 (Or.inl rfl) gf_10_6 ?_
      refine r_iald dX10_advance_92 hm.1 ?_
      replace hm := hm.2
      refine r_bipush (v := 97) dX10_advance_93 rfl ?_
      refine r_icmp_lt (tgt := 125) dX10_advance_95 rfl (fun hc => ?_) (fun hc => ?_)
      · replace hm := hm.1 hc
        refine r_keep (L' := [some (tR 10 0 (some 2))]) [true] rfl ?_
        exact hk125 _ hm
      · replace hm := hm.2 hc
        refine r_aload_n dX10_advance_98 rfl rfl ?_
        refine r_getC (k := 0) cl_10 dX10_advance_99 t_37 gf_10_0.1 gf_10_0.2 (gc_10_0 _) ?_
        refine r_aload_n dX10_advance_102 rfl rfl ?_
        refine r_getI (k := 6) cl_10 dX10_advance_103 t_45 (Or.inl rfl) gf_10_6 ?_
        refine r_iald dX10_advance_106 hm.1 ?_
        replace hm := hm.2
        refine r_bipush (v := 122) dX10_advance_107 rfl ?_
        refine r_icmp_gt (tgt := 125) dX10_advance_109 rfl (fun hc => ?_) (fun hc => ?_)
        · replace hm := hm.1 hc
          refine r_keep (L' := [some (tR 10 0 (some 2))]) [true] rfl ?_
          exact hk125 _ hm
        · replace hm := hm.2 hc
          refine r_aload_n dX10_advance_112 rfl rfl ?_
          refine r_dup dX10_advance_113 cv_cat1R ?_
          refine r_getI (k := 6) cl_10 dX10_advance_114 t_45 (Or.inl rfl) gf_10_6 ?_
          refine r_iconst (v := 1) dX10_advance_117 rfl ?_
          refine r_iadd dX10_advance_118 ?_
          refine r_putI0 (k := 6) cl_10 dX10_advance_119 t_45 (Or.inl rfl) gf_10_6 pf_10_6.1 (Or.inl pf_10_6.2) ?_
          refine r_goto (tgt := 73) dX10_advance_122 rfl ?_
          refine r_keep (L' := [some (tR 10 0 (some 2))]) [true] rfl ?_
          exact hk73 _ hm
def m_X10_advance_60  (Q : Hp → Prop) (h : Hp) : Prop := ∃ n73, m_X10_advance_73 n73 (m_X10_advance_125 Q) Q (wI (wI h 2 6 (hI h 2 5)) 2 4 1)
set_option maxHeartbeats 4000000 in
set_option maxRecDepth 100000 in
theorem s_X10_advance_60 {l : Launch} {G : Cx} {d : Nat} {h0 : Hp} (hd : 2 ≤ d) {Q : Hp → Prop} {h : Hp} (hm : m_X10_advance_60 Q h) : Rn l G d 0 0 MX10_advance h0 (qV Q) 60 [some (tR 10 0 (some 2))] [] h 0 0 := by
  unfold m_X10_advance_60 at hm
  refine r_aload_n dX10_advance_60 rfl rfl ?_
  refine r_aload_n dX10_advance_61 rfl rfl ?_
  refine r_getI (k := 5) cl_10 dX10_advance_62 t_44 (Or.inl rfl) gf_10_5 ?_
  refine r_putI0 (k := 6) cl_10 dX10_advance_65 t_45 (Or.inl rfl) gf_10_6 pf_10_6.1 (Or.inl pf_10_6.2) ?_
  refine r_aload_n dX10_advance_68 rfl rfl ?_
  refine r_iconst (v := 1) dX10_advance_69 rfl ?_
  refine r_putI0 (k := 4) cl_10 dX10_advance_70 t_43 (Or.inl rfl) gf_10_4 pf_10_4.1 (Or.inl pf_10_4.2) ?_
  refine r_keep (L' := [some (tR 10 0 (some 2))]) [true] rfl ?_
  obtain ⟨n, hm⟩ := hm
  refine s_X10_advance_73 hd ?_ hm
  · exact (fun _ hm => s_X10_advance_125 hd hm)
def m_X10_advance_47 (k8 : Hp → Prop) (k60 : Hp → Prop) (Q : Hp → Prop) (h : Hp) : Prop := k8 (wI h 2 5 ((hI h 2 5) + 1))
set_option maxHeartbeats 4000000 in
set_option maxRecDepth 100000 in
theorem s_X10_advance_47 {l : Launch} {G : Cx} {d : Nat} {h0 : Hp} (hd : 2 ≤ d) {k8 : Hp → Prop} {k60 : Hp → Prop} {Q : Hp → Prop} (hk8 : ∀ (hh : Hp), k8 hh → Rn l G d 0 0 MX10_advance h0 (qV Q) 8 [some (tR 10 0 (some 2))] [] hh 0 0) (hk60 : ∀ (hh : Hp), k60 hh → Rn l G d 0 0 MX10_advance h0 (qV Q) 60 [some (tR 10 0 (some 2))] [] hh 0 0) {h : Hp} (hm : m_X10_advance_47 k8 k60 Q h) : Rn l G d 0 0 MX10_advance h0 (qV Q) 47 [some (tR 10 0 (some 2))] [] h 0 0 := by
  unfold m_X10_advance_47 at hm
  refine r_aload_n dX10_advance_47 rfl rfl ?_
  refine r_dup dX10_advance_48 cv_cat1R ?_
  refine r_getI (k := 5) cl_10 dX10_advance_49 t_44 (Or.inl rfl) gf_10_5 ?_
  refine r_iconst (v := 1) dX10_advance_52 rfl ?_
  refine r_iadd dX10_advance_53 ?_
  refine r_putI0 (k := 5) cl_10 dX10_advance_54 t_44 (Or.inl rfl) gf_10_5 pf_10_5.1 (Or.inl pf_10_5.2) ?_
  refine r_goto (tgt := 8) dX10_advance_57 rfl ?_
  refine r_keep (L' := [some (tR 10 0 (some 2))]) [true] rfl ?_
  exact hk8 _ hm
def m_X10_advance_8 : Nat → (Hp → Prop) → (Hp → Prop) → Hp → Prop
  | 0, _, _, _ => False
  | n + 1, k60, Q, h => ((hI h 2 3) ≤ (hI h 2 5) → k60 h) ∧ (¬ (hI h 2 3) ≤ (hI h 2 5) → vp_in (hI h 2 5) 600 ∧ (((hI h 3 (ix (hI h 2 5))) = 32 → m_X10_advance_47 (fun (hh : Hp) => m_X10_advance_8 n k60 Q hh) k60 Q h) ∧ (¬ (hI h 3 (ix (hI h 2 5))) = 32 → vp_in (hI h 2 5) 600 ∧ ((¬ (hI h 3 (ix (hI h 2 5))) = 10 → k60 h) ∧ ((hI h 3 (ix (hI h 2 5))) = 10 → m_X10_advance_47 (fun (hh : Hp) => m_X10_advance_8 n k60 Q hh) k60 Q h)))))
set_option maxHeartbeats 4000000 in
set_option maxRecDepth 100000 in
theorem s_X10_advance_8 {l : Launch} {G : Cx} {d : Nat} {h0 : Hp} (hd : 2 ≤ d) {k60 : Hp → Prop} {Q : Hp → Prop} (hk60 : ∀ (hh : Hp), k60 hh → Rn l G d 0 0 MX10_advance h0 (qV Q) 60 [some (tR 10 0 (some 2))] [] hh 0 0) : ∀ {n : Nat} {h : Hp}, m_X10_advance_8 n k60 Q h → Rn l G d 0 0 MX10_advance h0 (qV Q) 8 [some (tR 10 0 (some 2))] [] h 0 0 := by
  intro n
  induction n with
  | zero => intro h hm; exact hm.elim
  | succ n ih =>
    intro h hm
    have hk8 := fun (hh : Hp) (hm : m_X10_advance_8 n k60 Q hh) => ih hm
    rw [m_X10_advance_8] at hm
    refine r_aload_n dX10_advance_8 rfl rfl ?_
    refine r_getI (k := 5) cl_10 dX10_advance_9 t_44 (Or.inl rfl) gf_10_5 ?_
    refine r_aload_n dX10_advance_12 rfl rfl ?_
    refine r_getI (k := 3) cl_10 dX10_advance_13 t_42 (Or.inl rfl) gf_10_3 ?_
    refine r_icmp_ge (tgt := 60) dX10_advance_16 rfl (fun hc => ?_) (fun hc => ?_)
    · replace hm := hm.1 hc
      refine r_keep (L' := [some (tR 10 0 (some 2))]) [true] rfl ?_
      exact hk60 _ hm
    · replace hm := hm.2 hc
      refine r_aload_n dX10_advance_19 rfl rfl ?_
      refine r_getC (k := 0) cl_10 dX10_advance_20 t_37 gf_10_0.1 gf_10_0.2 (gc_10_0 _) ?_
      refine r_aload_n dX10_advance_23 rfl rfl ?_
      refine r_getI (k := 5) cl_10 dX10_advance_24 t_44 (Or.inl rfl) gf_10_5 ?_
      refine r_iald dX10_advance_27 hm.1 ?_
      replace hm := hm.2
      refine r_bipush (v := 32) dX10_advance_28 rfl ?_
      refine r_icmp_eq (tgt := 47) dX10_advance_30 rfl (fun hc => ?_) (fun hc => ?_)
      · replace hm := hm.1 hc
        refine r_keep (L' := [some (tR 10 0 (some 2))]) [true] rfl ?_
        exact s_X10_advance_47 hd hk8 hk60 hm
      · replace hm := hm.2 hc
        refine r_aload_n dX10_advance_33 rfl rfl ?_
        refine r_getC (k := 0) cl_10 dX10_advance_34 t_37 gf_10_0.1 gf_10_0.2 (gc_10_0 _) ?_
        refine r_aload_n dX10_advance_37 rfl rfl ?_
        refine r_getI (k := 5) cl_10 dX10_advance_38 t_44 (Or.inl rfl) gf_10_5 ?_
        refine r_iald dX10_advance_41 hm.1 ?_
        replace hm := hm.2
        refine r_bipush (v := 10) dX10_advance_42 rfl ?_
        refine r_icmp_ne (tgt := 60) dX10_advance_44 rfl (fun hc => ?_) (fun hc => ?_)
        · replace hm := hm.1 hc
          refine r_keep (L' := [some (tR 10 0 (some 2))]) [true] rfl ?_
          exact hk60 _ hm
        · replace hm := hm.2 hc
          refine r_keep (L' := [some (tR 10 0 (some 2))]) [true] rfl ?_
          exact s_X10_advance_47 hd hk8 hk60 hm
def m_X10_advance  (h : Hp) (Q : Hp → Prop) : Prop := ∃ n8, m_X10_advance_8 n8 (m_X10_advance_60 Q) Q (wI h 2 5 (hI h 2 6))
set_option maxHeartbeats 4000000 in
set_option maxRecDepth 100000 in
theorem s_X10_advance {l : Launch} {G : Cx} {d : Nat} (hd : 2 ≤ d) {h : Hp} {Q : Hp → Prop} (hm : m_X10_advance h Q) : Ct l G d 0 0 yX10_advance MX10_advance [tR 10 0 (some 2)] h (qV Q) := by
  unfold m_X10_advance at hm
  refine Ct.of (L := [some (tR 10 0 (some 2))]) (by decide) rfl rfl (Nat.le_of_ble_eq_true rfl) rfl ?_
  refine r_aload_n dX10_advance_0 rfl rfl ?_
  refine r_aload_n dX10_advance_1 rfl rfl ?_
  refine r_getI (k := 6) cl_10 dX10_advance_2 t_45 (Or.inl rfl) gf_10_6 ?_
  refine r_putI0 (k := 5) cl_10 dX10_advance_5 t_44 (Or.inl rfl) gf_10_5 pf_10_5.1 (Or.inl pf_10_5.2) ?_
  refine r_keep (L' := [some (tR 10 0 (some 2))]) [true] rfl ?_
  obtain ⟨n, hm⟩ := hm
  refine s_X10_advance_8 hd ?_ hm
  · exact (fun _ hm => s_X10_advance_60 hd hm)
theorem dX10_takeOneOf_0 : decode cX10_takeOneOf 0 = .ok (.aload_n 0, 1) := rfl
theorem dX10_takeOneOf_1 : decode cX10_takeOneOf 1 = .ok (.aload_n 1, 1) := rfl
theorem dX10_takeOneOf_2 : decode cX10_takeOneOf 2 = .ok (.invokevirtual 60, 3) := rfl
theorem dX10_takeOneOf_5 : decode cX10_takeOneOf 5 = .ok (.istore_n 2, 1) := rfl
theorem dX10_takeOneOf_6 : decode cX10_takeOneOf 6 = .ok (.iload_n 2, 1) := rfl
theorem dX10_takeOneOf_7 : decode cX10_takeOneOf 7 = .ok (.iconst (-1), 1) := rfl
theorem dX10_takeOneOf_8 : decode cX10_takeOneOf 8 = .ok (.if_icmp .ne 11, 3) := by decide +kernel
theorem dX10_takeOneOf_11 : decode cX10_takeOneOf 11 = .ok (.aload_n 0, 1) := rfl
theorem dX10_takeOneOf_12 : decode cX10_takeOneOf 12 = .ok (.invokevirtual 47, 3) := rfl
theorem dX10_takeOneOf_15 : decode cX10_takeOneOf 15 = .ok (.pop, 1) := rfl
theorem dX10_takeOneOf_16 : decode cX10_takeOneOf 16 = .ok (.goto 7, 3) := by decide +kernel
theorem dX10_takeOneOf_19 : decode cX10_takeOneOf 19 = .ok (.aload_n 0, 1) := rfl
theorem dX10_takeOneOf_20 : decode cX10_takeOneOf 20 = .ok (.invokevirtual 34, 3) := rfl
theorem dX10_takeOneOf_23 : decode cX10_takeOneOf 23 = .ok (.iload_n 2, 1) := rfl
theorem dX10_takeOneOf_24 : decode cX10_takeOneOf 24 = .ok (.ireturn, 1) := rfl
def m_X10_takeOneOf (v1 : Nat) (h : Hp) (Q : Int32 → Hp → Prop) : Prop := m_X10_placeIn v1 h (fun (x1 : Int32) (h2 : Hp) => (¬ x1 = (-1) → m_X10_advance h2 (fun (h4 : Hp) => Q x1 h4)) ∧ (x1 = (-1) → m_X10_refuse h2 (fun (x5 : Int32) (h6 : Hp) => Q x1 h6)))
set_option maxHeartbeats 4000000 in
set_option maxRecDepth 100000 in
theorem s_X10_takeOneOf {l : Launch} {G : Cx} {v1 : Nat} {d : Nat} (hd : 12 ≤ d) (hv1 : v1 < 16) {h : Hp} {Q : Int32 → Hp → Prop} (hm : m_X10_takeOneOf v1 h Q) : Ct l G d 0 0 yX10_takeOneOf MX10_takeOneOf [tR 10 0 (some 2), tS v1] h (qI Q) := by
  unfold m_X10_takeOneOf at hm
  refine Ct.of (L := [some (tR 10 0 (some 2)), some (tS v1)]) (by decide) rfl rfl (Nat.le_of_ble_eq_true rfl) rfl ?_
  refine r_aload_n dX10_takeOneOf_0 rfl rfl ?_
  refine r_aload_nS dX10_takeOneOf_1 rfl rfl ?_
  refine r_callVI (d' := d - 1) (as := [tS v1]) (st := []) cl_10 dX10_takeOneOf_2 mi_X10_placeIn t_610 t_541 t_542 rfl rfl (Nat.le_of_ble_eq_true rfl) (by omega) ⟨by decide, by decide⟩ ⟨rfl, rfl⟩ (s_X10_placeIn (by omega) hv1 hm) (fun x1 h2 hm => ?_)
  refine r_istore_n (L' := [some (tR 10 0 (some 2)), some (tS v1), some (tI x1)]) dX10_takeOneOf_5 rfl (by decide) rfl ?_
  refine r_iload_n dX10_takeOneOf_6 rfl rfl ?_
  refine r_iconst (v := (-1)) dX10_takeOneOf_7 rfl ?_
  refine r_icmp_ne (tgt := 19) dX10_takeOneOf_8 rfl (fun hc => ?_) (fun hc => ?_)
  · replace hm := hm.1 hc
    refine r_aload_n dX10_takeOneOf_19 rfl rfl ?_
    refine r_callVU (d' := d - 1) (as := []) (st := []) cl_10 dX10_takeOneOf_20 mi_X10_advance t_515 t_516 t_517 rfl rfl (Nat.le_of_ble_eq_true rfl) (by omega) ⟨by decide, by decide⟩ ⟨rfl, rfl⟩ (s_X10_advance (by omega) hm) (fun h4 hm => ?_)
    refine r_iload_n dX10_takeOneOf_23 rfl rfl ?_
    exact r_ireturn dX10_takeOneOf_24 rfl ⟨by decide, by decide⟩ ⟨_, rfl, hm⟩
  · replace hm := hm.2 hc
    refine r_aload_n dX10_takeOneOf_11 rfl rfl ?_
    refine r_callVI (d' := d - 1) (as := []) (st := []) cl_10 dX10_takeOneOf_12 mi_X10_refuse t_611 t_597 t_598 rfl rfl (Nat.le_of_ble_eq_true rfl) (by omega) ⟨by decide, by decide⟩ ⟨rfl, rfl⟩ (s_X10_refuse (by omega) hm) (fun x5 h6 hm => ?_)
    refine r_pop dX10_takeOneOf_15 rfl ?_
    refine r_goto (tgt := 23) dX10_takeOneOf_16 rfl ?_
    refine r_iload_n dX10_takeOneOf_23 rfl rfl ?_
    exact r_ireturn dX10_takeOneOf_24 rfl ⟨by decide, by decide⟩ ⟨_, rfl, hm⟩
theorem dX2_readTwo_0 : decode cX2_readTwo 0 = .ok (.aload_n 0, 1) := rfl
theorem dX2_readTwo_1 : decode cX2_readTwo 1 = .ok (.getfield 18, 3) := rfl
theorem dX2_readTwo_4 : decode cX2_readTwo 4 = .ok (.iconst 1, 1) := rfl
theorem dX2_readTwo_5 : decode cX2_readTwo 5 = .ok (.aload_n 0, 1) := rfl
theorem dX2_readTwo_6 : decode cX2_readTwo 6 = .ok (.getfield 22, 3) := rfl
theorem dX2_readTwo_9 : decode cX2_readTwo 9 = .ok (.ldc 135, 2) := rfl
theorem dX2_readTwo_11 : decode cX2_readTwo 11 = .ok (.invokevirtual 137, 3) := rfl
theorem dX2_readTwo_14 : decode cX2_readTwo 14 = .ok (.iastore, 1) := rfl
theorem dX2_readTwo_15 : decode cX2_readTwo 15 = .ok (.aload_n 0, 1) := rfl
theorem dX2_readTwo_16 : decode cX2_readTwo 16 = .ok (.getfield 18, 3) := rfl
theorem dX2_readTwo_19 : decode cX2_readTwo 19 = .ok (.iconst 1, 1) := rfl
theorem dX2_readTwo_20 : decode cX2_readTwo 20 = .ok (.iaload, 1) := rfl
theorem dX2_readTwo_21 : decode cX2_readTwo 21 = .ok (.iconst (-1), 1) := rfl
theorem dX2_readTwo_22 : decode cX2_readTwo 22 = .ok (.if_icmp .ne 5, 3) := by decide +kernel
theorem dX2_readTwo_25 : decode cX2_readTwo 25 = .ok (.iconst 0, 1) := rfl
theorem dX2_readTwo_26 : decode cX2_readTwo 26 = .ok (.ireturn, 1) := rfl
theorem dX2_readTwo_27 : decode cX2_readTwo 27 = .ok (.aload_n 0, 1) := rfl
theorem dX2_readTwo_28 : decode cX2_readTwo 28 = .ok (.getfield 22, 3) := rfl
theorem dX2_readTwo_31 : decode cX2_readTwo 31 = .ok (.ldc 135, 2) := rfl
theorem dX2_readTwo_33 : decode cX2_readTwo 33 = .ok (.invokevirtual 90, 3) := rfl
theorem dX2_readTwo_36 : decode cX2_readTwo 36 = .ok (.aload_n 0, 1) := rfl
theorem dX2_readTwo_37 : decode cX2_readTwo 37 = .ok (.getfield 18, 3) := rfl
theorem dX2_readTwo_40 : decode cX2_readTwo 40 = .ok (.iconst 1, 1) := rfl
theorem dX2_readTwo_41 : decode cX2_readTwo 41 = .ok (.iaload, 1) := rfl
theorem dX2_readTwo_42 : decode cX2_readTwo 42 = .ok (.if_icmp .ne 11, 3) := by decide +kernel
theorem dX2_readTwo_45 : decode cX2_readTwo 45 = .ok (.aload_n 0, 1) := rfl
theorem dX2_readTwo_46 : decode cX2_readTwo 46 = .ok (.getfield 22, 3) := rfl
theorem dX2_readTwo_49 : decode cX2_readTwo 49 = .ok (.invokevirtual 59, 3) := rfl
theorem dX2_readTwo_52 : decode cX2_readTwo 52 = .ok (.ireturn, 1) := rfl
theorem dX2_readTwo_53 : decode cX2_readTwo 53 = .ok (.aload_n 0, 1) := rfl
theorem dX2_readTwo_54 : decode cX2_readTwo 54 = .ok (.getfield 18, 3) := rfl
theorem dX2_readTwo_57 : decode cX2_readTwo 57 = .ok (.iconst 2, 1) := rfl
theorem dX2_readTwo_58 : decode cX2_readTwo 58 = .ok (.aload_n 0, 1) := rfl
theorem dX2_readTwo_59 : decode cX2_readTwo 59 = .ok (.getfield 22, 3) := rfl
theorem dX2_readTwo_62 : decode cX2_readTwo 62 = .ok (.ldc 135, 2) := rfl
theorem dX2_readTwo_64 : decode cX2_readTwo 64 = .ok (.invokevirtual 137, 3) := rfl
theorem dX2_readTwo_67 : decode cX2_readTwo 67 = .ok (.iastore, 1) := rfl
theorem dX2_readTwo_68 : decode cX2_readTwo 68 = .ok (.aload_n 0, 1) := rfl
theorem dX2_readTwo_69 : decode cX2_readTwo 69 = .ok (.getfield 18, 3) := rfl
theorem dX2_readTwo_72 : decode cX2_readTwo 72 = .ok (.iconst 2, 1) := rfl
theorem dX2_readTwo_73 : decode cX2_readTwo 73 = .ok (.iaload, 1) := rfl
theorem dX2_readTwo_74 : decode cX2_readTwo 74 = .ok (.iconst (-1), 1) := rfl
theorem dX2_readTwo_75 : decode cX2_readTwo 75 = .ok (.if_icmp .eq 7, 3) := by decide +kernel
theorem dX2_readTwo_78 : decode cX2_readTwo 78 = .ok (.iconst 1, 1) := rfl
theorem dX2_readTwo_79 : decode cX2_readTwo 79 = .ok (.goto 4, 3) := by decide +kernel
theorem dX2_readTwo_82 : decode cX2_readTwo 82 = .ok (.iconst 0, 1) := rfl
theorem dX2_readTwo_83 : decode cX2_readTwo 83 = .ok (.ireturn, 1) := rfl
def m_X2_readTwo  (h : Hp) (Q : Int32 → Hp → Prop) : Prop := m_X10_takeOneOf 1 h (fun (x1 : Int32) (h2 : Hp) => vp_in 1 8 ∧ (vp_in 1 8 ∧ ((¬ (hI (wI h2 7 (ix 1) x1) 7 (ix 1)) = (-1) → m_X10_placeIn 1 (wI h2 7 (ix 1) x1) (fun (x3 : Int32) (h4 : Hp) => vp_in 1 8 ∧ ((¬ x3 = (hI h4 7 (ix 1)) → m_X10_takeOneOf 1 h4 (fun (x5 : Int32) (h6 : Hp) => vp_in 2 8 ∧ (vp_in 2 8 ∧ (((hI (wI h6 7 (ix 2) x5) 7 (ix 2)) = (-1) → Q 0 (wI h6 7 (ix 2) x5)) ∧ (¬ (hI (wI h6 7 (ix 2) x5) 7 (ix 2)) = (-1) → Q 1 (wI h6 7 (ix 2) x5)))))) ∧ (x3 = (hI h4 7 (ix 1)) → m_X10_refuse h4 (fun (x7 : Int32) (h8 : Hp) => bz x7 ∧ Q x7 h8))))) ∧ ((hI (wI h2 7 (ix 1) x1) 7 (ix 1)) = (-1) → Q 0 (wI h2 7 (ix 1) x1)))))
set_option maxHeartbeats 4000000 in
set_option maxRecDepth 100000 in
theorem s_X2_readTwo {l : Launch} {G : Cx} {d : Nat} (hd : 14 ≤ d) {h : Hp} {Q : Int32 → Hp → Prop} (hm : m_X2_readTwo h Q) : Ct l G d 0 0 yX2_readTwo MX2_readTwo [tR 2 0 (some 4)] h (qI Q) := by
  unfold m_X2_readTwo at hm
  refine Ct.of (L := [some (tR 2 0 (some 4))]) (by decide) rfl rfl (Nat.le_of_ble_eq_true rfl) rfl ?_
  refine r_aload_n dX2_readTwo_0 rfl rfl ?_
  refine r_getC (k := 2) cl_2 dX2_readTwo_1 t_87 gf_2_2.1 gf_2_2.2 (gc_2_2 _) ?_
  refine r_iconst (v := 1) dX2_readTwo_4 rfl ?_
  refine r_aload_n dX2_readTwo_5 rfl rfl ?_
  refine r_getC (k := 0) cl_2 dX2_readTwo_6 t_85 gf_2_0.1 gf_2_0.2 (gc_2_0 _) ?_
  refine r_ldcS (i := 1) (tx := "a b c d e f g h ") dX2_readTwo_9 (by decide) (by decide) ?_
  refine r_callVI (d' := d - 1) (as := [tS 1]) (st := [tI 1, tR 40 8 (some 7)]) cl_10 dX2_readTwo_11 mi_X10_takeOneOf t_606 t_607 t_608 rfl rfl (Nat.le_of_ble_eq_true rfl) (by omega) ⟨by decide, by decide⟩ ⟨rfl, rfl⟩ (s_X10_takeOneOf (by omega) (by decide) hm) (fun x1 h2 hm => ?_)
  refine r_iast dX2_readTwo_14 hm.1 ?_
  replace hm := hm.2
  refine r_aload_n dX2_readTwo_15 rfl rfl ?_
  refine r_getC (k := 2) cl_2 dX2_readTwo_16 t_87 gf_2_2.1 gf_2_2.2 (gc_2_2 _) ?_
  refine r_iconst (v := 1) dX2_readTwo_19 rfl ?_
  refine r_iald dX2_readTwo_20 hm.1 ?_
  replace hm := hm.2
  refine r_iconst (v := (-1)) dX2_readTwo_21 rfl ?_
  refine r_icmp_ne (tgt := 27) dX2_readTwo_22 rfl (fun hc => ?_) (fun hc => ?_)
  · replace hm := hm.1 hc
    refine r_aload_n dX2_readTwo_27 rfl rfl ?_
    refine r_getC (k := 0) cl_2 dX2_readTwo_28 t_85 gf_2_0.1 gf_2_0.2 (gc_2_0 _) ?_
    refine r_ldcS (i := 1) (tx := "a b c d e f g h ") dX2_readTwo_31 (by decide) (by decide) ?_
    refine r_callVI (d' := d - 1) (as := [tS 1]) (st := []) cl_10 dX2_readTwo_33 mi_X10_placeIn t_540 t_541 t_542 rfl rfl (Nat.le_of_ble_eq_true rfl) (by omega) ⟨by decide, by decide⟩ ⟨rfl, rfl⟩ (s_X10_placeIn (by omega) (by decide) hm) (fun x3 h4 hm => ?_)
    refine r_aload_n dX2_readTwo_36 rfl rfl ?_
    refine r_getC (k := 2) cl_2 dX2_readTwo_37 t_87 gf_2_2.1 gf_2_2.2 (gc_2_2 _) ?_
    refine r_iconst (v := 1) dX2_readTwo_40 rfl ?_
    refine r_iald dX2_readTwo_41 hm.1 ?_
    replace hm := hm.2
    refine r_icmp_ne (tgt := 53) dX2_readTwo_42 rfl (fun hc => ?_) (fun hc => ?_)
    · replace hm := hm.1 hc
      refine r_aload_n dX2_readTwo_53 rfl rfl ?_
      refine r_getC (k := 2) cl_2 dX2_readTwo_54 t_87 gf_2_2.1 gf_2_2.2 (gc_2_2 _) ?_
      refine r_iconst (v := 2) dX2_readTwo_57 rfl ?_
      refine r_aload_n dX2_readTwo_58 rfl rfl ?_
      refine r_getC (k := 0) cl_2 dX2_readTwo_59 t_85 gf_2_0.1 gf_2_0.2 (gc_2_0 _) ?_
      refine r_ldcS (i := 1) (tx := "a b c d e f g h ") dX2_readTwo_62 (by decide) (by decide) ?_
      refine r_callVI (d' := d - 1) (as := [tS 1]) (st := [tI 2, tR 40 8 (some 7)]) cl_10 dX2_readTwo_64 mi_X10_takeOneOf t_606 t_607 t_608 rfl rfl (Nat.le_of_ble_eq_true rfl) (by omega) ⟨by decide, by decide⟩ ⟨rfl, rfl⟩ (s_X10_takeOneOf (by omega) (by decide) hm) (fun x5 h6 hm => ?_)
      refine r_iast dX2_readTwo_67 hm.1 ?_
      replace hm := hm.2
      refine r_aload_n dX2_readTwo_68 rfl rfl ?_
      refine r_getC (k := 2) cl_2 dX2_readTwo_69 t_87 gf_2_2.1 gf_2_2.2 (gc_2_2 _) ?_
      refine r_iconst (v := 2) dX2_readTwo_72 rfl ?_
      refine r_iald dX2_readTwo_73 hm.1 ?_
      replace hm := hm.2
      refine r_iconst (v := (-1)) dX2_readTwo_74 rfl ?_
      refine r_icmp_eq (tgt := 82) dX2_readTwo_75 rfl (fun hc => ?_) (fun hc => ?_)
      · replace hm := hm.1 hc
        refine r_iconst (v := 0) dX2_readTwo_82 rfl ?_
        exact r_bret dX2_readTwo_83 rfl ⟨by decide, by decide⟩ (by unfold bz; decide) ⟨_, rfl, hm⟩
      · replace hm := hm.2 hc
        refine r_iconst (v := 1) dX2_readTwo_78 rfl ?_
        refine r_goto (tgt := 83) dX2_readTwo_79 rfl ?_
        exact r_bret dX2_readTwo_83 rfl ⟨by decide, by decide⟩ (by unfold bz; decide) ⟨_, rfl, hm⟩
    · replace hm := hm.2 hc
      refine r_aload_n dX2_readTwo_45 rfl rfl ?_
      refine r_getC (k := 0) cl_2 dX2_readTwo_46 t_85 gf_2_0.1 gf_2_0.2 (gc_2_0 _) ?_
      refine r_callVI (d' := d - 1) (as := []) (st := []) cl_10 dX2_readTwo_49 mi_X10_refuse t_596 t_597 t_598 rfl rfl (Nat.le_of_ble_eq_true rfl) (by omega) ⟨by decide, by decide⟩ ⟨rfl, rfl⟩ (s_X10_refuse (by omega) hm) (fun x7 h8 hm => ?_)
      exact r_bret dX2_readTwo_52 rfl ⟨by decide, by decide⟩ hm.1 ⟨_, rfl, hm.2⟩
  · replace hm := hm.2 hc
    refine r_iconst (v := 0) dX2_readTwo_25 rfl ?_
    exact r_bret dX2_readTwo_26 rfl ⟨by decide, by decide⟩ (by unfold bz; decide) ⟨_, rfl, hm⟩
