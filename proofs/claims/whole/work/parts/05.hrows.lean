/-! ROWS THAT TOUCH THE HEAP -/
def Cl (ci : Nat) (C : String) (T : u_T) (ty0 : Nat → FieldType) : Prop := vwC[ci]? = some (C, T, fnum ci) ∧ ci < 20 ∧ (∀ w ∈ u_ws C T (fnum ci), w ∈ GW) ∧ (∀ k, k < fnum ci → parseFieldDescriptor (T k).2.2.1 = some (ty0 k)) ∧ (∀ a, a < fnum ci → ∀ b, b < fnum ci → a ≠ b → (T a).2.1 ≠ (T b).2.1) ∧ (∀ k, k < fnum ci → (T k).1 = C) ∧ (∀ k, k < fnum ci → defaultValue (ty0 k) = if fty ci k = 1 then .long 0 else if fty ci k = 2 then .null else .int 0)
theorem cl_0 : Cl 0 RX0 TX0 tyX0 := ⟨rfl, by decide, cw_0, tyX0_ok, nmX0, by decide +kernel, by decide +kernel⟩
theorem cl_1 : Cl 1 RX1 TX1 tyX1 := ⟨rfl, by decide, cw_1, tyX1_ok, nmX1, by decide +kernel, by decide +kernel⟩
theorem cl_2 : Cl 2 RX2 TX2 tyX2 := ⟨rfl, by decide, cw_2, tyX2_ok, nmX2, by decide +kernel, by decide +kernel⟩
theorem cl_3 : Cl 3 RX3 TX3 tyX3 := ⟨rfl, by decide, cw_3, tyX3_ok, nmX3, by decide +kernel, by decide +kernel⟩
theorem cl_4 : Cl 4 RX4 TX4 tyX4 := ⟨rfl, by decide, cw_4, tyX4_ok, nmX4, by decide +kernel, by decide +kernel⟩
theorem cl_5 : Cl 5 RX5 TX5 tyX5 := ⟨rfl, by decide, cw_5, tyX5_ok, nmX5, by decide +kernel, by decide +kernel⟩
theorem cl_6 : Cl 6 RX6 TX6 tyX6 := ⟨rfl, by decide, cw_6, tyX6_ok, nmX6, by decide +kernel, by decide +kernel⟩
theorem cl_7 : Cl 7 RX7 TX7 tyX7 := ⟨rfl, by decide, cw_7, tyX7_ok, nmX7, by decide +kernel, by decide +kernel⟩
theorem cl_8 : Cl 8 RX8 TX8 tyX8 := ⟨rfl, by decide, cw_8, tyX8_ok, nmX8, by decide +kernel, by decide +kernel⟩
theorem cl_9 : Cl 9 RX9 TX9 tyX9 := ⟨rfl, by decide, cw_9, tyX9_ok, nmX9, by decide +kernel, by decide +kernel⟩
theorem cl_10 : Cl 10 RX10 TX10 tyX10 := ⟨rfl, by decide, cw_10, tyX10_ok, nmX10, by decide +kernel, by decide +kernel⟩
theorem cl_11 : Cl 11 RX11 TX11 tyX11 := ⟨rfl, by decide, cw_11, tyX11_ok, nmX11, by decide +kernel, by decide +kernel⟩
theorem cl_12 : Cl 12 RX12 TX12 tyX12 := ⟨rfl, by decide, cw_12, tyX12_ok, nmX12, by decide +kernel, by decide +kernel⟩
theorem ext_of {h h' : Hp} (eN : hN h' = hN h) (eT : hT h' = hT h) : ext h h' := ⟨by rw [eN]; exact Nat.le_refl _, fun b _ => by rw [eT]⟩
theorem WF_wR {h : Hp} {a k ci : Nat} {r : Option Nat} (hF : WF h) (hk : (hT h a).1 < 40) (hc : (hT h a).1 % 20 = ci) (hr : ∀ b, r = some b → b < hN h ∧ (hT h b).1 = fref ci k) (hs : (hT h a).1 < 20 → fcon (hT h a).1 k a = none) : WF (wR h a k r) := by
  intro b hb
  obtain ⟨g1, g2, g3, g4⟩ := hF b hb
  refine ⟨g1, ?_, ?_, ?_⟩
  · intro hb4 j hj hty q hq
    have hq : up2 (hR h) a k r b j = some q := hq
    by_cases hab : b = a ∧ j = k
    · obtain ⟨rfl, rfl⟩ := hab
      rw [up2_self] at hq
      have z := hr q hq
      rw [← hc] at z
      exact z
    · rw [up2_ne _ _ hab] at hq
      exact g2 hb4 j hj hty q hq
  · intro hb4 j q n hq
    have z := g3 hb4 j q n hq
    refine ⟨?_, z.2⟩
    show up2 (hR h) a k r b j = some q
    by_cases hab : b = a ∧ j = k
    · obtain ⟨rfl, rfl⟩ := hab
      have e := hs hb4
      have hq : fcon (hT h b).1 j b = some (q, n) := hq
      rw [e] at hq
      cases hq
    · rw [up2_ne _ _ hab]
      exact z.1
  · intro hb4 j q hq
    have hb5 : 50 ≤ (hT h b).1 := hb4
    have hq : up2 (hR h) a k r b j = some q := hq
    by_cases hab : b = a ∧ j = k
    · rw [hab.1] at hb5
      omega
    · rw [up2_ne _ _ hab] at hq
      exact g4 hb4 j q hq
theorem WF_wA {h : Hp} {a k kd n : Nat} {r : Option Nat} (hF : WF h) (hkd : kd < 20) (hk : hT h a = (50 + kd, n)) (hr : ∀ b, r = some b → b < hN h ∧ hT h b = (kd, 0)) : WF (wR h a k r) := by
  intro b hb
  obtain ⟨g1, g2, g3, g4⟩ := hF b hb
  refine ⟨g1, ?_, ?_, ?_⟩
  · intro hb4 j hj hty q hq
    have hb5 : (hT h b).1 < 40 := hb4
    have hq : up2 (hR h) a k r b j = some q := hq
    by_cases hab : b = a ∧ j = k
    · have e5 : (hT h b).1 = 50 + kd := by rw [hab.1, hk]
      omega
    · rw [up2_ne _ _ hab] at hq
      exact g2 hb4 j hj hty q hq
  · intro hb4 j q n' hq
    have hb5 : (hT h b).1 < 20 := hb4
    have z := g3 hb4 j q n' hq
    refine ⟨?_, z.2⟩
    show up2 (hR h) a k r b j = some q
    by_cases hab : b = a ∧ j = k
    · have e5 : (hT h b).1 = 50 + kd := by rw [hab.1, hk]
      omega
    · rw [up2_ne _ _ hab]
      exact z.1
  · intro hb4 j q hq
    have hb4 : 50 ≤ (hT h b).1 := hb4
    have hq : up2 (hR h) a k r b j = some q := hq
    show q < hN h ∧ hT h q = ((hT h b).1 - 50, 0) ∧ (hT h b).1 - 50 < 20
    by_cases hab : b = a ∧ j = k
    · obtain ⟨rfl, rfl⟩ := hab
      rw [up2_self] at hq
      have z := hr q hq
      rw [hk]
      refine ⟨z.1, z.2.trans ?_, by show 50 + kd - 50 < 20; omega⟩
      show (kd, 0) = (50 + kd - 50, 0)
      rw [Nat.add_sub_cancel_left]
    · rw [up2_ne _ _ hab] at hq
      exact g4 hb4 j q hq
theorem WF_nw {h : Hp} {t : Nat × Nat} (hF : WF h) (ht : t.1 < 40 → t.2 = 0 ∧ 20 ≤ t.1) : WF (nw h t) := by
  intro a ha
  have ha : a < hN h + 1 := ha
  have eN : hN (nw h t) = hN h + 1 := rfl
  have eT : ∀ b, b < hN h → hT (nw h t) b = hT h b := fun b hb => va_up_ne _ _ (Nat.ne_of_lt hb)
  by_cases hab : a = hN h
  · subst hab
    have e1 : hT (nw h t) (hN h) = t := va_up_self _ _ _
    have e2 : hR (nw h t) (hN h) = fun _ => none := va_up_self _ _ _
    refine ⟨fun z => ?_, fun z k hk hty b hb => ?_, fun z k b n hb => ?_, fun z j b hb => ?_⟩
    · rw [e1] at z ⊢; exact (ht z).1
    · rw [e2] at hb; cases hb
    · rw [e1] at z; have := (ht (by omega)).2; omega
    · rw [e2] at hb; cases hb
  · have hlt : a < hN h := by omega
    obtain ⟨g1, g2, g3, g4⟩ := hF a hlt
    have e2 : hR (nw h t) a = hR h a := va_up_ne _ _ hab
    unfold WFa
    rw [eT a hlt, e2, eN]
    refine ⟨g1, fun z k hk hty b hb => ?_, fun z k b n hb => ?_, fun z j b hb => ?_⟩
    · have q := g2 z k hk hty b hb
      exact ⟨by omega, by rw [eT b q.1]; exact q.2⟩
    · have q := g3 z k b n hb
      exact ⟨q.1, by rw [eT b q.2.2]; exact q.2.1, by omega⟩
    · have q := g4 z j b hb
      exact ⟨by omega, by rw [eT b q.1]; exact q.2.1, q.2.2⟩
theorem ext_nw {h : Hp} {t : Nat × Nat} : ext h (nw h t) := ⟨Nat.le_succ _, fun b hb => va_up_ne _ _ (Nat.ne_of_lt hb)⟩
theorem wd_nw {G : Cx} {h : Hp} {t : Nat × Nat} {H H' : Heap} (hW : Wd G h H) (ht : t.1 < 40 → t.2 = 0 ∧ 20 ≤ t.1) (ez : H'.size = H.size + 1) (eo : ∀ q : Nat, q < H.size → H'[q]? = H[q]?) (ha : atc G (nw h t) (hN h) H') : Wd G (nw h t) H' := by
  refine ⟨by rw [ez, hW.1]; rfl, fun b hb => ?_, WF_nw hW.2.2 ht⟩
  have hb : b < hN h + 1 := hb
  by_cases hab : b = hN h
  · subst hab; exact ha
  · have hlt : b < hN h := by omega
    exact atc_same (hW.2.1 b hlt) (va_up_ne _ _ hab) (va_up_ne _ _ hab) (va_up_ne _ _ hab) (va_up_ne _ _ hab) (eo _ (by rw [hW.1]; omega))
section RH
variable {l : Launch} {G : Cx} {d mc ms : Nat} {M : Mth} {h0 : Hp} {Q : Option TV → Hp → Prop} {pc : Nat} {L : List (Option TV)} {st : List TV} {h : Hp} {cu su : Nat}
theorem r_getG {ci kd a k idx : Nat} {C : String} {T : u_T} {ty0 : Nat → FieldType} {w : TV} (cl : Cl ci C T ty0) (hd : decode M.1 pc = .ok (.getfield idx, 3)) (hl : Cond.fieldLink M.2.2.2.1 idx (T k).1 (T k).2.1 (T k).2.2.1 ∈ GW) (hk : k < fnum ci) (hkd : kd = ci ∨ kd = 20 + ci)
    (hw : WF h → hT h a = (kd, 0) → a < hN h → cv G w = fv G h ci a k ∧ ty1 h w) (kk : Rn l G d mc ms M h0 Q (pc + 3) L (w :: st) h cu su) : Rn l G d mc ms M h0 Q pc L (tR kd 0 (some a) :: st) h cu su := by
  intro p e s m args below meth c H locs ls C0 hW hE hS hl0 hL hst
  obtain ⟨ha, hta⟩ := hst.1 a rfl
  obtain ⟨e1, e2⟩ := hw hW.2.2 hta ha
  have hat : atO G h ci a H := (atc_O (by rw [hta]; exact hkd) cl.2.1).mp (hW.2.1 a ha)
  obtain ⟨cell, q1, q2, q3, q4⟩ := hat
  obtain ⟨hSl, hfc, kC, hkC, hkind⟩ := C0.2.2.2.2.2.2.1.1.1 ci _ cl.1
  obtain ⟨cf, kf, fi, f, hi, hsl⟩ := hSl k hk
  have hts := C0.2.2.2.2.2.1
  refine W.getf C0.1 C0.2.1 C0.2.2.2.2.1 (hts _ hl) hi (u_facts hfc hkC (u_lays hts cl.2.2.1 hk) hi).1 q1 (by rw [q3]; exact fun z => by cases z) (v := cv G w) ?_ rfl rfl hd (kk p e s m args below meth c H locs ls C0 hW hE hS hl0 hL ⟨e2, hst.2⟩)
  rw [hsl, q4 k hk, e1]
theorem r_getI {ci kd a k idx : Nat} {C : String} {T : u_T} {ty0 : Nat → FieldType} (cl : Cl ci C T ty0) (hd : decode M.1 pc = .ok (.getfield idx, 3)) (hl : Cond.fieldLink M.2.2.2.1 idx (T k).1 (T k).2.1 (T k).2.2.1 ∈ GW) (hkd : kd = ci ∨ kd = 20 + ci) (hf : fty ci k = 0 ∨ fty ci k = 3) (kk : Rn l G d mc ms M h0 Q (pc + 3) L (tI (hI h a k) :: st) h cu su) : Rn l G d mc ms M h0 Q pc L (tR kd 0 (some a) :: st) h cu su :=
  r_getG (w := tI (hI h a k)) cl hd hl (fty_lt (by omega)) hkd (fun _ _ _ => ⟨by
    have h1 : ¬ fty ci k = 1 := by omega
    have h2 : ¬ fty ci k = 2 := by omega
    simp only [fv, if_neg h1, if_neg h2]; rfl, trivial⟩) kk
theorem r_getJ {ci kd a k idx : Nat} {C : String} {T : u_T} {ty0 : Nat → FieldType} (cl : Cl ci C T ty0) (hd : decode M.1 pc = .ok (.getfield idx, 3)) (hl : Cond.fieldLink M.2.2.2.1 idx (T k).1 (T k).2.1 (T k).2.2.1 ∈ GW) (hkd : kd = ci ∨ kd = 20 + ci) (hf : fty ci k = 1) (kk : Rn l G d mc ms M h0 Q (pc + 3) L (tJ (hJ h a k) :: st) h cu su) : Rn l G d mc ms M h0 Q pc L (tR kd 0 (some a) :: st) h cu su :=
  r_getG (w := tJ (hJ h a k)) cl hd hl (fty_lt (by omega)) hkd (fun _ _ _ => ⟨by simp only [fv, if_pos hf]; rfl, trivial⟩) kk
/-- a field that holds one reference for good -/
theorem r_getC {ci a k idx b n rk : Nat} {C : String} {T : u_T} {ty0 : Nat → FieldType} (cl : Cl ci C T ty0) (hd : decode M.1 pc = .ok (.getfield idx, 3)) (hl : Cond.fieldLink M.2.2.2.1 idx (T k).1 (T k).2.1 (T k).2.2.1 ∈ GW) (hf : fty ci k = 2) (hr : fref ci k = rk) (hc : fcon ci k a = some (b, n)) (kk : Rn l G d mc ms M h0 Q (pc + 3) L (tR rk n (some b) :: st) h cu su) : Rn l G d mc ms M h0 Q pc L (tR ci 0 (some a) :: st) h cu su :=
  r_getG (w := tR rk n (some b)) cl hd hl (fty_lt (by omega)) (Or.inl rfl) (fun hF hta ha => by
    have z := (hF a ha).2.2.1 (by rw [hta]; exact cl.2.1) k b n (by rw [hta]; exact hc)
    have h1 : ¬ fty ci k = 1 := by omega
    refine ⟨?_, fun q hq => ?_⟩
    · simp only [fv, if_neg h1, if_pos hf, z.1]; rfl
    · cases hq
      refine ⟨z.2.2, z.2.1.trans ?_⟩
      rw [hta]
      show (fref ci k, n) = (rk, n)
      rw [hr]) kk
/-- any other reference field: an object, or null -/
theorem r_getR {ci kd a k idx rk : Nat} {C : String} {T : u_T} {ty0 : Nat → FieldType} (cl : Cl ci C T ty0) (hd : decode M.1 pc = .ok (.getfield idx, 3)) (hl : Cond.fieldLink M.2.2.2.1 idx (T k).1 (T k).2.1 (T k).2.2.1 ∈ GW) (hkd : kd = ci ∨ kd = 20 + ci) (hf : fty ci k = 2) (hr : fref ci k = rk) (hk : rk < 40) (kk : Rn l G d mc ms M h0 Q (pc + 3) L (tR rk 0 (hR h a k) :: st) h cu su) : Rn l G d mc ms M h0 Q pc L (tR kd 0 (some a) :: st) h cu su :=
  r_getG (w := tR rk 0 (hR h a k)) cl hd hl (fty_lt (by omega)) hkd (fun hF hta ha => by
    have h1 : ¬ fty ci k = 1 := by omega
    have hci := cl.2.1
    refine ⟨?_, fun q hq => ?_⟩
    · simp only [fv, if_neg h1, if_pos hf]; rfl
    · have e : (hT h a).1 % 20 = ci := by rw [hta]; show kd % 20 = ci; omega
      have z := (hF a ha).2.1 (by rw [hta]; show kd < 40; omega) k (by rw [e]; exact fty_lt (by omega)) (by rw [e]; exact hf) q hq
      rw [e, hr] at z
      refine ⟨z.1, Prod.ext z.2 ?_⟩
      exact (hF q z.1).1 (by rw [z.2]; exact hk)) kk
/-- a reference field of an object that is being made -/
theorem r_getW {ci kd a k idx b n rk : Nat} {C : String} {T : u_T} {ty0 : Nat → FieldType} (cl : Cl ci C T ty0) (hd : decode M.1 pc = .ok (.getfield idx, 3)) (hl : Cond.fieldLink M.2.2.2.1 idx (T k).1 (T k).2.1 (T k).2.2.1 ∈ GW) (hkd : kd = ci ∨ kd = 20 + ci) (hf : fty ci k = 2) (hv : hR h a k = some b) (ht : hT h b = (rk, n)) (kk : Rn l G d mc ms M h0 Q (pc + 3) L (tR rk n (some b) :: st) h cu su) : Rn l G d mc ms M h0 Q pc L (tR kd 0 (some a) :: st) h cu su :=
  r_getG (w := tR rk n (some b)) cl hd hl (fty_lt (by omega)) hkd (fun hF hta ha => by
    have h1 : ¬ fty ci k = 1 := by omega
    have hci := cl.2.1
    refine ⟨?_, fun q hq => ?_⟩
    · simp only [fv, if_neg h1, if_pos hf, hv]; rfl
    · have e : (hT h a).1 % 20 = ci := by rw [hta]; show kd % 20 = ci; omega
      cases hq
      have z := (hF a ha).2.1 (by rw [hta]; show kd < 40; omega) k (by rw [e]; exact fty_lt (by omega)) (by rw [e]; exact hf) b hv
      exact ⟨z.1, ht⟩) kk
theorem r_putG {ci kd a k idx : Nat} {C : String} {T : u_T} {ty0 : Nat → FieldType} {v : TV} {h' : Hp} (cl : Cl ci C T ty0) (hd : decode M.1 pc = .ok (.putfield idx, 3)) (hl : Cond.fieldLink M.2.2.2.1 idx (T k).1 (T k).2.1 (T k).2.2.1 ∈ GW) (hk : k < fnum ci) (hkd : kd = ci ∨ kd = 20 + ci)
    (hfin : (T k).2.2.2 = false ∨ ((T k).2.2.2 = true ∧ M.2.2.2.2 = "<init>" ∧ C = M.2.2.2.1)) (hn : narrow (ty0 k) (cv G v) = cv G v) (hfit : fits (ty0 k) (cv G v) = true) (eN : hN h' = hN h) (eT : hT h' = hT h) (ho : ∀ b, b ≠ a → hI h' b = hI h b ∧ hJ h' b = hJ h b ∧ hR h' b = hR h b)
    (hfv : ∀ j, j < fnum ci → updV (fv G h ci a) k (cv G v) j = fv G h' ci a j) (hF : WF h → ty1 h v → a < hN h → hT h a = (kd, 0) → WF h') (kk : Rn l G d mc ms M h0 Q (pc + 3) L st h' cu su) : Rn l G d mc ms M h0 Q pc L (v :: tR kd 0 (some a) :: st) h cu su := by
  intro p e s m args below meth c H locs ls C0 hW hE hS hl0 hL hst
  obtain ⟨ha, hta⟩ := hst.2.1 a rfl
  have hat : atO G h ci a H := (atc_O (by rw [hta]; exact hkd) cl.2.1).mp (hW.2.1 a ha)
  obtain ⟨cell, q1, q2, q3, q4⟩ := hat
  have hK := C0.2.2.2.2.2.2.1.1
  have hts := C0.2.2.2.2.2.1
  have hown := C0.2.2.2.2.1
  obtain ⟨hcl1, hcl2, hin, hty, hnm, hdc, -⟩ := cl
  have hap := va_apart (own := M.2.2.2.1) hts hin ty0 hty hnm hK hcl1
  obtain ⟨hSl, hfc, kC, hkC, hkind⟩ := hK.1 ci _ hcl1
  obtain ⟨cf, kf, fi, f, hi, hsl⟩ := hSl k hk
  have hst' := (u_facts hfc hkC (u_lays hts hin hk) hi).1
  have hlay := hts _ (hin _ (u_in_lay hk))
  unfold u_lay at hlay
  have hee : ext h h' := ext_of eN eT
  have fin : ∀ H' : Heap, H'[G.1 + a]? = some (cell.setSlot (G.2.1.2 ci k) (cv G v)) → H'.size = H.size → (∀ q, q ≠ G.1 + a → H'[q]? = H[q]?) → W p l e (rmOf d mc ms) s m args below meth c H' (locs ++ [⟨G.1 + a, G.2.1.2 ci k⟩]) cu su (MQ below (PostU G h0 Q) args s mc ms (Ag G)) (F0 m (pc + 3) ls (st.map (cv G))) := by
    intro H' e1 e2 e3
    refine kk p e s m args below meth c H' _ ls C0 (wd_set hW e2 e3 eN eT ho (hF hW.2.2 hst.1 ha hta) (fun _ => ?_)) (hE.trans hee) (hS.put e2 e3 (Nat.le_add_right _ _)) hl0 (hL.ext hee) (hst.2.2.ext hee)
    refine (atc_O (by rw [eT, hta]; exact hkd) hcl2).mpr ?_
    exact t_OB.to (V := updV (fv G h ci a) k (cv G v)) ⟨_, e1, q2, q3, t_set q4 hap hk _⟩ hfv
  rcases hfin with hfn | ⟨hfn, hin2, hCo⟩
  · rw [if_neg (by rw [hfn]; decide)] at hlay
    have h6 := u_store hfc hkC hkind hlay hi (hty k hk) hn hfit
    refine W.putK C0.1 C0.2.1 (f := f) ⟨hown, hts _ hl, ⟨_, _, _, hi⟩, hst'⟩ (by rw [q2]; exact h6) q1 q3 (by rw [hsl]; exact k2_hasslot (q4 k hk)) rfl rfl hd fun H' e1 e2 e3 => ?_
    rw [hsl] at e1 ⊢
    exact fin H' e1 e2 e3
  · rw [if_pos hfn] at hlay
    have hcf : m.cls = cf := by
      obtain ⟨_, _, c', _, _, _, -, -, hf', -, -, -, hown2, -⟩ := Cond.laysFinal_spec hlay
      have e1 : c' = cf := by have := hi.symm.trans hf'; simp at this; exact this.1.symm
      rw [hdc k hk, hCo] at hown2
      rw [← e1]; exact Option.some.inj (hown.symm.trans hown2)
    have h6 := u_fits hfc hkC hkind (Or.inr hlay) hi (hty k hk) hn hfit
    refine W.putFinK C0.1 C0.2.1 hown (hts _ hl) hi hst' hcf (C0.2.2.2.2.2.2.2.2.trans hin2) (by rw [q2]; exact h6) q1 q3 (by rw [hsl]; exact k2_hasslot (q4 k hk)) rfl rfl hd fun H' e1 e2 e3 => ?_
    rw [hsl] at e1 ⊢
    exact fin H' e1 e2 e3
theorem r_putI {ci kd a k idx : Nat} {C : String} {T : u_T} {ty0 : Nat → FieldType} {x : Int32} (cl : Cl ci C T ty0) (hd : decode M.1 pc = .ok (.putfield idx, 3)) (hl : Cond.fieldLink M.2.2.2.1 idx (T k).1 (T k).2.1 (T k).2.2.1 ∈ GW) (hkd : kd = ci ∨ kd = 20 + ci) (hf : fty ci k = 0 ∨ fty ci k = 3)
    (hfin : (T k).2.2.2 = false ∨ ((T k).2.2.2 = true ∧ M.2.2.2.2 = "<init>" ∧ C = M.2.2.2.1)) (hn : narrow (ty0 k) (.int x) = .int x) (hfit : fits (ty0 k) (.int x) = true) (kk : Rn l G d mc ms M h0 Q (pc + 3) L st (wI h a k x) cu su) : Rn l G d mc ms M h0 Q pc L (tI x :: tR kd 0 (some a) :: st) h cu su := by
  refine r_putG (v := tI x) (h' := wI h a k x) cl hd hl (fty_lt (by omega)) hkd hfin hn hfit rfl rfl (fun b hb => ⟨up2_row _ _ hb, rfl, rfl⟩) (fun j hj => ?_) (fun hF _ _ _ => WF_of hF rfl rfl rfl) kk
  by_cases hjk : j = k
  · subst hjk
    have h1 : ¬ fty ci j = 1 := by omega
    have h2 : ¬ fty ci j = 2 := by omega
    simp only [updV, fv, if_neg h1, if_neg h2, if_true]
    show Value.int x = .int (up2 (hI h) a j x a j)
    rw [up2_self]
  · simp only [updV, if_neg hjk]
    show fv G h ci a j = _
    simp only [fv]
    show _ = if fty ci j = 1 then Value.long (hJ h a j) else if fty ci j = 2 then rb G (hR h a j) else .int (up2 (hI h) a k x a j)
    rw [up2_ne _ _ (fun z => hjk z.2)]
theorem r_putJ {ci kd a k idx : Nat} {C : String} {T : u_T} {ty0 : Nat → FieldType} {x : Int64} (cl : Cl ci C T ty0) (hd : decode M.1 pc = .ok (.putfield idx, 3)) (hl : Cond.fieldLink M.2.2.2.1 idx (T k).1 (T k).2.1 (T k).2.2.1 ∈ GW) (hkd : kd = ci ∨ kd = 20 + ci) (hf : fty ci k = 1)
    (hfin : (T k).2.2.2 = false ∨ ((T k).2.2.2 = true ∧ M.2.2.2.2 = "<init>" ∧ C = M.2.2.2.1)) (hn : narrow (ty0 k) (.long x) = .long x) (hfit : fits (ty0 k) (.long x) = true) (kk : Rn l G d mc ms M h0 Q (pc + 3) L st (wJ h a k x) cu su) : Rn l G d mc ms M h0 Q pc L (tJ x :: tR kd 0 (some a) :: st) h cu su := by
  refine r_putG (v := tJ x) (h' := wJ h a k x) cl hd hl (fty_lt (by omega)) hkd hfin hn hfit rfl rfl (fun b hb => ⟨rfl, up2_row _ _ hb, rfl⟩) (fun j hj => ?_) (fun hF _ _ _ => WF_of hF rfl rfl rfl) kk
  by_cases hjk : j = k
  · subst hjk
    simp only [updV, fv, if_pos hf, if_true]
    show Value.long x = .long (up2 (hJ h) a j x a j)
    rw [up2_self]
  · simp only [updV, if_neg hjk]
    show fv G h ci a j = _
    simp only [fv]
    show _ = if fty ci j = 1 then Value.long (up2 (hJ h) a k x a j) else if fty ci j = 2 then rb G (hR h a j) else .int (hI h a j)
    rw [up2_ne _ _ (fun z => hjk z.2)]
theorem r_putR {ci kd a k idx rk n : Nat} {C : String} {T : u_T} {ty0 : Nat → FieldType} {r : Option Nat} (cl : Cl ci C T ty0) (hd : decode M.1 pc = .ok (.putfield idx, 3)) (hl : Cond.fieldLink M.2.2.2.1 idx (T k).1 (T k).2.1 (T k).2.2.1 ∈ GW) (hkd : kd = ci ∨ kd = 20 + ci) (hf : fty ci k = 2) (hr : fref ci k = rk) (hs : kd < 20 → fcon kd k a = none)
    (hfin : (T k).2.2.2 = false ∨ ((T k).2.2.2 = true ∧ M.2.2.2.2 = "<init>" ∧ C = M.2.2.2.1)) (hn : ∀ q, narrow (ty0 k) (.ref q) = .ref q ∧ fits (ty0 k) (.ref q) = true) (hn0 : narrow (ty0 k) .null = .null ∧ fits (ty0 k) .null = true) (kk : Rn l G d mc ms M h0 Q (pc + 3) L st (wR h a k r) cu su) : Rn l G d mc ms M h0 Q pc L (tR rk n r :: tR kd 0 (some a) :: st) h cu su := by
  have hci := cl.2.1
  refine r_putG (v := tR rk n r) (h' := wR h a k r) cl hd hl (fty_lt (by omega)) hkd hfin (by cases r with
    | none => exact hn0.1
    | some q => exact (hn _).1) (by cases r with
    | none => exact hn0.2
    | some q => exact (hn _).2) rfl rfl (fun b hb => ⟨rfl, rfl, up2_row _ _ hb⟩) (fun j hj => ?_) (fun hF ht ha hta => ?_) kk
  · have h1 : ¬ fty ci k = 1 := by omega
    by_cases hjk : j = k
    · subst hjk
      simp only [updV, fv, if_neg h1, if_pos hf, if_true]
      show rb G r = rb G (up2 (hR h) a j r a j)
      rw [up2_self]
    · simp only [updV, if_neg hjk]
      show fv G h ci a j = _
      simp only [fv]
      show _ = if fty ci j = 1 then Value.long (hJ h a j) else if fty ci j = 2 then rb G (up2 (hR h) a k r a j) else .int (hI h a j)
      rw [up2_ne _ _ (fun z => hjk z.2)]
  · refine WF_wR (ci := ci) hF (by rw [hta]; show kd < 40; omega) (by rw [hta]; show kd % 20 = ci; omega) (fun b hb => ?_) (by rw [hta]; exact hs)
    have z := ht b hb
    exact ⟨z.1, by rw [z.2]; exact hr.symm⟩
theorem r_iald {n a : Nat} {i : Int32} (hd : decode M.1 pc = .ok (.iaload, 1)) (hin : vp_in i n) (kk : Rn l G d mc ms M h0 Q (pc + 1) L (tI (hI h a i.toNatClampNeg) :: st) h cu su) : Rn l G d mc ms M h0 Q pc L (tI i :: tR 40 n (some a) :: st) h cu su := by
  intro p e s m args below meth c H locs ls C0 hW hE hS hl0 hL hst
  obtain ⟨ha, hta⟩ := hst.2.1 a rfl
  have hat : atA G h 40 n a H := (atc_A hta (by decide)).mp (hW.2.1 a ha)
  have hK := C0.2.2.2.2.2.2.1.1
  have hlt : i.toNatClampNeg < n := Nat.not_le.mp fun q => hin (Or.inr q)
  exact W.iald C0.1 C0.2.1 hat ((hK.2 0 _ rfl).1 n _) (fun q => by cases q) (by rw [arrV_size]; exact hin) (v := .int (hI h a i.toNatClampNeg)) (by rw [arrV_read _ _ hlt]; rfl) rfl rfl hd (kk p e s m args below meth c H locs ls C0 hW hE hS hl0 hL ⟨trivial, hst.2.2⟩)
theorem r_bald {n a : Nat} {i : Int32} (hd : decode M.1 pc = .ok (.baload, 1)) (hin : vp_in i n) (kk : Rn l G d mc ms M h0 Q (pc + 1) L (tI (hI h a i.toNatClampNeg) :: st) h cu su) : Rn l G d mc ms M h0 Q pc L (tI i :: tR 41 n (some a) :: st) h cu su := by
  intro p e s m args below meth c H locs ls C0 hW hE hS hl0 hL hst
  obtain ⟨ha, hta⟩ := hst.2.1 a rfl
  have hat : atA G h 41 n a H := (atc_A hta (by decide)).mp (hW.2.1 a ha)
  have hK := C0.2.2.2.2.2.2.1.1
  have hlt : i.toNatClampNeg < n := Nat.not_le.mp fun q => hin (Or.inr q)
  exact W.bald C0.1 C0.2.1 hat ((hK.2 1 _ rfl).1 n _) (fun q => by cases q) (by rw [arrV_size]; exact hin) (v := .int (hI h a i.toNatClampNeg)) (by rw [arrV_read _ _ hlt]; rfl) rfl rfl hd (kk p e s m args below meth c H locs ls C0 hW hE hS hl0 hL ⟨trivial, hst.2.2⟩)
theorem r_zald {n a : Nat} {i : Int32} (hd : decode M.1 pc = .ok (.baload, 1)) (hin : vp_in i n) (kk : Rn l G d mc ms M h0 Q (pc + 1) L (tI (hI h a i.toNatClampNeg) :: st) h cu su) : Rn l G d mc ms M h0 Q pc L (tI i :: tR 42 n (some a) :: st) h cu su := by
  intro p e s m args below meth c H locs ls C0 hW hE hS hl0 hL hst
  obtain ⟨ha, hta⟩ := hst.2.1 a rfl
  have hat : atA G h 42 n a H := (atc_A hta (by decide)).mp (hW.2.1 a ha)
  have hK := C0.2.2.2.2.2.2.1.1
  have hlt : i.toNatClampNeg < n := Nat.not_le.mp fun q => hin (Or.inr q)
  exact W.zald C0.1 C0.2.1 hat ((hK.2 2 _ rfl).1 n _) (fun q => by cases q) (by rw [arrV_size]; exact hin) (v := .int (hI h a i.toNatClampNeg)) (by rw [arrV_read _ _ hlt]; rfl) rfl rfl hd (kk p e s m args below meth c H locs ls C0 hW hE hS hl0 hL ⟨trivial, hst.2.2⟩)
theorem r_lald {n a : Nat} {i : Int32} (hd : decode M.1 pc = .ok (.laload, 1)) (hin : vp_in i n) (kk : Rn l G d mc ms M h0 Q (pc + 1) L (tJ (hJ h a i.toNatClampNeg) :: st) h cu su) : Rn l G d mc ms M h0 Q pc L (tI i :: tR 43 n (some a) :: st) h cu su := by
  intro p e s m args below meth c H locs ls C0 hW hE hS hl0 hL hst
  obtain ⟨ha, hta⟩ := hst.2.1 a rfl
  have hat : atA G h 43 n a H := (atc_A hta (by decide)).mp (hW.2.1 a ha)
  have hK := C0.2.2.2.2.2.2.1.1
  have hlt : i.toNatClampNeg < n := Nat.not_le.mp fun q => hin (Or.inr q)
  exact W.lald C0.1 C0.2.1 hat ((hK.2 3 _ rfl).1 n _) (fun q => by cases q) (by rw [arrV_size]; exact hin) (v := .long (hJ h a i.toNatClampNeg)) (by rw [arrV_read _ _ hlt]; rfl) rfl rfl hd (kk p e s m args below meth c H locs ls C0 hW hE hS hl0 hL ⟨trivial, hst.2.2⟩)
theorem r_iast {n a : Nat} {i : Int32} {x : Int32} (hd : decode M.1 pc = .ok (.iastore, 1)) (hin : vp_in i n) (kk : Rn l G d mc ms M h0 Q (pc + 1) L st (wI h a i.toNatClampNeg x) cu su) : Rn l G d mc ms M h0 Q pc L (tI x :: tI i :: tR 40 n (some a) :: st) h cu su := by
  intro p e s m args below meth c H locs ls C0 hW hE hS hl0 hL hst
  obtain ⟨ha, hta⟩ := hst.2.2.1 a rfl
  have hat : atA G h 40 n a H := (atc_A hta (by decide)).mp (hW.2.1 a ha)
  have hK := C0.2.2.2.2.2.2.1.1
  refine W.iast C0.1 C0.2.1 hat ((hK.2 0 _ rfl).1 n _) (fun q => by cases q) (by rw [arrV_size]; exact hin) rfl rfl hd fun H1 e1 z oq => ?_
  have hee : ext h (wI h a i.toNatClampNeg x) := ext_of rfl rfl
  refine kk p e s m args below meth c H1 _ ls C0 (wd_set hW z oq rfl rfl (fun b hb => ⟨up2_row _ _ hb, rfl, rfl⟩) (WF_of hW.2.2 rfl rfl rfl) (fun _ => ?_)) (hE.trans hee) (hS.put z oq (Nat.le_add_right _ _)) hl0 (hL.ext hee) (hst.2.2.2.ext hee)
  refine (atc_A (kind := 40) (n := n) (show hT (wI h a i.toNatClampNeg x) a = _ from hta) (by decide)).mpr ?_
  unfold atA
  rw [e1, arrV_store]
  congr 2
  funext q
  by_cases hq : q = i.toNatClampNeg
  · subst hq
    simp only [updV, if_true]
    show _ = ev G (wI h a i.toNatClampNeg x) 40 a i.toNatClampNeg
    simp only [ev, wI]
    first | rfl | (simp [hI, hJ, up2]; rfl) | simp [hI, hJ, up2] | (simp [hI, hJ, up2, narrow])
  · simp only [updV, if_neg hq]
    show ev G h 40 a q = ev G (wI h a i.toNatClampNeg x) 40 a q
    simp only [ev, wI, hI, hJ, hR, up2_ne _ _ (fun z : a = a ∧ q = i.toNatClampNeg => hq z.2)]
theorem r_bast {n a : Nat} {i : Int32} {x : Int32} (hd : decode M.1 pc = .ok (.bastore, 1)) (hin : vp_in i n) (kk : Rn l G d mc ms M h0 Q (pc + 1) L st (wI h a i.toNatClampNeg x.toInt8.toInt32) cu su) : Rn l G d mc ms M h0 Q pc L (tI x :: tI i :: tR 41 n (some a) :: st) h cu su := by
  intro p e s m args below meth c H locs ls C0 hW hE hS hl0 hL hst
  obtain ⟨ha, hta⟩ := hst.2.2.1 a rfl
  have hat : atA G h 41 n a H := (atc_A hta (by decide)).mp (hW.2.1 a ha)
  have hK := C0.2.2.2.2.2.2.1.1
  refine W.bast C0.1 C0.2.1 hat ((hK.2 1 _ rfl).1 n _) (fun q => by cases q) (by rw [arrV_size]; exact hin) rfl rfl hd fun H1 e1 z oq => ?_
  have hee : ext h (wI h a i.toNatClampNeg x.toInt8.toInt32) := ext_of rfl rfl
  refine kk p e s m args below meth c H1 _ ls C0 (wd_set hW z oq rfl rfl (fun b hb => ⟨up2_row _ _ hb, rfl, rfl⟩) (WF_of hW.2.2 rfl rfl rfl) (fun _ => ?_)) (hE.trans hee) (hS.put z oq (Nat.le_add_right _ _)) hl0 (hL.ext hee) (hst.2.2.2.ext hee)
  refine (atc_A (kind := 41) (n := n) (show hT (wI h a i.toNatClampNeg x.toInt8.toInt32) a = _ from hta) (by decide)).mpr ?_
  unfold atA
  rw [e1, arrV_store]
  congr 2
  funext q
  by_cases hq : q = i.toNatClampNeg
  · subst hq
    simp only [updV, if_true]
    show _ = ev G (wI h a i.toNatClampNeg x.toInt8.toInt32) 41 a i.toNatClampNeg
    simp only [ev, wI]
    first | rfl | (simp [hI, hJ, up2]; rfl) | simp [hI, hJ, up2] | (simp [hI, hJ, up2, narrow])
  · simp only [updV, if_neg hq]
    show ev G h 41 a q = ev G (wI h a i.toNatClampNeg x.toInt8.toInt32) 41 a q
    simp only [ev, wI, hI, hJ, hR, up2_ne _ _ (fun z : a = a ∧ q = i.toNatClampNeg => hq z.2)]
theorem r_zast {n a : Nat} {i : Int32} {x : Int32} (hd : decode M.1 pc = .ok (.bastore, 1)) (hin : vp_in i n) (kk : Rn l G d mc ms M h0 Q (pc + 1) L st (wI h a i.toNatClampNeg (x &&& 1)) cu su) : Rn l G d mc ms M h0 Q pc L (tI x :: tI i :: tR 42 n (some a) :: st) h cu su := by
  intro p e s m args below meth c H locs ls C0 hW hE hS hl0 hL hst
  obtain ⟨ha, hta⟩ := hst.2.2.1 a rfl
  have hat : atA G h 42 n a H := (atc_A hta (by decide)).mp (hW.2.1 a ha)
  have hK := C0.2.2.2.2.2.2.1.1
  refine W.zast C0.1 C0.2.1 hat ((hK.2 2 _ rfl).1 n _) (fun q => by cases q) (by rw [arrV_size]; exact hin) rfl rfl hd fun H1 e1 z oq => ?_
  have hee : ext h (wI h a i.toNatClampNeg (x &&& 1)) := ext_of rfl rfl
  refine kk p e s m args below meth c H1 _ ls C0 (wd_set hW z oq rfl rfl (fun b hb => ⟨up2_row _ _ hb, rfl, rfl⟩) (WF_of hW.2.2 rfl rfl rfl) (fun _ => ?_)) (hE.trans hee) (hS.put z oq (Nat.le_add_right _ _)) hl0 (hL.ext hee) (hst.2.2.2.ext hee)
  refine (atc_A (kind := 42) (n := n) (show hT (wI h a i.toNatClampNeg (x &&& 1)) a = _ from hta) (by decide)).mpr ?_
  unfold atA
  rw [e1, arrV_store]
  congr 2
  funext q
  by_cases hq : q = i.toNatClampNeg
  · subst hq
    simp only [updV, if_true]
    show _ = ev G (wI h a i.toNatClampNeg (x &&& 1)) 42 a i.toNatClampNeg
    simp only [ev, wI]
    first | rfl | (simp [hI, hJ, up2]; rfl) | simp [hI, hJ, up2] | (simp [hI, hJ, up2, narrow])
  · simp only [updV, if_neg hq]
    show ev G h 42 a q = ev G (wI h a i.toNatClampNeg (x &&& 1)) 42 a q
    simp only [ev, wI, hI, hJ, hR, up2_ne _ _ (fun z : a = a ∧ q = i.toNatClampNeg => hq z.2)]
theorem r_last {n a : Nat} {i : Int32} {x : Int64} (hd : decode M.1 pc = .ok (.lastore, 1)) (hin : vp_in i n) (kk : Rn l G d mc ms M h0 Q (pc + 1) L st (wJ h a i.toNatClampNeg x) cu su) : Rn l G d mc ms M h0 Q pc L (tJ x :: tI i :: tR 43 n (some a) :: st) h cu su := by
  intro p e s m args below meth c H locs ls C0 hW hE hS hl0 hL hst
  obtain ⟨ha, hta⟩ := hst.2.2.1 a rfl
  have hat : atA G h 43 n a H := (atc_A hta (by decide)).mp (hW.2.1 a ha)
  have hK := C0.2.2.2.2.2.2.1.1
  refine W.last C0.1 C0.2.1 hat ((hK.2 3 _ rfl).1 n _) (fun q => by cases q) (by rw [arrV_size]; exact hin) rfl rfl hd fun H1 e1 z oq => ?_
  have hee : ext h (wJ h a i.toNatClampNeg x) := ext_of rfl rfl
  refine kk p e s m args below meth c H1 _ ls C0 (wd_set hW z oq rfl rfl (fun b hb => ⟨rfl, up2_row _ _ hb, rfl⟩) (WF_of hW.2.2 rfl rfl rfl) (fun _ => ?_)) (hE.trans hee) (hS.put z oq (Nat.le_add_right _ _)) hl0 (hL.ext hee) (hst.2.2.2.ext hee)
  refine (atc_A (kind := 43) (n := n) (show hT (wJ h a i.toNatClampNeg x) a = _ from hta) (by decide)).mpr ?_
  unfold atA
  rw [e1, arrV_store]
  congr 2
  funext q
  by_cases hq : q = i.toNatClampNeg
  · subst hq
    simp only [updV, if_true]
    show _ = ev G (wJ h a i.toNatClampNeg x) 43 a i.toNatClampNeg
    simp only [ev, wJ]
    first | rfl | (simp [hI, hJ, up2]; rfl) | simp [hI, hJ, up2] | (simp [hI, hJ, up2, narrow])
  · simp only [updV, if_neg hq]
    show ev G h 43 a q = ev G (wJ h a i.toNatClampNeg x) 43 a q
    simp only [ev, wJ, hI, hJ, hR, up2_ne _ _ (fun z : a = a ∧ q = i.toNatClampNeg => hq z.2)]
theorem r_alen {kd ti n a : Nat} {ty : FieldType} {v : Int32} (hd : decode M.1 pc = .ok (.arraylength, 1)) (ht : (tysG G)[ti]? = some (G.2.2.1 kd, ty)) (hk : 40 ≤ kd) (hv : Int32.ofNat n = v) (kk : Rn l G d mc ms M h0 Q (pc + 1) L (tI v :: st) h cu su) : Rn l G d mc ms M h0 Q pc L (tR kd n (some a) :: st) h cu su := by
  intro p e s m args below meth c H locs ls C0 hW hE hS hl0 hL hst
  obtain ⟨ha, hta⟩ := hst.1 a rfl
  have hat : atA G h kd n a H := (atc_A hta hk).mp (hW.2.1 a ha)
  have hK := C0.2.2.2.2.2.2.1.1
  exact W.alen C0.1 C0.2.1 hat ((hK.2 ti _ ht).1 n _) (by rw [arrV_size]; exact hv) rfl rfl hd (kk p e s m args below meth c H locs ls C0 hW hE hS hl0 hL ⟨trivial, hst.2⟩)
theorem r_aald {kd ti n a : Nat} {cn : String} {i : Int32} (hd : decode M.1 pc = .ok (.aaload, 1)) (ht : (tysG G)[ti]? = some (G.2.2.1 (50 + kd), .object cn)) (hin : vp_in i n) (kk : Rn l G d mc ms M h0 Q (pc + 1) L (tR kd 0 (hR h a i.toNatClampNeg) :: st) h cu su) : Rn l G d mc ms M h0 Q pc L (tI i :: tR (50 + kd) n (some a) :: st) h cu su := by
  intro p e s m args below meth c H locs ls C0 hW hE hS hl0 hL hst
  obtain ⟨ha, hta⟩ := hst.2.1 a rfl
  have hat : atA G h (50 + kd) n a H := (atc_A hta (by omega)).mp (hW.2.1 a ha)
  have hK := C0.2.2.2.2.2.2.1.1
  have hlt : i.toNatClampNeg < n := Nat.not_le.mp fun q => hin (Or.inr q)
  have e1 : ev G h (50 + kd) a i.toNatClampNeg = rb G (hR h a i.toNatClampNeg) := by
    have g1 : ¬ 50 + kd = 43 := by omega
    have g2 : ¬ 50 + kd < 43 := by omega
    simp only [ev, if_neg g1, if_neg g2]
  refine W.aald C0.1 C0.2.1 hat ((hK.2 ti _ ht).1 n _) rfl (fun q => by cases q) (by rw [arrV_size]; exact hin) (v := rb G (hR h a i.toNatClampNeg)) (by rw [arrV_read _ _ hlt, e1]) rfl rfl hd (kk p e s m args below meth c H locs ls C0 hW hE hS hl0 hL ⟨fun b hb => ?_, hst.2.2⟩)
  have z := (hW.2.2 a ha).2.2.2 (by rw [hta]; show 50 ≤ 50 + kd; omega) _ b hb
  rw [hta] at z
  refine ⟨z.1, z.2.1.trans ?_⟩
  show (50 + kd - 50, 0) = (kd, 0)
  rw [Nat.add_sub_cancel_left]
theorem r_aast {kd ti n a : Nat} {C : String} {T : u_T} {ty0 : Nat → FieldType} {v : Nat} {i : Int32} (cl : Cl kd C T ty0) (hd : decode M.1 pc = .ok (.aastore, 1)) (ht : (tysG G)[ti]? = some (G.2.2.1 (50 + kd), .object C)) (hin : vp_in i n) (kk : Rn l G d mc ms M h0 Q (pc + 1) L st (wR h a i.toNatClampNeg (some v)) cu su) : Rn l G d mc ms M h0 Q pc L (tR kd 0 (some v) :: tI i :: tR (50 + kd) n (some a) :: st) h cu su := by
  intro p e s m args below meth c H locs ls C0 hW hE hS hl0 hL hst
  obtain ⟨ha, hta⟩ := hst.2.2.1 a rfl
  obtain ⟨hv, htv⟩ := hst.1 v rfl
  have hat : atA G h (50 + kd) n a H := (atc_A hta (by omega)).mp (hW.2.1 a ha)
  have hatv : atO G h kd v H := (atc_O (by rw [htv]; exact Or.inl rfl) cl.2.1).mp (hW.2.1 v hv)
  have hK := C0.2.2.2.2.2.2.1.1
  have hlt : i.toNatClampNeg < n := Nat.not_le.mp fun q => hin (Or.inr q)
  have hi0 : ¬ i < 0 := fun q => hin (Or.inl q)
  obtain ⟨cellV, g1, g2, g3, -⟩ := hatv
  have hcls := (hK.1 kd _ cl.1).2
  obtain ⟨kA, comp, k1, k2, k3, -⟩ := (hK.2 ti _ ht).2
  have hcomp : comp = G.2.1.1 kd := Option.some.inj (k3.symm.trans hcls.1)
  subst hcomp
  obtain ⟨kC, hkC, -⟩ := hcls.2
  refine W.aast C0.1 C0.2.1 hat (fun q z => by cases z) (fun z => by cases z) k1 k2 rfl hkC ⟨hi0, by rw [arrV_size]; exact hlt⟩ g1 (fun q z => by rw [g3] at z; cases z) (by rw [g2]; exact hkC) (by rw [g2]; exact va_assign hcls) rfl rfl hd fun H1 e1 z oq => ?_
  have hee : ext h (wR h a i.toNatClampNeg (some v)) := ext_of rfl rfl
  refine kk p e s m args below meth c H1 _ ls C0 (wd_set hW z oq rfl rfl (fun b hb => ⟨rfl, rfl, up2_row _ _ hb⟩) (WF_wA hW.2.2 cl.2.1 hta (fun b hb => by cases hb; exact ⟨hv, htv⟩)) (fun _ => ?_)) (hE.trans hee) (hS.put z oq (Nat.le_add_right _ _)) hl0 (hL.ext hee) (hst.2.2.2.ext hee)
  refine (atc_A (kind := 50 + kd) (n := n) (show hT (wR h a i.toNatClampNeg (some v)) a = _ from hta) (by omega)).mpr ?_
  unfold atA
  rw [e1, arrV_store]
  congr 2
  funext q
  have w1 : ¬ 50 + kd = 43 := by omega
  have w2 : ¬ 50 + kd < 43 := by omega
  by_cases hq : q = i.toNatClampNeg
  · subst hq
    simp only [updV, if_true, ev, if_neg w1, if_neg w2]
    show Value.ref (G.1 + v) = rb G (up2 (hR h) a i.toNatClampNeg (some v) a i.toNatClampNeg)
    rw [up2_self]; rfl
  · simp only [updV, if_neg hq, ev, if_neg w1, if_neg w2]
    show _ = rb G (up2 (hR h) a i.toNatClampNeg (some v) a q)
    rw [up2_ne _ _ (fun z => hq z.2)]
theorem S_grow {s : State} {H H1 : Heap} {locs : List Loc} (hS : va_S (Ag G) s.heap H locs) (z : H1.size = H.size + 1) (o : ∀ q, q < H.size → H1[q]? = H[q]?) : va_S (Ag G) s.heap H1 locs :=
  ⟨Nat.le_trans hS.1 (by omega), fun x h1 h2 => (o x (Nat.lt_of_lt_of_le h1 hS.1)).trans (hS.2.1 x h1 h2), hS.2.2⟩
theorem r_new {ci idx N : Nat} {C : String} {T : u_T} {ty0 : Nat → FieldType} (cl : Cl ci C T ty0) (hd : decode M.1 pc = .ok (.new idx, 3)) (hcl : Cond.classLink M.2.2.2.1 idx C ∈ GW) (hN' : N = fnum ci) (hins : Cond.instantiable C N ∈ GW) (hini : Cond.initialized C ∈ GW) (hc : cu + 1 ≤ mc ∧ su + N ≤ ms)
    (kk : Rn l G d mc ms M h0 Q (pc + 3) L (tR (20 + ci) 0 (some (hN h)) :: st) (nw h (20 + ci, 0)) (cu + 1) (su + N)) : Rn l G d mc ms M h0 Q pc L st h cu su := by
  intro p e s m args below meth c H locs ls C0 hW hE hS hl0 hL hst
  have hK := C0.2.2.2.2.2.2.1.1
  have hts := C0.2.2.2.2.2.1
  have hKn := hK.1 ci _ cl.1
  subst hN'
  refine W.newcK C0.1 C0.2.1 C0.2.2.2.2.1 (hts _ hcl) (hts _ hins) (hts _ hini) rfl hd hc.1 hc.2 hKn.2.1 rfl fun H1 kC hkC e1 z1 o1 => ?_
  have hee : ext h (nw h (20 + ci, 0)) := ext_nw
  have hci := cl.2.1
  have eT : hT (nw h (20 + ci, 0)) (hN h) = (20 + ci, 0) := va_up_self _ _ _
  have q := kk p e s m args below meth c H1 locs ls C0 (wd_nw hW (fun _ => ⟨rfl, Nat.le_add_right _ _⟩) z1 o1 ((atc_O (by rw [eT]; exact Or.inr rfl) hci).mpr ?_)) (hE.trans hee) (S_grow hS z1 o1) hl0 (hL.ext hee) ⟨fun b hb => by cases hb; exact ⟨Nat.lt_succ_self _, eT⟩, hst.ext hee⟩
  · rw [show (tR (20 + ci) 0 (some (hN h)) :: st).map (cv G) = Value.ref H.size :: st.map (cv G) by rw [hW.1]; rfl] at q
    exact q
  · have b := u_born (o := G.1 + hN h) ty0 hts cl.2.2.1 hKn hkC (by rw [← hW.1]; exact e1) cl.2.2.2.1
    refine t_OB.to b (fun k hk => ?_)
    rw [cl.2.2.2.2.2.2 k hk]
    have eI : hI (nw h (20 + ci, 0)) (hN h) = fun _ => 0 := va_up_self _ _ _
    have eJ : hJ (nw h (20 + ci, 0)) (hN h) = fun _ => 0 := va_up_self _ _ _
    have eR : hR (nw h (20 + ci, 0)) (hN h) = fun _ => none := va_up_self _ _ _
    simp only [fv, eI, eJ, eR]
    rfl
theorem r_newI {n : Int32} {N : Nat} (hd : decode M.1 pc = .ok (.newarray .int, 2)) (harr : Cond.arrayClass .int ∈ GW) (hn : ¬ n < 0) (hN' : n.toNatClampNeg = N) (hbytes : N * 8 ≤ 536870912) (hc : cu + 1 ≤ mc ∧ su + N ≤ ms)
    (kk : Rn l G d mc ms M h0 Q (pc + 2) L (tR 40 N (some (hN h)) :: st) (nw h (40, N)) (cu + 1) (su + N)) : Rn l G d mc ms M h0 Q pc L (tI n :: st) h cu su := by
  intro p e s m args below meth c H locs ls C0 hW hE hS hl0 hL hst
  have hK := C0.2.2.2.2.2.2.1.1
  have hts := C0.2.2.2.2.2.1
  refine va_newaK C0.1 C0.2.1 (atype := .int) (hts _ harr) rfl hd rfl hn hN' (Nat.le_trans (Nat.mul_le_mul_left _ (by decide)) hbytes) hc.1 hc.2 rfl fun H1 cA e1 z1 o1 hAr hNm => ?_
  have hcA : cA = G.2.2.1 40 := Option.some.inj (hNm.symm.trans (hK.2 0 _ rfl).2)
  subst hcA
  have hee : ext h (nw h (40, N)) := ext_nw
  have eT : hT (nw h (40, N)) (hN h) = (40, N) := va_up_self _ _ _
  have q := kk p e s m args below meth c H1 locs ls C0 (wd_nw hW (fun z => by simp at z) z1 o1 ((atc_A eT (by decide)).mpr ?_)) (hE.trans hee) (S_grow hS z1 o1) hl0 (hL.ext hee) ⟨fun b hb => by cases hb; exact ⟨Nat.lt_succ_self _, eT⟩, hst.2.ext hee⟩
  · rw [show (tR 40 N (some (hN h)) :: st).map (cv G) = Value.ref H.size :: st.map (cv G) by rw [hW.1]; rfl] at q
    exact q
  · unfold atA
    rw [← hW.1, e1]
    congr 2
    funext j
    have eI : hI (nw h (40, N)) (hN h) = fun _ => 0 := va_up_self _ _ _
    have eJ : hJ (nw h (40, N)) (hN h) = fun _ => 0 := va_up_self _ _ _
    simp only [ev, eI, eJ]
    rfl
theorem r_newB {n : Int32} {N : Nat} (hd : decode M.1 pc = .ok (.newarray .byte, 2)) (harr : Cond.arrayClass .byte ∈ GW) (hn : ¬ n < 0) (hN' : n.toNatClampNeg = N) (hbytes : N * 8 ≤ 536870912) (hc : cu + 1 ≤ mc ∧ su + N ≤ ms)
    (kk : Rn l G d mc ms M h0 Q (pc + 2) L (tR 41 N (some (hN h)) :: st) (nw h (41, N)) (cu + 1) (su + N)) : Rn l G d mc ms M h0 Q pc L (tI n :: st) h cu su := by
  intro p e s m args below meth c H locs ls C0 hW hE hS hl0 hL hst
  have hK := C0.2.2.2.2.2.2.1.1
  have hts := C0.2.2.2.2.2.1
  refine va_newaK C0.1 C0.2.1 (atype := .byte) (hts _ harr) rfl hd rfl hn hN' (Nat.le_trans (Nat.mul_le_mul_left _ (by decide)) hbytes) hc.1 hc.2 rfl fun H1 cA e1 z1 o1 hAr hNm => ?_
  have hcA : cA = G.2.2.1 41 := Option.some.inj (hNm.symm.trans (hK.2 1 _ rfl).2)
  subst hcA
  have hee : ext h (nw h (41, N)) := ext_nw
  have eT : hT (nw h (41, N)) (hN h) = (41, N) := va_up_self _ _ _
  have q := kk p e s m args below meth c H1 locs ls C0 (wd_nw hW (fun z => by simp at z) z1 o1 ((atc_A eT (by decide)).mpr ?_)) (hE.trans hee) (S_grow hS z1 o1) hl0 (hL.ext hee) ⟨fun b hb => by cases hb; exact ⟨Nat.lt_succ_self _, eT⟩, hst.2.ext hee⟩
  · rw [show (tR 41 N (some (hN h)) :: st).map (cv G) = Value.ref H.size :: st.map (cv G) by rw [hW.1]; rfl] at q
    exact q
  · unfold atA
    rw [← hW.1, e1]
    congr 2
    funext j
    have eI : hI (nw h (41, N)) (hN h) = fun _ => 0 := va_up_self _ _ _
    have eJ : hJ (nw h (41, N)) (hN h) = fun _ => 0 := va_up_self _ _ _
    simp only [ev, eI, eJ]
    rfl
theorem r_newZ {n : Int32} {N : Nat} (hd : decode M.1 pc = .ok (.newarray .boolean, 2)) (harr : Cond.arrayClass .boolean ∈ GW) (hn : ¬ n < 0) (hN' : n.toNatClampNeg = N) (hbytes : N * 8 ≤ 536870912) (hc : cu + 1 ≤ mc ∧ su + N ≤ ms)
    (kk : Rn l G d mc ms M h0 Q (pc + 2) L (tR 42 N (some (hN h)) :: st) (nw h (42, N)) (cu + 1) (su + N)) : Rn l G d mc ms M h0 Q pc L (tI n :: st) h cu su := by
  intro p e s m args below meth c H locs ls C0 hW hE hS hl0 hL hst
  have hK := C0.2.2.2.2.2.2.1.1
  have hts := C0.2.2.2.2.2.1
  refine va_newaK C0.1 C0.2.1 (atype := .boolean) (hts _ harr) rfl hd rfl hn hN' (Nat.le_trans (Nat.mul_le_mul_left _ (by decide)) hbytes) hc.1 hc.2 rfl fun H1 cA e1 z1 o1 hAr hNm => ?_
  have hcA : cA = G.2.2.1 42 := Option.some.inj (hNm.symm.trans (hK.2 2 _ rfl).2)
  subst hcA
  have hee : ext h (nw h (42, N)) := ext_nw
  have eT : hT (nw h (42, N)) (hN h) = (42, N) := va_up_self _ _ _
  have q := kk p e s m args below meth c H1 locs ls C0 (wd_nw hW (fun z => by simp at z) z1 o1 ((atc_A eT (by decide)).mpr ?_)) (hE.trans hee) (S_grow hS z1 o1) hl0 (hL.ext hee) ⟨fun b hb => by cases hb; exact ⟨Nat.lt_succ_self _, eT⟩, hst.2.ext hee⟩
  · rw [show (tR 42 N (some (hN h)) :: st).map (cv G) = Value.ref H.size :: st.map (cv G) by rw [hW.1]; rfl] at q
    exact q
  · unfold atA
    rw [← hW.1, e1]
    congr 2
    funext j
    have eI : hI (nw h (42, N)) (hN h) = fun _ => 0 := va_up_self _ _ _
    have eJ : hJ (nw h (42, N)) (hN h) = fun _ => 0 := va_up_self _ _ _
    simp only [ev, eI, eJ]
    rfl
theorem r_newJ {n : Int32} {N : Nat} (hd : decode M.1 pc = .ok (.newarray .long, 2)) (harr : Cond.arrayClass .long ∈ GW) (hn : ¬ n < 0) (hN' : n.toNatClampNeg = N) (hbytes : N * 8 ≤ 536870912) (hc : cu + 1 ≤ mc ∧ su + N ≤ ms)
    (kk : Rn l G d mc ms M h0 Q (pc + 2) L (tR 43 N (some (hN h)) :: st) (nw h (43, N)) (cu + 1) (su + N)) : Rn l G d mc ms M h0 Q pc L (tI n :: st) h cu su := by
  intro p e s m args below meth c H locs ls C0 hW hE hS hl0 hL hst
  have hK := C0.2.2.2.2.2.2.1.1
  have hts := C0.2.2.2.2.2.1
  refine va_newaK C0.1 C0.2.1 (atype := .long) (hts _ harr) rfl hd rfl hn hN' (Nat.le_trans (Nat.mul_le_mul_left _ (by decide)) hbytes) hc.1 hc.2 rfl fun H1 cA e1 z1 o1 hAr hNm => ?_
  have hcA : cA = G.2.2.1 43 := Option.some.inj (hNm.symm.trans (hK.2 3 _ rfl).2)
  subst hcA
  have hee : ext h (nw h (43, N)) := ext_nw
  have eT : hT (nw h (43, N)) (hN h) = (43, N) := va_up_self _ _ _
  have q := kk p e s m args below meth c H1 locs ls C0 (wd_nw hW (fun z => by simp at z) z1 o1 ((atc_A eT (by decide)).mpr ?_)) (hE.trans hee) (S_grow hS z1 o1) hl0 (hL.ext hee) ⟨fun b hb => by cases hb; exact ⟨Nat.lt_succ_self _, eT⟩, hst.2.ext hee⟩
  · rw [show (tR 43 N (some (hN h)) :: st).map (cv G) = Value.ref H.size :: st.map (cv G) by rw [hW.1]; rfl] at q
    exact q
  · unfold atA
    rw [← hW.1, e1]
    congr 2
    funext j
    have eI : hI (nw h (43, N)) (hN h) = fun _ => 0 := va_up_self _ _ _
    have eJ : hJ (nw h (43, N)) (hN h) = fun _ => 0 := va_up_self _ _ _
    simp only [ev, eI, eJ]
    rfl
theorem r_newA {kd ti idx : Nat} {C : String} {n : Int32} {N : Nat} (hd : decode M.1 pc = .ok (.anewarray idx, 3)) (ht : (tysG G)[ti]? = some (G.2.2.1 (50 + kd), .object C)) (hcl : Cond.classLink M.2.2.2.1 idx C ∈ GW) (hov : C ∈ overT) (hn : ¬ n < 0) (hN' : n.toNatClampNeg = N) (hbytes : N * 4 ≤ 536870912) (hc : cu + 1 ≤ mc ∧ su + N ≤ ms)
    (kk : Rn l G d mc ms M h0 Q (pc + 3) L (tR (50 + kd) N (some (hN h)) :: st) (nw h (50 + kd, N)) (cu + 1) (su + N)) : Rn l G d mc ms M h0 Q pc L (tI n :: st) h cu su := by
  intro p e s m args below meth c H locs ls C0 hW hE hS hl0 hL hst
  have hK := C0.2.2.2.2.2.2.1.1
  have hts := C0.2.2.2.2.2.1
  subst hN'
  refine W.anew C0.1 C0.2.1 C0.2.2.2.2.1 (hts _ hcl) (va_AO.use (C0.2.2.2.2.2.2.1.2.2.2.2.2.2.2.2 C hov)) rfl hd rfl hn hbytes hc.1 hc.2 fun cA kA comp f1 f2 f3 f4 => ?_
  generalize hH1 : H.push ({ cls := cA, slots := Array.replicate n.toNatClampNeg .null, vm := .none } : Cell) = H1
  have z1 : H1.size = H.size + 1 := by rw [← hH1, Array.size_push]
  have e1 : H1[H.size]? = some (arrV cA n.toNatClampNeg (fun _ => .null)) := by rw [← hH1, Array.getElem?_push_size, ← arrV_new]
  have o1 : ∀ q : Nat, q < H.size → H1[q]? = H[q]? := fun q hq => by rw [← hH1, Array.getElem?_push, if_neg (Nat.ne_of_lt hq)]
  have hcA : cA = G.2.2.1 (50 + kd) := by
    obtain ⟨_, _, _, _, _, z⟩ := (hK.2 ti _ ht).2
    exact Option.some.inj (f1.symm.trans z)
  subst hcA
  have hee : ext h (nw h (50 + kd, n.toNatClampNeg)) := ext_nw
  have eT : hT (nw h (50 + kd, n.toNatClampNeg)) (hN h) = (50 + kd, n.toNatClampNeg) := va_up_self _ _ _
  have q := kk p e s m args below meth c H1 locs ls C0 (wd_nw hW (fun z => absurd z (by show ¬ 50 + kd < 40; omega)) z1 o1 ((atc_A eT (by omega)).mpr ?_)) (hE.trans hee) (S_grow hS z1 o1) hl0 (hL.ext hee) ⟨fun b hb => by cases hb; exact ⟨Nat.lt_succ_self _, eT⟩, hst.2.ext hee⟩
  · rw [show (tR (50 + kd) n.toNatClampNeg (some (hN h)) :: st).map (cv G) = Value.ref H.size :: st.map (cv G) by rw [hW.1]; rfl] at q
    exact q
  · unfold atA
    rw [← hW.1, e1]
    congr 2
    funext j
    have eR : hR (nw h (50 + kd, n.toNatClampNeg)) (hN h) = fun _ => none := va_up_self _ _ _
    have w1 : ¬ 50 + kd = 43 := by omega
    have w2 : ¬ 50 + kd < 43 := by omega
    simp only [ev, if_neg w1, if_neg w2, eR]
    rfl
end RH
