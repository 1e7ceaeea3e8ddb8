/-! THE CLASS: a leaf is read -/
def CxC (c : Rec) (h : Hp) : Prop := hI h 4 4 = n32 (c 4) ∧ hI h 4 5 = n32 (c 5) ∧ hI h 4 6 = n32 (c 6) ∧ hI h 4 7 = n32 (c 7)
def ShC (n0 : Nat) (z : Sh) (h : Hp) : Prop := hI h 5 0 = n32 z.2.2 ∧ hI h 5 2 = n32 (n0 + z.2.1.length) ∧ Cel n0 z.2.1 h
def DlC (a : Nat) (s : St) (h : Hp) : Prop := hR h 4 3 = some a ∧ LvC a (sL s) h ∧ RwP a (cRows (sL s)) h ∧ hI h a 3 = n32 (sC s) ∧ hI h a 4 = n32 (sE s)
/-- what the reading of a deal may touch, the shape's cells from a place on -/
def SRd (a n0 q k : Nat) : Prop := SCm q k ∨ q = 4 ∧ 4 ≤ k ∧ k ≤ 7 ∨ SSh n0 q k ∨ q = 7 ∨ q = a ∧ 2 ≤ k ∧ k ≤ 6 ∨ a < q ∧ q ≤ a + 3
theorem SRd.le {a n m : Nat} (h : m ≤ n) : ∀ q k, SRd a n q k → SRd a m q k := by unfold SRd SSh SCm; omega
theorem CxC.mv {c : Rec} {h h' : Hp} {S : Nat → Nat → Prop} (C : CxC c h) (f : fr S h h') (n : ∀ k, ¬ S 4 k) : CxC c h' := by
  unfold CxC at C ⊢
  rw [f.I (n 4), f.I (n 5), f.I (n 6), f.I (n 7)]; exact C
theorem DlC.mv {a : Nat} {s : St} {h h' : Hp} {S : Nat → Nat → Prop} (D : DlC a s h) (f : fr S h h') (n4 : ¬ S 4 3) (n : ∀ q k, a ≤ q → q ≤ a + 3 → ¬ S q k) : DlC a s h' :=
  ⟨by rw [f.R n4]; exact D.1, D.2.1.mv f (n _ _ (by omega) (by omega)) (n _ _ (by omega) (by omega)) (fun k => n _ _ (by omega) (by omega)), D.2.2.1.mv f (n _ _ (by omega) (by omega)) (fun k => n _ _ (by omega) (by omega)) (fun k => n _ _ (by omega) (by omega)), by rw [f.I (n _ _ (by omega) (by omega))]; exact D.2.2.2.1, by rw [f.I (n _ _ (by omega) (by omega))]; exact D.2.2.2.2⟩
theorem ShC.mv {n0 : Nat} {z : Sh} {h h' : Hp} {S : Nat → Nat → Prop} (C : ShC n0 z h) (f : fr S h h') (n : ∀ q k, 5 ≤ q → q ≤ 6 → ¬ S q k) : ShC n0 z h' :=
  ⟨by rw [f.I (n _ _ (by omega) (by omega))]; exact C.1, by rw [f.I (n _ _ (by omega) (by omega))]; exact C.2.1, C.2.2.mv f (fun j _ _ => n _ _ (by omega) (by omega))⟩
theorem bad4 {T : List Nat} {t : Tk} {e : Nat} (h : (l2 T t).1 = .inl e) : (l4 T t).1 = .inl e := by unfold l4 l3; rw [h]; rfl
theorem bad5 {T : List Nat} {kd : Nat} {t : Tk} {e : Nat} (h : (l4 T t).1 = .inl e) : (l5 T kd t).1 = .inl e := by
  unfold l5; rw [h]; split <;> rfl
theorem bad7 {T : List Nat} {kd : Nat} {t : Tk} {e : Nat} (h : (l5 T kd t).1 = .inl e) : (l7 T kd t).1 = .inl e := by
  unfold l7 l6; rw [h]
  split
  · rfl
  · split <;> rfl
set_option maxHeartbeats 4000000 in
set_option maxRecDepth 100000 in
theorem c_readLeaf {T : List Nat} {a b n0 kd : Nat} {s : St} {z : Sh} {t : Tk} {h : Hp} {Q : Int32 → Hp → Prop} (ha : 108 ≤ a) (hk : kd < 4) (G : GI b s 0) (W : W9 b s) (P : CM T (.inr t) h) (C : CxC (ctx (sK s)) h) (D : DlC a s h) (Z : ShC n0 z h) (hn : n0 + z.2.1.length + 9 ≤ 512)
    (kb : ∀ h' e, lfS T kd t s = .inl e → CM T (.inl e) h' → fr (SRd a (n0 + z.2.1.length)) h h' → hI h' 5 2 = hI h 5 2 → Q 0 h')
    (kg : ∀ h' t', lfS T kd t s = .inr t' → CM T (.inr t') h' → fr (SRd a (n0 + z.2.1.length)) h h' → CxC (ctx (sK s)) h' → DlC a (stp s (0, lfR T kd t)) h' → ShC n0 (shp s z (0, lfR T kd t)) h' → Q 1 h') : m_X2_readLeaf (n32 kd) h Q := by
  unfold m_X2_readLeaf
  have g12 : (sL s).length ≤ 12 := G.1.2.2.2.1
  have g6 : (sK s).length ≤ 6 := G.1.2.2.2.2.1
  have gb : b ≤ sN s := G.1.2.1
  refine ⟨a, D.1, ?_⟩
  rw [D.2.1.1, show (12 : Int32) = n32 12 from rfl, n32_lt (by omega) (by omega)]
  have SCl : ∀ q k, SCm q k → SRd a (n0 + z.2.1.length) q k := fun _ _ y => Or.inl y
  refine ⟨fun l12 => ?_, fun l12 => ?_⟩
  · have el : lfS T kd t s = (l7 T kd t).1 := by unfold lfS; rw [if_neg (by omega)]
    rw [el] at kb kg
    refine c_adv P (fun h3 f3 P3 => ⟨vpI (show 0 < 8 by decide) (by decide), ?_⟩)
    rw [show ix (0 : Int32) = 0 from rfl]
    have f4 : fr (SRd a (n0 + z.2.1.length)) h (wI h3 7 0 (n32 kd)) := fr_wI (f3.mono SCl) _ (by unfold SRd; omega)
    have g4 : fr (SR7 0 7) h (wI h3 7 0 (n32 kd)) := fr_wI (f3.mono (fun _ _ y => Or.inl y)) _ (Or.inr (by omega))
    have e40 : hI (wI h3 7 0 (n32 kd)) 7 0 = n32 kd := by rw [hI_wI, if_pos ⟨rfl, rfl⟩]
    have P4 := P3.w7 0 (n32 kd)
    generalize wI h3 7 0 (n32 kd) = h4 at f4 g4 e40 P4
    have S7 : ∀ lo hi, ∀ q k, SR7 lo hi q k → SRd a (n0 + z.2.1.length) q k := by unfold SR7 SRd SCm; omega
    have S77 : ∀ lo hi, hi ≤ 7 → ∀ q k, SR7 lo hi q k → SR7 0 7 q k := by unfold SR7 SCm; omega
    refine c_readTwo P4 (fun h5 f5 P5 o5 => ?_)
    change CM T (l2 T t).1 h5 at P5
    change okP (l2 T t).1 → hI h5 7 1 = n32 (l1 T t).2 ∧ hI h5 7 2 = n32 (l2 T t).2 at o5
    change (bI (okPB (l2 T t).1) = 0 → _) ∧ (¬ bI (okPB (l2 T t).1) = 0 → _)
    have g5 := g4.trans (f5.mono (S77 _ _ (by decide)))
    cases hs2 : (l2 T t).1 with
    | inl e =>
      rw [hs2] at P5
      exact ⟨fun _ => kb h5 e (bad7 (bad5 (bad4 hs2))) P5 (g5.mono (S7 _ _)) (g5.I (by unfold SR7 SCm; omega)), fun y => absurd rfl y⟩
    | inr t2 =>
      rw [hs2] at P5 o5
      obtain ⟨y1, y2⟩ := o5 trivial
      refine ⟨fun y => absurd y one0, fun _ => ?_⟩
      refine c_readSo P5 (fun h7 f7 P7 o7 => ?_)
      have e3 : l3 T t = sThg T (.inr t2) := by unfold l3; rw [hs2]
      have e4 : l4 T t = sNum T 0 9999 (sThg T (.inr t2)).1 := by unfold l4; rw [e3]
      rw [← e4, ← e3] at o7
      rw [← e4] at P7 ⊢
      have g7 := g5.trans (f7.mono (S77 _ _ (by decide)))
      cases hs4 : (l4 T t).1 with
      | inl e =>
        rw [hs4] at P7
        exact ⟨fun _ => kb h7 e (bad7 (bad5 hs4)) P7 (g7.mono (S7 _ _)) (g7.I (by unfold SR7 SCm; omega)), fun y => absurd rfl y⟩
      | inr t4 =>
        rw [hs4] at P7 o7
        obtain ⟨y3, y4⟩ := o7 trivial
        refine ⟨fun y => absurd y one0, fun _ => ?_⟩
        refine c_readPay hk P7 (fun h9 f9 P9 o9 => ?_)
        have e5 : l5 T kd t = s5 T kd (.inr t4) := by unfold l5 s5; rw [hs4]
        rw [← e5] at P9 o9 ⊢
        have g9 := g7.trans (f9.mono (S77 _ _ (by decide)))
        cases hs5 : (l5 T kd t).1 with
        | inl e =>
          rw [hs5] at P9
          exact ⟨fun _ => kb h9 e (bad7 hs5) P9 (g9.mono (S7 _ _)) (g9.I (by unfold SR7 SCm; omega)), fun y => absurd rfl y⟩
        | inr t5 =>
          rw [hs5] at P9 o9
          have y5 := o9 trivial
          refine ⟨fun y => absurd y one0, fun _ => ?_⟩
          refine c_readDays hk P9 (fun h11 f11 P11 o11 => ?_)
          have e6 : l6 T kd t = s6 T (.inr t5) := by unfold l6 s6; rw [hs5]
          have e7 : l7 T kd t = s7 T kd (.inr t5) := by unfold l7 s7; rw [e6]
          rw [← e7, ← e6] at o11
          rw [← e7] at P11 ⊢
          have g11 := g9.trans (f11.mono (S77 _ _ (by decide)))
          cases hs7 : (l7 T kd t).1 with
          | inl e =>
            rw [hs7] at P11
            exact ⟨fun y => absurd rfl y, fun _ => kb h11 e hs7 P11 (g11.mono (S7 _ _)) (g11.I (by unfold SR7 SCm; omega))⟩
          | inr t7 =>
            rw [hs7] at P11 o11
            obtain ⟨y6, y7⟩ := o11 trivial
            refine ⟨fun _ => ?_, fun y => absurd y one0⟩
            have Lin : LfIn (lfR T kd t) := lfR_in hk (by rw [hs7]; trivial)
            have said : ∀ j, j < 8 → hI h11 7 j = n32 (lfR T kd t j) := fun j hj => by
              have hj8 : j = 0 ∨ j = 1 ∨ j = 2 ∨ j = 3 ∨ j = 4 ∨ j = 5 ∨ j = 6 ∨ j = 7 := by omega
              rcases hj8 with rfl | rfl | rfl | rfl | rfl | rfl | rfl | rfl
              · rw [f11.I (by unfold SR7 SCm; omega), f9.I (by unfold SR7 SCm; omega), f7.I (by unfold SR7 SCm; omega), f5.I (by unfold SR7 SCm; omega)]; exact e40
              · rw [f11.I (by unfold SR7 SCm; omega), f9.I (by unfold SR7 SCm; omega), f7.I (by unfold SR7 SCm; omega)]; exact y1
              · rw [f11.I (by unfold SR7 SCm; omega), f9.I (by unfold SR7 SCm; omega), f7.I (by unfold SR7 SCm; omega)]; exact y2
              · rw [f11.I (by unfold SR7 SCm; omega), f9.I (by unfold SR7 SCm; omega)]; exact y3
              · rw [f11.I (by unfold SR7 SCm; omega), f9.I (by unfold SR7 SCm; omega)]; exact y4
              · rw [f11.I (by unfold SR7 SCm; omega)]; exact y5
              · exact y6
              · exact y7
            have C11 := C.mv g11 (by unfold SR7 SCm; omega)
            have D11 := D.mv g11 (by unfold SR7 SCm; omega) (by unfold SR7 SCm; omega)
            have Z11 := Z.mv g11 (by unfold SR7 SCm; omega)
            refine c_putLeafS Z11.2.1 hn said (fun h13 f13 x0 x2 xc => ?_)
            have C13 := C11.mv f13 (by unfold SSh; omega)
            have D13 := D11.mv f13 (by unfold SSh; omega) (by unfold SSh; omega)
            have P13 := P11.mv f13 (by unfold SSh; omega) (by unfold SSh; omega)
            have s13 : ∀ j, j < 8 → hI h13 7 j = n32 (lfR T kd t j) := fun j hj => by rw [f13.I (by unfold SSh; omega)]; exact said j hj
            refine ⟨a, D13.1, ?_⟩
            rw [C13.1]
            have W' := W.leaf (r := lfR T kd t) g6 Lin gb
            have oL : ∀ q ∈ sL s, LfOk q := fun q hq => (W.1.2.2.2.2.1 q hq).1
            have oR : LfOk (leafRec (ctx (sK s)) (lfR T kd t) (sN s)) := (W'.1.2.2.2.2.1 _ (by rw [stp_leaf]; show _ ∈ sL s ++ [_]; simp)).1
            have tb := (fold_lt (fun _ => 0) (sL s) oL (fun _ _ => by decide)).1
            have cl := (cRows_ok oL).2
            refine c_putLeafD (r' := leafRec (ctx (sK s)) (lfR T kd t) (sN s)) ha l12 D13.2.1 s13 Lin.2.2.2.2.1 tb (fun j hj => by unfold leafRec; rw [if_pos hj]) rfl rfl (fun h16 f16 V16 => ?_)
            have C16 := C13.mv f16 (by unfold SPv; omega)
            refine ⟨a, by rw [f16.R (by unfold SPv; omega)]; exact D13.1, ?_⟩
            rw [C16.2.1, C16.2.2.1, C16.2.2.2]
            refine c_putRows (r := leafRec (ctx (sK s)) (lfR T kd t) (sN s)) ha l12 V16 (D13.2.2.1.mv f16 (by unfold SPv; omega) (by unfold SPv; omega) (by unfold SPv; omega)) cl oR (fun h19 f19 R19 => ?_)
            have f1619 : fr (fun q j => SPv a q j ∨ SPw a q j) h13 h19 := (f16.mono (fun _ _ y => Or.inl y)).trans (f19.mono (fun _ _ y => Or.inr y))
            refine kg h19 t7 hs7 (P13.mv f1619 (by unfold SPv SPw; omega) (by unfold SPv SPw; omega)) ((((g11.mono (S7 _ _)).trans (f13.mono (by unfold SRd SCm SSh; omega))).trans (f1619.mono (by unfold SPv SPw SRd SCm SSh; omega)))) (C13.mv f1619 (by unfold SPv SPw; omega)) ?_ ?_
            · rw [stp_leaf]
              refine ⟨by rw [f1619.R (by unfold SPv SPw; omega)]; exact D13.1, V16.mv f19 (by unfold SPw; omega) (by unfold SPw; omega) (by unfold SPw; omega), R19, ?_, ?_⟩
              · show hI h19 a 3 = n32 (sC s)
                rw [f1619.I (by unfold SPv SPw; omega)]; exact D13.2.2.2.1
              · show hI h19 a 4 = n32 (sE s)
                rw [f1619.I (by unfold SPv SPw; omega)]; exact D13.2.2.2.2
            · have es : shp s z (0, lfR T kd t) = (z.1, z.2.1 ++ lfCe (lfR T kd t), z.2.2) := by unfold shp; rw [if_pos rfl]
              rw [es]
              have Z13 : Cel n0 (z.2.1 ++ lfCe (lfR T kd t)) h13 := Cel.app (Z11.2.2.mv f13 (by unfold SSh; omega)) xc
              refine ⟨?_, ?_, Z13.mv f1619 (by unfold SPv SPw; omega)⟩
              · show hI h19 5 0 = n32 z.2.2
                rw [f1619.I (by unfold SPv SPw; omega), x0]; exact Z11.1
              · show hI h19 5 2 = n32 (n0 + (z.2.1 ++ lfCe (lfR T kd t)).length)
                rw [f1619.I (by unfold SPv SPw; omega), x2, List.length_append, show (lfCe (lfR T kd t)).length = 9 from rfl, Nat.add_assoc]
  · have el : lfS T kd t s = .inl t.2.1 := by unfold lfS; rw [if_pos (by omega)]
    exact c_refuse P (fun h3 f3 P3 => ⟨Or.inl rfl, kb h3 t.2.1 el P3 (f3.mono SCl) (f3.I (by unfold SCm; omega))⟩)
