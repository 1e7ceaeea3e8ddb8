/-! THE CLASS: one or two branches -/
def wBtw (kd : Nat) : List Nat := if kd = 6 then wElse else wOr
theorem isTwo_iff {T : List Nat} {f : Rec} {t : Tk} {kd : Nat} (hk : kd = 6 ∨ kd = 7) (f0 : f 0 = kd) (f2 : f 2 = 0) : isTwo T f t = isW T t (wBtw kd) := by
  unfold isTwo wBtw
  rw [f2, f0]
  rcases hk with rfl | rfl
  · rw [if_pos rfl]; simp
  · rw [if_neg (by decide)]; simp
theorem mac_two {T : List Nat} {b n : Nat} {t : Tk} {E : List Ev} {r : Nat ⊕ List Ev} {f : Rec} {l : List Rec} (hm : mac T b n 1 t E = some r) (h : t.1 = 125) (K : sK (run b E) = f :: l) (yes : isTwo T f (nxt T t) = true) : (∀ e, sOpen T l.length (.inr (nxt T (nxt T t))) = .inl e → r = .inl e) ∧ ∀ t1, sOpen T l.length (.inr (nxt T (nxt T t))) = .inr t1 → ∃ n', mac T b n' 0 t1 (E ++ [(8, rec0)]) = some r := by
  cases n with
  | zero => rw [mac] at hm; exact absurd hm (by simp)
  | succ n =>
    rw [mac, if_neg (by omega), K] at hm
    dsimp only at hm
    rw [if_pos h, if_pos yes] at hm
    refine ⟨fun e he => ?_, fun t1 h1 => ⟨n, ?_⟩⟩
    · rw [he] at hm; injection hm with hm; exact hm.symm
    · rw [h1] at hm; exact hm
set_option maxHeartbeats 4000000 in
set_option maxRecDepth 100000 in
theorem c_readBranches {T : List Nat} {a b n0 d m0 m1 kd bit w tn : Nat} {r : Nat ⊕ List Ev} {RA : Int32 → Hp → (Int32 → Hp → Prop) → Prop} {E E1 : List Ev} {t2 : Tk} {f : Rec} {h : Hp} {Q : Int32 → Hp → Prop} (ha : 108 ≤ a) (hd : d ≤ 6) (H : d < 6 → RAS T b a r (d + 1) RA) (hk : kd = 6 ∨ kd = 7) (ht : tn < 10000) (hb : bit < 8) (hw : w < 2) (c6 : ctx (sK (run b E)) 6 < 256) (c7 : ctx (sK (run b E)) 7 < 256) (len : (sK (run b E)).length = d) (L12 : (sL (run b E)).length ≤ 12) (R : RmI d m0 m1 n0 (shR b E).2.1 (sL (run b E)).length)
    (hK : sK (run b E1) = f :: sK (run b E)) (f0 : f 0 = kd) (f2 : f 2 = 0) (e4 : f 4 = ctx (sK (run b E)) 4) (e5 : f 5 = brT (ctx (sK (run b E))) bit w) (e6 : f 6 = brM (ctx (sK (run b E))) bit) (e7 : f 7 = brV (ctx (sK (run b E))) bit w)
    (u4 : turned f (ctx (sK (run b E))) 4 = ctx (sK (run b E)) 4) (u5 : turned f (ctx (sK (run b E))) 5 = brT (ctx (sK (run b E))) bit (1 - w)) (u6 : turned f (ctx (sK (run b E))) 6 = brM (ctx (sK (run b E))) bit) (u7 : turned f (ctx (sK (run b E))) 7 = brV (ctx (sK (run b E))) bit (1 - w))
    (z1 : shR b E1 = ((tn, (shR b E).2.1, []) :: (shR b E).1, [], (shR b E).2.2)) (P : CM T (.inr t2) h) (B : BlkP T b r (n0 + (shR b E).2.1.length + 3) d (m0 + m1) E1 t2) (C : CxC (ctx (sK (run b E))) h) (D : DlC a (run b E1) h) (d0 : hI h 6 (n0 + (shR b E).2.1.length) = ce kd) (d1 : hI h 6 (n0 + (shR b E).2.1.length + 1) = n32 tn) (Cc : Cel n0 (shR b E).2.1 h) (x0 : hI h 5 0 = n32 (shR b E).2.2) (x2 : hI h 5 2 = n32 (n0 + (shR b E).2.1.length + 3))
    (kb : ∀ h' e, r = .inl e → CM T (.inl e) h' → WkB a (n0 + (shR b E).2.1.length) h h' → Q 0 h')
    (kg : ∀ h' n' t' E' m1', mac T b n' 1 t' E' = some r → t2.2.1 ≤ t'.2.1 → RdJ T a b 1 n0 d m0 m1' E' t' h' → CxC (ctx (sK (run b E))) h' → sK (run b E') = sK (run b E) → (shR b E').1 = (shR b E).1 → fr (SRd a (n0 + (shR b E).2.1.length)) h h' → Q 1 h') :
    m_X2_readBranches RA (n32 d) (n32 (n0 + (shR b E).2.1.length)) (n32 bit) (n32 w) (kd + 2) h Q := by
  have rm := R.room L12 hd
  generalize hc : (shR b E).2.1 = c at R z1 B d0 d1 Cc x2 kb kg rm
  have hz : (shR b E1).2.1 = [] := by rw [z1]
  have eW : rowW (kd + 2) = [wBtw kd] := by rcases hk with rfl | rfl <;> rfl
  have k9 : kd + 2 < 16 := by omega
  unfold m_X2_readBranches
  have ctx1 : ctx (sK (run b E1)) = f := by rw [hK]; rfl
  have Z : ShC (n0 + c.length + 3) (shR b E1) h := ⟨by rw [z1]; exact x0, by rw [z1]; exact x2, by rw [z1]; exact Cel.nil _ _⟩
  refine c_readBranch (c := ctx (sK (run b E))) ha H hd hb hw c6 c7 P B hz C (by rw [ctx1]; exact e4) (by rw [ctx1]; exact e5) (by rw [ctx1]; exact e6) (by rw [ctx1]; exact e7) D Z (by omega) (fun h4 e er P4 wk => ⟨fun y => absurd rfl y, fun _ => kb h4 e er P4 ⟨wk.1.mono (SRd.le (by omega)), ?_⟩⟩) (fun h4 n' t' E2 mf hm q125 le J sk sh f4 C4 => ⟨fun _ => ?_, fun y => absurd y one0⟩)
  · obtain ⟨-, fl, w1, w2, w3⟩ := wk
    exact ⟨fl, w1, by omega, w3⟩
  have J' := J
  obtain ⟨G, W, len2, Rm, P4, D4, Z4⟩ := J
  have K2 : sK (run b E2) = f :: sK (run b E) := sk.trans hK
  have zz : (shR b E2).1 = (tn, c, []) :: (shR b E).1 := by rw [sh, z1]
  have M12 : (sL (run b E2)).length ≤ 12 := G.1.2.2.2.1
  have d6 : d < 6 := by have : (sK (run b E2)).length ≤ 6 := G.1.2.2.2.2.1; omega
  have rm2 := Rm.room M12 (by omega)
  have d04 : hI h4 6 (n0 + c.length) = ce kd := by rw [f4.I (by unfold SRd SCm SSh; omega)]; exact d0
  have d14 : hI h4 6 (n0 + c.length + 1) = n32 tn := by rw [f4.I (by unfold SRd SCm SSh; omega)]; exact d1
  have Cc4 := Cc.mv f4 (by unfold SRd SCm SSh; omega)
  refine c_turn d04 d14 Z4.2.2 Z4.2.1 (by omega) (fun h6 f6 y0 y2 a0 a1 a2 F6 => ?_)
  have P6 := P4.mv f6 (by unfold SSh; omega) (by unfold SSh; omega)
  have D6 := D4.mv f6 (by unfold SSh; omega) (by unfold SSh; omega)
  have C6 := C4.mv f6 (by unfold SSh; omega)
  have Cc6 := Cc4.mv f6 (by unfold SSh; omega)
  have F06 : fr (SRd a (n0 + c.length)) h h6 := (f4.mono (SRd.le (by omega))).trans (f6.mono (by unfold SRd; exact fun _ _ y => Or.inr (Or.inr (Or.inl y))))
  have y0' : hI h6 5 0 = n32 (shR b E2).2.2 := by rw [y0]; exact Z4.1
  refine c_isWord (wBtw kd) k9 eW P6 ?_
  have it := isTwo_iff (T := T) (t := nxt T t') hk f0 f2
  have wb : WfB (d + 1) ≤ 900000 := by have := WfB_le (d + 1); omega
  cases hq : isW T (nxt T t') (wBtw kd) with
  | false =>
    refine ⟨fun _ => ?_, fun y => absurd rfl y⟩
    unfold m_X2_readBranches_55
    obtain ⟨n2, hm2⟩ := mac_end9 hm q125 K2 (by rw [it, hq]; decide)
    refine c_endTwo (s := []) (m := (shR b E2).2.2) hk wb a0 a1 a2 F6 (Cel.nil _ _) Rm.2.2.2.1 (fun v hv => absurd hv (by simp)) y0' y2 (by show _ + 0 ≤ 512; omega) (fun h8 f8 v0 v2 vc => ⟨Or.inr rfl, ?_⟩)
    obtain ⟨q1, q2, q3⟩ := close_pure (n1 := n0 + c.length + 3) (s1 := []) (f1 := (shR b E2).2.1) (g := (tn, c, [])) (Or.inr J') d6 (by omega) (by omega) ht (fun q => by omega) R Rm (R.two Rm) M12 K2 f0 zz rfl rfl (by unfold shA; rw [if_pos f2]) (by unfold shB; rw [if_pos f2]) (P6.mv f8 (by unfold SSh; omega) (by unfold SSh; omega)) (D6.mv f8 (by unfold SSh; omega) (by unfold SSh; omega)) v0 v2 (Cc6.mv f8 (by unfold SSh; omega)) vc
    exact kg h8 n2 (nxt T t') _ _ hm2 le q1 (C6.mv f8 (by unfold SSh; omega)) q2 q3 (F06.trans (f8.mono (by unfold SRd; exact fun _ _ y => Or.inr (Or.inr (Or.inl y)))))
  | true =>
    refine ⟨fun y => absurd y one0, fun _ => ?_⟩
    refine c_adv P6 (fun h10 f10 P10 => ?_)
    obtain ⟨M1, M2⟩ := mac_two hm q125 K2 (by rw [it, hq])
    rw [len] at M1 M2
    have hf2 : f 0 = 6 ∨ f 0 = 7 := by omega
    have ez : shR b (E2 ++ [(8, rec0)]) = ((tn, c, (shR b E2).2.1) :: (shR b E).1, [], (shR b E2).2.2) := by rw [shR_snoc, shp_two K2 zz]
    have er8 : run b (E2 ++ [(8, rec0)]) = (turned f (ctx (sK (run b E))) :: sK (run b E), sL (run b E2), (sC (run b E2), sE (run b E2), sN (run b E2)), up2 (up2 (sD (run b E2)) 62 (f 3) (sN (run b E2))) 63 (f 3) (sN (run b E2) + 1)) := by rw [run_snoc, stp_two K2]
    have R2 := R.two Rm
    have B2 : BlkP T b r (n0 + c.length + 3 + (shR b E2).2.1.length + 1) d (m0 + m1 + mf) (E2 ++ [(8, rec0)]) (nxt T (nxt T t')) := by
      refine ⟨M1, fun t1 h1 => ⟨d6, M2 t1 h1, ?_, ?_, ?_, ?_⟩⟩
      · rw [run_snoc]; exact G.two K2 hf2
      · rw [run_snoc]
        refine W.two K2 hf2 ?_
        have := (G.2 f (by rw [K2]; simp)).2.2.1
        exact this
      · rw [er8]; show (_ :: sK (run b E)).length = d + 1; rw [List.length_cons, len]
      · rw [er8]; exact R2
    have f610 : fr SCm h6 h10 := f10
    have Z10 : ShC (n0 + c.length + 3 + (shR b E2).2.1.length + 1) (shR b (E2 ++ [(8, rec0)])) h10 := by
      rw [ez]
      exact ⟨by rw [f10.I (by unfold SCm; omega)]; exact y0', by rw [f10.I (by unfold SCm; omega)]; exact y2, Cel.nil _ _⟩
    have D10 : DlC a (run b (E2 ++ [(8, rec0)])) h10 := by
      rw [er8]; exact D6.mv f10 (by unfold SCm; omega) (by unfold SCm; omega)
    have ctx8 : ctx (sK (run b (E2 ++ [(8, rec0)]))) = turned f (ctx (sK (run b E))) := by rw [er8]; rfl
    have e1w : (1 : Int32) - n32 w = n32 (1 - w) := by rw [show (1 : Int32) = n32 1 from rfl, n32_sub (by omega)]
    rw [e1w]
    have a2' : hI h10 6 (n0 + c.length + 2) = n32 (shR b E2).2.1.length := by rw [f10.I (by unfold SCm; omega)]; exact a2
    have F10 : fr (SRd a (n0 + c.length)) h h10 := F06.trans (f10.mono (SCm_SRd _ _))
    have le2 : (nxt T t').2.1 ≤ (nxt T (nxt T t')).2.1 := by have := nxt_from P6.2.2.2; have := P6.2.2.2.le; omega
    refine c_readBranch (c := ctx (sK (run b E))) (w := 1 - w) ha H hd hb (by omega) c6 c7 P10 B2 (by rw [ez]) (C6.mv f10 (by unfold SCm; omega)) (by rw [ctx8]; exact u4) (by rw [ctx8]; exact u5) (by rw [ctx8]; exact u6) (by rw [ctx8]; exact u7) D10 Z10 (by omega) (fun h12 e er P12 wk => ?_) (fun h12 n3 t4 E4 ms hm4 q4 le4 J4 sk4 sh4 f12 C12 => ?_)
    · unfold m_X2_readBranches_55
      obtain ⟨w0, fl, w1, w2, w3⟩ := wk
      refine c_endTwoW (l := (shR b E2).2.1.length) (by rw [w0.I (by unfold SRd SCm SSh; omega)]; exact a2') w1 (by omega) w3 (fun h14 fl' f14 v1 v2 v3 => ⟨Or.inl rfl, kb h14 e er (P12.mv f14 (by unfold SSh; omega) (by unfold SSh; omega)) ⟨(F10.trans (w0.mono (SRd.le (by omega)))).trans (f14.mono (by unfold SRd; exact fun _ _ y => Or.inr (Or.inr (Or.inl y)))), fl', v1, v2, v3⟩⟩)
    · unfold m_X2_readBranches_55
      have J4' := J4
      obtain ⟨G4, W4, len4, Rm4, P12, D12, Z12⟩ := J4
      have K4 : sK (run b E4) = turned f (ctx (sK (run b E))) :: sK (run b E) := by rw [sk4, er8]; rfl
      have zz4 : (shR b E4).1 = (tn, c, (shR b E2).2.1) :: (shR b E).1 := by rw [sh4, ez]
      have N12 : (sL (run b E4)).length ≤ 12 := G4.1.2.2.2.1
      have rm4 := Rm4.room N12 (by omega)
      have t2' := turned_2 f (ctx (sK (run b E)))
      have t0' := turned_0 (ctx (sK (run b E))) hf2
      obtain ⟨n5, hm5⟩ := mac_end9 hm4 q4 K4 (isTwo_no (Or.inl t2'))
      have g0 : hI h12 6 (n0 + c.length) = ce kd := by rw [f12.I (by unfold SRd SCm SSh; omega), f10.I (by unfold SCm; omega)]; exact a0
      have g1 : hI h12 6 (n0 + c.length + 1) = n32 tn := by rw [f12.I (by unfold SRd SCm SSh; omega), f10.I (by unfold SCm; omega)]; exact a1
      have g2 : hI h12 6 (n0 + c.length + 2) = n32 (shR b E2).2.1.length := by rw [f12.I (by unfold SRd SCm SSh; omega)]; exact a2'
      have F12 : Cel (n0 + c.length + 3) (shR b E2).2.1 h12 := (F6.mv f10 (by unfold SCm; omega)).mv f12 (by unfold SRd SCm SSh; omega)
      have Cc12 := (Cc6.mv f10 (by unfold SCm; omega)).mv f12 (by unfold SRd SCm SSh; omega)
      refine c_endTwo (m := (shR b E4).2.2) hk wb g0 g1 g2 F12 Z12.2.2 Rm.2.2.2.1 Rm4.2.2.2.1 Z12.1 Z12.2.1 (by omega) (fun h14 f14 v0 v2 vc => ⟨Or.inr rfl, ?_⟩)
      obtain ⟨q1, q2, q3⟩ := close_pure (n1 := n0 + c.length + 3) (f1 := (shR b E2).2.1) (s1 := (shR b E4).2.1) (g := (tn, c, (shR b E2).2.1)) (Or.inl J4') d6 (by omega) (by omega) ht (fun q => by omega) R Rm Rm4 M12 K4 (t0'.trans f0) zz4 rfl rfl (by unfold shA; rw [if_neg (by omega)]) (by unfold shB; rw [if_neg (by omega)]) (P12.mv f14 (by unfold SSh; omega) (by unfold SSh; omega)) (D12.mv f14 (by unfold SSh; omega) (by unfold SSh; omega)) v0 v2 (Cc12.mv f14 (by unfold SSh; omega)) vc
      exact kg h14 n5 (nxt T t4) _ _ hm5 (by omega) q1 (C12.mv f14 (by unfold SSh; omega)) q2 q3 ((F10.trans (f12.mono (SRd.le (by omega)))).trans (f14.mono (by unfold SRd; exact fun _ _ y => Or.inr (Or.inr (Or.inl y)))))
