/-! THE CLASS: if and choice are read -/
theorem pm_one (T : List Nat) (row : List (List Nat)) (t : Tk) (hl : row.length ≤ 100) : pm (pl T t row) = -1 ↔ pl T t row = 0 := by
  have := pl_le T t row
  rw [show (-1 : Int32) = pm 0 from rfl, pm_inj (by omega) (by decide)]
set_option maxHeartbeats 4000000 in
set_option maxRecDepth 100000 in
theorem c_readIf {T : List Nat} {a b n n0 d m0 m1 : Nat} {r : Nat ⊕ List Ev} {RA : Int32 → Hp → (Int32 → Hp → Prop) → Prop} {t : Tk} {E : List Ev} {h : Hp} {Q : Int32 → Hp → Prop} (ha : 108 ≤ a) (hd : d ≤ 6) (H : d < 6 → RAS T b a r (d + 1) RA) (hm : mac T b (n + 1) 0 t E = some r) (pk : pl T t KNDS = 7) (J : RdJ T a b 0 n0 d m0 m1 E t h) (C : CxC (ctx (sK (run b E))) h) (K : PrtK T b a r n0 d m0 t E h Q) : m_X2_readIf RA (n32 d) h Q := by
  unfold m_X2_readIf
  obtain ⟨kb, kg⟩ := K
  obtain ⟨G, W, len, R, P, D, Z⟩ := J
  have rm := R.room G.1.2.2.2.1 hd
  have SC := SCm_SRd a n0
  have cb := (W.1.2.2.2.1.ctx).six (by omega)
  refine c_adv P (fun h2 f2 P2 => ?_)
  refine c_takeOneOf (v := 7) (by decide) (by decide) P2 (fun h4 f4 P4 => ?_)
  have eR : rowW 7 = EVTS := rfl
  rw [eR] at P4 ⊢
  have lE := pl_le T (nxt T t) EVTS
  have l5 : EVTS.length = 5 := rfl
  rw [pm_one T EVTS (nxt T t) (by omega)]
  have f04 : fr SCm h h4 := f2.trans f4
  have D4 := D.mv f04 (by unfold SCm; omega) (by unfold SCm; omega)
  have Z4 := Z.mvS f04
  have C4 := C.mv f04 (by unfold SCm; omega)
  unfold sOne at P4
  refine ⟨fun z => ?_, fun z => ?_⟩
  · rw [if_neg z] at P4
    have eg : gN T 6 t = (.inr (nxt T (nxt T t)), pl T (nxt T t) EVTS - 1) := by
      show sEvt T (.inr (nxt T t)) = _
      unfold sEvt; dsimp only; rw [if_neg z]
    have hs : (gN T 6 t).1 = .inr (nxt T (nxt T t)) := by rw [eg]
    have hv : pm (pl T (nxt T t) EVTS) = n32 (gN T 6 t).2 := by rw [eg, pm_n32 (by omega)]
    have nb : (gN T 6 t).2 < 5 := gN_6
    have B := blkP_grp hm (by decide) (by decide) pk (by omega) hs G W len R
    have g32 : sE (run b E) < 32 := G.1.2.2.2.2.2.2
    have p2 : 2 ^ (gN T 6 t).2 ≤ 2 ^ 4 := pw_le (by omega)
    rw [hv]
    refine ⟨a, D4.1, ?_⟩
    rw [D4.2.2.2.2, show (1 : Int32) = n32 1 from rfl, show (31 : Int32) = n32 31 from rfl, shl1 (by omega), n32_or (by omega) (by omega)]
    have f5 : fr (fun q j => q = a ∧ j = 4) h4 (wI h4 a 4 (n32 (sE (run b E) ||| 2 ^ (gN T 6 t).2))) := fr_wI (fr.rf _ _) _ ⟨rfl, rfl⟩
    have e5 : hI (wI h4 a 4 (n32 (sE (run b E) ||| 2 ^ (gN T 6 t).2))) a 4 = n32 (sE (run b E) ||| 2 ^ (gN T 6 t).2) := by rw [hI_wI, if_pos ⟨rfl, rfl⟩]
    generalize wI h4 a 4 (n32 (sE (run b E) ||| 2 ^ (gN T 6 t).2)) = h5 at f5 e5
    have D5 : DlC a (run b (E ++ [gEv T 6 t])) h5 := by
      rw [run_snoc]; unfold gEv; rw [stp_open (by decide) (by decide)]
      exact ⟨by rw [f5.R (by omega)]; exact D4.1, D4.2.1.mv f5 (by omega) (by omega) (by omega), D4.2.2.1.mv f5 (by omega) (by omega) (by omega), by rw [f5.I (by omega)]; exact D4.2.2.2.1, e5⟩
    have C5 := C4.mv f5 (by omega)
    have Z5 := Z4.mv f5 (by omega)
    have P5 := P4.mv f5 (by omega) (by omega)
    rw [show m_X8_begin (-5) = m_X8_begin (ce 6) from rfl]
    refine c_begin Z5.2.1 (by omega) (fun h7 f7 x0 x2 xc => ?_)
    have F7 : fr (SRd a n0) h h7 := ((f04.mono SC).trans (f5.mono (by unfold SRd; omega))).trans (f7.mono (by unfold SRd SSh; omega))
    rw [show m_X2_readBranches RA (n32 d) (n32 (n0 + (shR b E).2.1.length)) (n32 (gN T 6 t).2) (n32 1) 8 = m_X2_readBranches RA (n32 d) (n32 (n0 + (shR b E).2.1.length)) (n32 (gN T 6 t).2) (n32 1) (6 + 2) from rfl]
    have le2 : t.2.1 ≤ (nxt T (nxt T t)).2.1 := by
      have := nxt_from P.2.2.2; have := P.2.2.2.le; have := nxt_from P2.2.2.2; have := P2.2.2.2.le; omega
    refine c_readBranches (E := E) (E1 := E ++ [gEv T 6 t]) (f := opened (run b E) 6 (gN T 6 t).2) (tn := (gN T 6 t).2) (bit := (gN T 6 t).2) (w := 1) (kd := 6) ha hd H (Or.inl rfl) (by omega) (by omega) (by omega) cb.2.2.1 cb.2.2.2 len G.1.2.2.2.1 R ?_ (opened_0 (by decide) (by decide)) (opened_2 _ _ _) rfl rfl rfl rfl ?_ ?_ ?_ ?_ ?_ (P5.mv f7 (by unfold SSh; omega) (by unfold SSh; omega)) B (C5.mv f7 (by unfold SSh; omega)) (D5.mv f7 (by unfold SSh; omega) (by unfold SSh; omega)) (xc 0 (by show 0 < 3; decide)) ((xc 1 (by show 1 < 3; decide)).trans (ce_num _)) (Z5.2.2.mv f7 (by unfold SSh; omega)) (by rw [x0]; exact Z5.1) x2 (fun h' e er P' w => ⟨Or.inl rfl, kb h' e er P' ⟨F7.trans (w.1.mono (SRd.le (by omega))), ?_⟩⟩) (fun h' n' t' E' m1' hm' le J' C' sk sh f' => ⟨Or.inr rfl, kg h' n' t' E' m1' hm' (by omega) J' C' sk sh (F7.trans (f'.mono (SRd.le (by omega))))⟩)
    · rw [run_snoc]; unfold gEv; rw [stp_open (by decide) (by decide)]; rfl
    · rfl
    · rfl
    · rfl
    · rfl
    · rw [shR_snoc]; unfold gEv; rw [shp_opn (by decide) (by decide)]
    · obtain ⟨-, fl, w1, w2, w3⟩ := w
      exact ⟨fl, w1, by omega, w3⟩
  · rw [if_pos z] at P4
    have er : r = .inl (nxt T t).2.1 := (grp_mac hm (by decide) pk).1 _ (by
      unfold grS; rw [if_neg (by omega)]
      show sOpen T _ (sEvt T (.inr (nxt T t))).1 = _
      unfold sEvt; dsimp only; rw [if_pos z]; rfl)
    exact kb h4 _ er P4 ⟨f04.mono SC, n0 + (shR b E).2.1.length, Z4.2.1, by omega, by omega⟩
set_option maxHeartbeats 4000000 in
set_option maxRecDepth 100000 in
theorem c_readChoice {T : List Nat} {a b n n0 d m0 m1 : Nat} {r : Nat ⊕ List Ev} {RA : Int32 → Hp → (Int32 → Hp → Prop) → Prop} {t : Tk} {E : List Ev} {h : Hp} {Q : Int32 → Hp → Prop} (ha : 108 ≤ a) (hd : d ≤ 6) (H : d < 6 → RAS T b a r (d + 1) RA) (hm : mac T b (n + 1) 0 t E = some r) (pk : pl T t KNDS = 8) (J : RdJ T a b 0 n0 d m0 m1 E t h) (C : CxC (ctx (sK (run b E))) h) (K : PrtK T b a r n0 d m0 t E h Q) : m_X2_readChoice RA (n32 d) h Q := by
  unfold m_X2_readChoice
  obtain ⟨kb, kg⟩ := K
  obtain ⟨G, W, len, R, P, D, Z⟩ := J
  have rm := R.room G.1.2.2.2.1 hd
  have SC := SCm_SRd a n0
  have cb := (W.1.2.2.2.1.ctx).six (by omega)
  have g3 : sC (run b E) ≤ 3 := G.1.2.2.2.2.2.1
  refine ⟨a, D.1, ?_⟩
  rw [D.2.2.2.1, show (3 : Int32) = n32 3 from rfl, n32_lt (by omega) (by omega)]
  refine ⟨fun z3 => ⟨a, D.1, ?_⟩, fun z3 => ?_⟩
  · intro x3 e3
    rw [D.2.2.2.1, show (5 : Int32) = n32 5 from rfl, n32_add] at e3
    subst e3
    refine ⟨a, D.1, ?_⟩
    rw [D.2.2.2.1, show n32 (sC (run b E)) + 1 = n32 (sC (run b E) + 1) from n32_add _ 1]
    have f1 : fr (fun q j => q = a ∧ j = 3) h (wI h a 3 (n32 (sC (run b E) + 1))) := fr_wI (fr.rf _ _) _ ⟨rfl, rfl⟩
    have e1 : hI (wI h a 3 (n32 (sC (run b E) + 1))) a 3 = n32 (sC (run b E) + 1) := by rw [hI_wI, if_pos ⟨rfl, rfl⟩]
    generalize wI h a 3 (n32 (sC (run b E) + 1)) = h1 at f1 e1
    have P1 := P.mv f1 (by omega) (by omega)
    refine c_adv P1 (fun h2 f2 P2 => ?_)
    refine c_takeOneOf (v := 1) (by decide) (by decide) P2 (fun h4 f4 P4 => ?_)
    have eR : rowW 1 = HNDS := rfl
    rw [eR] at P4 ⊢
    have lE := pl_le T (nxt T t) HNDS
    have l5 : HNDS.length = 8 := rfl
    rw [pm_one T HNDS (nxt T t) (by omega)]
    have f14 : fr SCm h1 h4 := f2.trans f4
    have D5 : DlC a (run b (E ++ [gEv T 7 t])) h4 := by
      rw [run_snoc]; unfold gEv; rw [stp_open (by decide) (by decide)]
      exact ⟨by rw [f14.R (by unfold SCm; omega), f1.R (by omega)]; exact D.1, (D.2.1.mv f1 (by omega) (by omega) (by omega)).mv f14 (by unfold SCm; omega) (by unfold SCm; omega) (by unfold SCm; omega), (D.2.2.1.mv f1 (by omega) (by omega) (by omega)).mv f14 (by unfold SCm; omega) (by unfold SCm; omega) (by unfold SCm; omega), by rw [f14.I (by unfold SCm; omega)]; exact e1, by rw [f14.I (by unfold SCm; omega), f1.I (by omega)]; exact D.2.2.2.2⟩
    have Z4 := (Z.mv f1 (by omega)).mvS f14
    have C4 := (C.mv f1 (by omega)).mv f14 (by unfold SCm; omega)
    have F4 : fr (SRd a n0) h h4 := (f1.mono (by unfold SRd; omega)).trans (f14.mono SC)
    unfold sOne at P4
    refine ⟨fun z => ?_, fun z => ?_⟩
    · rw [if_neg z] at P4
      have eg : gN T 7 t = (.inr (nxt T (nxt T t)), pl T (nxt T t) HNDS - 1) := by
        show sHnd T 0 (.inr (nxt T t)) = _
        unfold sHnd; dsimp only; rw [if_neg (by omega)]
      have hs : (gN T 7 t).1 = .inr (nxt T (nxt T t)) := by rw [eg]
      have hv : pm (pl T (nxt T t) HNDS) = n32 (gN T 7 t).2 := by rw [eg, pm_n32 (by omega)]
      have nb : (gN T 7 t).2 < 8 := by rw [eg]; show _ - 1 < 8; omega
      have B := blkP_grp hm (by decide) (by decide) pk (by omega) hs G W len R
      rw [hv]
      rw [show m_X8_begin (-6) = m_X8_begin (ce 7) from rfl]
      refine c_begin Z4.2.1 (by omega) (fun h7 f7 x0 x2 xc => ?_)
      have F7 : fr (SRd a n0) h h7 := F4.trans (f7.mono (by unfold SRd SSh; omega))
      rw [show m_X2_readBranches RA (n32 d) (n32 (n0 + (shR b E).2.1.length)) (n32 (5 + sC (run b E))) 0 9 = m_X2_readBranches RA (n32 d) (n32 (n0 + (shR b E).2.1.length)) (n32 (5 + sC (run b E))) (n32 0) (7 + 2) from rfl]
      have le2 : t.2.1 ≤ (nxt T (nxt T t)).2.1 := by
        have := nxt_from P.2.2.2; have := P.2.2.2.le; have := nxt_from P2.2.2.2; have := P2.2.2.2.le; omega
      refine c_readBranches (E := E) (E1 := E ++ [gEv T 7 t]) (f := opened (run b E) 7 (gN T 7 t).2) (tn := (gN T 7 t).2) (bit := 5 + sC (run b E)) (w := 0) (kd := 7) ha hd H (Or.inr rfl) (by omega) (by omega) (by omega) cb.2.2.1 cb.2.2.2 len G.1.2.2.2.1 R ?_ (opened_0 (by decide) (by decide)) (opened_2 _ _ _) rfl rfl rfl rfl ?_ ?_ ?_ ?_ ?_ (P4.mv f7 (by unfold SSh; omega) (by unfold SSh; omega)) B (C4.mv f7 (by unfold SSh; omega)) (D5.mv f7 (by unfold SSh; omega) (by unfold SSh; omega)) (xc 0 (by show 0 < 3; decide)) ((xc 1 (by show 1 < 3; decide)).trans (ce_num _)) (Z4.2.2.mv f7 (by unfold SSh; omega)) (by rw [x0]; exact Z4.1) x2 (fun h' e er P' w => ⟨Or.inl rfl, kb h' e er P' ⟨F7.trans (w.1.mono (SRd.le (by omega))), ?_⟩⟩) (fun h' n' t' E' m1' hm' le J' C' sk sh f' => ⟨Or.inr rfl, kg h' n' t' E' m1' hm' (by omega) J' C' sk sh (F7.trans (f'.mono (SRd.le (by omega))))⟩)
      · rw [run_snoc]; unfold gEv; rw [stp_open (by decide) (by decide)]; rfl
      · rfl
      · rfl
      · rfl
      · rfl
      · rw [shR_snoc]; unfold gEv; rw [shp_opn (by decide) (by decide)]
      · obtain ⟨-, fl, w1, w2, w3⟩ := w
        exact ⟨fl, w1, by omega, w3⟩
    · rw [if_pos z] at P4
      have er : r = .inl (nxt T t).2.1 := (grp_mac hm (by decide) pk).1 _ (by
        unfold grS; rw [if_neg (by omega)]
        show sOpen T _ (sHnd T 0 (.inr (nxt T t))).1 = _
        unfold sHnd; dsimp only; rw [if_pos (Or.inl z)]; rfl)
      exact kb h4 _ er P4 ⟨F4, n0 + (shR b E).2.1.length, Z4.2.1, by omega, by omega⟩
  · have er : r = .inl t.2.1 := (grp_mac hm (by decide) pk).1 _ (by unfold grS; rw [if_pos ⟨rfl, by omega⟩])
    exact c_refuse P (fun h2 f2 P2 => ⟨Or.inl rfl, kb h2 _ er P2 ⟨f2.mono SC, n0 + (shR b E).2.1.length, by rw [f2.I (by unfold SCm; omega)]; exact Z.2.1, by omega, by omega⟩⟩)
