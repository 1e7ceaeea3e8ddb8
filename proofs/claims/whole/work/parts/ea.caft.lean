/-! THE CLASS: after and times are read -/
set_option maxHeartbeats 4000000 in
set_option maxRecDepth 100000 in
theorem c_readAfter {T : List Nat} {a b n n0 d m0 m1 : Nat} {r : Nat ⊕ List Ev} {RA : Int32 → Hp → (Int32 → Hp → Prop) → Prop} {t : Tk} {E : List Ev} {h : Hp} {Q : Int32 → Hp → Prop} (ha : 108 ≤ a) (hd : d ≤ 6) (H : d < 6 → RAS T b a r (d + 1) RA) (hm : mac T b (n + 1) 0 t E = some r) (pk : pl T t KNDS = 5) (J : RdJ T a b 0 n0 d m0 m1 E t h) (C : CxC (ctx (sK (run b E))) h) (K : PrtK T b a r n0 d m0 t E h Q) : m_X2_readAfter RA (n32 d) h Q := by
  unfold m_X2_readAfter
  obtain ⟨kb, kg⟩ := K
  obtain ⟨G, W, len, R, P, D, Z⟩ := J
  have rm := R.room G.1.2.2.2.1 hd
  have SC := SCm_SRd a n0
  refine c_adv P (fun h2 f2 P2 => ?_)
  rw [show m_X10_takeNumber 0 399 = m_X10_takeNumber (n32 0) (n32 399) from rfl]
  refine c_takeNumber (by decide) (by decide) P2 (fun h4 f4 P4 => ?_)
  rw [pm_num]
  have eg : gN T 4 t = sNum T 0 399 (.inr (nxt T t)) := by unfold gN; rfl
  rw [← eg] at P4 ⊢
  have nb : (gN T 4 t).2 ≤ 399 := gN_4
  have f04 : fr SCm h h4 := f2.trans f4
  have D4 := D.mv f04 (by unfold SCm; omega) (by unfold SCm; omega)
  have Z4 := Z.mvS f04
  have C4 := C.mv f04 (by unfold SCm; omega)
  have av : t.2.1 ≤ (nxt T t).2.1 := by have := nxt_from P.2.2.2; have := P.2.2.2.le; omega
  cases hs : (gN T 4 t).1 with
  | inl e =>
    rw [hs] at P4
    have er : r = .inl e := (grp_mac hm (by decide) pk).1 e (by unfold grS; rw [if_neg (by omega), hs]; rfl)
    refine ⟨fun y => absurd rfl y, fun _ => kb h4 e er P4 ⟨f04.mono SC, n0 + (shR b E).2.1.length, Z4.2.1, by omega, by omega⟩⟩
  | inr t2 =>
    rw [hs] at P4
    have B := blkP_grp hm (by decide) (by decide) pk (by omega) hs G W len R
    have hz : (shR b (E ++ [gEv T 4 t])).2.1 = [] := by rw [shR_snoc]; unfold gEv; rw [shp_opn (by decide) (by decide)]
    have hz1 : (shR b (E ++ [gEv T 4 t])).1 = ((gN T 4 t).2, (shR b E).2.1, []) :: (shR b E).1 := by rw [shR_snoc]; unfold gEv; rw [shp_opn (by decide) (by decide)]
    have hz2 : (shR b (E ++ [gEv T 4 t])).2.2 = (shR b E).2.2 := by rw [shR_snoc]; unfold gEv; rw [shp_opn (by decide) (by decide)]
    have hK : sK (run b (E ++ [gEv T 4 t])) = opened (run b E) 4 (gN T 4 t).2 :: sK (run b E) := by rw [run_snoc]; unfold gEv; rw [stp_open (by decide) (by decide)]; rfl
    have hok : okPB (.inr t2 : PS) = true := rfl
    rw [hok, if_pos rfl, pmS, n32_m1 (by omega)]
    refine ⟨fun _ => ?_, fun y => y.elim⟩
    rw [show m_X8_begin (-3) = m_X8_begin (ce 4) from rfl]
    refine c_begin Z4.2.1 (by omega) (fun h6 f6 x0 x2 xc => ?_)
    have C6 := C4.mv f6 (by unfold SSh; omega)
    have D6 := D4.mv f6 (by unfold SSh; omega) (by unfold SSh; omega)
    have P6 := P4.mv f6 (by unfold SSh; omega) (by unfold SSh; omega)
    have Cc6 : Cel n0 (shR b E).2.1 h6 := Z4.2.2.mv f6 (by unfold SSh; omega)
    rw [C6.1, n32_add]
    have f7 : fr (fun q j => q = 4 ∧ j = 4) h6 (wI h6 4 4 (n32 (ctx (sK (run b E)) 4 + (gN T 4 t).2))) := fr_wI (fr.rf _ _) _ ⟨rfl, rfl⟩
    have e7 : hI (wI h6 4 4 (n32 (ctx (sK (run b E)) 4 + (gN T 4 t).2))) 4 4 = n32 (ctx (sK (run b E)) 4 + (gN T 4 t).2) := by rw [hI_wI, if_pos ⟨rfl, rfl⟩]
    generalize wI h6 4 4 (n32 (ctx (sK (run b E)) 4 + (gN T 4 t).2)) = h7 at f7 e7
    have C7 : CxC (ctx (sK (run b (E ++ [gEv T 4 t])))) h7 := by
      rw [hK]
      show CxC (opened (run b E) 4 (gN T 4 t).2) h7
      obtain ⟨y4, y5, y6, y7⟩ := C6
      exact ⟨e7, by rw [f7.I (by omega)]; exact y5, by rw [f7.I (by omega)]; exact y6, by rw [f7.I (by omega)]; exact y7⟩
    have D7 : DlC a (run b (E ++ [gEv T 4 t])) h7 := by
      rw [run_snoc]; unfold gEv; rw [stp_open (by decide) (by decide)]
      exact D6.mv f7 (by omega) (by omega)
    have Z7 : ShC (n0 + (shR b E).2.1.length + 3) (shR b (E ++ [gEv T 4 t])) h7 := by
      refine ⟨by rw [hz2, f7.I (by omega), x0]; exact Z4.1, by rw [hz, f7.I (by omega), x2]; rfl, by rw [hz]; exact Cel.nil _ _⟩
    have P7 := P6.mv f7 (by omega) (by omega)
    have F7 : fr (SRd a (n0 + (shR b E).2.1.length)) h h7 := ((f04.mono (SCm_SRd _ _)).trans (f6.mono (by unfold SRd; exact fun _ _ y => Or.inr (Or.inr (Or.inl y))))).trans (f7.mono (by unfold SRd; omega))
    have d0 : hI h7 6 (n0 + (shR b E).2.1.length) = ce 4 := by rw [f7.I (by omega)]; exact xc 0 (by show 0 < 3; decide)
    have d1 : hI h7 6 (n0 + (shR b E).2.1.length + 1) = n32 (gN T 4 t).2 := by rw [f7.I (by omega)]; exact (xc 1 (by show 1 < 3; decide)).trans (ce_num _)
    have Cc7 := Cc6.mv f7 (by omega)
    refine c_readBlock (E1 := E ++ [gEv T 4 t]) ha H hd P7 B hz C7 D7 Z7 (by omega) (fun h8 e er P8 w => ?_) (fun h8 n' t' E2 mf hm' q125 le J8 sk sh f8 C8 => ?_)
    · obtain ⟨f8, fl, w1, w2, w3⟩ := w
      have f9 : fr (fun q j => q = 4 ∧ j = 4) h8 (wI h8 4 4 ((hI h8 4 4) - n32 (gN T 4 t).2)) := fr_wI (fr.rf _ _) _ ⟨rfl, rfl⟩
      generalize wI h8 4 4 ((hI h8 4 4) - n32 (gN T 4 t).2) = h9 at f9
      have w1' : hI h9 5 2 = n32 fl := by rw [f9.I (by omega)]; exact w1
      refine c_endOneW w1' (by omega) w3 (fun h10 fl' f10 v1 v2 v3 => ⟨Or.inl rfl, kb h10 e er ((P8.mv f9 (by omega) (by omega)).mv f10 (by unfold SSh; omega) (by unfold SSh; omega)) ⟨?_, fl', v1, by omega, v3⟩⟩)
      exact (((F7.mono (SRd.le (by omega))).trans (f8.mono (SRd.le (by omega)))).trans (f9.mono (by unfold SRd; omega))).trans (f10.mono (by unfold SRd SSh; omega))
    · have d6 : d < 6 := by have := J8.1.1.2.2.2.2.1; have := J8.2.2.1; omega
      have K2 : sK (run b E2) = opened (run b E) 4 (gN T 4 t).2 :: sK (run b E) := sk.trans hK
      have o0 := opened_0 (s := run b E) (n := (gN T 4 t).2) (show 4 ≤ 4 by decide) (by decide)
      have o2 := opened_2 (run b E) 4 (gN T 4 t).2
      rw [hK] at C8
      have C8' : CxC (opened (run b E) 4 (gN T 4 t).2) h8 := C8
      obtain ⟨n2, hm2⟩ := mac_end9 hm' q125 K2 (isTwo_no (Or.inr (by omega)))
      have z4 : hI h8 4 4 = n32 (ctx (sK (run b E)) 4 + (gN T 4 t).2) := C8'.1
      rw [z4, n32_sub (by omega), show ctx (sK (run b E)) 4 + (gN T 4 t).2 - (gN T 4 t).2 = ctx (sK (run b E)) 4 by omega]
      have f9 : fr (fun q j => q = 4 ∧ j = 4) h8 (wI h8 4 4 (n32 (ctx (sK (run b E)) 4))) := fr_wI (fr.rf _ _) _ ⟨rfl, rfl⟩
      have e9 : hI (wI h8 4 4 (n32 (ctx (sK (run b E)) 4))) 4 4 = n32 (ctx (sK (run b E)) 4) := by rw [hI_wI, if_pos ⟨rfl, rfl⟩]
      generalize wI h8 4 4 (n32 (ctx (sK (run b E)) 4)) = h9 at f9 e9
      have C9 : CxC (ctx (sK (run b E))) h9 := ⟨e9, by rw [f9.I (by omega)]; exact C8'.2.1, by rw [f9.I (by omega)]; exact C8'.2.2.1, by rw [f9.I (by omega)]; exact C8'.2.2.2⟩
      obtain ⟨g1, g2, g3, g4, g5, g6, g7⟩ := J8
      have J9 : RdJ T a b 1 (n0 + (shR b E).2.1.length + 3) (d + 1) (m0 + m1) mf E2 (nxt T t') h9 := ⟨g1, g2, g3, g4, g5.mv f9 (by omega) (by omega), g6.mv f9 (by omega) (by omega), g7.mv f9 (by omega)⟩
      refine c_close1 ha (by omega) (by omega) d6 R J9 K2 o0 o2 (sh.trans hz1) (by rw [f9.I (by omega), f8.I (by unfold SRd SCm SSh; omega)]; exact d0) (by rw [f9.I (by omega), f8.I (by unfold SRd SCm SSh; omega)]; exact d1) ((Cc7.mv f8 (by unfold SRd SCm SSh; omega)).mv f9 (by omega)) (fun h10 f10 J10 sk10 sh10 => ⟨Or.inr rfl, ?_⟩)
      refine kg h10 n2 (nxt T t') _ _ hm2 ?_ J10 (C9.mv f10 (by unfold SSh; omega)) sk10 sh10 ((((F7.mono (SRd.le (by omega))).trans (f8.mono (SRd.le (by omega)))).trans (f9.mono (by unfold SRd; omega))).trans (f10.mono (by unfold SRd SSh; omega)))
      have a2 : (nxt T t).2.1 ≤ t2.2.1 := by
        have A : AdvP T (nxt T t).2.1 (gN T 4 t).1 := by rw [eg]; exact AdvP.num (fun t0 e0 => by injection e0 with e0; subst e0; exact ⟨P2.2.2.2, Nat.le_refl _⟩)
        exact (A t2 hs).2
      omega
set_option maxHeartbeats 4000000 in
set_option maxRecDepth 100000 in
theorem c_readTimes {T : List Nat} {a b n n0 d m0 m1 : Nat} {r : Nat ⊕ List Ev} {RA : Int32 → Hp → (Int32 → Hp → Prop) → Prop} {t : Tk} {E : List Ev} {h : Hp} {Q : Int32 → Hp → Prop} (ha : 108 ≤ a) (hd : d ≤ 6) (H : d < 6 → RAS T b a r (d + 1) RA) (hm : mac T b (n + 1) 0 t E = some r) (pk : pl T t KNDS = 6) (J : RdJ T a b 0 n0 d m0 m1 E t h) (C : CxC (ctx (sK (run b E))) h) (K : PrtK T b a r n0 d m0 t E h Q) : m_X2_readTimes RA (n32 d) h Q := by
  unfold m_X2_readTimes
  obtain ⟨kb, kg⟩ := K
  obtain ⟨G, W, len, R, P, D, Z⟩ := J
  have rm := R.room G.1.2.2.2.1 hd
  have SC := SCm_SRd a n0
  refine c_adv P (fun h2 f2 P2 => ?_)
  rw [show m_X10_takeNumber 0 9 = m_X10_takeNumber (n32 0) (n32 9) from rfl]
  refine c_takeNumber (by decide) (by decide) P2 (fun h4 f4 P4 => ?_)
  rw [pm_num]
  have eg : gN T 5 t = sNum T 0 9 (.inr (nxt T t)) := by unfold gN; rfl
  rw [← eg] at P4 ⊢
  have nb : (gN T 5 t).2 ≤ 9 := gN_5
  have f04 : fr SCm h h4 := f2.trans f4
  have D4 := D.mv f04 (by unfold SCm; omega) (by unfold SCm; omega)
  have Z4 := Z.mvS f04
  have C4 := C.mv f04 (by unfold SCm; omega)
  have av : t.2.1 ≤ (nxt T t).2.1 := by have := nxt_from P.2.2.2; have := P.2.2.2.le; omega
  cases hs : (gN T 5 t).1 with
  | inl e =>
    rw [hs] at P4
    have er : r = .inl e := (grp_mac hm (by decide) pk).1 e (by unfold grS; rw [if_neg (by omega), hs]; rfl)
    refine ⟨fun y => absurd rfl y, fun _ => kb h4 e er P4 ⟨f04.mono SC, n0 + (shR b E).2.1.length, Z4.2.1, by omega, by omega⟩⟩
  | inr t2 =>
    rw [hs] at P4
    have B := blkP_grp hm (by decide) (by decide) pk (by omega) hs G W len R
    have hz : (shR b (E ++ [gEv T 5 t])).2.1 = [] := by rw [shR_snoc]; unfold gEv; rw [shp_opn (by decide) (by decide)]
    have hz1 : (shR b (E ++ [gEv T 5 t])).1 = ((gN T 5 t).2, (shR b E).2.1, []) :: (shR b E).1 := by rw [shR_snoc]; unfold gEv; rw [shp_opn (by decide) (by decide)]
    have hz2 : (shR b (E ++ [gEv T 5 t])).2.2 = (shR b E).2.2 := by rw [shR_snoc]; unfold gEv; rw [shp_opn (by decide) (by decide)]
    have hK : sK (run b (E ++ [gEv T 5 t])) = opened (run b E) 5 (gN T 5 t).2 :: sK (run b E) := by rw [run_snoc]; unfold gEv; rw [stp_open (by decide) (by decide)]; rfl
    have hok : okPB (.inr t2 : PS) = true := rfl
    rw [hok, if_pos rfl, pmS, n32_m1 (by omega)]
    refine ⟨fun _ => ?_, fun y => y.elim⟩
    rw [show m_X8_begin (-4) = m_X8_begin (ce 5) from rfl]
    refine c_begin Z4.2.1 (by omega) (fun h6 f6 x0 x2 xc => ?_)
    have C6 := C4.mv f6 (by unfold SSh; omega)
    have D6 := D4.mv f6 (by unfold SSh; omega) (by unfold SSh; omega)
    have P6 := P4.mv f6 (by unfold SSh; omega) (by unfold SSh; omega)
    have Cc6 : Cel n0 (shR b E).2.1 h6 := Z4.2.2.mv f6 (by unfold SSh; omega)
    intro x7 ex7
    rw [C6.2.1] at ex7 ⊢
    subst ex7
    rw [n32_mul]
    have f7 : fr (fun q j => q = 4 ∧ j = 5) h6 (wI h6 4 5 (n32 (ctx (sK (run b E)) 5 * (gN T 5 t).2))) := fr_wI (fr.rf _ _) _ ⟨rfl, rfl⟩
    have e7 : hI (wI h6 4 5 (n32 (ctx (sK (run b E)) 5 * (gN T 5 t).2))) 4 5 = n32 (ctx (sK (run b E)) 5 * (gN T 5 t).2) := by rw [hI_wI, if_pos ⟨rfl, rfl⟩]
    generalize wI h6 4 5 (n32 (ctx (sK (run b E)) 5 * (gN T 5 t).2)) = h7 at f7 e7
    have C7 : CxC (ctx (sK (run b (E ++ [gEv T 5 t])))) h7 := by
      rw [hK]
      show CxC (opened (run b E) 5 (gN T 5 t).2) h7
      obtain ⟨y4, y5, y6, y7⟩ := C6
      exact ⟨by rw [f7.I (by omega)]; exact y4, e7, by rw [f7.I (by omega)]; exact y6, by rw [f7.I (by omega)]; exact y7⟩
    have D7 : DlC a (run b (E ++ [gEv T 5 t])) h7 := by
      rw [run_snoc]; unfold gEv; rw [stp_open (by decide) (by decide)]
      exact D6.mv f7 (by omega) (by omega)
    have Z7 : ShC (n0 + (shR b E).2.1.length + 3) (shR b (E ++ [gEv T 5 t])) h7 := by
      refine ⟨by rw [hz2, f7.I (by omega), x0]; exact Z4.1, by rw [hz, f7.I (by omega), x2]; rfl, by rw [hz]; exact Cel.nil _ _⟩
    have P7 := P6.mv f7 (by omega) (by omega)
    have F7 : fr (SRd a (n0 + (shR b E).2.1.length)) h h7 := ((f04.mono (SCm_SRd _ _)).trans (f6.mono (by unfold SRd; exact fun _ _ y => Or.inr (Or.inr (Or.inl y))))).trans (f7.mono (by unfold SRd; omega))
    have d0 : hI h7 6 (n0 + (shR b E).2.1.length) = ce 5 := by rw [f7.I (by omega)]; exact xc 0 (by show 0 < 3; decide)
    have d1 : hI h7 6 (n0 + (shR b E).2.1.length + 1) = n32 (gN T 5 t).2 := by rw [f7.I (by omega)]; exact (xc 1 (by show 1 < 3; decide)).trans (ce_num _)
    have Cc7 := Cc6.mv f7 (by omega)
    refine c_readBlock (E1 := E ++ [gEv T 5 t]) ha H hd P7 B hz C7 D7 Z7 (by omega) (fun h8 e er P8 w => ?_) (fun h8 n' t' E2 mf hm' q125 le J8 sk sh f8 C8 => ?_)
    · obtain ⟨f8, fl, w1, w2, w3⟩ := w
      have f9 : fr (fun q j => q = 4 ∧ j = 5) h8 (wI h8 4 5 (n32 (ctx (sK (run b E)) 5))) := fr_wI (fr.rf _ _) _ ⟨rfl, rfl⟩
      generalize wI h8 4 5 (n32 (ctx (sK (run b E)) 5)) = h9 at f9
      have w1' : hI h9 5 2 = n32 fl := by rw [f9.I (by omega)]; exact w1
      refine c_endOneW w1' (by omega) w3 (fun h10 fl' f10 v1 v2 v3 => ⟨Or.inl rfl, kb h10 e er ((P8.mv f9 (by omega) (by omega)).mv f10 (by unfold SSh; omega) (by unfold SSh; omega)) ⟨?_, fl', v1, by omega, v3⟩⟩)
      exact (((F7.mono (SRd.le (by omega))).trans (f8.mono (SRd.le (by omega)))).trans (f9.mono (by unfold SRd; omega))).trans (f10.mono (by unfold SRd SSh; omega))
    · have d6 : d < 6 := by have := J8.1.1.2.2.2.2.1; have := J8.2.2.1; omega
      have K2 : sK (run b E2) = opened (run b E) 5 (gN T 5 t).2 :: sK (run b E) := sk.trans hK
      have o0 := opened_0 (s := run b E) (n := (gN T 5 t).2) (show 4 ≤ 5 by decide) (by decide)
      have o2 := opened_2 (run b E) 5 (gN T 5 t).2
      rw [hK] at C8
      have C8' : CxC (opened (run b E) 5 (gN T 5 t).2) h8 := C8
      obtain ⟨n2, hm2⟩ := mac_end9 hm' q125 K2 (isTwo_no (Or.inr (by omega)))
      have f9 : fr (fun q j => q = 4 ∧ j = 5) h8 (wI h8 4 5 (n32 (ctx (sK (run b E)) 5))) := fr_wI (fr.rf _ _) _ ⟨rfl, rfl⟩
      have e9 : hI (wI h8 4 5 (n32 (ctx (sK (run b E)) 5))) 4 5 = n32 (ctx (sK (run b E)) 5) := by rw [hI_wI, if_pos ⟨rfl, rfl⟩]
      generalize wI h8 4 5 (n32 (ctx (sK (run b E)) 5)) = h9 at f9 e9
      have C9 : CxC (ctx (sK (run b E))) h9 := ⟨by rw [f9.I (by omega)]; exact C8'.1, e9, by rw [f9.I (by omega)]; exact C8'.2.2.1, by rw [f9.I (by omega)]; exact C8'.2.2.2⟩
      obtain ⟨g1, g2, g3, g4, g5, g6, g7⟩ := J8
      have J9 : RdJ T a b 1 (n0 + (shR b E).2.1.length + 3) (d + 1) (m0 + m1) mf E2 (nxt T t') h9 := ⟨g1, g2, g3, g4, g5.mv f9 (by omega) (by omega), g6.mv f9 (by omega) (by omega), g7.mv f9 (by omega)⟩
      refine c_close1 ha (by omega) (by omega) d6 R J9 K2 o0 o2 (sh.trans hz1) (by rw [f9.I (by omega), f8.I (by unfold SRd SCm SSh; omega)]; exact d0) (by rw [f9.I (by omega), f8.I (by unfold SRd SCm SSh; omega)]; exact d1) ((Cc7.mv f8 (by unfold SRd SCm SSh; omega)).mv f9 (by omega)) (fun h10 f10 J10 sk10 sh10 => ⟨Or.inr rfl, ?_⟩)
      refine kg h10 n2 (nxt T t') _ _ hm2 ?_ J10 (C9.mv f10 (by unfold SSh; omega)) sk10 sh10 ((((F7.mono (SRd.le (by omega))).trans (f8.mono (SRd.le (by omega)))).trans (f9.mono (by unfold SRd; omega))).trans (f10.mono (by unfold SRd SSh; omega)))
      have a2 : (nxt T t).2.1 ≤ t2.2.1 := by
        have A : AdvP T (nxt T t).2.1 (gN T 5 t).1 := by rw [eg]; exact AdvP.num (fun t0 e0 => by injection e0 with e0; subst e0; exact ⟨P2.2.2.2, Nat.le_refl _⟩)
        exact (A t2 hs).2
      omega
