/-! THE MODEL: a group opens, whole -/
set_option maxHeartbeats 4000000 in
set_option maxRecDepth 100000 in
theorem q_readGroup {T : List Nat} {b kd : Nat} {t : Tk} {s : St} {h : Hp} {Q : Hp → Prop} (h4 : 4 ≤ kd) (h7 : kd ≤ 7) (P : PM T (.inr t) h) (D : DM b s h) (G : GB b s 0)
    (k : ∀ h', fr (SDl b (sN s)) h h' → PM T (grS T kd t s) h' → (okP (grS T kd t s) → DM b (stp s (gEv T kd t)) h' ∧ (kd = 7 → hI h' 64 (sN s) = n32 (gN T kd t).2)) → Q h') : m_X12_readGroup (n32 kd) h Q := by
  unfold m_X12_readGroup
  obtain ⟨g0, g1, g2, g3, g4, g5, g6⟩ := id G
  rw [if_pos rfl] at g2
  have hi : sN s < 2304 := by omega
  unfold grS at k
  have main : ¬ (kd = 7 ∧ sC s = 3) → m_X12_readGroup_19 Q (n32 kd) h := by
    intro q
    rw [if_neg q] at k
    unfold m_X12_readGroup_19
    refine q_newNode D G (fun h1 f1 e33 N1 => ?_)
    have fin := fun (h2 : Hp) => q_grEnd (T := T) (t := t) (h2 := h2) (Q := Q) h4 h7 D G f1 e33 N1 k
    refine q_nx (P.mv f1 (by unfold SNw; omega) (by unfold SNw; omega)) (fun h2 f2 P2 => ?_)
    have f2' : fr (SGr (sN s)) h1 h2 := f2.mono (fun _ _ h => Or.inl h)
    have c35 : hI h2 51 35 = n32 (sC s) := by rw [f2.I (by unfold SPr; omega), f1.I (by unfold SNw; omega)]; exact D.2.2.2.1
    have c36 : hI h2 51 36 = n32 (sE s) := by rw [f2.I (by unfold SPr; omega), f1.I (by unfold SNw; omega)]; exact D.2.2.2.2.1
    have hkd : kd = 4 ∨ kd = 5 ∨ kd = 6 ∨ kd = 7 := by omega
    rcases hkd with rfl | rfl | rfl | rfl
    · refine ⟨fun z => absurd rfl z, fun _ => ?_⟩
      refine q_num (lo := 0) (hi := 399) P2 (fun _ => ⟨rfl, by decide⟩) rfl (by decide) (fun h3 f3 P3 => ⟨vpI hi (by decide), ?_⟩)
      rw [n32_ix (by omega), show n32 (sNum T 0 399 (.inr (nxt T t))).2 = n32 (gN T 4 t).2 from rfl]
      have fw : fr (fun a k => a = 59 ∧ k = sN s) h3 (wI h3 59 (sN s) (n32 (gN T 4 t).2)) := fr_wI (fr.rf _ _) _ ⟨rfl, rfl⟩
      refine ⟨fun _ => ⟨fun _ => ⟨fun _ => ?_, fun z => absurd z (by decide)⟩, fun z => absurd z (by decide)⟩, fun z => absurd z (by decide)⟩
      refine fin _ ((f2'.trans (f3.mono (fun _ _ h => Or.inl h))).trans (fw.mono (fun a k h => Or.inr (Or.inl (by omega))))) (P3.mv fw (by omega) (by omega)) (fun _ => ⟨?_, ?_, ?_, fun z => absurd z (by decide)⟩)
      · rw [hI_wI, if_pos ⟨rfl, rfl⟩]; rfl
      · rw [fw.I (by omega), f3.I (by unfold SPr; omega)]; exact c35
      · rw [fw.I (by omega), f3.I (by unfold SPr; omega)]; exact c36
    · refine ⟨fun _ => ?_, fun z => absurd z (by decide)⟩
      refine ⟨fun z => absurd rfl z, fun _ => ?_⟩
      refine q_num (lo := 0) (hi := 9) P2 (fun _ => ⟨rfl, by decide⟩) rfl (by decide) (fun h3 f3 P3 => ⟨vpI hi (by decide), ?_⟩)
      rw [n32_ix (by omega), show n32 (sNum T 0 9 (.inr (nxt T t))).2 = n32 (gN T 5 t).2 from rfl]
      have fw : fr (fun a k => a = 59 ∧ k = sN s) h3 (wI h3 59 (sN s) (n32 (gN T 5 t).2)) := fr_wI (fr.rf _ _) _ ⟨rfl, rfl⟩
      refine ⟨fun _ => ⟨fun _ => ?_, fun z => absurd z (by decide)⟩, fun z => absurd z (by decide)⟩
      refine fin _ ((f2'.trans (f3.mono (fun _ _ h => Or.inl h))).trans (fw.mono (fun a k h => Or.inr (Or.inl (by omega))))) (P3.mv fw (by omega) (by omega)) (fun _ => ⟨?_, ?_, ?_, fun z => absurd z (by decide)⟩)
      · rw [hI_wI, if_pos ⟨rfl, rfl⟩]; rfl
      · rw [fw.I (by omega), f3.I (by unfold SPr; omega)]; exact c35
      · rw [fw.I (by omega), f3.I (by unfold SPr; omega)]; exact c36
    · refine ⟨fun _ => ⟨fun _ => ⟨fun z => absurd rfl z, fun _ => ?_⟩, fun z => absurd z (by decide)⟩, fun z => absurd z (by decide)⟩
      have O2 := P2.2.2.2.2
      have pe := pl_le T (nxt T t) EVTS
      have pe5 : EVTS.length = 5 := rfl
      refine q_eventHere P2.2.2.2.1 O2 ⟨vpI hi (by decide), vpI hi (by decide), ?_⟩
      rw [n32_ix (by omega)]
      have fw : fr (fun a k => a = 59 ∧ k = sN s) h2 (wI h2 59 (sN s) (pm (pl T (nxt T t) EVTS))) := fr_wI (fr.rf _ _) _ ⟨rfl, rfl⟩
      have e59 : hI (wI h2 59 (sN s) (pm (pl T (nxt T t) EVTS))) 59 (sN s) = pm (pl T (nxt T t) EVTS) := by rw [hI_wI, if_pos ⟨rfl, rfl⟩]
      have w36 : hI (wI h2 59 (sN s) (pm (pl T (nxt T t) EVTS))) 51 36 = n32 (sE s) := by rw [fw.I (by omega)]; exact c36
      have w35 : hI (wI h2 59 (sN s) (pm (pl T (nxt T t) EVTS))) 51 35 = n32 (sC s) := by rw [fw.I (by omega)]; exact c35
      have Pw := P2.mv fw (by omega) (by omega)
      rw [e59, w36]
      generalize wI h2 59 (sN s) (pm (pl T (nxt T t) EVTS)) = h3 at fw e59 w35 Pw
      have f3 : fr (SGr (sN s)) h1 h3 := f2'.trans (fw.mono (fun a k h => Or.inr (Or.inl (by omega))))
      by_cases qe : pl T (nxt T t) EVTS = 0
      · have eg : gN T 6 t = (.inl (nxt T t).2.1, 0) := by
          show sEvt T (.inr (nxt T t)) = _
          unfold sEvt
          dsimp only
          rw [if_pos qe]
        rw [qe]
        refine ⟨fun z => absurd z (by decide), fun _ => ?_⟩
        rw [eg] at k
        refine q_errs Pw (fun h' f' P' => k h' (((f1.mono (SNw_SDl g1)).trans (f3.mono (SGr_SDl g1))).trans (f'.mono (SPr_SDl b (sN s)))) P' (fun o => absurd o (fun z => z)))
      · have eg : gN T 6 t = (.inr (nxt T (nxt T t)), pl T (nxt T t) EVTS - 1) := by
          show sEvt T (.inr (nxt T t)) = _
          unfold sEvt
          dsimp only
          rw [if_neg qe]
        refine ⟨fun _ => ⟨vpI hi (by decide), ?_⟩, fun z => absurd ((pm_ge0 (by omega)).mpr (by omega)) z⟩
        have hp2 : 2 ^ (pl T (nxt T t) EVTS - 1) ≤ 2 ^ 4 := pw_le (by omega)
        rw [pm_n32 (show 0 < pl T (nxt T t) EVTS by omega), show (1 : Int32) = n32 1 from rfl, show (31 : Int32) = n32 31 from rfl, shl1 (by omega), n32_or (by omega) (by omega)]
        have fv : fr (fun a k => a = 51 ∧ k = 36) h3 (wI h3 51 36 (n32 (sE s ||| 2 ^ (pl T (nxt T t) EVTS - 1)))) := fr_wI (fr.rf _ _) _ ⟨rfl, rfl⟩
        have v36 : hI (wI h3 51 36 (n32 (sE s ||| 2 ^ (pl T (nxt T t) EVTS - 1)))) 51 36 = n32 (sE s ||| 2 ^ (pl T (nxt T t) EVTS - 1)) := by rw [hI_wI, if_pos ⟨rfl, rfl⟩]
        generalize wI h3 51 36 (n32 (sE s ||| 2 ^ (pl T (nxt T t) EVTS - 1))) = h4' at fv v36
        refine q_nx (Pw.mv fv (by omega) (by omega)) (fun h5 f5 P5 => ⟨fun _ => ?_, fun z => absurd z (by decide)⟩)
        refine fin h5 ((f3.trans (fv.mono (fun a k h => Or.inr (Or.inr (by omega))))).trans (f5.mono (fun _ _ h => Or.inl h))) (by rw [eg]; exact P5) (fun _ => ⟨?_, ?_, ?_, fun z => absurd z (by decide)⟩)
        · rw [f5.I (by unfold SPr; omega), fv.I (by omega), e59, pm_n32 (by omega), if_neg (by decide), eg]
        · rw [f5.I (by unfold SPr; omega), fv.I (by omega)]; exact w35
        · rw [f5.I (by unfold SPr; omega), v36, if_pos rfl, eg]
    · refine ⟨fun _ => ⟨fun _ => ⟨fun _ => ⟨fun z => absurd rfl z, fun _ => ?_⟩, fun z => absurd z (by decide)⟩, fun z => absurd z (by decide)⟩, fun z => absurd z (by decide)⟩
      refine q_hand (nt := 0) P2 (fun _ => ⟨rfl, by decide⟩) (fun h3 f3 P3 => ⟨vpI hi (by decide), vpI hi (by decide), ?_⟩)
      have P3' : PM T (gN T 7 t).1 h3 := P3
      rw [n32_ix (by omega)]
      have d35 : hI h3 51 35 = n32 (sC s) := by rw [f3.I (by unfold SPr; omega)]; exact c35
      have d36 : hI h3 51 36 = n32 (sE s) := by rw [f3.I (by unfold SPr; omega)]; exact c36
      have ev : n32 (sHnd T 0 (.inr (nxt T t))).2 = n32 (gN T 7 t).2 := rfl
      rw [ev]
      have a35 : hI (wI h3 64 (sN s) (n32 (gN T 7 t).2)) 51 35 = n32 (sC s) := by rw [hI_wI, if_neg (by omega)]; exact d35
      rw [a35]
      have b35 : hI (wI (wI h3 64 (sN s) (n32 (gN T 7 t).2)) 59 (sN s) (n32 (sC s))) 51 35 = n32 (sC s) := by rw [hI_wI, if_neg (by omega)]; exact a35
      rw [b35, show n32 (sC s) + 1 = n32 (sC s + 1) from n32_add _ 1]
      have fw : fr (fun a k => (a = 59 ∨ a = 64) ∧ k = sN s ∨ a = 51 ∧ k = 35) h3 (wI (wI (wI h3 64 (sN s) (n32 (gN T 7 t).2)) 59 (sN s) (n32 (sC s))) 51 35 (n32 (sC s + 1))) := fr_wI (fr_wI (fr_wI (fr.rf _ _) _ (by omega)) _ (by omega)) _ (by omega)
      refine fin _ ((f2'.trans (f3.mono (fun _ _ h => Or.inl h))).trans (fw.mono (fun a k h => Or.inr (by omega)))) (P3'.mv fw (by omega) (by omega)) (fun _ => ⟨?_, ?_, ?_, fun _ => ?_⟩)
      · rw [hI_wI, if_neg (by omega), hI_wI, if_pos ⟨rfl, rfl⟩, if_pos rfl]
      · rw [hI_wI, if_pos ⟨rfl, rfl⟩, if_pos rfl]
      · rw [fw.I (by omega), if_neg (by decide)]; exact d36
      · rw [hI_wI, if_neg (by omega), hI_wI, if_neg (by omega), hI_wI, if_pos ⟨rfl, rfl⟩]
  rw [show (7 : Int32) = n32 7 from rfl, n32_eq (by omega) (by decide), D.2.2.2.1, show (3 : Int32) = n32 3 from rfl, n32_eq (by omega) (by decide)]
  refine ⟨fun z => main (fun y => z y.1), fun z => ⟨fun z2 => main (fun y => z2 y.2), fun z2 => ?_⟩⟩
  rw [if_pos ⟨z, z2⟩] at k
  exact q_errs P (fun h' f' P' => k h' (f'.mono (SPr_SDl b (sN s))) P' (fun o => absurd o (fun z => z)))
