/-! THE CLASS: a statement is read, whole; statements, one after the other -/
theorem one0 : ¬ (1 : Int32) = 0 := by decide
def SRs (c i a k : Nat) : Prop := SCm a k ∨ a = c ∧ 6 * i ≤ k ∧ k < 6 * i + 6
set_option maxHeartbeats 4000000 in
set_option maxRecDepth 100000 in
theorem c_rs105 {T : List Nat} {t : Tk} {h : Hp} {Q : Int32 → Hp → Prop} (P : CM T (.inr t) h) (k : ∀ h', fr SCm h h' → CM T (sEnd T 59 (.inr t)) h' → Q (bI (okPB (sEnd T 59 (.inr t)))) h') : m_X6_readStatement_105 Q h := by
  unfold m_X6_readStatement_105
  rw [show m_X10_takeSign 59 = m_X10_takeSign (n32 59) from rfl]
  refine c_takeSign (by decide) P (fun h' f' P' => ?_)
  have kk := k h' f' P'
  unfold sEnd at kk
  dsimp only at kk
  by_cases q : t.1 = 59
  · rw [if_pos q] at kk
    rw [decide_eq_true q]
    exact ⟨Or.inr rfl, kk⟩
  · rw [if_neg q] at kk
    rw [decide_eq_false q]
    exact ⟨Or.inl rfl, kk⟩
set_option maxHeartbeats 4000000 in
set_option maxRecDepth 100000 in
theorem c_readStatement {T : List Nat} {t : Tk} {a i : Nat} {h : Hp} {Q : Int32 → Hp → Prop} (ha : 108 ≤ a) (hi : i < 16) (P : CM T (.inr t) h) (k : ∀ h', fr (SRs (a + 1) i) h h' → CM T (brS T (.inr t)) h' → (okP (brS T (.inr t)) → CStm (brR T (.inr t)) h' (a + 1) i) → Q (bI (okPB (brS T (.inr t)))) h') : m_X6_readStatement a (n32 (6 * i)) h Q := by
  unfold m_X6_readStatement
  rw [show n32 (6 * i) + 2 = n32 (6 * i + 2) from n32_add _ 2, show n32 (6 * i) + 3 = n32 (6 * i + 3) from n32_add _ 3, show n32 (6 * i) + 4 = n32 (6 * i + 4) from n32_add _ 4, show n32 (6 * i) + 5 = n32 (6 * i + 5) from n32_add _ 5, show n32 (6 * i) + 0 = n32 (6 * i) from n32_add _ 0, n32_ix (by omega), n32_ix (by omega), n32_ix (by omega), n32_ix (by omega)]
  refine ⟨vpI (by omega) (by decide), vpI (by omega) (by decide), vpI (by omega) (by decide), vpI (by omega) (by decide), ?_⟩
  have f0 : fr (SRs (a + 1) i) h (wI (wI (wI (wI h (a + 1) (6 * i + 2) (-1)) (a + 1) (6 * i + 3) (-1)) (a + 1) (6 * i + 4) 0) (a + 1) (6 * i + 5) (-1)) := fr_wI (fr_wI (fr_wI (fr_wI (fr.rf _ _) _ (Or.inr (by omega))) _ (Or.inr (by omega))) _ (Or.inr (by omega))) _ (Or.inr (by omega))
  have g0 : fr (fun b _ => b = a + 1) h (wI (wI (wI (wI h (a + 1) (6 * i + 2) (-1)) (a + 1) (6 * i + 3) (-1)) (a + 1) (6 * i + 4) 0) (a + 1) (6 * i + 5) (-1)) := fr_wI (fr_wI (fr_wI (fr_wI (fr.rf _ _) _ (by rfl)) _ (by rfl)) _ (by rfl)) _ (by rfl)
  have z2 : hI (wI (wI (wI (wI h (a + 1) (6 * i + 2) (-1)) (a + 1) (6 * i + 3) (-1)) (a + 1) (6 * i + 4) 0) (a + 1) (6 * i + 5) (-1)) (a + 1) (6 * i + 2) = -1 := by rw [hI_wI, if_neg (by omega), hI_wI, if_neg (by omega), hI_wI, if_neg (by omega), hI_wI, if_pos ⟨rfl, rfl⟩]
  have z4 : hI (wI (wI (wI (wI h (a + 1) (6 * i + 2) (-1)) (a + 1) (6 * i + 3) (-1)) (a + 1) (6 * i + 4) 0) (a + 1) (6 * i + 5) (-1)) (a + 1) (6 * i + 4) = n32 0 := by rw [hI_wI, if_neg (by omega), hI_wI, if_pos ⟨rfl, rfl⟩]; rfl
  have z5 : hI (wI (wI (wI (wI h (a + 1) (6 * i + 2) (-1)) (a + 1) (6 * i + 3) (-1)) (a + 1) (6 * i + 4) 0) (a + 1) (6 * i + 5) (-1)) (a + 1) (6 * i + 5) = -1 := by rw [hI_wI, if_pos ⟨rfl, rfl⟩]
  generalize wI (wI (wI (wI h (a + 1) (6 * i + 2) (-1)) (a + 1) (6 * i + 3) (-1)) (a + 1) (6 * i + 4) 0) (a + 1) (6 * i + 5) (-1) = h0 at f0 g0 z2 z4 z5
  have P0 := P.mv g0 (by omega) (by omega)
  have SC : ∀ b q, SCm b q → SRs (a + 1) i b q := fun _ _ z => Or.inl z
  refine c_takeWord (v := 10) wBar (by decide) rfl P0 (fun h1 f1 P1 => ?_)
  cases hb : isW T t wBar with
  | false =>
    have em : sMust T wBar (.inr t) = .inl t.2.1 := by unfold sMust; dsimp only; rw [hb, if_neg (by decide)]
    rw [em] at P1
    have eb3 : b3 T (.inr t) = (.inl t.2.1, 0) := by unfold b3 b2; rw [em]; rfl
    have es : brS T (.inr t) = .inl t.2.1 := by unfold brS; rw [eb3]; rfl
    rw [es] at k
    exact ⟨fun _ => k h1 (f0.trans (f1.mono SC)) P1 (fun o => absurd o (fun z => z)), fun z => absurd rfl z⟩
  | true =>
    have em : sMust T wBar (.inr t) = .inr (nxt T t) := by unfold sMust; dsimp only; rw [hb, if_pos rfl]
    rw [em] at P1
    refine ⟨fun z => absurd z (by decide), fun _ => ?_⟩
    refine c_readForm ha (by omega) P1 (fun h2 f2 P2 o2 => ?_)
    have eb2 : b2 T (.inr t) = sFrm T (.inr (nxt T t)) := by unfold b2; rw [em]
    have eb3 : b3 T (.inr t) = sOfT T (sFrm T (.inr (nxt T t))).1 := by unfold b3; rw [eb2]
    rw [← eb3] at P2 o2 ⊢
    rw [← eb2] at o2
    have f02 : fr (SRs (a + 1) i) h h2 := (f0.trans (f1.mono SC)).trans (f2.mono (by unfold SRf SRs SCm; omega))
    have y2 : hI h2 (a + 1) (6 * i + 2) = -1 := by rw [f2.I (by unfold SRf SCm; omega), f1.I (by unfold SCm; omega)]; exact z2
    have y4 : hI h2 (a + 1) (6 * i + 4) = n32 0 := by rw [f2.I (by unfold SRf SCm; omega), f1.I (by unfold SCm; omega)]; exact z4
    have y5 : hI h2 (a + 1) (6 * i + 5) = -1 := by rw [f2.I (by unfold SRf SCm; omega), f1.I (by unfold SCm; omega)]; exact z5
    cases hs3 : (b3 T (.inr t)).1 with
    | inl e =>
      rw [hs3] at P2
      have es : brS T (.inr t) = .inl e := by unfold brS; rw [hs3]; rfl
      rw [es] at k
      exact ⟨fun z => absurd rfl z, fun _ => k h2 f02 P2 (fun o => absurd o (fun z => z))⟩
    | inr t3 =>
      rw [hs3] at P2 o2
      obtain ⟨c0, c1⟩ := o2 trivial
      refine ⟨fun _ => ?_, fun z => absurd z one0⟩
      refine c_isWord (v := 13) wThen (by decide) rfl P2 ?_
      cases ht : isW T t3 wThen with
      | false =>
        have eth : isThen T (b3 T (.inr t)).1 = false := by rw [hs3]; exact ht
        have es : brS T (.inr t) = sEnd T 59 (.inr t3) := by unfold brS; rw [eth, hs3, if_neg (by decide)]
        rw [es] at k
        refine ⟨fun _ => c_rs105 P2 (fun h3 f3 P3 => k h3 (f02.trans (f3.mono SC)) P3 (fun _ => ?_)), fun z => absurd rfl z⟩
        unfold CStm brR
        rw [eth]
        have w3 : ∀ q, hI h3 (a + 1) q = hI h2 (a + 1) q := fun q => f3.I (by unfold SCm; omega)
        rw [w3, w3, w3, w3, w3, w3]
        exact ⟨c0, c1, y2, fun z => absurd (show (0 : Nat) = 1 from z) (by decide), y4, y5⟩
      | true =>
        have eth : isThen T (b3 T (.inr t)).1 = true := by rw [hs3]; exact ht
        refine ⟨fun z => absurd z (by decide), fun _ => ?_⟩
        refine c_adv P2 (fun h3 f3 P3 => ?_)
        refine c_readForm (j := 6 * i + 2) ha (by omega) P3 (fun h4 f4 P4 o4 => ?_)
        have eb5 : b5 T (.inr t) = sFrm T (.inr (nxt T t3)) := by unfold b5; rw [hs3]; rfl
        have eb6 : b6 T (.inr t) = sOfT T (sFrm T (.inr (nxt T t3))).1 := by unfold b6; rw [eb5]
        rw [← eb6] at P4 o4 ⊢
        rw [← eb5] at o4
        have f04 : fr (SRs (a + 1) i) h h4 := (f02.trans (f3.mono SC)).trans (f4.mono (by unfold SRf SRs SCm; omega))
        have d0 : hI h4 (a + 1) (6 * i) = n32 (b2 T (.inr t)).2 := by rw [f4.I (by unfold SRf SCm; omega), f3.I (by unfold SCm; omega)]; exact c0
        have d1 : hI h4 (a + 1) (6 * i + 1) = pm (b3 T (.inr t)).2 := by rw [f4.I (by unfold SRf SCm; omega), f3.I (by unfold SCm; omega)]; exact c1
        have d4 : hI h4 (a + 1) (6 * i + 4) = n32 0 := by rw [f4.I (by unfold SRf SCm; omega), f3.I (by unfold SCm; omega)]; exact y4
        have d5 : hI h4 (a + 1) (6 * i + 5) = -1 := by rw [f4.I (by unfold SRf SCm; omega), f3.I (by unfold SCm; omega)]; exact y5
        cases hs6 : (b6 T (.inr t)).1 with
        | inl e =>
          rw [hs6] at P4
          have es : brS T (.inr t) = .inl e := by unfold brS b8 b7; rw [eth, if_pos rfl, hs6]; rfl
          rw [es] at k
          exact ⟨fun z => absurd rfl z, fun _ => k h4 f04 P4 (fun o => absurd o (fun z => z))⟩
        | inr t6 =>
          rw [hs6] at P4 o4
          obtain ⟨d2, d3⟩ := o4 trivial
          refine ⟨fun _ => ?_, fun z => absurd z one0⟩
          unfold m_X6_readTies
          refine ⟨601, c_ties (Q := _) ha (show 6 * i + 4 < 96 by omega) 600 0 0 (T.length + 1) t6 h4 rfl (Nat.zero_le _) (by omega) P4 (by decide) d4 (fun h5 t7 f5 et P5 e5 => ?_)⟩
          have eb7 : b7 T (.inr t) = (.inr t7, (b7 T (.inr t)).2) := by unfold b7; rw [hs6]; exact et
          have ev7 : (tieL T (T.length + 1) 0 (.inr t6)).2 = (b7 T (.inr t)).2 := by unfold b7; rw [hs6]
          rw [ev7] at e5
          have f05 := f04.trans (f5.mono (by unfold SRt SRs SCm; omega))
          refine c_readWithin ha (show 6 * i + 5 < 96 by omega) P5 (by rw [f5.I (by unfold SRt SCm; omega)]; exact d5) (fun h6 f6 P6 o6 => ?_)
          have eb8 : b8 T (.inr t) = sWit T (.inr t7) := by unfold b8; rw [eb7]
          rw [← eb8] at P6 o6 ⊢
          have f06 := f05.trans (f6.mono (by unfold SRt SRs SCm; omega))
          have es : brS T (.inr t) = sEnd T 59 (b8 T (.inr t)).1 := by unfold brS; rw [eth, if_pos rfl]
          rw [es] at k
          cases hs8 : (b8 T (.inr t)).1 with
          | inl e =>
            rw [hs8] at P6 k
            exact ⟨fun z => absurd rfl z, fun _ => k h6 f06 P6 (fun o => absurd o (fun z => z))⟩
          | inr t8 =>
            rw [hs8] at P6 k o6
            have d6 := o6 trivial
            refine ⟨fun _ => c_rs105 P6 (fun h7 f7 P7 => k h7 (f06.trans (f7.mono SC)) P7 (fun _ => ?_)), fun z => absurd z one0⟩
            have w : ∀ q, q < 4 → hI h7 (a + 1) (6 * i + q) = hI h4 (a + 1) (6 * i + q) := fun q hq => by rw [f7.I (by unfold SCm; omega), f6.I (by unfold SRt SCm; omega), f5.I (by unfold SRt SCm; omega)]
            unfold CStm brR
            rw [eth]
            simp only [reduceIte, Nat.reduceEqDiff]
            refine ⟨(w 0 (by omega)).trans d0, by rw [w 1 (by omega)]; exact d1, by rw [w 2 (by omega)]; exact d2, fun _ => by rw [w 3 (by omega)]; exact d3, ?_, ?_⟩
            · rw [f7.I (by unfold SCm; omega), f6.I (by unfold SRt SCm; omega)]; exact e5
            · rw [f7.I (by unfold SCm; omega)]; exact d6
