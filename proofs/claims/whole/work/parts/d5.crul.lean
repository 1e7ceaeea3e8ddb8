/-! THE CLASS: a statement is read -/
def okPB : PS → Bool
  | .inl _ => false
  | .inr _ => true
theorem okPB_iff {s : PS} : okPB s = true ↔ okP s := by
  cases s with
  | inl e => exact ⟨fun z => (by cases z), fun z => False.elim z⟩
  | inr t => exact ⟨fun _ => trivial, fun _ => rfl⟩
def SRf (c j a k : Nat) : Prop := SCm a k ∨ a = c ∧ (k = j ∨ k = j + 1)
set_option maxHeartbeats 4000000 in
set_option maxRecDepth 100000 in
theorem c_readForm {T : List Nat} {t : Tk} {a j : Nat} {h : Hp} {Q : Int32 → Hp → Prop} (ha : 108 ≤ a) (hj : j + 1 < 96) (P : CM T (.inr t) h) (k : ∀ h', fr (SRf (a + 1) j) h h' → CM T (sOfT T (sFrm T (.inr t)).1).1 h' → (okP (sOfT T (sFrm T (.inr t)).1).1 → hI h' (a + 1) j = n32 (sFrm T (.inr t)).2 ∧ hI h' (a + 1) (j + 1) = pm (sOfT T (sFrm T (.inr t)).1).2) → Q (bI (okPB (sOfT T (sFrm T (.inr t)).1).1)) h') : m_X6_readForm a (n32 j) h Q := by
  unfold m_X6_readForm
  have l1 := pl_le T t FRMS
  have l5 : FRMS.length = 5 := rfl
  refine c_takeOneOf (v := 11) (by decide) (by decide) P (fun h1 f1 P1 => ?_)
  have eF : rowW 11 = FRMS := rfl
  rw [eF] at P1 ⊢
  rw [show n32 j + 1 = n32 (j + 1) from n32_add _ 1, n32_ix (by omega), n32_ix (by omega)]
  refine ⟨vpI (by omega) (by decide), vpI (by omega) (by decide), vpI (by omega) (by decide), ?_⟩
  have f2 : fr (SRf (a + 1) j) h (wI (wI h1 (a + 1) j (pm (pl T t FRMS))) (a + 1) (j + 1) (-1)) := fr_wI (fr_wI (f1.mono (fun _ _ z => Or.inl z)) _ (Or.inr ⟨rfl, Or.inl rfl⟩)) _ (Or.inr ⟨rfl, Or.inr rfl⟩)
  have g2 : fr (fun b _ => b = a + 1) h1 (wI (wI h1 (a + 1) j (pm (pl T t FRMS))) (a + 1) (j + 1) (-1)) := fr_wI (fr_wI (fr.rf _ _) _ (by rfl)) _ (by rfl)
  have e0 : hI (wI (wI h1 (a + 1) j (pm (pl T t FRMS))) (a + 1) (j + 1) (-1)) (a + 1) j = pm (pl T t FRMS) := by rw [hI_wI, if_neg (by omega), hI_wI, if_pos ⟨rfl, rfl⟩]
  have e1 : hI (wI (wI h1 (a + 1) j (pm (pl T t FRMS))) (a + 1) (j + 1) (-1)) (a + 1) (j + 1) = pm 0 := by rw [hI_wI, if_pos ⟨rfl, rfl⟩]; rfl
  generalize wI (wI h1 (a + 1) j (pm (pl T t FRMS))) (a + 1) (j + 1) (-1) = h2 at f2 g2 e0 e1
  have P2 := P1.mv g2 (by omega) (by omega)
  rw [e0, show (-1 : Int32) = pm 0 from rfl, pm_inj (by omega) (by decide)]
  unfold sOne at P2
  by_cases q : pl T t FRMS = 0
  · rw [if_pos q] at P2
    have es : sFrm T (.inr t) = (.inl t.2.1, 0) := by unfold sFrm; dsimp only; rw [if_pos q]
    rw [es] at k
    exact ⟨fun z => absurd q z, fun _ => k h2 f2 P2 (fun o => absurd o (fun z => z))⟩
  · rw [if_neg q] at P2
    have es : sFrm T (.inr t) = (.inr (nxt T t), pl T t FRMS - 1) := by unfold sFrm; dsimp only; rw [if_neg q]
    rw [es] at k
    dsimp only at k
    have e0' : pm (pl T t FRMS) = n32 (pl T t FRMS - 1) := pm_n32 (by omega)
    refine ⟨fun _ => ?_, fun z => absurd z q⟩
    refine c_isWord (v := 12) wOf (by decide) rfl P2 ?_
    unfold sOfT at k
    dsimp only at k
    cases hq : isW T (nxt T t) wOf with
    | false =>
      rw [hq, if_neg (by decide)] at k
      exact ⟨fun z => absurd rfl z, fun _ => k h2 f2 P2 (fun _ => ⟨by rw [e0, e0'], e1⟩)⟩
    | true =>
      rw [hq, if_pos rfl] at k
      refine ⟨fun _ => ?_, fun z => absurd z (by decide)⟩
      refine c_adv P2 (fun h3 f3 P3 => ?_)
      refine c_takeOneOf (v := 2) (by decide) (by decide) P3 (fun h4 f4 P4 => ?_)
      have eT : rowW 2 = THGS := rfl
      rw [eT] at P4 ⊢
      have l2 := pl_le T (nxt T (nxt T t)) THGS
      have l6 : THGS.length = 6 := rfl
      have f5 : fr (SRf (a + 1) j) h (wI h4 (a + 1) (j + 1) (pm (pl T (nxt T (nxt T t)) THGS))) := fr_wI ((f2.trans (f3.mono (fun _ _ z => Or.inl z))).trans (f4.mono (fun _ _ z => Or.inl z))) _ (Or.inr ⟨rfl, Or.inr rfl⟩)
      have g5 : fr (fun b _ => b = a + 1) h4 (wI h4 (a + 1) (j + 1) (pm (pl T (nxt T (nxt T t)) THGS))) := fr_wI (fr.rf _ _) _ rfl
      have x0 : hI (wI h4 (a + 1) (j + 1) (pm (pl T (nxt T (nxt T t)) THGS))) (a + 1) j = pm (pl T t FRMS) := by rw [hI_wI, if_neg (by omega), f4.I (by unfold SCm; omega), f3.I (by unfold SCm; omega)]; exact e0
      have x1 : hI (wI h4 (a + 1) (j + 1) (pm (pl T (nxt T (nxt T t)) THGS))) (a + 1) (j + 1) = pm (pl T (nxt T (nxt T t)) THGS) := by rw [hI_wI, if_pos ⟨rfl, rfl⟩]
      refine ⟨vpI (by omega) (by decide), vpI (by omega) (by decide), ?_⟩
      generalize wI h4 (a + 1) (j + 1) (pm (pl T (nxt T (nxt T t)) THGS)) = h5 at f5 g5 x0 x1
      have P5 := P4.mv g5 (by omega) (by omega)
      rw [x1, pm_inj (by omega) (by decide)]
      unfold sOne at P5
      unfold sThg at k
      dsimp only at k
      by_cases q2 : pl T (nxt T (nxt T t)) THGS = 0
      · rw [if_pos q2] at P5 k
        exact ⟨fun _ => k h5 f5 P5 (fun o => absurd o (fun z => z)), fun z => absurd q2 z⟩
      · rw [if_neg q2] at P5 k
        refine ⟨fun z => absurd z q2, fun _ => k h5 f5 P5 (fun _ => ⟨by rw [x0, e0'], ?_⟩)⟩
        rw [x1]
        dsimp only
        rw [show pl T (nxt T (nxt T t)) THGS - 1 + 1 = pl T (nxt T (nxt T t)) THGS by omega]
def SRt (c j a k : Nat) : Prop := SCm a k ∨ a = c ∧ k = j
theorem tieL_end {T : List Nat} {t : Tk} (O : OkT T t) (h : T.length ≤ t.2.1) (m b : Nat) : tieL T m b (.inr t) = (.inr t, b) := by
  cases m with
  | zero => rfl
  | succ m =>
    rw [tieL, if_pos]
    show pl T t TIES = 0
    have := O.le
    unfold pl
    rw [if_neg (by omega)]
set_option maxHeartbeats 4000000 in
set_option maxRecDepth 100000 in
theorem c_ties {T : List Nat} {a j : Nat} {Q : Hp → Prop} (ha : 108 ≤ a) (hj : j < 96) : ∀ (r i b m : Nat) (t : Tk) (h : Hp), r + i = 600 → i ≤ t.2.1 → T.length < t.2.1 + m → CM T (.inr t) h → b < 8 → hI h (a + 1) j = n32 b →
    (∀ h' t', fr (SRt (a + 1) j) h h' → tieL T m b (.inr t) = (.inr t', (tieL T m b (.inr t)).2) → CM T (.inr t') h' → hI h' (a + 1) j = n32 (tieL T m b (.inr t)).2 → Q h') → m_X6_readTies_2 (r + 1) Q a (n32 j) (n32 i) h := by
  intro r
  induction r with
  | zero =>
    intro i b m t h hr hi hm P hb e k
    rw [m_X6_readTies_2, show (600 : Int32) = n32 600 from rfl, n32_le (by decide) (by omega)]
    refine ⟨fun _ => ?_, fun z => absurd (by omega) z⟩
    have te := tieL_end P.2.2.2 (by have := P.1.2.1; omega) m b
    rw [te] at k
    exact k h t (fr.rf _ _) rfl P e
  | succ r ih =>
    intro i b m t h hr hi hm P hb e k
    have h6 := P.1.2.1
    rw [m_X6_readTies_2, show (600 : Int32) = n32 600 from rfl, n32_le (by decide) (by omega)]
    refine ⟨fun z => absurd z (by omega), fun _ => ?_⟩
    refine c_placeIn (v := 14) (by decide) P.1 P.2.2.1 P.2.2.2 ?_
    rw [show rowW 14 = TIES from rfl, show (-1 : Int32) = pm 0 from rfl]
    have l3 := pl_le T t TIES
    have l33 : TIES.length = 3 := rfl
    rw [pm_inj (by omega) (by decide)]
    have ole := P.2.2.2.le
    obtain ⟨m, rfl⟩ : ∃ q, m = q + 1 := ⟨m - 1, by omega⟩
    rw [tieL] at k
    have es : sAsk T (.inr t) = pl T t TIES := rfl
    rw [es] at k
    refine ⟨fun z => ?_, fun z => ?_⟩
    · rw [if_neg z] at k
      have p : 2 ^ (pl T t TIES - 1) ≤ 2 ^ 2 := pw_le (by omega)
      have hb' : b ||| 2 ^ (pl T t TIES - 1) < 8 := Nat.or_lt_two_pow (n := 3) hb (by omega)
      rw [n32_ix (by omega), e, pm_n32 (by omega), show (1 : Int32) = n32 1 from rfl, show (31 : Int32) = n32 31 from rfl, shl1 (by omega), n32_or (by omega) (by omega)]
      refine ⟨vpI hj (by decide), vpI hj (by decide), ?_⟩
      have f1 : fr (SRt (a + 1) j) h (wI h (a + 1) j (n32 (b ||| 2 ^ (pl T t TIES - 1)))) := fr_wI (fr.rf _ _) _ (Or.inr ⟨rfl, rfl⟩)
      have g1 : fr (fun b _ => b = a + 1) h (wI h (a + 1) j (n32 (b ||| 2 ^ (pl T t TIES - 1)))) := fr_wI (fr.rf _ _) _ rfl
      have e1 : hI (wI h (a + 1) j (n32 (b ||| 2 ^ (pl T t TIES - 1)))) (a + 1) j = n32 (b ||| 2 ^ (pl T t TIES - 1)) := by rw [hI_wI, if_pos ⟨rfl, rfl⟩]
      generalize wI h (a + 1) j (n32 (b ||| 2 ^ (pl T t TIES - 1))) = h1 at f1 g1 e1
      refine c_adv (P.mv g1 (by omega) (by omega)) (fun h2 f2 P2 => ?_)
      intro x5 e5
      have hk : t.1 ≠ 0 := fun y => z (by unfold pl; rw [if_neg (by omega)])
      have nf := nxt_from P.2.2.2
      have o3 := ole.2.2.1 hk
      rw [e5, n32_add]
      exact ih (i + 1) _ m (nxt T t) h2 (by omega) (by omega) (by omega) P2 hb' (by rw [f2.I (by unfold SCm; omega)]; exact e1) (fun h' t' f' et' P' e' => k h' t' ((f1.trans (f2.mono (fun _ _ z => Or.inl z))).trans f') et' P' e')
    · rw [if_pos z] at k
      exact k h t (fr.rf _ _) rfl P e
set_option maxHeartbeats 4000000 in
set_option maxRecDepth 100000 in
theorem c_readWithin {T : List Nat} {t : Tk} {a j : Nat} {h : Hp} {Q : Int32 → Hp → Prop} (ha : 108 ≤ a) (hj : j < 96) (P : CM T (.inr t) h) (e : hI h (a + 1) j = -1) (k : ∀ h', fr (SRt (a + 1) j) h h' → CM T (sWit T (.inr t)).1 h' → (okP (sWit T (.inr t)).1 → hI h' (a + 1) j = pm (sWit T (.inr t)).2) → Q (bI (okPB (sWit T (.inr t)).1)) h') : m_X6_readWithin a (n32 j) h Q := by
  unfold m_X6_readWithin
  refine c_isWord (v := 15) wWithin (by decide) rfl P ?_
  unfold sWit at k
  dsimp only at k
  cases hq : isW T t wWithin with
  | false =>
    rw [hq, if_neg (by decide)] at k
    exact ⟨fun z => absurd rfl z, fun _ => k h (fr.rf _ _) P (fun _ => e)⟩
  | true =>
    rw [hq, if_pos rfl] at k
    refine ⟨fun _ => ?_, fun z => absurd z (by decide)⟩
    refine c_adv P (fun h1 f1 P1 => ?_)
    rw [show m_X10_takeNumber 0 9999 = m_X10_takeNumber (n32 0) (n32 9999) from rfl]
    refine c_takeNumber (by decide) (by decide) P1 (fun h2 f2 P2 => ?_)
    rw [n32_ix (by omega)]
    refine ⟨vpI hj (by decide), vpI hj (by decide), ?_⟩
    unfold sNum at P2 k
    dsimp only at P2 k
    by_cases q : (nxt T t).1 = 2 ∧ 0 ≤ w10 (tkW T (nxt T t)) ∧ w10 (tkW T (nxt T t)) ≤ 9999
    · rw [if_pos q] at P2 k
      rw [if_pos q]
      have g3 : fr (fun b _ => b = a + 1) h2 (wI h2 (a + 1) j (n32 (w10 (tkW T (nxt T t))))) := fr_wI (fr.rf _ _) _ rfl
      have e3 : hI (wI h2 (a + 1) j (n32 (w10 (tkW T (nxt T t))))) (a + 1) j = n32 (w10 (tkW T (nxt T t))) := by rw [hI_wI, if_pos ⟨rfl, rfl⟩]
      rw [e3, n32_m1 (by omega)]
      refine ⟨fun z => z.elim, fun _ => k _ (fr_wI ((f1.trans f2).mono (fun _ _ z => Or.inl z)) _ (Or.inr ⟨rfl, rfl⟩)) (P2.mv g3 (by omega) (by omega)) (fun _ => by rw [e3]; rfl)⟩
    · rw [if_neg q] at P2 k
      rw [if_neg q]
      have g3 : fr (fun b _ => b = a + 1) h2 (wI h2 (a + 1) j (-1)) := fr_wI (fr.rf _ _) _ rfl
      have e3 : hI (wI h2 (a + 1) j (-1)) (a + 1) j = -1 := by rw [hI_wI, if_pos ⟨rfl, rfl⟩]
      rw [e3]
      refine ⟨fun _ => k _ (fr_wI ((f1.trans f2).mono (fun _ _ z => Or.inl z)) _ (Or.inr ⟨rfl, rfl⟩)) (P2.mv g3 (by omega) (by omega)) (fun o => absurd o (fun z => z)), fun z => absurd rfl z⟩
