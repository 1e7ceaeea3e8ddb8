/-! THE CLASS: a leaf's words -/
def SR7 (lo hi q k : Nat) : Prop := SCm q k ∨ q = 7 ∧ lo ≤ k ∧ k ≤ hi
theorem CM.w7 {T : List Nat} {s : PS} {h : Hp} (P : CM T s h) (j : Nat) (v : Int32) : CM T s (wI h 7 j v) := P.mv (S := fun q _ => q = 7) (fr_wI (fr.rf _ _) _ rfl) (by omega) (by omega)
set_option maxHeartbeats 4000000 in
set_option maxRecDepth 100000 in
theorem c_readTwo {T : List Nat} {t : Tk} {h : Hp} {Q : Int32 → Hp → Prop} (P : CM T (.inr t) h) (k : ∀ h', fr (SR7 1 2) h h' → CM T (sHnd T ((sHnd T 0 (.inr t)).2 + 1) (sHnd T 0 (.inr t)).1).1 h' → (okP (sHnd T ((sHnd T 0 (.inr t)).2 + 1) (sHnd T 0 (.inr t)).1).1 → hI h' 7 1 = n32 (sHnd T 0 (.inr t)).2 ∧ hI h' 7 2 = n32 (sHnd T ((sHnd T 0 (.inr t)).2 + 1) (sHnd T 0 (.inr t)).1).2) → Q (bI (okPB (sHnd T ((sHnd T 0 (.inr t)).2 + 1) (sHnd T 0 (.inr t)).1).1)) h') : m_X2_readTwo h Q := by
  unfold m_X2_readTwo
  have l1 := pl_le T t HNDS
  have l8 : HNDS.length = 8 := rfl
  have eR : rowW 1 = HNDS := rfl
  refine c_takeOneOf (v := 1) (by decide) (by decide) P (fun h1 f1 P1 => ?_)
  rw [eR] at P1 ⊢
  rw [show ix (1 : Int32) = 1 from rfl, show ix (2 : Int32) = 2 from rfl]
  have g1 : fr (SR7 1 2) h (wI h1 7 1 (pm (pl T t HNDS))) := fr_wI (f1.mono (fun _ _ z => Or.inl z)) _ (Or.inr (by omega))
  have e1 : hI (wI h1 7 1 (pm (pl T t HNDS))) 7 1 = pm (pl T t HNDS) := by rw [hI_wI, if_pos ⟨rfl, rfl⟩]
  have P1' := P1.w7 1 (pm (pl T t HNDS))
  generalize wI h1 7 1 (pm (pl T t HNDS)) = h2 at g1 e1 P1'
  rw [e1, show (-1 : Int32) = pm 0 from rfl, pm_inj (by omega) (by decide)]
  unfold sOne at P1'
  refine ⟨vpI (show 1 < 8 by decide) (by decide), vpI (show 1 < 8 by decide) (by decide), fun z => ?_, fun z => ?_⟩
  · rw [if_neg z] at P1'
    have es : sHnd T 0 (.inr t) = (.inr (nxt T t), pl T t HNDS - 1) := by unfold sHnd; dsimp only; rw [if_neg (by omega)]
    rw [es] at k
    dsimp only at k
    have es2 : sHnd T (pl T t HNDS - 1 + 1) (.inr (nxt T t)) = if pl T (nxt T t) HNDS = 0 ∨ pl T (nxt T t) HNDS = pl T t HNDS then (.inl (nxt T t).2.1, 0) else (.inr (nxt T (nxt T t)), pl T (nxt T t) HNDS - 1) := by
      unfold sHnd; dsimp only; rw [show pl T t HNDS - 1 + 1 = pl T t HNDS by omega]
    have l2 := pl_le T (nxt T t) HNDS
    refine c_placeIn (v := 1) (by decide) P1'.1 P1'.2.2.1 P1'.2.2.2 ?_
    rw [eR, e1, pm_inj (by omega) (by omega)]
    refine ⟨vpI (show 1 < 8 by decide) (by decide), fun y => ?_, fun y => ?_⟩
    · refine c_takeOneOf (v := 1) (by decide) (by decide) P1' (fun h3 f3 P3 => ?_)
      rw [eR] at P3 ⊢
      have g3 : fr (SR7 1 2) h (wI h3 7 2 (pm (pl T (nxt T t) HNDS))) := fr_wI (g1.trans (f3.mono (fun _ _ z => Or.inl z))) _ (Or.inr (by omega))
      have e3 : hI (wI h3 7 2 (pm (pl T (nxt T t) HNDS))) 7 2 = pm (pl T (nxt T t) HNDS) := by rw [hI_wI, if_pos ⟨rfl, rfl⟩]
      have e31 : hI (wI h3 7 2 (pm (pl T (nxt T t) HNDS))) 7 1 = pm (pl T t HNDS) := by rw [hI_wI, if_neg (by omega), f3.I (by unfold SCm; omega)]; exact e1
      have P3' := P3.w7 2 (pm (pl T (nxt T t) HNDS))
      generalize wI h3 7 2 (pm (pl T (nxt T t) HNDS)) = h4 at g3 e3 e31 P3'
      rw [e3, pm_inj (by omega) (by decide)]
      unfold sOne at P3'
      refine ⟨vpI (show 2 < 8 by decide) (by decide), vpI (show 2 < 8 by decide) (by decide), fun w => ?_, fun w => ?_⟩
      · rw [if_pos (Or.inl w)] at es2
        rw [if_pos w] at P3'
        rw [es2] at k
        exact k h4 g3 P3' (fun o => absurd o (fun z => z))
      · rw [if_neg (by omega)] at es2
        rw [if_neg w] at P3'
        rw [es2] at k
        exact k h4 g3 P3' (fun _ => ⟨by rw [e31, pm_n32 (by omega)], by rw [e3, pm_n32 (by omega)]⟩)
    · rw [if_pos (Or.inr y)] at es2
      rw [es2] at k
      refine c_refuse P1' (fun h3 f3 P3 => ⟨Or.inl rfl, k h3 (g1.trans (f3.mono (fun _ _ z => Or.inl z))) P3 (fun o => absurd o (fun z => z))⟩)
  · rw [if_pos z] at P1'
    have es : sHnd T 0 (.inr t) = (.inl t.2.1, 0) := by unfold sHnd; dsimp only; rw [if_pos (Or.inl z)]
    rw [es] at k
    exact k h2 g1 P1' (fun o => absurd o (fun z => z))
/-- a number is taken and put to a cell -/
theorem pm_num (T : List Nat) (lo hi : Nat) (t : Tk) : (if t.1 = 2 ∧ lo ≤ w10 (tkW T t) ∧ w10 (tkW T t) ≤ hi then n32 (w10 (tkW T t)) else -1) = pm (if okPB (sNum T lo hi (.inr t)).1 then (sNum T lo hi (.inr t)).2 + 1 else 0) := by
  by_cases q : t.1 = 2 ∧ lo ≤ w10 (tkW T t) ∧ w10 (tkW T t) ≤ hi
  · have e : sNum T lo hi (.inr t) = (.inr (nxt T t), w10 (tkW T t)) := by unfold sNum; dsimp only; rw [if_pos q]
    rw [if_pos q, e]; rfl
  · have e : sNum T lo hi (.inr t) = (.inl t.2.1, 0) := by unfold sNum; dsimp only; rw [if_neg q]
    rw [if_neg q, e]; rfl
set_option maxHeartbeats 4000000 in
set_option maxRecDepth 100000 in
theorem c_numTo {T : List Nat} {t : Tk} {lo hi j : Nat} {h : Hp} {Q : Int32 → Hp → Prop} (hj : j < 8) (hlo : lo < 20000) (hhi : hi < 20000) (P : CM T (.inr t) h) (k : ∀ h', fr (SR7 j j) h h' → CM T (sNum T lo hi (.inr t)).1 h' → (okP (sNum T lo hi (.inr t)).1 → hI h' 7 j = n32 (sNum T lo hi (.inr t)).2) → Q (bI (okPB (sNum T lo hi (.inr t)).1)) h') :
    m_X10_takeNumber (n32 lo) (n32 hi) h (fun (x3 : Int32) (h4 : Hp) => vp_in (n32 j) 8 ∧ (vp_in (n32 j) 8 ∧ (((hI (wI h4 7 (ix (n32 j)) x3) 7 (ix (n32 j))) = (-1) → Q 0 (wI h4 7 (ix (n32 j)) x3)) ∧ (¬ (hI (wI h4 7 (ix (n32 j)) x3) 7 (ix (n32 j))) = (-1) → Q 1 (wI h4 7 (ix (n32 j)) x3))))) := by
  refine c_takeNumber (by omega) (by omega) P (fun h4 f4 P4 => ?_)
  rw [pm_num, n32_ix (by omega)]
  have sl : (sNum T lo hi (.inr t)).2 ≤ hi := sNum_lt
  have f5 : fr (SR7 j j) h (wI h4 7 j (pm (if okPB (sNum T lo hi (.inr t)).1 then (sNum T lo hi (.inr t)).2 + 1 else 0))) := fr_wI (f4.mono (fun _ _ z => Or.inl z)) _ (Or.inr (by omega))
  have e5 : hI (wI h4 7 j (pm (if okPB (sNum T lo hi (.inr t)).1 then (sNum T lo hi (.inr t)).2 + 1 else 0))) 7 j = pm (if okPB (sNum T lo hi (.inr t)).1 then (sNum T lo hi (.inr t)).2 + 1 else 0) := by rw [hI_wI, if_pos ⟨rfl, rfl⟩]
  have P5 := P4.w7 j (pm (if okPB (sNum T lo hi (.inr t)).1 then (sNum T lo hi (.inr t)).2 + 1 else 0))
  generalize wI h4 7 j (pm (if okPB (sNum T lo hi (.inr t)).1 then (sNum T lo hi (.inr t)).2 + 1 else 0)) = h5 at f5 e5 P5
  have kk := k h5 f5 P5
  rw [e5]
  cases ho : okPB (sNum T lo hi (.inr t)).1 with
  | false =>
    rw [ho] at kk e5
    rw [if_neg (by decide)]
    refine ⟨vpI hj (by decide), vpI hj (by decide), fun _ => kk (fun o => ?_), fun z => absurd rfl z⟩
    rw [← okPB_iff, ho] at o; exact absurd o (by decide)
  | true =>
    rw [ho] at kk e5
    rw [if_pos rfl] at e5 ⊢
    rw [pmS] at e5 ⊢
    rw [n32_m1 (by omega)]
    exact ⟨vpI hj (by decide), vpI hj (by decide), fun z => z.elim, fun _ => kk (fun _ => e5)⟩
set_option maxHeartbeats 4000000 in
set_option maxRecDepth 100000 in
theorem c_readSo {T : List Nat} {t : Tk} {h : Hp} {Q : Int32 → Hp → Prop} (P : CM T (.inr t) h) (k : ∀ h', fr (SR7 3 4) h h' → CM T (sNum T 0 9999 (sThg T (.inr t)).1).1 h' → (okP (sNum T 0 9999 (sThg T (.inr t)).1).1 → hI h' 7 3 = n32 (sThg T (.inr t)).2 ∧ hI h' 7 4 = n32 (sNum T 0 9999 (sThg T (.inr t)).1).2) → Q (bI (okPB (sNum T 0 9999 (sThg T (.inr t)).1).1)) h') : m_X2_readSo h Q := by
  unfold m_X2_readSo
  have l1 := pl_le T t THGS
  have l8 : THGS.length = 6 := rfl
  have eR : rowW 2 = THGS := rfl
  refine c_takeOneOf (v := 2) (by decide) (by decide) P (fun h1 f1 P1 => ?_)
  rw [eR] at P1 ⊢
  rw [show ix (3 : Int32) = 3 from rfl]
  have g1 : fr (SR7 3 4) h (wI h1 7 3 (pm (pl T t THGS))) := fr_wI (f1.mono (fun _ _ z => Or.inl z)) _ (Or.inr (by omega))
  have e1 : hI (wI h1 7 3 (pm (pl T t THGS))) 7 3 = pm (pl T t THGS) := by rw [hI_wI, if_pos ⟨rfl, rfl⟩]
  have P1' := P1.w7 3 (pm (pl T t THGS))
  generalize wI h1 7 3 (pm (pl T t THGS)) = h2 at g1 e1 P1'
  rw [e1, show (-1 : Int32) = pm 0 from rfl, pm_inj (by omega) (by decide)]
  unfold sOne at P1'
  refine ⟨vpI (show 3 < 8 by decide) (by decide), vpI (show 3 < 8 by decide) (by decide), fun z => ?_, fun z => ?_⟩
  · rw [if_neg z] at P1'
    have es : sThg T (.inr t) = (.inr (nxt T t), pl T t THGS - 1) := by unfold sThg; dsimp only; rw [if_neg z]
    rw [es] at k
    dsimp only at k
    refine c_numTo (j := 4) (Q := Q) (by decide) (by decide) (by decide) P1' (fun h3 f3 P3 o3 => k h3 (g1.trans (f3.mono (by unfold SR7 SCm; omega))) P3 (fun o => ⟨?_, o3 o⟩))
    rw [f3.I (by unfold SR7 SCm; omega), e1, pm_n32 (by omega)]
  · rw [if_pos z] at P1'
    have es : sThg T (.inr t) = (.inl t.2.1, 0) := by unfold sThg; dsimp only; rw [if_pos z]
    rw [es] at k
    exact k h2 g1 P1' (fun o => absurd o (fun z => z))
def s5 (T : List Nat) (kd : Nat) (s : PS) : PS × Nat := if kd < 2 then (s, 0) else sNum T 0 9999 (sMust T wFor s)
set_option maxHeartbeats 4000000 in
set_option maxRecDepth 100000 in
theorem c_readPay {T : List Nat} {t : Tk} {kd : Nat} {h : Hp} {Q : Int32 → Hp → Prop} (hk : kd < 4) (P : CM T (.inr t) h) (k : ∀ h', fr (SR7 5 5) h h' → CM T (s5 T kd (.inr t)).1 h' → (okP (s5 T kd (.inr t)).1 → hI h' 7 5 = n32 (s5 T kd (.inr t)).2) → Q (bI (okPB (s5 T kd (.inr t)).1)) h') : m_X2_readPay (n32 kd) h Q := by
  unfold m_X2_readPay
  rw [show ix (5 : Int32) = 5 from rfl, show (2 : Int32) = n32 2 from rfl, show (3 : Int32) = n32 3 from rfl, n32_eq (by omega) (by decide), n32_eq (by omega) (by decide)]
  have g1 : fr (SR7 5 5) h (wI h 7 5 0) := fr_wI (fr.rf _ _) _ (Or.inr (by omega))
  have e1 : hI (wI h 7 5 0) 7 5 = n32 0 := by rw [hI_wI, if_pos ⟨rfl, rfl⟩]; rfl
  have P1 := P.w7 5 0
  generalize wI h 7 5 0 = h1 at g1 e1 P1
  have main : ¬ kd < 2 → m_X2_readPay_19 Q h1 := by
    intro n2
    unfold m_X2_readPay_19
    unfold s5 at k
    rw [if_neg n2] at k
    refine c_takeWord (v := 3) wFor (by decide) rfl P1 (fun h2 f2 P2 => ?_)
    cases hq : isW T t wFor with
    | false =>
      have em : sMust T wFor (.inr t) = .inl t.2.1 := by unfold sMust; dsimp only; rw [hq, if_neg (by decide)]
      rw [em] at P2 k
      exact ⟨fun z => absurd rfl z, fun _ => k h2 (g1.trans (f2.mono (fun _ _ z => Or.inl z))) P2 (fun o => absurd o (fun z => z))⟩
    | true =>
      have em : sMust T wFor (.inr t) = .inr (nxt T t) := by unfold sMust; dsimp only; rw [hq, if_pos rfl]
      rw [em] at P2 k
      refine ⟨fun _ => ?_, fun z => absurd z (by decide)⟩
      exact c_numTo (j := 5) (Q := Q) (by decide) (by decide) (by decide) P2 (fun h3 f3 P3 o3 => k h3 ((g1.trans (f2.mono (fun _ _ z => Or.inl z))).trans f3) P3 o3)
  refine ⟨vpI (show 5 < 8 by decide) (by decide), fun z => main (by omega), fun z => ⟨fun y => main (by omega), fun y => ?_⟩⟩
  unfold s5 at k
  rw [if_pos (by omega)] at k
  exact k h1 g1 P1 (fun _ => e1)
def s6 (T : List Nat) (s : PS) : PS × Nat := sNum T 0 399 (sMust T wAt s)
def s7 (T : List Nat) (kd : Nat) (s : PS) : PS × Nat := if kd = 2 then sPaid T (s6 T s).2 (s6 T s).1 else if kd = 3 then sNum T (s6 T s).2 399 (sMust T wBack (s6 T s).1) else s6 T s
set_option maxHeartbeats 4000000 in
set_option maxRecDepth 100000 in
theorem c_readDays {T : List Nat} {t : Tk} {kd : Nat} {h : Hp} {Q : Int32 → Hp → Prop} (hk : kd < 4) (P : CM T (.inr t) h) (k : ∀ h', fr (SR7 6 7) h h' → CM T (s7 T kd (.inr t)).1 h' → (okP (s7 T kd (.inr t)).1 → hI h' 7 6 = n32 (s6 T (.inr t)).2 ∧ hI h' 7 7 = n32 (s7 T kd (.inr t)).2) → Q (bI (okPB (s7 T kd (.inr t)).1)) h') : m_X2_readDays (n32 kd) h Q := by
  unfold m_X2_readDays
  refine c_takeWord (v := 4) wAt (by decide) rfl P (fun h2 f2 P2 => ?_)
  have F2 : fr (SR7 6 7) h h2 := f2.mono (fun _ _ z => Or.inl z)
  cases hq : isW T t wAt with
  | false =>
    have em : sMust T wAt (.inr t) = .inl t.2.1 := by unfold sMust; dsimp only; rw [hq, if_neg (by decide)]
    have e6 : s6 T (.inr t) = (.inl t.2.1, 0) := by unfold s6; rw [em]; rfl
    have e7 : (s7 T kd (.inr t)).1 = .inl t.2.1 := by
      unfold s7
      rw [e6]
      split
      · rfl
      · split <;> rfl
    rw [em] at P2
    rw [e7] at k
    exact ⟨fun z => absurd rfl z, fun _ => k h2 F2 P2 (fun o => absurd o (fun z => z))⟩
  | true =>
    have em : sMust T wAt (.inr t) = .inr (nxt T t) := by unfold sMust; dsimp only; rw [hq, if_pos rfl]
    have e6 : s6 T (.inr t) = sNum T 0 399 (.inr (nxt T t)) := by unfold s6; rw [em]
    rw [em] at P2
    refine ⟨fun _ => ?_, fun z => absurd z (by decide)⟩
    rw [show m_X10_takeNumber 0 399 = m_X10_takeNumber (n32 0) (n32 399) from rfl]
    refine c_takeNumber (by decide) (by decide) P2 (fun h3 f3 P3 => ?_)
    rw [pm_num, ← e6, show ix (6 : Int32) = 6 from rfl, show ix (7 : Int32) = 7 from rfl]
    rw [← e6] at P3
    have sl : (s6 T (.inr t)).2 ≤ 399 := by rw [e6]; exact sNum_lt
    refine ⟨vpI (show 6 < 8 by decide) (by decide), vpI (show 6 < 8 by decide) (by decide), vpI (show 7 < 8 by decide) (by decide), vpI (show 6 < 8 by decide) (by decide), ?_⟩
    rw [show hI (wI h3 7 6 (pm (if okPB (s6 T (.inr t)).1 then (s6 T (.inr t)).2 + 1 else 0))) 7 6 = pm (if okPB (s6 T (.inr t)).1 then (s6 T (.inr t)).2 + 1 else 0) by rw [hI_wI, if_pos ⟨rfl, rfl⟩]]
    have f5 : fr (SR7 6 7) h (wI (wI h3 7 6 (pm (if okPB (s6 T (.inr t)).1 then (s6 T (.inr t)).2 + 1 else 0))) 7 7 (pm (if okPB (s6 T (.inr t)).1 then (s6 T (.inr t)).2 + 1 else 0))) := fr_wI (fr_wI (F2.trans (f3.mono (fun _ _ z => Or.inl z))) _ (Or.inr (by omega))) _ (Or.inr (by omega))
    have x6 : hI (wI (wI h3 7 6 (pm (if okPB (s6 T (.inr t)).1 then (s6 T (.inr t)).2 + 1 else 0))) 7 7 (pm (if okPB (s6 T (.inr t)).1 then (s6 T (.inr t)).2 + 1 else 0))) 7 6 = pm (if okPB (s6 T (.inr t)).1 then (s6 T (.inr t)).2 + 1 else 0) := by rw [hI_wI, if_neg (by omega), hI_wI, if_pos ⟨rfl, rfl⟩]
    have x7 : hI (wI (wI h3 7 6 (pm (if okPB (s6 T (.inr t)).1 then (s6 T (.inr t)).2 + 1 else 0))) 7 7 (pm (if okPB (s6 T (.inr t)).1 then (s6 T (.inr t)).2 + 1 else 0))) 7 7 = pm (if okPB (s6 T (.inr t)).1 then (s6 T (.inr t)).2 + 1 else 0) := by rw [hI_wI, if_pos ⟨rfl, rfl⟩]
    have P5 := (P3.w7 6 (pm (if okPB (s6 T (.inr t)).1 then (s6 T (.inr t)).2 + 1 else 0))).w7 7 (pm (if okPB (s6 T (.inr t)).1 then (s6 T (.inr t)).2 + 1 else 0))
    generalize wI (wI h3 7 6 (pm (if okPB (s6 T (.inr t)).1 then (s6 T (.inr t)).2 + 1 else 0))) 7 7 (pm (if okPB (s6 T (.inr t)).1 then (s6 T (.inr t)).2 + 1 else 0)) = h5 at f5 x6 x7 P5
    rw [x6]
    cases hs : (s6 T (.inr t)).1 with
    | inl e =>
      rw [hs] at P5
      have e7 : (s7 T kd (.inr t)).1 = .inl e := by
        unfold s7
        rw [hs]
        split
        · rfl
        · split
          · rfl
          · exact hs
      rw [e7] at k
      exact ⟨fun z => absurd rfl z, fun _ => k h5 f5 P5 (fun o => absurd o (fun z => z))⟩
    | inr t6 =>
      rw [hs] at P5 x6 x7
      have ok6 : okPB (.inr t6 : PS) = true := rfl
      rw [ok6, if_pos rfl, pmS] at x6 x7
      rw [ok6, if_pos rfl, pmS, n32_m1 (by omega)]
      refine ⟨fun _ => ?_, fun z => z.elim⟩
      have num : ∀ (w : List Nat) (v : Nat) (s0 : Int32) (h6 : Hp) (t7 : Tk), fr (SR7 6 7) h h6 → hI h6 7 6 = n32 (s6 T (.inr t)).2 → CM T (.inr t7) h6 → (s7 T kd (.inr t) = sNum T (s6 T (.inr t)).2 399 (.inr t7)) → m_X10_takeNumber (hI h6 7 6) 399 h6 (fun (x3 : Int32) (h4 : Hp) => vp_in 7 8 ∧ (vp_in 7 8 ∧ (((hI (wI h4 7 7 x3) 7 7) = (-1) → Q 0 (wI h4 7 7 x3)) ∧ (¬ (hI (wI h4 7 7 x3) 7 7) = (-1) → Q 1 (wI h4 7 7 x3))))) := by
        intro w v s0 h6 t7 f6 y6 P6 e7
        rw [y6]
        rw [e7] at k
        exact c_numTo (j := 7) (Q := Q) (by decide) (by omega) (by decide) P6 (fun h8 f8 P8 o8 => k h8 (f6.trans (f8.mono (by unfold SR7 SCm; omega))) P8 (fun o => ⟨by rw [f8.I (by unfold SR7 SCm; omega)]; exact y6, o8 o⟩))
      rw [show (2 : Int32) = n32 2 from rfl, n32_eq (by omega) (by decide)]
      refine ⟨fun z2 => ?_, fun z2 => ?_⟩
      · unfold m_X2_readDays_80 m_X2_readDays_81 m_X2_readDays_93
        rw [show (3 : Int32) = n32 3 from rfl, n32_eq (by omega) (by decide)]
        refine ⟨fun z3 => ⟨fun _ => ?_, fun y => absurd rfl y⟩, fun z3 => ⟨fun y => absurd rfl y, fun _ => ?_⟩⟩
        · refine c_takeWord (v := 6) wBack (by decide) rfl P5 (fun h6 f6 P6 => ?_)
          have e7 : s7 T kd (.inr t) = sNum T (s6 T (.inr t)).2 399 (sMust T wBack (.inr t6)) := by unfold s7; rw [if_neg z2, if_pos z3, hs]
          cases hb : isW T t6 wBack with
          | false =>
            have em6 : sMust T wBack (.inr t6) = .inl t6.2.1 := by unfold sMust; dsimp only; rw [hb, if_neg (by decide)]
            rw [em6] at P6 e7
            have e71 : (s7 T kd (.inr t)).1 = .inl t6.2.1 := by rw [e7]; rfl
            rw [e71] at k
            exact ⟨fun y => absurd rfl y, fun _ => k h6 (f5.trans (f6.mono (fun _ _ z => Or.inl z))) P6 (fun o => absurd o (fun z => z))⟩
          | true =>
            have em6 : sMust T wBack (.inr t6) = .inr (nxt T t6) := by unfold sMust; dsimp only; rw [hb, if_pos rfl]
            rw [em6] at P6 e7
            refine ⟨fun _ => ⟨vpI (show 6 < 8 by decide) (by decide), ?_⟩, fun y => absurd y (by decide)⟩
            exact num wBack 6 0 h6 (nxt T t6) (f5.trans (f6.mono (fun _ _ z => Or.inl z))) (by rw [f6.I (by unfold SCm; omega)]; exact x6) P6 e7
        · have e7 : s7 T kd (.inr t) = s6 T (.inr t) := by unfold s7; rw [if_neg z2, if_neg z3]
          rw [e7, hs] at k
          exact k h5 f5 P5 (fun _ => ⟨x6, x7⟩)
      · refine c_isWord (v := 5) wPaid (by decide) rfl P5 ?_
        have e7 : s7 T kd (.inr t) = sPaid T (s6 T (.inr t)).2 (.inr t6) := by unfold s7; rw [if_pos z2, hs]
        unfold sPaid at e7
        dsimp only at e7
        cases hb : isW T t6 wPaid with
        | false =>
          rw [hb, if_neg (by decide)] at e7
          rw [e7] at k
          refine ⟨fun _ => ?_, fun y => absurd rfl y⟩
          unfold m_X2_readDays_80 m_X2_readDays_81
          rw [show (3 : Int32) = n32 3 from rfl, n32_eq (by omega) (by decide)]
          exact ⟨fun z3 => absurd z3 (by omega), fun _ => ⟨fun y => absurd rfl y, fun _ => k h5 f5 P5 (fun _ => ⟨x6, x7⟩)⟩⟩
        | true =>
          rw [hb, if_pos rfl] at e7
          refine ⟨fun y => absurd y (by decide), fun _ => ?_⟩
          have main : m_X2_readDays_93 Q 1 h5 := by
            unfold m_X2_readDays_93
            refine ⟨fun y => absurd y (by decide), fun _ => ?_⟩
            refine c_takeWord (v := 5) wPaid (by decide) rfl P5 (fun h6 f6 P6 => ?_)
            have em6 : sMust T wPaid (.inr t6) = .inr (nxt T t6) := by unfold sMust; dsimp only; rw [hb, if_pos rfl]
            rw [em6] at P6
            rw [hb]
            refine ⟨fun _ => ⟨vpI (show 6 < 8 by decide) (by decide), ?_⟩, fun y => absurd y (by decide)⟩
            exact num wPaid 5 1 h6 (nxt T t6) (f5.trans (f6.mono (fun _ _ z => Or.inl z))) (by rw [f6.I (by unfold SCm; omega)]; exact x6) P6 e7
          unfold m_X2_readDays_81
          exact ⟨fun _ => main, fun _ => ⟨fun _ => main, fun y => absurd y (by decide)⟩⟩
