/-! THE MODEL: small readers that may fail -/
def SPr (a k : Nat) : Prop := a = 51 ∧ (k = 22 ∨ 24 ≤ k ∧ k ≤ 29)
theorem STk_SPr : ∀ a k, STk a k → SPr a k := by unfold STk SPr; omega
/-- a fault's place, or the token that comes -/
abbrev PS : Type := Nat ⊕ Tk
def okP : PS → Prop
  | .inl _ => False
  | .inr _ => True
def PM (T : List Nat) : PS → Hp → Prop
  | .inl e, h => RTx T h ∧ hI h 51 29 = 1 ∧ hI h 51 22 = n32 e ∧ e ≤ T.length
  | .inr t, h => RTx T h ∧ hI h 51 29 = 0 ∧ hI h 51 22 = -1 ∧ TkM T t h ∧ OkT T t
theorem PM.mv {T : List Nat} {s : PS} {h h' : Hp} {S : Nat → Nat → Prop} (P : PM T s h) (f : fr S h h') (n : ∀ k, 22 ≤ k → k ≤ 29 → ¬ S 51 k) (n2 : ∀ k, ¬ S 71 k) : PM T s h' := by
  cases s with
  | inl e => exact ⟨P.1.mv f (n 23 (by decide) (by decide)) n2, by rw [f.I (n 29 (by decide) (by decide))]; exact P.2.1, by rw [f.I (n 22 (by decide) (by decide))]; exact P.2.2.1, P.2.2.2⟩
  | inr t => exact ⟨P.1.mv f (n 23 (by decide) (by decide)) n2, by rw [f.I (n 29 (by decide) (by decide))]; exact P.2.1, by rw [f.I (n 22 (by decide) (by decide))]; exact P.2.2.1, P.2.2.2.1.mv f (fun k h1 h2 => n k (by omega) (by omega)), P.2.2.2.2⟩
theorem PM.tx {T : List Nat} {s : PS} {h : Hp} (P : PM T s h) : RTx T h := by
  cases s with
  | inl e => exact P.1
  | inr t => exact P.1
theorem PM.bad {T : List Nat} {e : Nat} {h : Hp} (P : PM T (.inl e) h) : ¬ hI h 51 29 = 0 := by rw [P.2.1]; decide
theorem q_nx {T : List Nat} {t : Tk} {h : Hp} {Q : Hp → Prop} (P : PM T (.inr t) h) (k : ∀ h', fr SPr h h' → PM T (.inr (nxt T t)) h' → Q h') : m_X12_next h Q := by
  obtain ⟨R, e29, e22, M, O⟩ := P
  refine q_next R O.le.2.1 M.1 (fun h' f M' => k h' (f.mono STk_SPr) ⟨R.mv f (by unfold STk; omega) (by unfold STk; omega), ?_, ?_, M', O.nxt⟩)
  · rw [f.I (by unfold STk; omega)]; exact e29
  · rw [f.I (by unfold STk; omega)]; exact e22
theorem q_errs {T : List Nat} {t : Tk} {h : Hp} {Q : Hp → Prop} (P : PM T (.inr t) h) (k : ∀ h', fr SPr h h' → PM T (.inl t.2.1) h' → Q h') : m_X12_errs h Q := by
  obtain ⟨R, e29, e22, M, O⟩ := P
  unfold m_X12_errs
  refine ⟨fun _ => ?_, fun z => absurd e29 z⟩
  have f : fr SPr h (wI (wI h 51 29 1) 51 22 (hI (wI h 51 29 1) 51 25)) := fr_wI (fr_wI (fr.rf _ _) _ (by unfold SPr; omega)) _ (by unfold SPr; omega)
  refine k _ f ⟨R.mv f (by unfold SPr; omega) (by unfold SPr; omega), ?_, ?_, ?_⟩
  · rw [hI_wI, if_neg (by omega), hI_wI, if_pos ⟨rfl, rfl⟩]
  · rw [hI_wI, if_pos ⟨rfl, rfl⟩, hI_wI, if_neg (by omega)]; exact M.2.1
  · have := O.le; omega
def sMust (T : List Nat) (w : List Nat) : PS → PS
  | .inl e => .inl e
  | .inr t => if isW T t w then .inr (nxt T t) else .inl t.2.1
theorem q_must {T : List Nat} {s : PS} {h : Hp} {Q : Hp → Prop} (w : List Nat) (hu : ∀ c ∈ w, 97 ≤ c ∧ c ≤ 122) (h6 : w.length ≤ 6) (P : PM T s h) (k : ∀ h', fr SPr h h' → PM T (sMust T w s) h' → Q h') : m_X12_mustBe (z64 (w27 w : Nat)) h Q := by
  unfold m_X12_mustBe
  cases s with
  | inl e => exact ⟨fun z => absurd z P.bad, fun _ => k h (fr.rf _ _) P⟩
  | inr t =>
    unfold sMust at k
    dsimp only at k
    refine ⟨fun _ => ?_, fun z => absurd P.2.1 z⟩
    refine q_is w P.2.2.2.1 P.2.2.2.2 hu h6 (fun e => ?_) (fun e => ?_)
    · rw [e, if_neg (by decide)] at k
      exact ⟨fun _ => q_errs P k, fun z => absurd rfl z⟩
    · rw [e, if_pos rfl] at k
      exact ⟨fun z => absurd z (by decide), fun _ => q_nx P k⟩
def sNum (T : List Nat) (lo hi : Nat) : PS → PS × Nat
  | .inl e => (.inl e, 0)
  | .inr t => if t.1 = 2 ∧ lo ≤ w10 (tkW T t) ∧ w10 (tkW T t) ≤ hi then (.inr (nxt T t), w10 (tkW T t)) else (.inl t.2.1, 0)
theorem q_num {T : List Nat} {s : PS} {h : Hp} {Q : Int32 → Hp → Prop} {v1 v2 : Int32} {lo hi : Nat} (P : PM T s h) (e1 : okP s → v1 = n32 lo ∧ lo < 2147483648) (e2 : v2 = n32 hi) (h2 : hi < 2147483648) (k : ∀ h', fr SPr h h' → PM T (sNum T lo hi s).1 h' → Q (n32 (sNum T lo hi s).2) h') : m_X12_numeral v1 v2 h Q := by
  unfold m_X12_numeral
  intro x3 e3
  cases s with
  | inl e => exact ⟨fun z => absurd z P.bad, fun _ => k h (fr.rf _ _) P⟩
  | inr t =>
    obtain ⟨a1, a2⟩ := e1 trivial
    have hk := P.2.2.2.2.kind
    unfold sNum at k
    dsimp only at k
    refine ⟨fun _ => ?_, fun z => absurd P.2.1 z⟩
    have bad : ¬ (t.1 = 2 ∧ lo ≤ w10 (tkW T t) ∧ w10 (tkW T t) ≤ hi) → m_X12_numeral_32 Q h := by
      intro q
      rw [if_neg q] at k
      exact q_errs P k
    rw [P.2.2.2.1.2.2.1, show (2 : Int32) = n32 2 from rfl, n32_eq (by omega) (by decide)]
    refine ⟨fun z => bad (fun y => z y.1), fun z => ?_⟩
    have hd := P.2.2.2.2.digits z
    rw [e3, P.2.2.2.1.2.2.2.2 z, a1, e2, n32_lt (by omega) a2, n32_le (by omega) h2]
    refine ⟨fun z1 => bad (fun y => by omega), fun z1 => ⟨fun z2 => ?_, fun z2 => bad (fun y => z2 y.2.2)⟩⟩
    rw [if_pos ⟨z, by omega, z2⟩] at k
    exact q_nx P k
def sThg (T : List Nat) : PS → PS × Nat
  | .inl e => (.inl e, 0)
  | .inr t => if pl T t THGS = 0 then (.inl t.2.1, 0) else (.inr (nxt T t), pl T t THGS - 1)
theorem q_thing {T : List Nat} {s : PS} {h : Hp} {Q : Int32 → Hp → Prop} (P : PM T s h) (k : ∀ h' v, fr SPr h h' → PM T (sThg T s).1 h' → (okP (sThg T s).1 → v = n32 (sThg T s).2) → Q v h') : m_X12_thingOf h Q := by
  unfold m_X12_thingOf
  cases s with
  | inl e => exact ⟨fun z => absurd z P.bad, fun _ => k h _ (fr.rf _ _) P (fun z => absurd z (by show ¬ False; exact fun q => q))⟩
  | inr t =>
    have hl := pl_le T t THGS
    have hl6 : THGS.length = 6 := rfl
    unfold sThg at k
    dsimp only at k
    refine ⟨fun _ => ?_, fun z => absurd P.2.1 z⟩
    refine q_thingHere P.2.2.2.1 P.2.2.2.2 ?_
    by_cases q : pl T t THGS = 0
    · rw [if_pos q] at k
      rw [q]
      exact ⟨fun z => absurd z (by decide), fun _ => q_errs P (fun h' f' P' => k h' _ f' P' (fun z => absurd z (by show ¬ False; exact fun q => q)))⟩
    · rw [if_neg q] at k
      refine ⟨fun _ => q_nx P (fun h' f' P' => k h' _ f' P' (fun _ => pm_n32 (by omega))), fun z => absurd ((pm_ge0 (by omega)).mpr (by omega)) z⟩
def sHnd (T : List Nat) (nt : Nat) : PS → PS × Nat
  | .inl e => (.inl e, 0)
  | .inr t => if pl T t HNDS = 0 ∨ pl T t HNDS = nt then (.inl t.2.1, 0) else (.inr (nxt T t), pl T t HNDS - 1)
theorem w27_big {a b : Nat} {w : List Nat} (h : ∀ c ∈ a :: b :: w, 97 ≤ c ∧ c ≤ 122) : 27 < w27 (a :: b :: w) := by
  have g : ∀ (w : List Nat) (v : Nat), v ≤ w.foldl (fun v c => v * 27 + (c - 96)) v := by
    intro w
    induction w with
    | nil => intro v; exact Nat.le_refl _
    | cons c w ih => intro v; rw [List.foldl_cons]; have := ih (v * 27 + (c - 96)); omega
  have h1 := h a (by simp)
  have h2 := h b (by simp)
  unfold w27
  rw [List.foldl_cons, List.foldl_cons]
  have := g w ((0 * 27 + (a - 96)) * 27 + (b - 96))
  omega
theorem hand_one : ∀ c : Fin 26, plA [97 + c.val] HNDS 0 = if c.val < 8 then c.val + 1 else 0 := by decide
theorem hand_pl {w : List Nat} (h : ∀ c ∈ w, 97 ≤ c ∧ c ≤ 122) : plA w HNDS 0 = if 1 ≤ w27 w ∧ w27 w ≤ 8 then w27 w else 0 := by
  match w, h with
  | [], _ => rfl
  | [a], h =>
    have h1 := h a (by simp)
    have := hand_one ⟨a - 97, by omega⟩
    dsimp only at this
    rw [show 97 + (a - 97) = a by omega] at this
    have e : w27 [a] = a - 96 := by unfold w27; simp
    rw [this, e]
    split
    · rw [if_pos (by omega)]; omega
    · rw [if_neg (by omega)]
  | a :: b :: w, h =>
    have := w27_big h
    rw [if_neg (by omega)]
    simp [plA, HNDS]
theorem to32_key : ∀ n : Fin 9, (z64 (n.val : Nat)).toInt32 = n32 n.val := by decide
set_option maxHeartbeats 4000000 in
set_option maxRecDepth 100000 in
theorem q_hand {T : List Nat} {s : PS} {h : Hp} {Q : Int32 → Hp → Prop} {v1 : Int32} {nt : Nat} (P : PM T s h) (e1 : okP s → v1 = pm nt ∧ nt ≤ 8) (k : ∀ h', fr SPr h h' → PM T (sHnd T nt s).1 h' → Q (n32 (sHnd T nt s).2) h') : m_X12_hand v1 h Q := by
  unfold m_X12_hand
  cases s with
  | inl e => exact ⟨fun z => absurd z P.bad, fun _ => k h (fr.rf _ _) P⟩
  | inr t =>
    obtain ⟨a1, a2⟩ := e1 trivial
    have hk := P.2.2.2.2.kind
    have hl := pl_le T t HNDS
    have hl8 : HNDS.length = 8 := rfl
    unfold sHnd at k
    dsimp only at k
    refine ⟨fun _ => ?_, fun z => absurd P.2.1 z⟩
    have fin : m_X12_hand_48 Q v1 (pm (pl T t HNDS)) h := by
      unfold m_X12_hand_48
      have bad : pl T t HNDS = 0 ∨ pl T t HNDS = nt → m_X12_hand_58 Q h := by
        intro q
        rw [if_pos q] at k
        exact q_errs P k
      rw [a1, pm_lt0 (by omega), pm_inj (by omega) (by omega)]
      refine ⟨fun z => bad (Or.inl z), fun z => ⟨fun y => ?_, fun y => bad (Or.inr y)⟩⟩
      rw [if_neg (by omega)] at k
      rw [pm_n32 (by omega)]
      exact q_nx P k
    have non : pl T t HNDS = 0 → m_X12_hand_47 Q v1 h := by
      intro q
      unfold m_X12_hand_47
      rw [q] at fin
      exact fin
    rw [P.2.2.2.1.2.2.1, show (1 : Int32) = n32 1 from rfl, n32_eq (by omega) (by decide)]
    refine ⟨fun z => non (by unfold pl; rw [if_neg z]), fun z => ?_⟩
    have hw := P.2.2.2.2.letters z
    have ep : pl T t HNDS = if 1 ≤ w27 (tkW T t) ∧ w27 (tkW T t) ≤ 8 then w27 (tkW T t) else 0 := by unfold pl; rw [if_pos z, hand_pl hw]
    rw [P.2.2.2.1.2.2.2.1 z, show (1 : Int64) = z64 ((1 : Nat) : Int) from rfl, show (8 : Int64) = z64 ((8 : Nat) : Int) from rfl, show (0 : Int32) = n32 0 from rfl]
    unfold wv
    by_cases q : (tkW T t).length ≤ 6
    · have b1 := w27_lt _ _ rfl (fun c hc => (hw c hc).2)
      have c1 : 27 ^ (tkW T t).length ≤ 27 ^ 6 := Nat.pow_le_pow_right (by decide) q
      rw [if_pos q, lgc_lt (by omega) (by omega) (by omega) (by omega), lgc_gt (by omega) (by omega) (by omega) (by omega)]
      refine ⟨fun y => non (by rw [ep, if_neg (by omega)]), fun y1 => ⟨fun y => non (by rw [ep, if_neg (by omega)]), fun y2 => ?_⟩⟩
      rw [ep, if_pos (by omega)] at fin
      have := to32_key ⟨w27 (tkW T t), by omega⟩
      dsimp only at this
      rw [this, n32_sub (by omega), ← pm_n32 (by omega)]
      exact fin
    · rw [if_neg q, show (-1 : Int64) = z64 (-1) from rfl, lgc_lt (by omega) (by omega) (by omega) (by omega)]
      refine ⟨fun y => non ?_, fun y => absurd (by decide) y⟩
      rw [ep]
      match hm : tkW T t, hw, q with
      | [], _, q => simp at q
      | [a], _, q => simp at q
      | a :: b :: w, hw, _ => have := w27_big hw; rw [if_neg (by omega)]
/-- a text begins -/
def SBg (a k : Nat) : Prop := a = 51 ∧ 21 ≤ k ∧ k ≤ 29
theorem SPr_SBg : ∀ a k, SPr a k → SBg a k := by unfold SPr SBg; omega
def txt (x : Ab) (n : Nat) : List Nat := (aT x).take n
theorem txt_len {x : Ab} {n : Nat} (h : n ≤ (aT x).length) : (txt x n).length = n := by unfold txt; rw [List.length_take]; omega
theorem txt_at {x : Ab} {n k : Nat} (h : k < n) : (txt x n).getD k 0 = (aT x).getD k 0 := by
  unfold txt
  rw [List.getD_eq_getElem?_getD, List.getD_eq_getElem?_getD, List.getElem?_take, if_pos h]
set_option maxHeartbeats 4000000 in
set_option maxRecDepth 100000 in
theorem q_begins {x : Ab} {n : Nat} {h : Hp} {Q : Hp → Prop} (R : RTape x h) (hn : n ≤ (aT x).length) (k : ∀ h', fr SBg h h' → hI h' 51 21 = 0 → PM (txt x n) (.inr (tok (txt x n) 0)) h' → Q h') : m_X12_beginsText (n32 n) h Q := by
  unfold m_X12_beginsText
  obtain ⟨r1, r2, r3⟩ := R
  have f : fr SBg h (wI (wI (wI (wI (wI h 51 23 (n32 n)) 51 21 0) 51 24 0) 51 22 (-1)) 51 29 0) := fr_wI (fr_wI (fr_wI (fr_wI (fr_wI (fr.rf _ _) _ (by unfold SBg; omega)) _ (by unfold SBg; omega)) _ (by unfold SBg; omega)) _ (by unfold SBg; omega)) _ (by unfold SBg; omega)
  have e23 : hI (wI (wI (wI (wI (wI h 51 23 (n32 n)) 51 21 0) 51 24 0) 51 22 (-1)) 51 29 0) 51 23 = n32 n := by rw [hI_wI, if_neg (by omega)]; rw [hI_wI, if_neg (by omega)]; rw [hI_wI, if_neg (by omega)]; rw [hI_wI, if_neg (by omega)]; rw [hI_wI, if_pos ⟨rfl, rfl⟩]
  have e21 : hI (wI (wI (wI (wI (wI h 51 23 (n32 n)) 51 21 0) 51 24 0) 51 22 (-1)) 51 29 0) 51 21 = 0 := by rw [hI_wI, if_neg (by omega)]; rw [hI_wI, if_neg (by omega)]; rw [hI_wI, if_neg (by omega)]; rw [hI_wI, if_pos ⟨rfl, rfl⟩]
  have e24 : hI (wI (wI (wI (wI (wI h 51 23 (n32 n)) 51 21 0) 51 24 0) 51 22 (-1)) 51 29 0) 51 24 = n32 0 := by rw [hI_wI, if_neg (by omega)]; rw [hI_wI, if_neg (by omega)]; rw [hI_wI, if_pos ⟨rfl, rfl⟩]; rfl
  have e22 : hI (wI (wI (wI (wI (wI h 51 23 (n32 n)) 51 21 0) 51 24 0) 51 22 (-1)) 51 29 0) 51 22 = -1 := by rw [hI_wI, if_neg (by omega)]; rw [hI_wI, if_pos ⟨rfl, rfl⟩]
  have e29 : hI (wI (wI (wI (wI (wI h 51 23 (n32 n)) 51 21 0) 51 24 0) 51 22 (-1)) 51 29 0) 51 29 = 0 := by rw [hI_wI, if_pos ⟨rfl, rfl⟩]
  generalize wI (wI (wI (wI (wI h 51 23 (n32 n)) 51 21 0) 51 24 0) 51 22 (-1)) 51 29 0 = h1 at f e23 e21 e24 e22 e29
  have tl := txt_len hn
  have R1 : RTx (txt x n) h1 := by
    refine ⟨by rw [tl]; exact e23, by omega, fun j hj => ?_⟩
    rw [txt_at (by omega), f.I (by unfold SBg; omega)]
    exact r3 j (by omega)
  refine q_next R1 (Nat.zero_le _) e24 (fun h2 f2 M => k h2 (f.trans (f2.mono (fun a k h => SPr_SBg a k (STk_SPr a k h)))) ?_ ⟨R1.mv f2 (by unfold STk; omega) (by unfold STk; omega), ?_, ?_, M, ⟨0, Nat.zero_le _, rfl⟩⟩)
  · rw [f2.I (by unfold STk; omega)]; exact e21
  · rw [f2.I (by unfold STk; omega)]; exact e29
  · rw [f2.I (by unfold STk; omega)]; exact e22
