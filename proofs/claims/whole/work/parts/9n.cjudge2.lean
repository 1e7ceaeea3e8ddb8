/-! THE CLASS: the first statement that bars; breach, bars -/
theorem CStm.at {r : Rec} {h : Hp} {c i : Nat} (C : CStm r h c i) : hI h c (6 * i) = n32 (r 0) ∧ hI h c (6 * i + 1) = pm (r 1) ∧ hI h c (6 * i + 2) = (if r 2 = 1 then n32 (r 3) else -1) ∧ (r 2 = 1 → hI h c (6 * i + 3) = pm (r 4)) ∧ hI h c (6 * i + 4) = n32 (r 5) ∧ hI h c (6 * i + 5) = pm (r 6) := C
theorem c_findSecond {x : Ab} {da : Nat → Nat} {L : List Rec} {c i a : Nat} {st : Rec} {h : Hp} {Q : Int32 → Hp → Prop} (V : CVw x da h) (A : HrA L h) (C : CStm st h c i) (O : okStm st) (h2 : st 2 = 1) (hi : i < 16) (ha : a < L.length)
    (k : Q (pm (opN (fsome (fun b => if sPair (aF x) st a (L.getD a rec0) b (L.getD b rec0) then some b else none) 0 L.length))) h) : m_X3_findSecond c 96 (n32 (6 * i)) (n32 a) h Q := by
  have h72 := A.2.1
  obtain ⟨c0, c1, c2, c3, c4, c5⟩ := C.at
  rw [if_pos h2] at c2
  have c3 := c3 h2
  obtain ⟨o0, o1, o2, o3, o4, o5, o6, -⟩ := O
  have main : ∀ (r b : Nat), r + b = L.length → Q (pm (opN (fsome (fun b => if sPair (aF x) st a (L.getD a rec0) b (L.getD b rec0) then some b else none) b L.length))) h → m_X3_findSecond_3 (r + 1) Q 96 c (n32 (6 * i)) (n32 a) (n32 b) h := by
    intro r
    induction r with
    | zero =>
      intro b hr kk
      rw [m_X3_findSecond_3, A.1, n32_le (by omega) (by omega)]
      rw [fsome_end (by omega)] at kk
      exact ⟨fun _ => kk, fun z => absurd (by omega) z⟩
    | succ r ih =>
      intro b hr kk
      have hb : b < L.length := by omega
      have P := sPair_iff (aF x) st a (L.getD a rec0) b (L.getD b rec0)
      have nxt : ¬ sPair (aF x) st a (L.getD a rec0) b (L.getD b rec0) = true → m_X3_findSecond_70 (fun (v1n : Nat) (v1 : Nat) (v2 : Int32) (v3 : Int32) (v4 : Int32) hh => m_X3_findSecond_3 (r + 1) Q v1n v1 v2 v3 v4 hh) Q 96 c (n32 (6 * i)) (n32 a) (n32 b) h := by
        intro z
        unfold m_X3_findSecond_70
        intro x1 e1
        rw [e1, show n32 b + 1 = n32 (b + 1) from n32_add _ 1]
        rw [fsome_no (by omega) (by rw [if_neg z])] at kk
        exact ih (b + 1) (by omega) kk
      rw [m_X3_findSecond_3, A.1, n32_le (by omega) (by omega), show (2 : Int32) = n32 2 from rfl, show (3 : Int32) = n32 3 from rfl, n32_add, n32_add, n32_ix (by omega), n32_ix (by omega), c2, c3]
      refine ⟨fun z => absurd z (by omega), fun _ => ⟨vpI (by omega) (by decide), vpI (by omega) (by decide), ?_⟩⟩
      refine c_isOf A hb o3 o4 (fun y1 => ⟨fun z => absurd z (by decide), fun _ => ?_⟩) (fun y1 => ⟨fun _ => nxt (fun z => by rw [(P.mp z).1] at y1; cases y1), fun z => absurd rfl z⟩)
      rw [show (5 : Int32) = n32 5 from rfl, n32_add, n32_ix (by omega), c5]
      refine ⟨vpI (by omega) (by decide), ?_⟩
      refine c_isLater A ha hb o6 (fun y2 => ⟨fun z => absurd z (by decide), fun _ => ?_⟩) (fun y2 => ⟨fun _ => nxt (fun z => y2 (P.mp z).2.1), fun z => absurd rfl z⟩)
      rw [show (4 : Int32) = n32 4 from rfl, n32_add, n32_ix (by omega), c4]
      refine ⟨vpI (by omega) (by decide), ?_⟩
      refine c_isTied V A ha hb o5 (fun y3 => ⟨fun z => absurd z (by decide), fun _ => ?_⟩) (fun y3 => ⟨fun _ => nxt (fun z => y3 (P.mp z).2.2), fun z => absurd rfl z⟩)
      have hit := P.mpr ⟨y1, y2, y3⟩
      rw [fsome_yes (v := b) (by omega) (by rw [if_pos hit])] at kk
      exact kk
  exact ⟨_, main L.length 0 (by omega) k⟩
def SHt (a k : Nat) : Prop := a = 30 ∧ (k = 3 ∨ k = 4)
theorem SHt_SJg : ∀ a k, SHt a k → SJg a k := by unfold SHt SJg; omega
theorem fsome_lt {α : Type} {f : Nat → Option α} {n : Nat} {v : α} : ∀ (r i : Nat), r = n - i → fsome f i n = some v → ∃ j, i ≤ j ∧ j < n ∧ f j = some v := by
  intro r
  induction r with
  | zero => intro i hr e; rw [fsome_end (by omega)] at e; cases e
  | succ r ih =>
    intro i hr e
    cases hf : f i with
    | none =>
      rw [fsome_no (by omega) hf] at e
      obtain ⟨j, j1, j2, j3⟩ := ih (i + 1) (by omega) e
      exact ⟨j, by omega, j2, j3⟩
    | some w =>
      rw [fsome_yes (by omega) hf] at e
      exact ⟨i, Nat.le_refl _, by omega, by rw [hf]; exact e⟩
theorem c_findLeaves {x : Ab} {da : Nat → Nat} {L : List Rec} {c i : Nat} {st : Rec} {h : Hp} {Q : Int32 → Hp → Prop} (V : CVw x da h) (A : HrA L h) (C : CStm st h c i) (O : okStm st) (hi : i < 16)
    (k0 : barS (aF x) st L = none → Q 0 h) (k1 : ∀ p q h', barS (aF x) st L = some (p, q) → fr SHt h h' → hI h' 30 3 = n32 p → hI h' 30 4 = pm q → Q 1 h') : m_X3_findLeaves c 96 (n32 (6 * i)) h Q := by
  have h72 := A.2.1
  obtain ⟨c0, c1, c2, c3, c4, c5⟩ := C.at
  obtain ⟨o0, o1, o2, o3, o4, o5, o6, -⟩ := id O
  have hit : ∀ p q : Nat, barS (aF x) st L = some (p, q) → m_X3_findLeaves_74 Q (n32 p) (pm q) h := by
    intro p q e
    unfold m_X3_findLeaves_74
    refine k1 p q _ e (fr_wI (fr_wI (fr.rf _ _) _ (by unfold SHt; omega)) _ (by unfold SHt; omega)) ?_ ?_
    · rw [hI_wI, if_neg (by omega), hI_wI, if_pos ⟨rfl, rfl⟩]
    · rw [hI_wI, if_pos ⟨rfl, rfl⟩]
  have main : ∀ (r a : Nat), r + a = L.length → fsome (barP (aF x) st L) 0 L.length = fsome (barP (aF x) st L) a L.length → m_X3_findLeaves_18 (r + 1) (m_X3_findLeaves_74 Q) Q 96 c (n32 (6 * i)) (n32 (if st 2 = 1 then 0 else 1)) (n32 a) h := by
    intro r
    induction r with
    | zero =>
      intro a hr e
      rw [m_X3_findLeaves_18, A.1, n32_le (by omega) (by omega)]
      rw [fsome_end (show L.length ≤ a by omega)] at e
      exact ⟨fun _ => k0 e, fun z => absurd (by omega) z⟩
    | succ r ih =>
      intro a hr e
      have ha : a < L.length := by omega
      have nxt : barP (aF x) st L a = none → m_X3_findLeaves_88 (fun (v1n : Nat) (v1 : Nat) (v2 : Int32) (v3 : Int32) (v4 : Int32) hh => m_X3_findLeaves_18 (r + 1) (m_X3_findLeaves_74 Q) Q v1n v1 v2 v3 v4 hh) (m_X3_findLeaves_74 Q) Q 96 c (n32 (6 * i)) (n32 (if st 2 = 1 then 0 else 1)) (n32 a) h := by
        intro z
        unfold m_X3_findLeaves_88
        intro x1 e1
        rw [e1, show n32 a + 1 = n32 (a + 1) from n32_add _ 1]
        exact ih (a + 1) (by omega) (by rw [e, fsome_no ha z])
      rw [m_X3_findLeaves_18, A.1, n32_le (by omega) (by omega), show (0 : Int32) = n32 0 from rfl, show (1 : Int32) = n32 1 from rfl, n32_add, n32_add, Nat.add_zero, n32_ix (by omega), n32_ix (by omega), c0, c1]
      refine ⟨fun z => absurd z (by omega), fun _ => ⟨vpI (by omega) (by decide), vpI (by omega) (by decide), ?_⟩⟩
      refine c_isOf A ha o0 o1 (fun y1 => ⟨fun z => absurd z (by decide), fun _ => ?_⟩) (fun y1 => ⟨fun _ => nxt (by unfold barP; rw [if_neg (by rw [y1]; simp)]), fun z => absurd rfl z⟩)
      by_cases h2 : st 2 = 1
      · rw [if_pos h2]
        refine ⟨fun _ => ?_, fun z => absurd rfl z⟩
        refine c_findSecond V A C O h2 hi ha ?_
        unfold m_X3_findLeaves_62
        refine ⟨fun z => absurd rfl z, fun _ => ?_⟩
        cases hf : fsome (fun b => if sPair (aF x) st a (L.getD a rec0) b (L.getD b rec0) then some b else none) 0 L.length with
        | none =>
          refine ⟨fun _ => ?_, fun z => absurd rfl z⟩
          have := nxt (by unfold barP; rw [if_pos y1, if_neg (by omega), hf]; rfl)
          rw [if_pos h2] at this
          exact this
        | some b =>
          have bp : barP (aF x) st L a = some (a, b + 1) := by unfold barP; rw [if_pos y1, if_neg (by omega), hf]; rfl
          obtain ⟨j, -, j2, j3⟩ := fsome_lt _ 0 rfl hf
          have bl : b < L.length := by
            split at j3
            · injection j3 with j3; omega
            · cases j3
          refine ⟨fun z => ?_, fun _ => hit a (b + 1) (by unfold barS; rw [e, fsome_yes ha bp])⟩
          rw [show (-1 : Int32) = pm 0 from rfl, pm_inj (by show b + 1 ≤ _; omega) (by decide)] at z
          exact absurd z (by show ¬ b + 1 = 0; omega)
      · rw [if_neg h2]
        refine ⟨fun z => absurd z (by decide), fun _ => ?_⟩
        unfold m_X3_findLeaves_62
        have bp : barP (aF x) st L a = some (a, 0) := by unfold barP; rw [if_pos y1, if_pos (by omega)]
        exact ⟨fun _ => hit a 0 (by unfold barS; rw [e, fsome_yes ha bp]), fun z => absurd z (by decide)⟩
  unfold m_X3_findLeaves m_X3_findLeaves_14
  rw [show (2 : Int32) = n32 2 from rfl, n32_add, n32_ix (by omega), c2]
  have m0 := main L.length 0 (by omega) rfl
  refine ⟨vpI (by omega) (by decide), fun z => ?_, fun z => ?_⟩
  · by_cases q : st 2 = 1
    · rw [if_pos q] at m0; exact ⟨_, m0⟩
    · rw [if_neg q] at z; exact absurd rfl z
  · by_cases q : st 2 = 1
    · rw [if_pos q, n32_m1 (by omega)] at z; exact z.elim
    · rw [if_neg q] at m0; exact ⟨_, m0⟩
theorem CRul.fr {S : Nat → Nat → Prop} {l : List Rec} {h h' : Hp} {a : Nat} (C : CRul l h a) (f : fr S h h') (n : ∀ b k, a ≤ b → b ≤ a + 1 → ¬ S b k) : CRul l h' a := C.mv (fun b k h1 h2 => f.I (n b k h1 h2))
theorem c_first {x : Ab} {da : Nat → Nat} {L S : List Rec} {a : Nat} {h : Hp} {Q : Int32 → Hp → Prop} (V : CVw x da h) (A : HrA L h) (C : CRul S h a) (hS : S.length ≤ 16) (ha : 108 ≤ a)
    (k0 : brc (aF x) S L = none → Q (-1) h) (k1 : ∀ s p q h', brc (aF x) S L = some (s, p, q) → s < S.length → fr SHt h h' → hI h' 30 3 = n32 p → hI h' 30 4 = pm q → Q (n32 s) h') : m_X3_firstThatBars a h Q := by
  unfold m_X3_firstThatBars
  have main : ∀ (r s : Nat), r + s = S.length → brc (aF x) S L = fsome (fun k => (barS (aF x) (S.getD k rec0) L).map (fun q => (k, q))) s S.length → m_X3_firstThatBars_2 (r + 1) Q a (n32 s) h := by
    intro r
    induction r with
    | zero =>
      intro s hr e
      rw [m_X3_firstThatBars_2, C.1, n32_le (by omega) (by omega)]
      rw [fsome_end (by omega)] at e
      exact ⟨fun _ => k0 e, fun z => absurd (by omega) z⟩
    | succ r ih =>
      intro s hr e
      have hs : s < S.length := by omega
      obtain ⟨C1, O1⟩ := C.2 s hs
      rw [m_X3_firstThatBars_2, C.1, n32_le (by omega) (by omega), show (6 : Int32) = n32 6 from rfl, n32_mul, Nat.mul_comm s 6]
      refine ⟨fun z => absurd z (by omega), fun _ => ?_⟩
      refine c_findLeaves V A C1 O1 (by omega) (fun z => ⟨fun _ x3 e3 => ?_, fun y => absurd rfl y⟩) (fun p q h' z f' e3 e4 => ⟨fun y => absurd y (by decide), fun _ => ?_⟩)
      · rw [e3, show n32 s + 1 = n32 (s + 1) from n32_add _ 1]
        exact ih (s + 1) (by omega) (by rw [e, fsome_no hs (by rw [z]; rfl)])
      · exact k1 s p q h' (by rw [e, fsome_yes (v := (s, p, q)) hs (by rw [z]; rfl)]) hs f' e3 e4
  exact ⟨_, main S.length 0 (by omega) rfl⟩
/-- texts as they are kept -/
theorem InvC.rules {x : Ab} {da : Nat → Nat} {h : Hp} (I : InvC x da h) : (∀ i, i < (aL x).length → ∃ a, hR h 9 i = some a ∧ 108 ≤ a ∧ CRul ((aL x).getD i nil0) h a) ∧ ∀ i, i < (aW x).length → ∃ a, hR h 10 i = some a ∧ 108 ≤ a ∧ CRul (wordS x i) h a := by
  obtain ⟨-, ⟨l6, c2, -, -, c5⟩, -, ⟨l12, d2, -, -, d5⟩, -⟩ := I.2.2.2.2.2.1
  refine ⟨fun i hi => ?_, fun i hi => ?_⟩
  · obtain ⟨a, r, C⟩ := c5 i hi
    exact ⟨a, r, (c2 i a (by omega) r).1, C⟩
  · obtain ⟨a, r, C⟩ := d5 i hi
    exact ⟨a, r, (d2 i a (by omega) r).1, C⟩
/-- how long texts are -/
def TxS (x : Ab) : Prop := (∀ i, i < (aL x).length → ((aL x).getD i nil0).length ≤ 16) ∧ ∀ i, i < (aW x).length → (wordS x i).length ≤ 16
theorem TxS.law {x : Ab} (T : TxS x) : (lawS x).length ≤ 16 := by
  by_cases h : (aL x).length = 0
  · unfold lawS; rw [List.length_eq_zero_iff.mp h]; exact Nat.zero_le _
  · exact T.1 _ (by omega)
theorem InvR.txs {x : Ab} {h : Hp} (I : InvR x h) : TxS x := by
  obtain ⟨-, -, hl⟩ := I.2.2.2.2.2.1
  obtain ⟨-, -, hw⟩ := I.2.2.2.2.2.2.1
  exact ⟨fun i hi => (hl i hi).2.1, fun i hi => by have := (hw i hi).2.1; unfold wordS; omega⟩
theorem C_breach {x : Ab} {da : Nat → Nat} {v : Int32} {h : Hp} {Q : Int32 → Hp → Prop} (I : InvC x da h) (K : OkA x) (T : TxS x) (k : ∀ h', fr Own h h' → Q (ansBreach x v) h') : m_X11_breach v h Q := by
  unfold m_X11_breach
  unfold ansBreach at k
  have V := I.vw
  have B := I.2.2.2.2.2.2.1.bd
  refine c_law I (fun e => ⟨fun _ => ?_, fun b z => absurd z (by simp)⟩) (fun a e ha C => ⟨fun z => absurd z (by simp), fun b z => ?_⟩)
  · have el : lawS x = [] := by unfold lawS; rw [List.length_eq_zero_iff.mp e]; rfl
    have eb : brc (aF x) (lawS x) (lvs (aD x) (aB x)) = none := by rw [el]; rfl
    rw [eb] at k
    have := k h (fr.rf _ _)
    cases hq : argN v 3 with
    | none => rw [hq] at this; exact this
    | some w => rw [hq] at this; exact this
  · injection z with z
    subst z
    rw [show (3 : Int32) = n32 3 from rfl]
    refine c_within (by omega) (fun e => ?_) (fun w hw hw2 e1 e2 => ?_)
    · rw [e] at k; exact ⟨fun z => absurd rfl z, fun _ => k h (fr.rf _ _)⟩
    · rw [e2] at k
      subst e1
      refine ⟨fun _ => ?_, fun z => absurd z (by decide)⟩
      refine c_hear V K B (by decide) (fun h1 f1 A1 => ?_)
      have V1 := V.mv f1 (by unfold SJg; omega)
      refine c_first V1 A1 (C.fr f1 (by unfold SJg; omega)) T.law ha (fun z => ⟨fun _ => ?_, fun y => absurd rfl y⟩) (fun s p q h2 z hs f2 e3 e4 => ?_)
      · rw [z] at k; exact k h1 (f1.mono SJg_Own)
      · rw [z] at k
        dsimp only at k
        have kk := k h2 ((f1.trans (f2.mono SHt_SJg)).mono SJg_Own)
        have := T.law
        rw [n32_m1 (by omega), e3, e4, show (0 : Int32) = n32 0 from rfl, show (1 : Int32) = n32 1 from rfl, n32_eq hw2 (by decide), n32_eq hw2 (by decide)]
        refine ⟨fun y => y.elim, fun _ => ⟨fun y0 => ⟨fun y1 => ?_, fun y1 => ?_⟩, fun y0 => ?_⟩⟩
        · rw [if_neg y0, if_neg y1] at kk; exact kk
        · rw [if_neg y0, if_pos y1] at kk; exact kk
        · rw [if_pos y0] at kk; exact kk
theorem C_bars {x : Ab} {da : Nat → Nat} {v : Int32} {h : Hp} {Q : Int32 → Hp → Prop} (I : InvC x da h) (K : OkA x) (T : TxS x) (k : ∀ h', fr Own h h' → Q (ansBars x v) h') : m_X11_bars v h Q := by
  unfold m_X11_bars
  unfold ansBars at k
  have V := I.vw
  have B := I.2.2.2.2.2.2.1.bd
  have e8 := I.2.2.2.2.2.1.2.2.1
  have l12 := I.2.2.2.2.2.1.2.2.2.1.1
  rw [e8]
  refine c_within (by omega) (fun e => ?_) (fun w hw hw2 e1 e2 => ?_)
  · rw [e] at k; exact ⟨fun z => absurd rfl z, fun _ => k h (fr.rf _ _)⟩
  · rw [e2] at k
    subst e1
    dsimp only at k
    refine ⟨fun _ => ?_, fun z => absurd z (by decide)⟩
    obtain ⟨a, r, ha, C⟩ := I.rules.2 w hw
    refine c_hear V K B (by decide) (fun h1 f1 A1 => ?_)
    have V1 := V.mv f1 (by unfold SJg; omega)
    rw [n32_ix (by omega), f1.R (by unfold SJg; omega)]
    refine ⟨vpI (by omega) (by decide), a, r, ?_⟩
    unfold bars1 at k
    have hs := T.2 w hw
    refine c_first V1 A1 (C.fr f1 (by unfold SJg; omega)) hs ha (fun z => ⟨fun y => absurd rfl y, fun _ => ?_⟩) (fun s p q h2 z hs2 f2 e3 e4 => ⟨fun _ => ?_, fun y => ?_⟩)
    · rw [z] at k; exact k h1 (f1.mono SJg_Own)
    · rw [z] at k; exact k h2 ((f1.trans (f2.mono SHt_SJg)).mono SJg_Own)
    · rw [n32_m1 (by omega)] at y; exact y.elim
/-- whether a row of deals is let -/
theorem c_isLet {x : Ab} {da : Nat → Nat} {a : Nat} {l : List Nat} {h : Hp} {Q : Int32 → Hp → Prop} (I : InvC x da h) (K : OkA x) (T : TxS x) (B : CBd x da a l h) (ha : a < 29 ∨ 31 < a) (k : ∀ h', fr SJg h h' → Q (if bars1 (aF x) (lawS x) (lvs (aD x) l) then 0 else 1) h') : m_X11_isLet a h Q := by
  unfold m_X11_isLet
  unfold bars1 at k
  have V := I.vw
  refine c_law I (fun e => ⟨fun b z => absurd z (by simp), fun _ => ?_⟩) (fun c e hc C => ⟨fun b z => ?_, fun z => absurd z (by simp)⟩)
  · have el : lawS x = [] := by unfold lawS; rw [List.length_eq_zero_iff.mp e]; rfl
    have eb : brc (aF x) (lawS x) (lvs (aD x) l) = none := by rw [el]; rfl
    rw [eb] at k
    exact k h (fr.rf _ _)
  · injection z with z
    subst z
    refine c_hear V K B ha (fun h1 f1 A1 => ?_)
    have V1 := V.mv f1 (by unfold SJg; omega)
    have := T.law
    refine c_first V1 A1 (C.fr f1 (by unfold SJg; omega)) T.law hc (fun z => ⟨fun y => absurd rfl y, fun _ => ?_⟩) (fun s p q h2 z hs f2 e3 e4 => ⟨fun _ => ?_, fun y => ?_⟩)
    · rw [z] at k; exact k h1 f1
    · rw [z] at k; exact k h2 (f1.trans (f2.mono SHt_SJg))
    · rw [n32_m1 (by omega)] at y; exact y.elim
