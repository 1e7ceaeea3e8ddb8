/-! THE MODEL: breach, bars, the words that bar -/
def SBr (a k : Nat) : Prop := a = 100 ∨ a = 101 ∨ a = 51 ∧ (k = 78 ∨ k = 79 ∨ k = 80)
theorem SBr_Scr : ∀ a k, SBr a k → Scr a k := by unfold SBr Scr Last; omega
theorem SLv_SBr : ∀ a k, SLv a k → SBr a k := by unfold SLv SBr; omega
theorem SHit_SBr : ∀ a k, SHit a k → SBr a k := by unfold SHit SBr; omega
theorem InvR.bar {x : Ab} {h : Hp} (I : InvR x h) (K : OkA x) {bs : List Nat} (hin : inD x bs) (A : LvA (lvs (aD x) bs) h) : Bar (aF x) (lvs (aD x) bs) h := ⟨I.1, A, I.lv K hin⟩
/-- the law in force -/
def lawS (x : Ab) : List Rec := (aL x).getD ((aL x).length - 1) nil0
/-- statements in the Model's rows from b on -/
def StA (S : List Rec) (b : Nat) (h : Hp) : Prop := b + S.length ≤ 240 ∧ ∀ k, k < S.length → RStm (S.getD k rec0) h (b + k) ∧ okStm (S.getD k rec0)
theorem StA.mv {S : List Rec} {b : Nat} {h h' : Hp} (A : StA S b h) (f : fr SHit h h') : StA S b h' := ⟨A.1, fun k hk => ⟨stm_mv (A.2 k hk).1 f, (A.2 k hk).2⟩⟩
def ans1 (o : Option (Nat × Nat × Nat)) : Nat := match o with | none => 0 | some q => q.1 + 1
set_option maxHeartbeats 4000000 in
set_option maxRecDepth 100000 in
theorem q_breachNow {x : Ab} {l : List Nat} {h : Hp} {Q : Int32 → Hp → Prop} (I : InvR x h) (K : OkA x) (hin : inD x l) (Ls : LstIs l h)
    (k : ∀ h', fr SBr h h' → InvR x h' → LstIs l h' → (∀ s a b, brc (aF x) (lawS x) (lvs (aD x) l) = some (s, a, b) → s < 16 ∧ a < 72 ∧ b ≤ 72 ∧ hI h' 51 79 = n32 a ∧ hI h' 51 80 = pm b) → Q (pm (ans1 (brc (aF x) (lawS x) (lvs (aD x) l)))) h') : m_X12_breachNow h Q := by
  unfold m_X12_breachNow
  refine q_leaves I K hin Ls (fun h1 f1 I1 L1 A1 => ?_)
  have B1 := I1.bar K hin A1
  obtain ⟨e67, l6, hL⟩ := I1.2.2.2.2.2.1
  have main : ∀ b, StA (lawS x) b h1 → (0 < (lawS x).length → n32 16 * (hI h1 51 67 - n32 1) = n32 b) → (lawS x).length ≤ 16 → ∀ (r s : Nat) (h2 : Hp), r + s = (lawS x).length → fr SHit h1 h2 → fsome (fun k => (barS (aF x) ((lawS x).getD k rec0) (lvs (aD x) l)).map (fun q => (k, q))) s (lawS x).length = brc (aF x) (lawS x) (lvs (aD x) l) → m_X12_breachNow_29 (r + 1) Q (n32 (lawS x).length) (n32 s) h2 := by
    intro b hb eb l16 r
    induction r with
    | zero =>
      intro s h2 hr f2 e
      rw [m_X12_breachNow_29]
      rw [fsome_end (by omega)] at e
      refine ⟨fun _ => ?_, fun z => ?_⟩
      · have fa : fr SBr h h2 := (f1.mono SLv_SBr).trans (f2.mono SHit_SBr)
        have := k h2 fa (I.fr (fa.mono SBr_Scr)) (Ls.fr fa (by unfold SBr; omega) (by unfold SBr; omega)) (fun s' a b hh => by rw [← e] at hh; cases hh)
        rw [← e] at this
        exact this
      · rw [n32_le (by omega) (by omega)] at z; omega
    | succ r ih =>
      intro s h2 hr f2 e
      rw [m_X12_breachNow_29]
      have e67' : hI h2 51 67 = hI h1 51 67 := f2.I (by unfold SHit; omega)
      have B2 := B1.mv f2
      obtain ⟨S2, So⟩ := (hb.mv f2).2 s (by omega)
      have hb1 := hb.1
      refine ⟨fun z => ?_, fun _ => ?_⟩
      · rw [n32_le (by omega) (by omega)] at z; omega
      · rw [e67', show (16 : Int32) = n32 16 from rfl, show (1 : Int32) = n32 1 from rfl, eb (by omega), n32_add]
        refine q_doesBar B2 S2 So (by omega) (fun h3 f3 hn => ?_) (fun h3 a c f3 hs ha hc g1 g2 => ?_)
        · refine ⟨fun _ x3 e3 => ?_, fun z => absurd rfl z⟩
          rw [e3, n32_add]
          exact ih (s + 1) h3 (by omega) (f2.trans f3) (by rw [← fsome_no (by omega) (by rw [hn]; rfl)]; exact e)
        · refine ⟨fun z => absurd z (by decide), fun _ => ?_⟩
          rw [fsome_yes (v := (s, a, c)) (by omega) (by rw [hs]; rfl)] at e
          have fa : fr SBr h h3 := (f1.mono SLv_SBr).trans ((f2.trans f3).mono SHit_SBr)
          have := k h3 fa (I.fr (fa.mono SBr_Scr)) (Ls.fr fa (by unfold SBr; omega) (by unfold SBr; omega)) (fun s' a' b' hh => by
            rw [← e] at hh
            cases hh
            exact ⟨by omega, ha, hc, g1, g2⟩)
          rw [← e] at this
          exact this
  by_cases h0 : (aL x).length = 0
  · have e0 : lawS x = [] := by
      unfold lawS
      rw [h0, List.getD_eq_getElem?_getD, List.getElem?_eq_none (by omega)]
      rfl
    rw [e67, h0]
    refine ⟨fun z => absurd rfl z, fun _ => ?_⟩
    unfold m_X12_breachNow_26
    have := main 0 ⟨by rw [e0]; decide, fun k hk => by rw [e0] at hk; simp at hk⟩ (fun z => by rw [e0] at z; simp at z) (by rw [e0]; decide) 0 0 h1 (by rw [e0]; rfl) (fr.rf _ _) rfl
    rw [e0] at this
    exact ⟨_, this⟩
  · obtain ⟨g1, g2, g3⟩ := hL ((aL x).length - 1) (by omega)
    have es : n32 (aL x).length - n32 1 = n32 ((aL x).length - 1) := n32_sub (by omega)
    refine ⟨fun _ => ?_, fun z => ?_⟩
    · rw [e67, show (1 : Int32) = n32 1 from rfl, es, n32_ix (by omega), g1]
      refine ⟨vpI (by omega) (by decide), ?_⟩
      unfold m_X12_breachNow_26
      exact ⟨_, main (16 * ((aL x).length - 1)) ⟨by have : (lawS x).length ≤ 16 := g2; omega, fun k hk => g3 k hk⟩ (fun _ => by rw [e67, es, n32_mul]) g2 (lawS x).length 0 h1 (by omega) (fr.rf _ _) rfl⟩
    · rw [e67, show (0 : Int32) = n32 0 from rfl, n32_eq (by omega) (by decide)] at z
      exact absurd z h0
def ansBreach (x : Ab) (v : Int32) : Int32 := match argN v 3, brc (aF x) (lawS x) (lvs (aD x) (aB x)) with
  | some w, some (s, a, b) => if w = 0 then n32 s else if w = 1 then n32 a else pm b
  | _, _ => -1
set_option maxHeartbeats 4000000 in
set_option maxRecDepth 100000 in
theorem R_breach {x : Ab} {v : Int32} {h : Hp} {Q : Int32 → Hp → Prop} (I : InvR x h) (K : OkA x) (k : ∀ h', fr Scr h h' → Q (ansBreach x v) h') : m_X12_breach v h Q := by
  unfold m_X12_breach
  unfold ansBreach at k
  refine q_upto (hi := 2) (by decide) (fun e => ?_) (fun w hw e1 e2 => ?_)
  · rw [e] at k; exact ⟨fun z => absurd rfl z, fun _ => k h (fr.rf _ _)⟩
  · rw [e2] at k
    subst e1
    refine ⟨fun _ => ?_, fun z => absurd z (by decide)⟩
    refine q_bundle I (fun h1 f1 L => ?_)
    have I1 := I.fr (f1.mono SLs_Scr)
    refine q_breachNow I1 K I.inB L (fun h2 f2 I2 L2 hit => ?_)
    have fa : fr Scr h h2 := (f1.mono SLs_Scr).trans (f2.mono SBr_Scr)
    replace k := k h2 fa
    cases hb : brc (aF x) (lawS x) (lvs (aD x) (aB x)) with
    | none =>
      rw [hb] at k
      exact ⟨fun z => absurd z (by decide), fun _ => k⟩
    | some q =>
      obtain ⟨s, a, b⟩ := q
      obtain ⟨g1, g2, g3, g4, g5⟩ := hit s a b hb
      rw [hb] at k
      dsimp only at k
      show (0 ≤ n32 s → _) ∧ (¬ 0 ≤ n32 s → _)
      rw [g4, g5]
      simp (disch := omega) only [↓m1_pm, lit32, n32_add, n32_mul, n32_ix, n32_lt, n32_le, n32_eq, n32_in, pm_ix, pm_in, pm_eqn, n_eqpm, pm_ltn, n_ltpm, pm_len, n_lepm, pm_inj, forall_eq]
      refine ⟨fun _ => ⟨fun q => ⟨fun q2 => ?_, fun q2 => ?_⟩, fun q => ?_⟩, fun z => absurd (Nat.zero_le _) z⟩
      · rw [if_neg q, if_neg q2] at k; exact k
      · rw [if_neg q, if_pos q2] at k; exact k
      · rw [if_pos q] at k; exact k
/-- whether a text's statements bar these leaves -/
def bars1 (F : Nat → Nat) (S : List Rec) (L : List Rec) : Bool := (brc F S L).isSome
def wordS (x : Ab) (w : Nat) : List Rec := (aW x).getD w nil0
set_option maxHeartbeats 4000000 in
set_option maxRecDepth 100000 in
theorem q_wordBar {x : Ab} {l : List Nat} {w : Nat} {h : Hp} {Q : Int32 → Hp → Prop} (I : InvR x h) (B : Bar (aF x) (lvs (aD x) l) h) (hw : w < (aW x).length)
    (k : ∀ h', fr SHit h h' → Q (n32 (if bars1 (aF x) (wordS x w) (lvs (aD x) l) then 1 else 0)) h') : m_X12_doesWordBar (n32 w) h Q := by
  unfold m_X12_doesWordBar
  obtain ⟨e68, l12, hW⟩ := I.2.2.2.2.2.2.1
  obtain ⟨g1, g2, g3⟩ := hW w hw
  have hb : StA (wordS x w) (96 + 12 * w) h := ⟨by have : (wordS x w).length ≤ 12 := g2; omega, fun k hk => g3 k hk⟩
  have hl : (wordS x w).length ≤ 12 := g2
  have main : ∀ (r s : Nat) (h2 : Hp), r + s = (wordS x w).length → fr SHit h h2 → fsome (fun k => (barS (aF x) ((wordS x w).getD k rec0) (lvs (aD x) l)).map (fun q => (k, q))) s (wordS x w).length = brc (aF x) (wordS x w) (lvs (aD x) l) → m_X12_doesWordBar_2 (r + 1) Q (n32 w) (n32 s) h2 := by
    intro r
    induction r with
    | zero =>
      intro s h2 hr f2 e
      have e92 : hI h2 92 w = n32 (wordS x w).length := by rw [f2.I (by unfold SHit; omega)]; exact g1
      rw [m_X12_doesWordBar_2]
      rw [fsome_end (by omega)] at e
      simp (disch := omega) only [↓m1_pm, lit32, n32_add, n32_mul, n32_ix, n32_lt, n32_le, n32_eq, n32_in, pm_ix, pm_in, pm_eqn, n_eqpm, pm_ltn, n_ltpm, pm_len, n_lepm, pm_inj, forall_eq, e92]
      refine ⟨by omega, fun _ => ?_, fun z => absurd z (by omega)⟩
      have := k h2 f2
      unfold bars1 at this
      rw [← e] at this
      exact this
    | succ r ih =>
      intro s h2 hr f2 e
      have e92 : hI h2 92 w = n32 (wordS x w).length := by rw [f2.I (by unfold SHit; omega)]; exact g1
      rw [m_X12_doesWordBar_2]
      have B2 := B.mv f2
      obtain ⟨S2, So⟩ := (hb.mv f2).2 s (by omega)
      simp (disch := omega) only [↓m1_pm, lit32, n32_add, n32_mul, n32_ix, n32_lt, n32_le, n32_eq, n32_in, pm_ix, pm_in, pm_eqn, n_eqpm, pm_ltn, n_ltpm, pm_len, n_lepm, pm_inj, forall_eq, e92]
      refine ⟨by omega, fun z => absurd z (by omega), fun _ => ?_⟩
      refine q_doesBar B2 S2 So (by omega) (fun h3 f3 hn => ?_) (fun h3 a c f3 hs ha hc g1 g2 => ?_)
      · refine ⟨fun _ => ?_, fun z => absurd rfl z⟩
        exact ih (s + 1) h3 (by omega) (f2.trans f3) (by rw [← fsome_no (by omega) (by rw [hn]; rfl)]; exact e)
      · refine ⟨fun z => absurd z (by decide), fun _ => ?_⟩
        rw [fsome_yes (v := (s, a, c)) (by omega) (by rw [hs]; rfl)] at e
        have := k h3 (f2.trans f3)
        unfold bars1 at this
        rw [← e] at this
        exact this
  exact ⟨_, main (wordS x w).length 0 h (by omega) (fr.rf _ _) rfl⟩
def ansBars (x : Ab) (v : Int32) : Int32 := match argN v (aW x).length with
  | some w => n32 (if bars1 (aF x) (wordS x w) (lvs (aD x) (aB x)) then 1 else 0)
  | none => -1
/-- a number below n, as the Model asks it: 0 to n - 1 -/
theorem q_below {v : Int32} {n : Nat} (hh : n < 2147483647) {h : Hp} {Q : Int32 → Hp → Prop} (k1 : argN v n = none → Q 0 h) (k2 : ∀ a : Nat, a < n → v = n32 a → argN v n = some a → Q 1 h) : m_X12_within v 0 (n32 n - 1) h Q := by
  rcases Nat.eq_zero_or_pos n with rfl | hp
  · refine q_within (fun _ => k1 ?_) (fun c1 c2 => ?_)
    · unfold argN; rw [if_neg (fun z => absurd z.2 (Nat.not_lt_zero _))]
    · obtain ⟨a, ha, rfl⟩ := n32_of (Int32.not_lt.mp c1)
      rw [show n32 0 - 1 = pm 0 from rfl, pm_ltn (by omega) (by omega)] at c2
      omega
  · rw [show (1 : Int32) = n32 1 from rfl, n32_sub hp]
    refine q_upto (by omega) (fun e => k1 ?_) (fun a ha e1 e2 => k2 a (by omega) e1 ?_)
    · rw [show n - 1 + 1 = n by omega] at e; exact e
    · rw [show n - 1 + 1 = n by omega] at e2; exact e2
set_option maxHeartbeats 4000000 in
set_option maxRecDepth 100000 in
theorem R_bars {x : Ab} {v : Int32} {h : Hp} {Q : Int32 → Hp → Prop} (I : InvR x h) (K : OkA x) (k : ∀ h', fr Scr h h' → Q (ansBars x v) h') : m_X12_bars v h Q := by
  unfold m_X12_bars
  unfold ansBars at k
  obtain ⟨e68, l12, hW⟩ := I.2.2.2.2.2.2.1
  rw [e68]
  refine q_below (by omega) (fun e => ?_) (fun w hw e1 e2 => ?_)
  · rw [e] at k; exact ⟨fun z => absurd rfl z, fun _ => k h (fr.rf _ _)⟩
  · rw [e2] at k
    subst e1
    refine ⟨fun _ => ?_, fun z => absurd z (by decide)⟩
    refine q_bundle I (fun h1 f1 L => ?_)
    have I1 := I.fr (f1.mono SLs_Scr)
    refine q_leaves I1 K I.inB L (fun h2 f2 I2 L2 A2 => ?_)
    refine q_wordBar I2 (I2.bar K I.inB A2) hw (fun h3 f3 => ?_)
    have := k h3 (((f1.mono SLs_Scr).trans (f2.mono SLv_Scr)).trans (f3.mono SHit_Scr))
    dsimp only at this
    cases hb : bars1 (aF x) (wordS x w) (lvs (aD x) (aB x)) with
    | true => rw [hb] at this; exact ⟨fun z => absurd z (by decide), fun _ => this⟩
    | false => rw [hb] at this; exact ⟨fun _ => this, fun z => absurd (by decide) z⟩
/-- the words that bar these leaves, as bits -/
def wBits (x : Ab) (L : List Rec) (j : Nat) : Nat := (List.range j).foldl (fun b w => if bars1 (aF x) (wordS x w) L then b ||| 2 ^ w else b) 0
theorem wBits_succ (x : Ab) (L : List Rec) (j : Nat) : wBits x L (j + 1) = if bars1 (aF x) (wordS x j) L then wBits x L j ||| 2 ^ j else wBits x L j := by simp [wBits, List.range_succ]
theorem wBits_lt (x : Ab) (L : List Rec) : ∀ j, wBits x L j < 2 ^ j
  | 0 => by simp [wBits]
  | j + 1 => by
    rw [wBits_succ]
    have := wBits_lt x L j
    have hp : 2 ^ (j + 1) = 2 * 2 ^ j := by rw [Nat.pow_succ]; omega
    split
    · exact Nat.or_lt_two_pow (by omega) (by omega)
    · omega
theorem wBits_bit (x : Ab) (L : List Rec) : ∀ j i, (wBits x L j).testBit i = (decide (i < j) && bars1 (aF x) (wordS x i) L)
  | 0, i => by simp [wBits]
  | j + 1, i => by
    rw [wBits_succ]
    have ih := wBits_bit x L j i
    by_cases hij : i = j
    · subst hij
      split
      · rename_i q; rw [Nat.testBit_or, Nat.testBit_two_pow]; simp [q]
      · rename_i q
        rw [ih]
        simp at q
        simp [q]
    · split
      · rw [Nat.testBit_or, ih, Nat.testBit_two_pow]
        rw [show decide (j = i) = false by simp; omega, Bool.or_false]
        congr 1
        simp; omega
      · rw [ih]
        congr 1
        simp; omega
set_option maxHeartbeats 4000000 in
set_option maxRecDepth 100000 in
theorem q_words {x : Ab} {l : List Nat} {h : Hp} {Q : Int32 → Hp → Prop} (I : InvR x h) (K : OkA x) (hin : inD x l) (Ls : LstIs l h)
    (k : ∀ h', fr SBr h h' → InvR x h' → LstIs l h' → Q (n32 (wBits x (lvs (aD x) l) (aW x).length)) h') : m_X12_wordsThatBar h Q := by
  unfold m_X12_wordsThatBar
  refine q_leaves I K hin Ls (fun h1 f1 I1 L1 A1 => ?_)
  have B1 := I1.bar K hin A1
  obtain ⟨e68, l12, hW⟩ := I1.2.2.2.2.2.2.1
  have main : ∀ (r w : Nat) (h2 : Hp), r + w = (aW x).length → fr SHit h1 h2 → m_X12_wordsThatBar_8 (r + 1) Q (n32 (wBits x (lvs (aD x) l) w)) (n32 w) h2 := by
    intro r
    induction r with
    | zero =>
      intro w h2 hr f2
      have e68' : hI h2 51 68 = n32 (aW x).length := by rw [f2.I (by unfold SHit; omega)]; exact e68
      rw [m_X12_wordsThatBar_8]
      simp (disch := omega) only [↓m1_pm, lit32, n32_add, n32_mul, n32_ix, n32_lt, n32_le, n32_eq, n32_in, pm_ix, pm_in, pm_eqn, n_eqpm, pm_ltn, n_ltpm, pm_len, n_lepm, pm_inj, forall_eq, e68']
      have fa : fr SBr h h2 := (f1.mono SLv_SBr).trans (f2.mono SHit_SBr)
      have := k h2 fa (I.fr (fa.mono SBr_Scr)) (Ls.fr fa (by unfold SBr; omega) (by unfold SBr; omega))
      rw [show (aW x).length = w by omega] at this ⊢
      exact ⟨fun _ => this, fun z => absurd (Nat.le_refl _) z⟩
    | succ r ih =>
      intro w h2 hr f2
      have e68' : hI h2 51 68 = n32 (aW x).length := by rw [f2.I (by unfold SHit; omega)]; exact e68
      have B2 := B1.mv f2
      have I2 := I1.fr (f2.mono SHit_Scr)
      have w1 := wBits_lt x (lvs (aD x) l) w
      have w2 : 2 ^ w ≤ 2 ^ 12 := pw_le (by omega)
      rw [m_X12_wordsThatBar_8]
      refine ⟨fun z => ?_, fun _ => ?_⟩
      · rw [e68', n32_le (by omega) (by omega)] at z; omega
      · refine q_wordBar I2 B2 (by omega) (fun h3 f3 => ?_)
        have := ih (w + 1) h3 (by omega) (f2.trans f3)
        rw [wBits_succ] at this
        unfold m_X12_wordsThatBar_32
        cases hb : bars1 (aF x) (wordS x w) (lvs (aD x) l) with
        | true =>
          rw [hb, if_pos rfl] at this
          refine ⟨fun z => absurd z (by decide), fun _ => ?_⟩
          simp (disch := omega) only [↓m1_pm, lit32, n32_add, n32_mul, n32_ix, n32_lt, n32_le, n32_eq, n32_in, pm_ix, pm_in, pm_eqn, n_eqpm, pm_ltn, n_ltpm, pm_len, n_lepm, pm_inj, forall_eq, shl1, n32_or]
          exact this
        | false =>
          rw [hb, if_neg (by decide)] at this
          refine ⟨fun _ => ?_, fun z => absurd (by decide) z⟩
          simp (disch := omega) only [↓m1_pm, lit32, n32_add, n32_mul, n32_ix, n32_lt, n32_le, n32_eq, n32_in, pm_ix, pm_in, pm_eqn, n_eqpm, pm_ltn, n_ltpm, pm_len, n_lepm, pm_inj, forall_eq, n32_or, Nat.or_zero]
          exact this
  exact ⟨_, main (aW x).length 0 h1 (by omega) (fr.rf _ _)⟩
