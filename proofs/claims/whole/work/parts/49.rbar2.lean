/-! THE MODEL: pairs of leaves; breach, bars -/
theorem n32_subneg {p q : Nat} (h : p < q) (hq : q < 2147483648) : n32 p - n32 q < n32 0 := by
  rw [Int32.lt_iff_toInt_lt, Int32.toInt_sub, n32_toInt (by omega), n32_toInt hq, n32_toInt (by decide)]
  have : ((p : Int) - (q : Int)).bmod (2 ^ 32) = (p : Int) - q := by
    apply Int.bmod_eq_of_le <;> omega
  rw [this]
  omega
set_option maxHeartbeats 4000000 in
set_option maxRecDepth 100000 in
theorem q_isPair {F : Nat → Nat} {L : List Rec} {st : Rec} {h : Hp} {i a b : Nat} {Q : Int32 → Hp → Prop} (B : Bar F L h) (S : RStm st h i) (So : okStm st) (hi : i < 240) (h2 : st 2 = 1) (ha : a < L.length) (hb : b < L.length) (k1 : sPair F st a (L.getD a rec0) b (L.getD b rec0) = true → Q 1 h) (k0 : sPair F st a (L.getD a rec0) b (L.getD b rec0) = false → Q 0 h) : m_X12_isPair (n32 i) (n32 a) (n32 b) h Q := by
  have B' := B
  obtain ⟨hF, A, N⟩ := B
  have na := N _ (getD_in ha)
  have nb := N _ (getD_in hb)
  have ea := A.2.2 a ha
  have eb := A.2.2 b hb
  have l72 := A.2.1
  have isof := fun (k1 : sOf (st 3) (st 4) (L.getD b rec0) = true → _) k0 => q_isOf (Q := fun (x4 : Int32) (h5 : Hp) => (x4 = 0 → Q 0 h5) ∧ (¬ x4 = 0 → (n32 ((L.getD b rec0) 6) - n32 ((L.getD a rec0) 6) < 0 → Q 0 h5) ∧ (¬ n32 ((L.getD b rec0) 6) - n32 ((L.getD a rec0) 6) < 0 → (¬ n32 ((L.getD b rec0) 6) - n32 ((L.getD a rec0) 6) = 0 → m_X12_isPair_50 Q (n32 i) (n32 a) (n32 b) (n32 ((L.getD b rec0) 6) - n32 ((L.getD a rec0) 6)) h5) ∧ (n32 ((L.getD b rec0) 6) - n32 ((L.getD a rec0) 6) = 0 → (n32 b ≤ n32 a → Q 0 h5) ∧ (¬ n32 b ≤ n32 a → m_X12_isPair_50 Q (n32 i) (n32 a) (n32 b) (n32 ((L.getD b rec0) 6) - n32 ((L.getD a rec0) 6)) h5))))) B' hb So.2.2.2.1 So.2.2.2.2.1 k1 k0
  generalize L.getD a rec0 = ra at *
  generalize L.getD b rec0 = rb at *
  obtain ⟨s93, s94, s99, s97, s98, s2⟩ := S
  obtain ⟨s95, s96⟩ := s2 h2
  obtain ⟨-, -, -, -, -, o5, o6, -⟩ := So
  obtain ⟨a11, a0, a1, a2, a3, a5, la⟩ := na
  obtain ⟨b11, b0, b1, b2, b3, b5, lb⟩ := nb
  obtain ⟨-, pa1, pa2, -, pa3, -, pa5, pa6, -⟩ := la
  obtain ⟨-, pb1, pb2, -, pb3, -, pb5, pb6, -⟩ := lb
  have fa1 := hF (ra 1) pa1; have fa2 := hF (ra 2) pa2; have fb1 := hF (rb 1) pb1; have fb2 := hF (rb 2) pb2
  have ga1 := fa1.1; have ga2 := fa2.1; have gb1 := fb1.1; have gb2 := fb2.1
  have ha1 := fa1.2; have ha2 := fa2.2; have hb1 := fb1.2; have hb2 := fb2.2
  have ea0 := ea.1; have ea1 := ea.2; have eb0 := eb.1; have eb1 := eb.2
  have c1 : st 5 &&& 1 ≤ 1 := Nat.and_le_right
  have c2 : st 5 &&& 2 ≤ 2 := Nat.and_le_right
  have c4 : st 5 &&& 4 ≤ 4 := Nat.and_le_right
  unfold sPair at k1 k0
  -- the last stretches
  have p184 : (st 5 &&& 4 = 0 ∨ ra 5 < rb 5 → Q 1 h) → (¬ (st 5 &&& 4 = 0 ∨ ra 5 < rb 5) → Q 0 h) → m_X12_isPair_184 Q (n32 i) (n32 (ra 11)) (n32 (rb 11)) h := by
    intro y n
    unfold m_X12_isPair_184
    simp (disch := omega) only [↓m1_pm, lit32, n32_add, n32_mul, n32_ix, n32_lt, n32_le, n32_eq, n32_in, pm_ix, pm_in, pm_eqn, n_eqpm, pm_ltn, n_ltpm, pm_len, n_lepm, pm_inj, forall_eq, s97, n32_and, a5, b5]
    exact ⟨by omega, fun z => y (Or.inl z), fun z => ⟨by omega, by omega, fun z2 => n (by omega), fun z2 => y (by omega)⟩⟩
  have p156 : ((st 5 &&& 2 = 0 ∨ ra 3 = rb 3) ∧ (st 5 &&& 4 = 0 ∨ ra 5 < rb 5) → Q 1 h) → (¬ ((st 5 &&& 2 = 0 ∨ ra 3 = rb 3) ∧ (st 5 &&& 4 = 0 ∨ ra 5 < rb 5)) → Q 0 h) → m_X12_isPair_156 Q (n32 i) (n32 (ra 11)) (n32 (rb 11)) h := by
    intro y n
    unfold m_X12_isPair_156
    simp (disch := omega) only [↓m1_pm, lit32, n32_add, n32_mul, n32_ix, n32_lt, n32_le, n32_eq, n32_in, pm_ix, pm_in, pm_eqn, n_eqpm, pm_ltn, n_ltpm, pm_len, n_lepm, pm_inj, forall_eq, s97, n32_and, a3, b3]
    refine ⟨by omega, fun z => p184 (fun w => y ⟨Or.inl z, w⟩) (fun w => n (fun v => w v.2)), fun z => ⟨by omega, by omega, fun z2 => n (fun v => ?_), fun z2 => p184 (fun w => y ⟨Or.inr z2, w⟩) (fun w => n (fun v => w v.2))⟩⟩
    rcases v.1 with v | v
    · exact z v
    · exact z2 v
  have p72 : ((st 5 &&& 1 = 0 ∨ (F (rb 2) = F (ra 1) ∧ F (rb 1) = F (ra 2))) ∧ (st 5 &&& 2 = 0 ∨ ra 3 = rb 3) ∧ (st 5 &&& 4 = 0 ∨ ra 5 < rb 5) → Q 1 h) → (¬ ((st 5 &&& 1 = 0 ∨ (F (rb 2) = F (ra 1) ∧ F (rb 1) = F (ra 2))) ∧ (st 5 &&& 2 = 0 ∨ ra 3 = rb 3) ∧ (st 5 &&& 4 = 0 ∨ ra 5 < rb 5)) → Q 0 h) → m_X12_isPair_72 Q (n32 i) (n32 a) (n32 b) h := by
    intro y n
    unfold m_X12_isPair_72
    simp (disch := omega) only [↓m1_pm, lit32, n32_add, n32_mul, n32_ix, n32_lt, n32_le, n32_eq, n32_in, pm_ix, pm_in, pm_eqn, n_eqpm, pm_ltn, n_ltpm, pm_len, n_lepm, pm_inj, forall_eq, s97, n32_and, ea0, eb0, b2, a1, b1, a2, ga1, ga2, gb1, gb2]
    refine ⟨by omega, by omega, by omega, fun z => p156 (fun w => y ⟨Or.inl (by omega), w⟩) (fun w => n (fun v => w v.2)), fun z => ⟨by omega, by omega, by omega, by omega, fun z2 => n (fun v => ?_), fun z2 => ⟨by omega, by omega, by omega, by omega, fun z3 => p156 (fun w => y ⟨Or.inr ⟨z2, z3⟩, w⟩) (fun w => n (fun v => w v.2)), fun z3 => n (fun v => ?_)⟩⟩⟩
    · rcases v.1 with v | v
      · omega
      · exact z2 v.1
    · rcases v.1 with v | v
      · omega
      · exact z3 v.2
  have p50 : ra 6 ≤ rb 6 → ((st 6 = 0 ∨ rb 6 - ra 6 + 1 ≤ st 6) ∧ (st 5 &&& 1 = 0 ∨ (F (rb 2) = F (ra 1) ∧ F (rb 1) = F (ra 2))) ∧ (st 5 &&& 2 = 0 ∨ ra 3 = rb 3) ∧ (st 5 &&& 4 = 0 ∨ ra 5 < rb 5) → Q 1 h) → (¬ ((st 6 = 0 ∨ rb 6 - ra 6 + 1 ≤ st 6) ∧ (st 5 &&& 1 = 0 ∨ (F (rb 2) = F (ra 1) ∧ F (rb 1) = F (ra 2))) ∧ (st 5 &&& 2 = 0 ∨ ra 3 = rb 3) ∧ (st 5 &&& 4 = 0 ∨ ra 5 < rb 5)) → Q 0 h) → m_X12_isPair_50 Q (n32 i) (n32 a) (n32 b) (n32 (rb 6 - ra 6)) h := by
    intro hle y n
    unfold m_X12_isPair_50
    simp (disch := omega) only [↓m1_pm, lit32, n32_add, n32_mul, n32_ix, n32_lt, n32_le, n32_eq, n32_in, pm_ix, pm_in, pm_eqn, n_eqpm, pm_ltn, n_ltpm, pm_len, n_lepm, pm_inj, forall_eq, s98]
    exact ⟨by omega, fun z => p72 (fun w => y ⟨Or.inl (by omega), w⟩) (fun w => n (fun v => w v.2)), fun z => ⟨by omega, fun z2 => p72 (fun w => y ⟨Or.inr (by omega), w⟩) (fun w => n (fun v => w v.2)), fun z2 => n (fun v => by rcases v.1 with v | v <;> omega)⟩⟩
  unfold m_X12_isPair
  rw [n32_ix (by omega), n32_ix (by omega), n32_ix (by omega), ea1, eb1, s95, s96]
  refine ⟨vpI (by omega) (by decide), vpI (by omega) (by decide), fun x3 e3 => ?_⟩
  subst e3
  refine ⟨vpI (by omega) (by decide), vpI (by omega) (by decide), isof (fun hof => ?_) (fun hof => ?_)⟩
  · refine ⟨fun z => absurd z (by decide), fun _ => ?_⟩
    rw [hof, Bool.true_and] at k1 k0
    rcases Nat.lt_or_ge (rb 6) (ra 6) with hlt | hle
    · refine ⟨fun _ => k0 ?_, fun z => absurd (n32_subneg hlt (by omega)) z⟩
      rw [show decide (ra 6 ≤ rb 6) = false by simp; omega]
      simp
    · rw [n32_sub hle]
      rw [show decide (ra 6 ≤ rb 6) = true by simp; omega, Bool.true_and] at k1 k0
      have y50 : (ra 6 < rb 6 ∨ a < b) → m_X12_isPair_50 Q (n32 i) (n32 a) (n32 b) (n32 (rb 6 - ra 6)) h := by
        intro hq
        have eq : (decide (ra 6 < rb 6) || decide (a < b)) = true := by simpa using hq
        rw [eq, Bool.true_and] at k1 k0
        refine p50 hle (fun w => k1 ?_) (fun w => k0 ?_)
        · simp only [Bool.and_eq_true, Bool.or_eq_true, beq_iff_eq, decide_eq_true_eq]
          exact ⟨⟨⟨w.1, w.2.1⟩, w.2.2.1⟩, w.2.2.2⟩
        · rw [Bool.eq_false_iff]
          intro v
          simp only [Bool.and_eq_true, Bool.or_eq_true, beq_iff_eq, decide_eq_true_eq] at v
          exact w ⟨v.1.1.1, v.1.1.2, v.1.2, v.2⟩
      simp (disch := omega) only [↓m1_pm, lit32, n32_add, n32_mul, n32_ix, n32_lt, n32_le, n32_eq, n32_in, pm_ix, pm_in, pm_eqn, n_eqpm, pm_ltn, n_ltpm, pm_len, n_lepm, pm_inj, forall_eq]
      refine ⟨fun z => absurd z (by omega), fun _ => ⟨fun z => y50 (by omega), fun z => ⟨fun z2 => k0 ?_, fun z2 => y50 (by omega)⟩⟩⟩
      rw [show (decide (ra 6 < rb 6) || decide (a < b)) = false by simp; omega]
      simp
  · refine ⟨fun _ => k0 ?_, fun z => absurd rfl z⟩
    rw [hof]; simp
def SHit (a k : Nat) : Prop := a = 51 ∧ (k = 79 ∨ k = 80)
theorem SHit_Scr : ∀ a k, SHit a k → Scr a k := by unfold SHit Scr Last; omega
theorem LvN.fr {r : Rec} {S : Nat → Nat → Prop} {h h' : Hp} (n : LvN r h) (f : fr S h h') (hs : ∀ a k, 52 ≤ a → a ≤ 71 → ¬ S a k) : LvN r h' := by
  obtain ⟨n11, n0, n1, n2, n3, n5, lo⟩ := n
  refine ⟨n11, ?_, ?_, ?_, ?_, ?_, lo⟩ <;> rw [f.I (hs _ _ (by omega) (by omega))] <;> assumption
theorem Bar.mv {F : Nat → Nat} {L : List Rec} {h h' : Hp} (B : Bar F L h) (f : fr SHit h h') : Bar F L h' := by
  obtain ⟨hF, A, N⟩ := B
  refine ⟨fun k hk => by rw [f.I (by unfold SHit; omega)]; exact hF k hk, ⟨by rw [f.I (by unfold SHit; omega)]; exact A.1, A.2.1, fun k hk => ?_⟩, fun r hr => (N r hr).fr f (by unfold SHit; omega)⟩
  rw [f.I (by unfold SHit; omega), f.I (by unfold SHit; omega)]
  exact A.2.2 k hk
theorem stm_mv {st : Rec} {h h' : Hp} {i : Nat} (S : RStm st h i) (f : fr SHit h h') : RStm st h' i := by
  unfold RStm at S ⊢
  rw [f.I (by unfold SHit; omega), f.I (by unfold SHit; omega), f.I (by unfold SHit; omega), f.I (by unfold SHit; omega), f.I (by unfold SHit; omega), f.I (by unfold SHit; omega), f.I (by unfold SHit; omega)]
  exact S
set_option maxHeartbeats 4000000 in
set_option maxRecDepth 100000 in
theorem q_doesBar {F : Nat → Nat} {L : List Rec} {st : Rec} {h : Hp} {i : Nat} {Q : Int32 → Hp → Prop} (B : Bar F L h) (S : RStm st h i) (So : okStm st) (hi : i < 240)
    (k0 : ∀ h', fr SHit h h' → barS F st L = none → Q 0 h') (k1 : ∀ h' a b, fr SHit h h' → barS F st L = some (a, b) → a < 72 → b ≤ 72 → hI h' 51 79 = n32 a → hI h' 51 80 = pm b → Q 1 h') : m_X12_doesBar (n32 i) h Q := by
  unfold m_X12_doesBar
  have l72 := B.2.1.2.1
  have main : ∀ (r a : Nat) (h1 : Hp), r + a = L.length → fr SHit h h1 → fsome (barP F st L) a L.length = barS F st L → m_X12_doesBar_2 (r + 1) Q (n32 i) (n32 a) h1 := by
    intro r
    induction r with
    | zero =>
      intro a h1 hr f e
      have e78 := (B.mv f).2.1.1
      rw [m_X12_doesBar_2]
      simp (disch := omega) only [↓m1_pm, lit32, n32_add, n32_mul, n32_ix, n32_lt, n32_le, n32_eq, n32_in, pm_ix, pm_in, pm_eqn, n_eqpm, pm_ltn, n_ltpm, pm_len, n_lepm, pm_inj, forall_eq, e78]
      rw [fsome_end (by omega)] at e
      exact ⟨fun _ => k0 h1 f e.symm, fun z => absurd z (by omega)⟩
    | succ r ih =>
      intro a h1 hr f e
      have B1 := B.mv f
      have e78 := B1.2.1.1
      have S1 := stm_mv S f
      have s93 := S1.1; have s94 := S1.2.1
      have next : ∀ h2, fr SHit h h2 → barP F st L a = none → m_X12_doesBar_90 (fun v1 v2 hh => m_X12_doesBar_2 (r + 1) Q v1 v2 hh) Q (n32 i) (n32 a) h2 := by
        intro h2 f2 hn
        unfold m_X12_doesBar_90
        simp (disch := omega) only [↓m1_pm, lit32, n32_add, n32_mul, n32_ix, n32_lt, n32_le, n32_eq, n32_in, pm_ix, pm_in, pm_eqn, n_eqpm, pm_ltn, n_ltpm, pm_len, n_lepm, pm_inj, forall_eq]
        exact ih (a + 1) h2 (by omega) f2 (by rw [← fsome_no (by omega) hn]; exact e)
      rw [m_X12_doesBar_2]
      simp (disch := omega) only [↓m1_pm, lit32, n32_add, n32_mul, n32_ix, n32_lt, n32_le, n32_eq, n32_in, pm_ix, pm_in, pm_eqn, n_eqpm, pm_ltn, n_ltpm, pm_len, n_lepm, pm_inj, forall_eq, e78, s93, s94]
      refine ⟨fun z => absurd z (by omega), fun _ => ⟨by omega, by omega, q_isOf B1 (by omega) So.1 So.2.1 (fun hof => ?_) (fun hof => ?_)⟩⟩
      · refine ⟨fun _ => ⟨by omega, ?_⟩, fun z => absurd z (by decide)⟩
        have f2 : fr SHit h1 (wI (wI h1 51 79 (n32 a)) 51 80 (pm 0)) := fr_wI (fr_wI (fr.rf _ _) _ (by unfold SHit; omega)) _ (by unfold SHit; omega)
        have g79 : hI (wI (wI h1 51 79 (n32 a)) 51 80 (pm 0)) 51 79 = n32 a := by rw [hI_wI, if_neg (by omega), hI_wI, if_pos ⟨rfl, rfl⟩]
        have g80 : hI (wI (wI h1 51 79 (n32 a)) 51 80 (pm 0)) 51 80 = pm 0 := by rw [hI_wI, if_pos ⟨rfl, rfl⟩]
        generalize wI (wI h1 51 79 (n32 a)) 51 80 (pm 0) = h2 at f2 g79 g80
        have S2 := stm_mv S1 f2
        have B2 := B1.mv f2
        have s99 := S2.2.2.1
        have o2 := So.2.2.1
        have eP : barP F st L a = (if st 2 = 0 then some (a, 0) else (fsome (fun b => if sPair F st a (L.getD a rec0) b (L.getD b rec0) then some b else none) 0 L.length).map (fun b => (a, b + 1))) := by
          unfold barP; rw [hof]; rfl
        simp (disch := omega) only [↓m1_pm, lit32, n32_add, n32_mul, n32_ix, n32_lt, n32_le, n32_eq, n32_in, pm_ix, pm_in, pm_eqn, n_eqpm, pm_ltn, n_ltpm, pm_len, n_lepm, pm_inj, forall_eq, s99]
        refine ⟨fun q => ?_, fun q => ?_⟩
        · rw [if_neg q] at eP
          have inner : ∀ (s b : Nat), s + b = L.length → fsome (fun b => if sPair F st a (L.getD a rec0) b (L.getD b rec0) then some b else none) b L.length = fsome (fun b => if sPair F st a (L.getD a rec0) b (L.getD b rec0) then some b else none) 0 L.length → m_X12_doesBar_56 (s + 1) (m_X12_doesBar_90 (fun v1 v2 hh => m_X12_doesBar_2 (r + 1) Q v1 v2 hh) Q) Q (n32 i) (n32 a) (n32 b) h2 := by
            intro s
            induction s with
            | zero =>
              intro b hs eb
              rw [fsome_end (by omega)] at eb
              rw [← eb] at eP
              rw [m_X12_doesBar_56]
              have e78' := B2.2.1.1
              simp (disch := omega) only [↓m1_pm, lit32, n32_add, n32_mul, n32_ix, n32_lt, n32_le, n32_eq, n32_in, pm_ix, pm_in, pm_eqn, n_eqpm, pm_ltn, n_ltpm, pm_len, n_lepm, pm_inj, forall_eq, e78']
              exact ⟨fun _ => next h2 (f.trans f2) eP, fun z => absurd z (by omega)⟩
            | succ s ihs =>
              intro b hs eb
              have e78' := B2.2.1.1
              rw [m_X12_doesBar_56]
              simp (disch := omega) only [↓m1_pm, lit32, n32_add, n32_mul, n32_ix, n32_lt, n32_le, n32_eq, n32_in, pm_ix, pm_in, pm_eqn, n_eqpm, pm_ltn, n_ltpm, pm_len, n_lepm, pm_inj, forall_eq, e78']
              refine ⟨fun z => absurd z (by omega), fun _ => q_isPair B2 S2 So hi (by omega) (by omega) (by omega) (fun hp => ?_) (fun hp => ?_)⟩
              · refine ⟨fun _ => ?_, fun z => absurd z (by decide)⟩
                rw [fsome_yes (v := b) (by omega) (by rw [hp]; rfl)] at eb
                rw [← eb] at eP
                rw [fsome_yes (by omega) eP] at e
                refine k1 _ a (b + 1) ((f.trans f2).trans (fr_wI (fr.rf _ _) _ (by unfold SHit; omega))) e.symm (by omega) (by omega) ?_ ?_
                · rw [hI_wI, if_neg (by omega)]; exact g79
                · rw [hI_wI, if_pos ⟨rfl, rfl⟩]; rfl
              · refine ⟨fun z => absurd rfl z, fun _ => ?_⟩
                have := ihs (b + 1) (by omega) (by rw [← fsome_no (by omega) (by rw [hp]; rfl)]; exact eb)
                exact this
          exact ⟨_, inner L.length 0 (by omega) rfl⟩
        · rw [if_pos q] at eP
          rw [fsome_yes (by omega) eP] at e
          exact k1 h2 a 0 (f.trans f2) e.symm (by omega) (by omega) g79 g80
      · refine ⟨fun z => absurd rfl z, fun _ => next h1 f ?_⟩
        unfold barP
        rw [hof]; rfl
  exact ⟨_, main L.length 0 h (by omega) (fr.rf _ _) rfl⟩
