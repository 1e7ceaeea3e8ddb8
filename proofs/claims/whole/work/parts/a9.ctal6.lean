/-! THE CLASS: the tally, whole -/
def SLr (a k : Nat) : Prop := STe a k ∨ SWg a k ∨ 26 ≤ a ∧ a ≤ 29
theorem InvC.learn {x : Ab} {da : Nat → Nat} {h h' : Hp} (I : InvC x da h) (f : fr SLr h h') (T : CTdy h') (C : CTal x h') : InvC x da h' := by
  obtain ⟨m1, m2, m3, m4, m5, m6, m7, m8, m9, m10, -, m12, -⟩ := I.mvs f (by unfold SLr STe SWg; omega)
  exact ⟨m1, m2 (by unfold SLr STe SWg; omega), m3 (by unfold SLr STe SWg; omega) (by unfold SLr STe SWg; omega), m4 (by unfold SLr STe SWg; omega) (by unfold SLr STe SWg; omega), m5 (by unfold SLr STe SWg; omega), m6 (by unfold SLr STe SWg; omega) (by unfold SLr STe SWg; omega) (by unfold SLr STe SWg; omega) (by unfold SLr STe SWg; omega), m7 (by unfold SLr STe SWg; omega) (by unfold SLr STe SWg; omega), m8 (by unfold SLr STe SWg; omega) (by unfold SLr STe SWg; omega), m9 (by unfold SLr STe SWg; omega) (by unfold SLr STe SWg; omega), m10, C, m12 (by unfold SLr STe SWg; omega) (by unfold SLr STe SWg; omega) (by unfold SLr STe SWg; omega) (by unfold SLr STe SWg; omega), T, fun j hj => by rw [f.J (by unfold SLr STe SWg; omega)]; exact I.2.2.2.2.2.2.2.2.2.2.2.2.2 j hj⟩
theorem nt_bd {x : Ab} (K : OkA x) {bs : List Nat} (hin : inD x bs) (l6 : bs.length ≤ 6) (l c : Nat) : -3000000000000 ≤ nt x bs l c ∧ nt x bs l c ≤ 3000000000000 := by
  have := bR_abs K hin l6 c 0 l 0 0
  rw [netG0] at this; exact this
theorem lends_pos {F : Nat → Nat} {fl : List Rec} {l b : Nat} (h : lendsB F fl l b = true) : 0 < net F fl l 0 := by
  unfold lendsB at h
  simp only [Bool.and_eq_true, decide_eq_true_eq] at h
  exact h.1.1.2
/-- what was learnt, as it is kept -/
theorem TalI.all {x : Ab} {h : Hp} (A : TalI x (aB x) (codesL (aD x) (aB x)) h) (ne : codesL (aD x) (aB x) ≠ []) (e26 : hI h 26 1 = pm (loanV (loanP (aF x) (aD x) (aB x)))) : TalA x h := by
  refine ⟨e26, fun l b hl hb => (A.1 l b hl hb).1.1, fun l b hl hb nz w hw => ?_, fun l hl hn el => ?_⟩
  · obtain ⟨-, -, a3, a4, a5, a6⟩ := (A.1 l b hl hb).1.2.2 nz
    have c4 : w = 0 ∨ w = 1 ∨ w = 2 ∨ w = 3 := by omega
    rcases c4 with rfl | rfl | rfl | rfl
    · exact a3
    · exact a4
    · exact a5
    · exact a6
  · rw [A.2 ne l hl]
    cases hp : loanP (aF x) (aD x) (aB x) with
    | none => exact absurd hp hn
    | some p =>
      rw [hp] at el
      have p64 : p < 64 := List.mem_range.mp (List.mem_of_find?_eq_some hp)
      have el' : l = p / 8 := by rw [el]; show (10 * (p / 8) + p % 8 + 1 - 1) / 10 = p / 8; omega
      have all := List.find?_some hp
      rw [List.all_eq_true] at all
      rw [mn_least (fun c hc => ?_)]
      have := all c hc
      rw [← el'] at this
      exact lends_pos this
set_option maxHeartbeats 4000000 in
set_option maxRecDepth 100000 in
theorem c_learn {x : Ab} {da : Nat → Nat} {h : Hp} {Q : Hp → Prop} (I : InvC x da h) (K : OkA x) (M : OkM x) (lk : pop (bEvs (aD x) (aB x)) + bChs (aD x) (aB x) ≤ 8) (k : ∀ h', sameM h h' → InvC x da h' → TalA x h' → Q h') : m_X9_learn 11 h Q := by
  unfold m_X9_learn
  have CT := I.2.2.2.2.2.2.2.2.2.2.1
  refine ⟨fun z => ?_, fun z => ?_⟩
  · have f0 : fr SLr h (wI h 26 0 1) := fr_wI (fr.rf _ _) _ (by unfold SLr; omega)
    have f0s : fr (fun a k => a = 26 ∧ k = 0) h (wI h 26 0 1) := fr_wI (fr.rf _ _) _ ⟨rfl, rfl⟩
    have i0 : hI (wI h 26 0 1) 26 0 = 1 := by rw [hI_wI, if_pos ⟨rfl, rfl⟩]
    generalize wI h 26 0 1 = h1 at f0 f0s i0
    refine q_fillI (by decide) (fun h2 f2 g2 => ?_)
    have f2' : fr SLr h h2 := f0.trans (f2.mono (by unfold SLr; omega))
    have i2 : hI h2 26 0 = 1 := by rw [f2.I (by omega)]; exact i0
    have V2 := I.vw.mv f2' (by unfold SLr STe SWg; omega)
    have B2 := (I.2.2.2.2.2.2.1.bd).mv f2' (by unfold SLr STe SWg; omega) (by unfold SLr STe SWg; omega)
    have hin := B2.2.2.2
    have T2 : CTdy h2 := fun f hf => by rw [f2.J (by omega), f0s.J (by omega)]; exact I.2.2.2.2.2.2.2.2.2.2.2.2.1 f hf
    refine c_namedBits V2 K B2 (c_codesLooked V2 K B2 lk (c_take V2 K B2 (by decide) (fun E h3 f3 A3 T => ?_)))
    have f3' : fr SLr h h3 := f2'.trans (f3.mono (fun a k z => Or.inl z))
    have T3 : CTdy h3 := fun f hf => by rw [f3.J (by unfold STe; omega)]; exact T2 f hf
    have i3 : hI h3 26 0 = 1 := by rw [f3.I (by unfold STe; omega)]; exact i2
    obtain ⟨pn, nl⟩ := pop_nmB K hin B2.2.1
    have k13 : 5 + bChs (aD x) (aB x) ≤ 13 := by omega
    have he := bEvs_lt K hin
    have nk : nmB (aD x) (aB x) < 2 ^ (5 + bChs (aD x) (aB x)) := by
      have p2 := Nat.two_pow_pos (bChs (aD x) (aB x))
      unfold nmB; rw [Nat.pow_add]; omega
    have sl := SM_pop nk (by omega)
    rw [pn, ← codesL_SM K hin] at sl
    obtain ⟨ch, ⟨t0, hd0⟩, -⟩ := SM_chain _ _ nk
    rw [← codesL_SM K hin] at ch hd0
    have len8 : (codesL (aD x) (aB x)).length ≤ 256 := by rw [sl]; exact pw_le lk
    rw [← sl]
    have nb : ∀ l, l < 8 → ∀ c, -3000000000000 ≤ nt x (aB x) l c ∧ nt x (aB x) l c ≤ 3000000000000 := fun l _ c => nt_bd K hin B2.2.1 l c
    have main : ∀ (rest pre : List Nat) (v5 : Int32) (h4 : Hp), codesL (aD x) (aB x) = pre ++ rest → (∀ c t, rest = c :: t → v5 = n32 c) → fr SLr h h4 → EnA E h4 → CTdy h4 → hI h4 26 0 = 1 → TalI x (aB x) pre h4 → m_X9_learn_43 (rest.length + 1) (m_X9_learn_132 Q) Q (n32 (nmB (aD x) (aB x))) (n32 (codesL (aD x) (aB x)).length) v5 (n32 pre.length) h4 := by
      intro rest
      induction rest with
      | nil =>
        intro pre v5 h4 e ev f4 A4 T4 i4 L4
        rw [List.append_nil] at e
        rw [m_X9_learn_43, n32_le (by omega) (by rw [← e]; omega), ← e]
        refine ⟨fun _ => ?_, fun y => absurd (Nat.le_refl _) y⟩
        rw [← e] at L4
        unfold m_X9_learn_132
        refine c_leastPair (P := fun p => (codesL (aD x) (aB x)).all (fun c => bLend (aF x) (aD x) (aB x) c (p / 8) (p % 8))) (T := fun n => lendN (aF x) (aD x) (aB x) (n / 8) (n % 8)) (fun n hn => ?_) (by omega) ?_
        · have := (L4.1 (n / 8) (n % 8) (by omega) (by omega)).1.1
          rw [show 8 * (n / 8) + n % 8 = n by omega] at this
          have fa := filter_all (p := fun c => bLend (aF x) (aD x) (aB x) c (n / 8) (n % 8)) (l := codesL (aD x) (aB x))
          refine ⟨this, ?_, fa⟩
          have : lendN (aF x) (aD x) (aB x) (n / 8) (n % 8) ≤ (codesL (aD x) (aB x)).length := List.length_filter_le _ _
          omega
        · have f5 : fr SLr h4 (wI h4 26 1 (pm (loanV (loanP (aF x) (aD x) (aB x))))) := fr_wI (fr.rf _ _) _ (by unfold SLr; omega)
          have f6 : fr (fun a k => a = 26 ∧ k = 1) h4 (wI h4 26 1 (pm (loanV (loanP (aF x) (aD x) (aB x))))) := fr_wI (fr.rf _ _) _ ⟨rfl, rfl⟩
          have i5 : hI (wI h4 26 1 (pm (loanV (loanP (aF x) (aD x) (aB x))))) 26 1 = pm (loanV (loanP (aF x) (aD x) (aB x))) := by rw [hI_wI, if_pos ⟨rfl, rfl⟩]
          show Q (wI h4 26 1 (pm (loanV (loanP (aF x) (aD x) (aB x)))))
          generalize wI h4 26 1 (pm (loanV (loanP (aF x) (aD x) (aB x)))) = h5 at f5 f6 i5
          have L5 : TalI x (aB x) (codesL (aD x) (aB x)) h5 := ⟨fun l b hl hb => ⟨(L4.1 l b hl hb).1.mv f6 (by omega) (by omega), (L4.1 l b hl hb).2⟩, fun ne l hl => by rw [f6.J (by omega)]; exact L4.2 ne l hl⟩
          have TA := L5.all (by rw [hd0]; simp) i5
          have f45 := f4.trans f5
          refine k h5 (sameM.of f45 (by unfold SLr STe SWg; omega)) (I.learn f45 (fun f hf => by rw [f6.J (by omega)]; exact T4 f hf) (Or.inr ⟨by rw [f6.I (by omega)]; exact i4, lk, TA⟩)) TA
      | cons c rest ih =>
        intro pre v5 h4 e ev f4 A4 T4 i4 L4
        have el : (codesL (aD x) (aB x)).length = pre.length + (rest.length + 1) := by rw [e]; simp
        have cm : c ∈ SM (nmB (aD x) (aB x)) (5 + bChs (aD x) (aB x)) := by rw [← codesL_SM K hin, e]; simp
        obtain ⟨c1, c2⟩ := SM_mem.mp cm
        have c3 : c < 8192 := Nat.lt_of_lt_of_le c1 (pw_le k13)
        rw [ev c rest rfl, m_X9_learn_43, n32_le (by omega) (by omega)]
        refine ⟨fun y => absurd y (by omega), fun _ => c_weigh A4 T T4 (by omega) (fun h5 f5 T5 W5 => ?_)⟩
        have A5 := A4.mv f5 (by unfold SWg; omega) (by unfold SWg; omega)
        have f5' : fr SLr h h5 := f4.trans (f5.mono (fun a k z => Or.inr (Or.inl z)))
        have L5 : TalI x (aB x) pre h5 := ⟨fun l b hl hb => ⟨(L4.1 l b hl hb).1.mv f5 (by unfold SWg; omega) (by unfold SWg; omega), (L4.1 l b hl hb).2⟩, fun ne l hl => by rw [f5.J (by unfold SWg; omega)]; exact L4.2 ne l hl⟩
        refine ⟨_, c_ln59 (cs := pre) W5 (LkP.of K hin B2.2.1 c) (by omega) nb (fun h6 f6 L6 => ?_) 8 0 h5 rfl (fr.rf _ _) (fun l b hl hb => by rw [if_neg (by omega)]; exact L5.1 l b hl hb) (fun l hl hor => by rw [if_neg (by omega)]; exact L5.2 (hor.resolve_left (by omega)) l hl)⟩
        unfold m_X9_learn_118
        intro x3 e3 x4 e4
        rw [e4, show n32 pre.length + 1 = n32 (pre.length + 1) from n32_add _ 1]
        have nx := ih (pre ++ [c]) x3 h6 (by rw [e]; simp) (fun c' t ec => ?_) (f5'.trans (f6.mono (by unfold STn SLr; omega))) (A5.mv f6 (by unfold STn; omega) (by unfold STn; omega)) (fun f hf => by rw [f6.J (by unfold STn; omega)]; exact T5 f hf) (by rw [f6.I (by unfold STn; omega), f5.I (by unfold SWg; omega)]; exact i4) L6
        · rw [List.length_append] at nx
          exact nx
        · rw [e3]
          have ch' := ch
          rw [e, ec] at ch'
          have R := (Chn.drop ch').1
          rw [n32_nx nk (by omega) R.1, R.2]
    refine ⟨_, main (codesL (aD x) (aB x)) [] 0 h3 rfl (fun c t ec => ?_) f3' A3 T3 i3 ⟨fun l b hl hb => ⟨⟨?_, fun _ => ⟨rfl, rfl⟩, fun y => absurd rfl y⟩, by show 0 < 99999; decide⟩, fun y => absurd rfl y⟩⟩
    · have ec2 := (List.cons.inj (hd0.symm.trans ec)).1
      rw [← ec2]; rfl
    · rw [f3.I (by unfold STe; omega), g2 _ (by omega)]; rfl
  · rcases CT with c | ⟨c1, c2, c3⟩
    · exact absurd c z
    · exact k h (sameM.rf h) I c3
