/-! THE CLASS: innocent -/
theorem InvC.loan {x : Ab} {da : Nat → Nat} {h h' : Hp} (I : InvC x da h) (f : fr SLoan h h') (T : CTdy h') : InvC x da h' := by
  obtain ⟨m1, m2, m3, m4, m5, m6, m7, m8, m9, m10, m11, m12, -⟩ := I.mvs f (by unfold SLoan STe SWg; omega)
  exact ⟨m1, m2 (by unfold SLoan STe SWg; omega), m3 (by unfold SLoan STe SWg; omega) (by unfold SLoan STe SWg; omega), m4 (by unfold SLoan STe SWg; omega) (by unfold SLoan STe SWg; omega), m5 (by unfold SLoan STe SWg; omega), m6 (by unfold SLoan STe SWg; omega) (by unfold SLoan STe SWg; omega) (by unfold SLoan STe SWg; omega) (by unfold SLoan STe SWg; omega), m7 (by unfold SLoan STe SWg; omega) (by unfold SLoan STe SWg; omega), m8 (by unfold SLoan STe SWg; omega) (by unfold SLoan STe SWg; omega), m9 (by unfold SLoan STe SWg; omega) (by unfold SLoan STe SWg; omega), m10, m11 (by unfold SLoan STe SWg; omega), m12 (by unfold SLoan STe SWg; omega) (by unfold SLoan STe SWg; omega) (by unfold SLoan STe SWg; omega) (by unfold SLoan STe SWg; omega), T, fun j hj => by rw [f.J (by unfold SLoan STe SWg; omega)]; exact I.2.2.2.2.2.2.2.2.2.2.2.2.2 j hj⟩
theorem SLoan_M {h h' : Hp} (f : fr SLoan h h') : sameM h h' := sameM.of f (by unfold SLoan STe SWg; omega)
set_option maxHeartbeats 4000000 in
set_option maxRecDepth 100000 in
theorem C_innocent {x : Ab} {da : Nat → Nat} {v1 v2 : Int32} {h : Hp} {Q : Int32 → Hp → Prop} (I : InvC x da h) (K : OkA x) (M : OkM x) (T : TxS x) (k : ∀ h', sameM h h' → InvC x da h' → Q (ansInnocent x v1 v2) h') : m_X11_innocent v1 v2 h Q := by
  unfold m_X11_innocent
  unfold ansInnocent at k
  have V := I.vw
  obtain ⟨e12, l6, hh⟩ := I.2.2.2.2.2.2.2.2.1
  rw [e12]
  refine c_within (by omega) (fun e => ?_) (fun i hi hi2 e1 e2 => ?_)
  · rw [e] at k; exact ⟨fun z => absurd rfl z, fun _ => k h (sameM.rf h) I⟩
  · rw [e2] at k
    subst e1
    dsimp only at k
    obtain ⟨a, r, BK, c1, c2, c3, c4, c5⟩ := hh i hi
    have B2 : CBd x da a (honS x i) h := ⟨c1, c2, c3, c4⟩
    have hk := BK.1
    have c2' : (honS x i).length ≤ 6 := c2
    have c1' : hI h a 1 = n32 (honS x i).length := c1
    refine ⟨fun _ => ?_, fun z => absurd z (by decide)⟩
    rw [n32_ix (by omega)]
    refine ⟨vpI (by omega) (by decide), a, r, fun q => ⟨fun q2 => ?_, fun q2 => ?_⟩, fun q => ?_⟩
    · rw [if_neg q, if_neg q2] at k
      have kk := k h (sameM.rf h) I
      rw [show (10 : Int32) = n32 10 from rfl]
      rcases i_cases v2 with g | ⟨w, hw, rfl⟩
      · rw [argN_neg g] at kk
        exact ⟨fun _ => kk, fun z => absurd (ng_lt g (by decide)) z⟩
      · rw [n32_lt hw (by decide)]
        refine ⟨fun z => ?_, fun z => ?_⟩
        · rw [argN_n (by omega) hw] at kk
          dsimp only at kk
          rw [if_neg (by omega)] at kk
          exact kk
        · rw [c1', n32_sub (by omega), n32_le (by omega) (by omega)]
          refine ⟨fun y => ?_, fun y => ?_⟩
          · rw [argN_no (by omega) hw] at kk
            exact kk
          · rw [argN_n (by omega) hw] at kk
            dsimp only at kk
            rw [if_pos (by omega)] at kk
            have hr := B2.2.2.1 (w - 10) (by omega)
            have hin := B2.2.2.2 ((honS x i).getD (w - 10) 0) (by rw [List.getD_eq_getElem?_getD, List.getElem?_eq_getElem (show w - 10 < (honS x i).length by omega), Option.getD_some]; exact List.getElem_mem _)
            rw [n32_ix (by omega)]
            refine ⟨vpI (by omega) (by decide), _, hr, ?_⟩
            rw [(I.2.2.1.da hin).2.2.1]
            exact kk
    · rw [if_neg q, if_pos q2] at k
      exact c_findLoan V K M B2 (by omega) I.2.2.2.2.2.2.2.2.2.2.2.2.1 (fun h' f T' => k h' (SLoan_M f) (I.loan f T'))
    · rw [if_pos q] at k
      refine c_isLet I K T B2 (by omega) (fun h' f => ?_)
      have := k h' (sameM.of (f.mono SJg_Own) Own_M) (I.own (f.mono SJg_Own))
      by_cases y : bars1 (aF x) (lawS x) (lvs (aD x) (honS x i)) = true
      · rw [if_pos y] at this ⊢
        exact ⟨fun _ => this, fun z => absurd rfl z⟩
      · rw [if_neg y] at this ⊢
        exact ⟨fun z => absurd z (by decide), fun _ => this⟩
