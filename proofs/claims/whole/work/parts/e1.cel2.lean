/-! THE CLASS: a group ends in the shape -/
theorem cloK_one {k t : Nat} (hk : k = 4 ∨ k = 5) (c : List Nat) : cloK k t c [] = if c = [] ∨ k = 5 ∧ t = 0 then 1 else if k = 4 ∧ t = 0 ∨ k = 5 ∧ t = 1 then 2 else if k = 4 ∧ isJA c = true then 3 else 0 := by
  unfold cloK; rw [if_pos (by omega)]
set_option maxHeartbeats 4000000 in
set_option maxRecDepth 100000 in
theorem c_endOne {k t n m B : Nat} {c : List Nat} {h : Hp} {Q : Hp → Prop} (hk : k = 4 ∨ k = 5) (ht : t < 1000) (hB : B ≤ 900000) (d0 : hI h 6 n = ce k) (d1 : hI h 6 (n + 1) = n32 t) (C : Cel (n + 3) c h) (W : WfC B c) (e0 : hI h 5 0 = n32 m) (e2 : hI h 5 2 = n32 (n + 3 + c.length)) (hn : n + 3 + c.length ≤ 512)
    (kk : ∀ h', fr (SSh n) h h' → hI h' 5 0 = n32 (m + cloS k t c []) → hI h' 5 2 = n32 (n + (cloC k t c []).length) → Cel n (cloC k t c []) h' → Q h') : m_X8_endOne (n32 n) h Q := by
  unfold m_X8_endOne
  refine c_isBegun e2 (by omega) hn ?_
  refine ⟨fun _ => ⟨?_, ?_⟩, fun z => absurd z (by decide)⟩
  · rw [show n32 n + 1 = n32 (n + 1) from n32_add _ 1]; exact vpI (by omega) (by decide)
  intro x9 e9 x10 e10 x11 e11
  rw [show n32 n + 1 = n32 (n + 1) from n32_add _ 1, n32_ix (by omega), d1] at e9
  rw [show n32 n + 3 = n32 (n + 3) from n32_add _ 3] at e10
  rw [e2, e10, n32_sub (by omega), show n + 3 + c.length - (n + 3) = c.length by omega] at e11
  subst e9; subst e10; subst e11
  rw [n32_ix (by omega), d0]
  refine ⟨vpI (by omega) (by decide), ?_⟩
  have K1 := cloK_one (t := t) hk c
  have main : m_X8_endOne_46 Q (n32 n) (n32 t) (n32 (n + 3)) (n32 c.length) (if k = 4 then 1 else 0) h := by
    unfold m_X8_endOne_46
    rw [show n32 n + 2 = n32 (n + 2) from n32_add _ 2, n32_ix (by omega)]
    refine ⟨vpI (by omega) (by decide), ?_⟩
    have f1 : fr (SSh n) h (wI h 6 (n + 2) (n32 c.length)) := fr_wI (fr.rf _ _) _ (by unfold SSh; omega)
    have g1 : fr (fun q j => q = 6 ∧ j = n + 2) h (wI h 6 (n + 2) (n32 c.length)) := fr_wI (fr.rf _ _) _ ⟨rfl, rfl⟩
    have y2 : hI (wI h 6 (n + 2) (n32 c.length)) 6 (n + 2) = n32 c.length := by rw [hI_wI, if_pos ⟨rfl, rfl⟩]
    generalize wI h 6 (n + 2) (n32 c.length) = h1 at f1 g1 y2
    have E0 : hI h1 5 0 = n32 m := by rw [g1.I (by omega)]; exact e0
    have E2 : hI h1 5 2 = n32 (n + 3 + c.length) := by rw [g1.I (by omega)]; exact e2
    have D0 : hI h1 6 n = ce k := by rw [g1.I (by omega)]; exact d0
    have D1 : hI h1 6 (n + 1) = n32 t := by rw [g1.I (by omega)]; exact d1
    have C1 : Cel (n + 3) c h1 := C.mv g1 (by omega)
    have gone : cloK k t c [] = 1 → m_X8_endOne_72 Q (n32 n) h1 := by
      intro q
      have eC : cloC k t c [] = [] := by unfold cloC; rw [if_pos q]
      have eS : cloS k t c [] = 1 := by unfold cloS; rw [q]; rfl
      rw [eC, eS] at kk
      unfold m_X8_endOne_72
      have x0 : hI (wI h1 5 2 (n32 n)) 5 0 = n32 m := by rw [hI_wI, if_neg (by omega)]; exact E0
      rw [x0, show n32 m + 1 = n32 (m + 1) from n32_add _ 1]
      refine kk _ (fr_wI (fr_wI f1 _ (by unfold SSh; omega)) _ (by unfold SSh; omega)) ?_ ?_ (Cel.nil _ _)
      · rw [hI_wI, if_pos ⟨rfl, rfl⟩]
      · rw [hI_wI, if_neg (by omega), hI_wI, if_pos ⟨rfl, rfl⟩]; rfl
    have stay : cloK k t c [] = 0 → Q h1 := by
      intro q
      have eC : cloC k t c [] = k :: (t + 8) :: (c.length + 8) :: c := by
        unfold cloC grC; rw [q, if_neg (by decide), if_neg (by decide), if_neg (by decide), if_pos (by omega)]
      have eS : cloS k t c [] = 0 := by unfold cloS; rw [q]; rfl
      rw [eC, eS] at kk
      refine kk h1 f1 E0 (by rw [E2, List.length_cons, List.length_cons, List.length_cons]; congr 1; omega) (Cel.cons D0 (Cel.cons ?_ (Cel.cons ?_ C1)))
      · rw [D1, ce_num]
      · rw [ce_num]; exact y2
    have lift : cloK k t c [] = 2 → m_X8_lift (n32 n) (n32 (n + 3)) (n32 c.length) h1 (fun h6 => Q (wI h6 5 0 ((hI h6 5 0) + 1))) := by
      intro q
      have eC : cloC k t c [] = c := by unfold cloC; rw [q, if_neg (by decide), if_pos rfl]
      have eS : cloS k t c [] = 1 := by unfold cloS; rw [q]; rfl
      rw [eC, eS] at kk
      refine c_lift (by omega) (by omega) (fun h6 f6 x0 x2 xc => ?_)
      rw [x0, E0, show n32 m + 1 = n32 (m + 1) from n32_add _ 1]
      refine kk _ (fr_wI (f1.trans f6) _ (by unfold SSh; omega)) ?_ ?_ (fun j hj => ?_)
      · rw [hI_wI, if_pos ⟨rfl, rfl⟩]
      · rw [hI_wI, if_neg (by omega)]; exact x2
      · rw [hI_wI, if_neg (by omega), xc j hj]; exact C1 j hj
    have l0 : (c.length = 0) = (c = []) := propext List.length_eq_zero_iff
    rw [show (0 : Int32) = n32 0 from rfl, n32_eq (by omega) (by omega), n32_eq (by omega) (by omega), l0]
    have m90 : ¬ c = [] → (¬ (k = 5 ∧ t = 0)) → m_X8_endOne_90 Q (n32 n) (n32 t) (n32 (n + 3)) (n32 c.length) (if k = 4 then 1 else 0) h1 := by
      intro nc nt
      rw [if_neg (by intro z; rcases z with z | z; exact nc z; exact nt z)] at K1
      unfold m_X8_endOne_90
      rcases hk with rfl | rfl
      · rw [if_pos rfl]
        refine ⟨fun z => absurd z (by decide), fun _ => ?_⟩
        unfold m_X8_endOne_101
        rw [show (0 : Int32) = n32 0 from rfl, n32_eq (by omega) (by omega)]
        refine ⟨fun z => ⟨fun y => absurd y (by decide), fun _ => ?_⟩, fun z => lift (by rw [K1, if_pos (Or.inl ⟨rfl, z⟩)])⟩
        rw [if_neg (by omega)] at K1
        refine c_isJA C1 W.1 hB (by omega) ?_
        cases hj : isJA c with
        | false =>
          rw [hj, if_neg (by simp)] at K1
          exact ⟨fun _ => stay K1, fun y => absurd rfl y⟩
        | true =>
          rw [hj, if_pos ⟨rfl, rfl⟩] at K1
          refine ⟨fun y => absurd y (by decide), fun _ => ?_⟩
          have eC : cloC 4 t c [] = 4 :: (c.getD 1 0 + t) :: c.drop 2 := by
            unfold cloC; rw [K1, if_neg (by decide), if_neg (by decide), if_pos rfl]
          have eS : cloS 4 t c [] = 1 := by unfold cloS; rw [K1]; rfl
          rw [eC, eS] at kk
          rcases W.2 with w | ⟨w3, w1⟩
          · exact absurd w nc
          have j0 : c.getD 0 9 = 4 := by
            unfold isJA at hj
            rw [Bool.and_eq_true, beq_iff_eq] at hj
            exact hj.1
          have n8 := w1 j0
          have b1 := W.1 _ (getD_mem (l := c) (k := 1) (d := 0) (by omega))
          refine c_lift (by omega) (by omega) (fun h6 f6 x0 x2 xc => ?_)
          rw [show n32 n + 1 = n32 (n + 1) from n32_add _ 1, n32_ix (by omega)]
          refine ⟨vpI (by omega) (by decide), vpI (by omega) (by decide), ?_⟩
          have z1 : hI h6 6 (n + 1) = n32 (c.getD 1 0 - 8) := by
            rw [xc 1 (by omega), C1 1 (by omega)]; unfold ce; rw [if_pos n8]
          have z0 : hI (wI h6 6 (n + 1) (n32 (c.getD 1 0 - 8 + t))) 5 0 = n32 m := by rw [hI_wI, if_neg (by omega), x0]; exact E0
          rw [z1, n32_add, z0, show n32 m + 1 = n32 (m + 1) from n32_add _ 1]
          refine kk _ (fr_wI (fr_wI (f1.trans f6) _ (by unfold SSh; omega)) _ (by unfold SSh; omega)) ?_ ?_ (Cel.cons ?_ (Cel.cons ?_ (fun j hj => ?_)))
          · rw [hI_wI, if_pos ⟨rfl, rfl⟩]
          · rw [hI_wI, if_neg (by omega), hI_wI, if_neg (by omega), x2, List.length_cons, List.length_cons, List.length_drop]
            congr 1; omega
          · rw [hI_wI, if_neg (by omega), hI_wI, if_neg (by omega)]
            have := xc 0 (by omega)
            rw [Nat.add_zero] at this
            rw [this, C1 0 (by omega)]
            congr 1
            rw [← j0, List.getD_eq_getElem?_getD, List.getD_eq_getElem?_getD, List.getElem?_eq_getElem (by omega)]; rfl
          · rw [hI_wI, if_neg (by omega), hI_wI, if_pos ⟨rfl, rfl⟩]
            rw [show c.getD 1 0 + t = (c.getD 1 0 - 8 + t) + 8 by omega, ce_num]
          · rw [List.length_drop] at hj
            rw [hI_wI, if_neg (by omega), hI_wI, if_neg (by omega), show n + 1 + 1 + j = n + (2 + j) by omega, xc (2 + j) (by omega), C1 (2 + j) (by omega)]
            congr 1
            rw [List.getD_eq_getElem?_getD, List.getD_eq_getElem?_getD, List.getElem?_drop]
      · rw [if_neg (by decide)]
        refine ⟨fun _ => ?_, fun z => absurd rfl z⟩
        unfold m_X8_endOne_101
        rw [show (1 : Int32) = n32 1 from rfl, n32_eq (by omega) (by omega)]
        refine ⟨fun z => ⟨fun _ => stay ?_, fun y => absurd rfl y⟩, fun z => lift (by rw [K1, if_pos (Or.inr ⟨rfl, z⟩)])⟩
        rw [K1, if_neg (by omega), if_neg (by omega)]
    refine ⟨fun z => gone (by rw [K1, if_pos (Or.inl z)]), fun z => ⟨fun y => ?_, fun y => ⟨fun w => ?_, fun w => ?_⟩⟩⟩
    · have k4 : k = 4 := by
        by_cases q : k = 4
        · exact q
        · rw [if_neg q] at y; exact absurd rfl y
      exact m90 z (by omega)
    · exact m90 z (by omega)
    · have k5 : k = 5 := by
        rcases hk with q | q
        · rw [if_pos q] at y; exact absurd y (by decide)
        · exact q
      exact gone (by rw [K1, if_pos (Or.inr ⟨k5, w⟩)])
  rcases hk with rfl | rfl
  · rw [if_pos rfl] at main
    exact ⟨fun z => absurd (by decide) z, fun _ => main⟩
  · rw [if_neg (by decide)] at main
    exact ⟨fun _ => main, fun z => absurd z (by decide)⟩
set_option maxHeartbeats 4000000 in
set_option maxRecDepth 100000 in
theorem c_endOneW {n fl : Nat} {h : Hp} {Q : Hp → Prop} (e2 : hI h 5 2 = n32 fl) (hn : n + 3 ≤ fl) (hf : fl ≤ 512) (kk : ∀ h' fl', fr (SSh n) h h' → hI h' 5 2 = n32 fl' → n ≤ fl' → fl' ≤ 512 → Q h') : m_X8_endOne (n32 n) h Q := by
  unfold m_X8_endOne
  refine c_isBegun e2 hn hf ?_
  refine ⟨fun _ => ⟨?_, ?_⟩, fun z => absurd z (by decide)⟩
  · rw [show n32 n + 1 = n32 (n + 1) from n32_add _ 1]; exact vpI (by omega) (by decide)
  intro x9 e9 x10 e10 x11 e11
  rw [show n32 n + 3 = n32 (n + 3) from n32_add _ 3] at e10
  rw [e2, e10, n32_sub (by omega)] at e11
  subst e10; subst e11
  refine ⟨vpI (by omega) (by decide), ?_⟩
  have main : ∀ b : Int32, m_X8_endOne_46 Q (n32 n) x9 (n32 (n + 3)) (n32 (fl - (n + 3))) b h := by
    intro b
    unfold m_X8_endOne_46
    rw [show n32 n + 2 = n32 (n + 2) from n32_add _ 2, n32_ix (by omega)]
    refine ⟨vpI (by omega) (by decide), ?_⟩
    have f1 : fr (SSh n) h (wI h 6 (n + 2) (n32 (fl - (n + 3)))) := fr_wI (fr.rf _ _) _ (by unfold SSh; omega)
    have E2 : hI (wI h 6 (n + 2) (n32 (fl - (n + 3)))) 5 2 = n32 fl := by rw [hI_wI, if_neg (by omega)]; exact e2
    generalize wI h 6 (n + 2) (n32 (fl - (n + 3))) = h1 at f1 E2
    have gone : m_X8_endOne_72 Q (n32 n) h1 := by
      unfold m_X8_endOne_72
      refine kk _ n (fr_wI (fr_wI f1 _ (by unfold SSh; omega)) _ (by unfold SSh; omega)) ?_ (Nat.le_refl _) (by omega)
      rw [hI_wI, if_neg (by omega), hI_wI, if_pos ⟨rfl, rfl⟩]
    have stay : Q h1 := kk h1 fl f1 E2 (by omega) hf
    have m101 : ∀ s0 s1 : Int32, m_X8_endOne_101 Q (n32 n) x9 (n32 (n + 3)) (n32 (fl - (n + 3))) b s0 s1 h1 := by
      intro s0 s1
      unfold m_X8_endOne_101
      refine ⟨fun _ => ⟨fun _ => stay, fun _ => ?_⟩, fun _ => c_lift (by omega) (by omega) (fun h6 f6 x0 x2 xc => ?_)⟩
      · have ja : ∀ v : Int32, (v = 0 → Q h1) ∧ (¬ v = 0 → m_X8_lift (n32 n) (n32 (n + 3)) (n32 (fl - (n + 3))) h1 (fun h4 => vp_in (n32 n + 1) 512 ∧ (vp_in (n32 n + 1) 512 ∧ (Q (wI (wI h4 6 (ix (n32 n + 1)) ((hI h4 6 (ix (n32 n + 1))) + x9)) 5 0 ((hI (wI h4 6 (ix (n32 n + 1)) ((hI h4 6 (ix (n32 n + 1))) + x9)) 5 0) + 1)))))) := by
          intro v
          refine ⟨fun _ => stay, fun _ => c_lift (by omega) (by omega) (fun h6 f6 x0 x2 xc => ?_)⟩
          rw [show n32 n + 1 = n32 (n + 1) from n32_add _ 1, n32_ix (by omega)]
          refine ⟨vpI (by omega) (by decide), vpI (by omega) (by decide), ?_⟩
          refine kk _ (n + (fl - (n + 3))) (fr_wI (fr_wI (f1.trans f6) _ (by unfold SSh; omega)) _ (by unfold SSh; omega)) ?_ (by omega) (by omega)
          rw [hI_wI, if_neg (by omega), hI_wI, if_neg (by omega)]; exact x2
        unfold m_X8_isJustAfter
        rw [show (3 : Int32) = n32 3 from rfl, n32_lt (by omega) (by omega), show n32 (n + 3) + 2 = n32 (n + 3 + 2) from n32_add _ 2]
        exact ⟨fun _ => ja 0, fun z => ⟨vpI (by omega) (by decide), fun _ => ja 0, fun _ => ⟨vpI (by omega) (by decide), fun _ => ja 0, fun _ => ja 1⟩⟩⟩
      · refine kk _ (n + (fl - (n + 3))) (fr_wI (f1.trans f6) _ (by unfold SSh; omega)) ?_ (by omega) (by omega)
        rw [hI_wI, if_neg (by omega)]; exact x2
    have m90 : m_X8_endOne_90 Q (n32 n) x9 (n32 (n + 3)) (n32 (fl - (n + 3))) b h1 := ⟨fun _ => m101 _ _, fun _ => m101 _ _⟩
    exact ⟨fun _ => gone, fun _ => ⟨fun _ => m90, fun _ => ⟨fun _ => m90, fun _ => gone⟩⟩⟩
  exact ⟨fun _ => main 0, fun _ => main 1⟩
