/-! THE CLASS: deal -/
theorem CTal.grow {x x' : Ab} {e : Dl} {h : Hp} (C : CTal x h) (hB : inD x (aB x)) (eF : aF x' = aF x) (eD : aD x' = aD x ++ [e]) (eB : aB x' = aB x) : CTal x' h := by
  unfold CTal TalA talP at C ⊢
  rw [eF, eD, eB]
  have o := old_of (e := e) hB
  simp only [o.2.1, o.2.2.1, loanP_old (e := e) (aF x) hB, lendN_old (e := e) (aF x) hB, prA_old (e := e) (aF x) hB, codesL_old (e := e) hB, leastS_old (e := e) (aF x) hB]
  exact C
theorem CWgh.grow {x x' : Ab} {e : Dl} {h : Hp} (C : CWgh x h) (hO : inD x (aO x)) (eF : aF x' = aF x) (eD : aD x' = aD x ++ [e]) (eO : aO x' = aO x) : CWgh x' h := by
  intro s hs
  have e1 : lnV x' s = lnV x s := by
    unfold lnV
    have hs' : ∀ d ∈ subL (aO x) s, d < (aD x).length := sub_in hO s (Nat.le_refl _)
    rw [eF, eD, eO, loanN_old (e := e) (aF x) hs']
  rw [e1, eO]
  exact C s hs
theorem sly_grow {x x' : Ab} {e : Dl} (hO : inD x (aO x)) (eF : aF x' = aF x) (eD : aD x' = aD x ++ [e]) (eO : aO x' = aO x) (eL : aL x' = aL x) (r : Nat) : slyAll x' r = slyAll x r := by
  have eB : slyB x' r = slyB x r := by
    funext bits
    unfold slyB lawS
    have hs : ∀ d ∈ subL (aO x) bits, d < (aD x).length := sub_in hO bits (Nat.le_refl _)
    rw [eF, eD, eO, eL, loanN_old (e := e) (aF x) hs, (old_of (e := e) hs).2.2.2]
  unfold slyAll slyL
  rw [eO, eB]
theorem CSea.grow {x x' : Ab} {e : Dl} {h : Hp} (C : CSea x h) (hO : inD x (aO x)) (eF : aF x' = aF x) (eD : aD x' = aD x ++ [e]) (eO : aO x' = aO x) (eL : aL x' = aL x) : CSea x' h := by
  obtain ⟨c1, r, c2, c3, c4⟩ := C
  refine ⟨c1.grow hO eF eD eO, r, c2, c3, ?_⟩
  rcases c4 with c4 | ⟨fl, s1, s2, s3, s4⟩
  · exact Or.inl c4
  · exact Or.inr ⟨fl, s1, s2, s3, by rw [sly_grow hO eF eD eO eL r]; exact s4⟩
theorem CDeal.old {D : List Dl} {e : Dl} {h : Hp} {d a : Nat} (C : CDeal D h d a) (hd : d < D.length) : CDeal (D ++ [e]) h d a := by
  unfold CDeal dL dC dE at C ⊢
  rw [dS_old hd, dG_old hd]
  exact C
def SDq (A q k : Nat) : Prop := q = 2 ∨ q = 0 ∧ (k = 9 ∨ k = 4) ∨ 4 ≤ q ∧ q ≤ 7 ∨ q = A ∧ k ≠ 0 ∨ A < q ∧ q ≤ A + 4
/-- what a deal's text leaves alone -/
theorem InvC.dls {x : Ab} {da : Nat → Nat} {h h' : Hp} {A : Nat} (I : InvC x da h) (B : DBlk h A) (y0 : hI h A 0 = n32 (aD x).length) (f : fr (SDq A) h h') : 108 ≤ hN h' ∧ CFam x h' ∧ CTx x h' ∧ CBun x da h' ∧ COff x da h' ∧ CHn x da h' ∧ CTal x h' ∧ CSea x h' ∧ (CTdy h' ∧ CSm h') ∧ CPln x da h' ∧ (∀ d a, d < 24 → hR h' 8 d = some a → DBlk h' a ∧ hI h' a 0 = n32 d) ∧ (∀ d, d < 24 → d > (aD x).length → hR h' 8 d = none) ∧ ∀ d, d < (aD x).length → hR h' 8 d = some (da d) ∧ CDeal (aD x) h' d (da d) := by
  have a8 := B.1
  have D := I.2.2.1
  obtain ⟨m1, m2, m3, m4, m5, m6, m7, m8, m9, m10, m11, m12, m13⟩ := I.mvg (fx.of f)
  have n' : hN h ≤ hN h' := by rw [f.1]; exact Nat.le_refl _
  have t' : ∀ b, b < hN h → hT h' b = hT h b := fun b _ => by rw [f.2.1]
  have ne : ∀ d a, d < 24 → d ≠ (aD x).length → hI h a 0 = n32 d → a ≠ A := fun d a hd q e z => by
    rw [z, y0, n32_eq (by have := D.2.1; omega) (by omega)] at e; omega
  have cl : ∀ d a, d < 24 → d ≠ (aD x).length → DBlk h a → hI h a 0 = n32 d → ∀ b k, a ≤ b → b ≤ a + 4 → ¬ SDq A b k := fun d a hd q Z e b k b1 b2 z => by
    have := Z.neD B (ne d a hd q e) b1 b2
    have := Z.1
    unfold SDq at z
    omega
  refine ⟨m1, m2 (by unfold SDq; omega), m6 (by unfold SDq; omega) (by unfold SDq; omega) (by unfold SDq; omega) (by unfold SDq; omega) (fun a Z b k b1 b2 z => ?_), m7 (by unfold SDq; omega) (by unfold SDq; omega), m8 (by unfold SDq; omega) (by unfold SDq; omega), m9 (by unfold SDq; omega) (by unfold SDq; omega) (fun a Z b k b1 b2 z => ?_), m10 (by unfold SDq; omega), m12 (by unfold SDq; omega) (by unfold SDq; omega) (by unfold SDq; omega) (by unfold SDq; omega), m13 (by unfold SDq; omega) (by unfold SDq; omega), ?_, fun d a hd hr => ?_, fun d h1 h2 => by rw [f.R (by unfold SDq; omega)]; exact D.2.2.2.1 d h1 h2, fun d hd => ?_⟩
  · have z8 := Z.1
    by_cases q : A ≤ b ∧ b ≤ A + 4
    · have := B.neL Z q.1 q.2; omega
    · unfold SDq at z; omega
  · have := Z.neD B b1 b2
    have := Z.1
    unfold SDq at z; omega
  · refine I.2.2.2.2.2.2.2.2.2.1.mv (fun d hd k => f.I ?_)
    obtain ⟨q1, q2, q3, q4⟩ := D.da hd
    exact cl d _ (by have := D.2.1; omega) (by omega) q2 q3 _ k (Nat.le_refl _) (by omega)
  · rw [f.R (by unfold SDq; omega)] at hr
    obtain ⟨b1, b2⟩ := D.2.2.1 d a hd hr
    refine ⟨b1.mv n' t', ?_⟩
    rw [f.I]
    · exact b2
    · by_cases q : a = A
      · rw [q]; unfold SDq; omega
      · intro z
        have := b1.neD B q (Nat.le_refl a) (by omega)
        have := b1.1
        unfold SDq at z; omega
  · obtain ⟨q1, q2, q3, q4⟩ := D.da hd
    refine ⟨by rw [f.R (by unfold SDq; omega)]; exact q1, q4.mv (fun b k b1 b2 => ?_)⟩
    have := cl d _ (by have := D.2.1; omega) (by omega) q2 q3 b k b1 b2
    exact ⟨f.I this, f.J this⟩
theorem CRefs.grow {da : Nat → Nat} {c n A : Nat} {l : List Nat} {h : Hp} (C : CRefs da c l h) (hl : ∀ d ∈ l, d < n) : CRefs (fun d => if d = n then A else da d) c l h := fun k hk => by
  have : l.getD k 0 < n := hl _ (getD_mem hk)
  rw [C k hk]
  show some (da (l.getD k 0)) = some (if l.getD k 0 = n then A else da (l.getD k 0))
  rw [if_neg (by omega)]
set_option maxHeartbeats 4000000 in
set_option maxRecDepth 100000 in
theorem c_deal64 {x : Ab} {da : Nat → Nat} {n g A : Nat} {h : Hp} {Q : Int32 → Hp → Prop} (I : InvC x da h) (ht : (aD x).length < 24) (hn : n ≤ (aT x).length) (hg : g < 400) (rA : hR h 8 (aD x).length = some A) (B : DBlk h A) (y0 : hI h A 0 = n32 (aD x).length) (k : ∀ h' da', sameM h h' → InvC (nxDeal x (n32 n) (n32 g)) da' h' → Q (ansDeal x (n32 n) (n32 g)) h') : m_X11_deal_64 Q (n32 n) (n32 g) h := by
  unfold m_X11_deal_64
  have tl := I.2.2.2.1.2.1
  have a8 := B.1
  have D := I.2.2.1
  have v1 : argN (n32 n) ((aT x).length + 1) = some n := by
    unfold argN
    rw [n32_ix (by omega), if_pos ⟨by rw [show (0 : Int32) = n32 0 from rfl, n32_le (by omega) (by omega)]; omega, by omega⟩]
  have v2 : argN (n32 g) 400 = some g := by
    unfold argN
    rw [n32_ix (by omega), if_pos ⟨by rw [show (0 : Int32) = n32 0 from rfl, n32_le (by omega) (by omega)]; omega, by omega⟩]
  unfold ansDeal nxDeal at k
  rw [v1, v2] at k
  dsimp only at k
  rw [if_neg (by omega), if_neg (by omega)] at k
  have tln := txt_len (x := x) (n := n) hn
  have O0 : OkT (txt x n) (tok (txt x n) 0) := ⟨0, Nat.zero_le _, rfl⟩
  obtain ⟨r, hr⟩ := mac_ends (T := txt x n) (b := 96 * (aD x).length) (n + 1) 0 (tok (txt x n) 0) [] O0 (by omega)
  have hr' : dlR x n = some r := hr
  rw [hr'] at k
  refine c_open hn I.2.2.2.1 (fun h4 f4 P => ?_)
  have e4 : hI h4 0 4 = n32 (aD x).length := by rw [f4.I (by omega)]; exact D.1
  rw [e4, n32_ix (by omega)]
  refine ⟨vpI ht (by omega), A, by rw [f4.R (by omega)]; exact rA, ?_⟩
  refine c_readDeal (b := 96 * (aD x).length) B.1 (by omega) P hr (fun h7 e er P7 f7 => ⟨fun _ => ?_, fun z => absurd rfl z⟩) (fun h7 E er f7 W7 => ⟨fun z => absurd z one0, fun _ => ?_⟩)
  · subst er
    dsimp only at k
    unfold m_X11_deal_118 m_X11_closeText m_X11_closeText_24
    refine ⟨fun _ => ⟨fun _ => ?_, fun z => absurd rfl z⟩, fun z => absurd rfl z⟩
    have z2 : hI (wI h7 2 1 0) 2 2 = n32 e := by rw [hI_wI, if_neg (by omega)]; exact P7.2.1
    rw [z2]
    have f8 : fr (SDq A) h (wI (wI h7 2 1 0) 0 9 (n32 e)) := fr_wI (fr_wI ((f4.mono (by unfold SDq; omega)).trans (f7.mono (by unfold SDr SCm SDq; omega))) _ (by unfold SDq; omega)) _ (by unfold SDq; omega)
    have w1 : hI (wI (wI h7 2 1 0) 0 9 (n32 e)) 2 1 = n32 0 := by rw [hI_wI, if_neg (by omega), hI_wI, if_pos ⟨rfl, rfl⟩]; rfl
    have w9 : hI (wI (wI h7 2 1 0) 0 9 (n32 e)) 0 9 = n32 e := by rw [hI_wI, if_pos ⟨rfl, rfl⟩]
    have w4 : hI (wI (wI h7 2 1 0) 0 9 (n32 e)) 0 4 = n32 (aD x).length := by rw [hI_wI, if_neg (by omega), hI_wI, if_neg (by omega), f7.I (by unfold SDr SCm; omega)]; exact e4
    generalize wI (wI h7 2 1 0) 0 9 (n32 e) = h8 at f8 w1 w9 w4
    obtain ⟨p1, p2, p3, p4, p5, p6, p7, p8, p9, p10, p11, p12, p13⟩ := I.dls B y0 f8
    refine k h8 da (sameM.of f8 (by unfold SDq; omega)) ⟨p1, p2, ⟨w4, D.2.1, p11, p12, p13⟩, ⟨w1, Nat.zero_le _, fun j hj => absurd hj (by show ¬ j < 0; omega)⟩, ⟨w9, by have := P7.2.2; show e + 1 ≤ 601; omega⟩, p3, p4, p5, p6, p10, p7, p8, p9⟩
  · subst er
    dsimp only at k
    have e7 : hI h7 0 4 = n32 (aD x).length := by rw [f7.I (by unfold SDr SCm; omega)]; exact e4
    rw [e7, n32_ix (by omega)]
    refine ⟨vpI ht (by omega), A, by rw [f7.R (by unfold SDr SCm; omega), f4.R (by omega)]; exact rA, ?_⟩
    have z4 : hI (wI h7 A 1 (n32 g)) 0 4 = n32 (aD x).length := by rw [hI_wI, if_neg (by omega)]; exact e7
    rw [z4, show n32 (aD x).length + 1 = n32 ((aD x).length + 1) from n32_add _ 1]
    unfold m_X11_deal_118
    have z5 : hI (wI (wI h7 A 1 (n32 g)) 0 4 (n32 ((aD x).length + 1))) 0 4 = n32 ((aD x).length + 1) := by rw [hI_wI, if_pos ⟨rfl, rfl⟩]
    rw [z5, show n32 ((aD x).length + 1) - 1 = n32 (aD x).length by rw [show (1 : Int32) = n32 1 from rfl, n32_sub (by omega)]; rfl]
    unfold m_X11_closeText m_X11_closeText_24
    refine ⟨fun z => absurd z one0, fun _ => ⟨fun z => absurd z one0, fun _ => ?_⟩⟩
    have f78 : fr (fun q j => q = A ∧ j = 1 ∨ q = 0 ∧ (j = 4 ∨ j = 9) ∨ q = 2 ∧ j = 1) h7 (wI (wI (wI (wI h7 A 1 (n32 g)) 0 4 (n32 ((aD x).length + 1))) 2 1 0) 0 9 (-1)) := fr_wI (fr_wI (fr_wI (fr_wI (fr.rf _ _) _ (by omega)) _ (by omega)) _ (by omega)) _ (by omega)
    have wA : hI (wI (wI (wI (wI h7 A 1 (n32 g)) 0 4 (n32 ((aD x).length + 1))) 2 1 0) 0 9 (-1)) A 1 = n32 g := by rw [hI_wI, if_neg (by omega), hI_wI, if_neg (by omega), hI_wI, if_neg (by omega), hI_wI, if_pos ⟨rfl, rfl⟩]
    have w4 : hI (wI (wI (wI (wI h7 A 1 (n32 g)) 0 4 (n32 ((aD x).length + 1))) 2 1 0) 0 9 (-1)) 0 4 = n32 ((aD x).length + 1) := by rw [hI_wI, if_neg (by omega), hI_wI, if_neg (by omega), hI_wI, if_pos ⟨rfl, rfl⟩]
    have w1 : hI (wI (wI (wI (wI h7 A 1 (n32 g)) 0 4 (n32 ((aD x).length + 1))) 2 1 0) 0 9 (-1)) 2 1 = n32 0 := by rw [hI_wI, if_neg (by omega), hI_wI, if_pos ⟨rfl, rfl⟩]; rfl
    have w9 : hI (wI (wI (wI (wI h7 A 1 (n32 g)) 0 4 (n32 ((aD x).length + 1))) 2 1 0) 0 9 (-1)) 0 9 = -1 := by rw [hI_wI, if_pos ⟨rfl, rfl⟩]
    generalize wI (wI (wI (wI h7 A 1 (n32 g)) 0 4 (n32 ((aD x).length + 1))) 2 1 0) 0 9 (-1) = h8 at f78 wA w4 w1 w9
    have f8 : fr (SDq A) h h8 := ((f4.mono (by unfold SDq; omega)).trans (f7.mono (by unfold SDr SCm SDq; omega))).trans (f78.mono (by unfold SDq; omega))
    obtain ⟨p1, p2, p3, p4, p5, p6, p7, p8, p9, p10, p11, p12, p13⟩ := I.dls B y0 f8
    have hB : inD x (aB x) := p4.2.2.2.1
    have hO : inD x (aO x) := p5.2.2.2.1
    obtain ⟨q1, q2, q3, q4, q5, q6, q7⟩ := W7
    have V1 := q1.mv f78 (by omega) (by omega) (by omega)
    have V2 := q2.mv f78 (by omega) (by omega) (by omega)
    have grow : ∀ l : List Nat, inD x l → inD (stD (stQ (stT x []) 0) (aD x ++ [(E, g)])) l := fun l hl d hd => by
      show d < (aD x ++ [(E, g)]).length
      rw [List.length_append]; have := hl d hd; omega
    refine k h8 (fun d => if d = (aD x).length then A else da d) (sameM.of f8 (by unfold SDq; omega)) ⟨p1, p2, ⟨?_, ?_, p11, ?_, fun d hd => ?_⟩, ⟨w1, Nat.zero_le _, fun j hj => absurd hj (by show ¬ j < 0; omega)⟩, ⟨w9, by show 0 ≤ 601; omega⟩, p3, ⟨p4.1, p4.2.1, p4.2.2.1.grow hB, grow _ hB, p4.2.2.2.2⟩, ⟨p5.1, p5.2.1, p5.2.2.1.grow hO, grow _ hO, p5.2.2.2.2⟩, ⟨p6.1, p6.2.1, fun i hi => ?_⟩, fun d hd => ?_, p7.grow hB rfl rfl rfl, p8.grow hO rfl rfl rfl rfl, p9⟩
    · show hI h8 0 4 = n32 (aD x ++ [(E, g)]).length
      rw [w4, List.length_append]; rfl
    · show (aD x ++ [(E, g)]).length ≤ 24
      rw [List.length_append, List.length_singleton]; omega
    · intro d h1 h2
      have h2' : d > (aD x ++ [(E, g)]).length := h2
      rw [List.length_append, List.length_singleton] at h2'
      exact p12 d h1 (by omega)
    · have hd' : d < (aD x ++ [(E, g)]).length := hd
      rw [List.length_append, List.length_singleton] at hd'
      show hR h8 8 d = some (if d = (aD x).length then A else da d) ∧ CDeal (aD x ++ [(E, g)]) h8 d (if d = (aD x).length then A else da d)
      by_cases q : d = (aD x).length
      · rw [if_pos q, q]
        refine ⟨by rw [f8.R (by unfold SDq; omega)]; exact rA, ?_⟩
        unfold CDeal dL dC dE
        rw [dS_new, dG_new]
        obtain ⟨p, b1, b2⟩ := q5
        exact ⟨wA, V1.1, by rw [f78.I (by omega)]; exact q3, by rw [f78.I (by omega)]; exact q4, V1.2.1, V2.1, V1.2.2, V2.2, p, b1, fun j hj => by rw [f78.I (by omega)]; exact b2 j hj⟩
      · rw [if_neg q]
        obtain ⟨u1, u2⟩ := p13 d (by omega)
        exact ⟨u1, u2.old (by omega)⟩
    · obtain ⟨a, u1, u2, u3, u4, u5, u6, u7⟩ := p6.2.2 i hi
      exact ⟨a, u1, u2, u3, u4, u5.grow u6, grow _ u6, u7⟩
    · have hd' : d < (aD x ++ [(E, g)]).length := hd
      rw [List.length_append, List.length_singleton] at hd'
      show ∃ hd, hI h8 (if d = (aD x).length then A else da d) 7 = n32 (FS (sD (dS (aD x ++ [(E, g)]) d)) hd (96 * d) (sN (dS (aD x ++ [(E, g)]) d))) ∧ hI h8 (if d = (aD x).length then A else da d) 8 = n32 ((FC (sD (dS (aD x ++ [(E, g)]) d)) hd (96 * d) (sN (dS (aD x ++ [(E, g)]) d))).count 0)
      by_cases q : d = (aD x).length
      · rw [if_pos q, q, dS_new]
        obtain ⟨hd2, S⟩ := mac_sh _ _ _ _ _ hr ShE0
        have W := mac_wi _ _ _ _ _ hr (by rw [if_pos rfl]; exact GI0 (by omega)) W90
        rw [W.2.2] at S
        cases hz : (shR (96 * (aD x).length) E).1 with
        | nil =>
          rw [hz] at S
          refine ⟨hd2, ?_, ?_⟩
          · rw [f78.I (by omega), q6]; exact congrArg n32 S.2.2
          · rw [f78.I (by omega), q7]; exact congrArg (fun l => n32 (List.count 0 l)) S.2.1
        | cons a l => rw [hz] at S; exact absurd S (fun q => q)
      · rw [if_neg q, dS_old (by omega)]
        exact p10 d (by omega)
set_option maxHeartbeats 4000000 in
set_option maxRecDepth 100000 in
theorem C_deal {x : Ab} {da : Nat → Nat} {v1 v2 : Int32} {h : Hp} {Q : Int32 → Hp → Prop} (I : InvC x da h) (k : ∀ h' da', sameM h h' → InvC (nxDeal x v1 v2) da' h' → Q (ansDeal x v1 v2) h') : m_X11_deal v1 v2 h Q := by
  have tl := I.2.2.2.1.2.1
  have D := I.2.2.1
  rcases arg_cases v2 400 with ⟨e2, c2⟩ | ⟨g, hg, g2, rfl, e2⟩
  · have kk : Q (-2) h := by
      have := k h da (sameM.rf h)
      unfold ansDeal nxDeal at this
      rw [e2] at this
      cases hv : argN v1 ((aT x).length + 1) <;> rw [hv] at this <;> exact this I
    unfold m_X11_deal
    rcases c2 with c2 | ⟨a, a1, a2, rfl⟩
    · exact ⟨fun _ => kk, fun z => absurd c2 z⟩
    · refine ⟨fun _ => kk, fun _ => ⟨fun z => ?_, fun _ => kk⟩⟩
      rw [show (399 : Int32) = n32 399 from rfl, n32_le a2 (by omega)] at z; omega
  · rcases arg_cases v1 ((aT x).length + 1) with ⟨e1, c1⟩ | ⟨n, hn, n2, rfl, e1⟩
    · have kk : Q (-2) h := by
        have := k h da (sameM.rf h)
        unfold ansDeal nxDeal at this
        rw [e2, e1] at this
        exact this I
      unfold m_X11_deal m_X11_refusalOf
      have two : ((-2 : Int32) = 0 → vp_in (hI h 0 4) 24 ∧ ((∀ b11 : Nat, (hR h 8 (ix (hI h 0 4))) = some b11 → m_X11_deal_64 Q v1 (n32 g) h) ∧ ((hR h 8 (ix (hI h 0 4))) = none → ∀ a12 : Nat, a12 = hN h → ∀ h13 : Hp, h13 = nw h (21, 0) → m_X1_init a12 (hI h13 0 4) h13 (fun h15 => hN h ≤ a12 ∧ sealOK h15 a12 1 ∧ ∀ h16 : Hp, h16 = wT h15 a12 (1, 0) → vp_in (hI h 0 4) 24 ∧ (m_X11_deal_64 Q v1 (n32 g) (wR h16 8 (ix (hI h 0 4)) (some a12))))))) ∧ (¬ (-2 : Int32) = 0 → Q (-2) h) := ⟨fun z => absurd z (by decide), fun _ => kk⟩
      refine ⟨fun _ => kk, fun _ => ⟨fun _ => ?_, fun _ => kk⟩⟩
      rw [I.2.2.2.1.1]
      rcases c1 with c1 | ⟨a, a1, a2, rfl⟩
      · exact ⟨fun _ => two, fun z => absurd c1 z⟩
      · refine ⟨fun _ => two, fun _ => ⟨fun z => ?_, fun _ => two⟩⟩
        rw [n32_le a2 (by omega)] at z; omega
    · by_cases z24 : (aD x).length = 24
      · have kk : Q (-3) h := by
          have := k h da (sameM.rf h)
          unfold ansDeal nxDeal at this
          rw [e2, e1] at this
          dsimp only at this
          rw [if_pos z24, if_pos z24] at this
          exact this I
        unfold m_X11_deal m_X11_refusalOf
        rw [D.1, I.2.2.2.1.1, show (24 : Int32) = n32 24 from rfl, n32_lt (by omega) (by omega), n32_le (by omega) (by omega)]
        refine ⟨fun z => ?_, fun _ => ⟨fun _ => ⟨fun z => ?_, fun _ => ⟨fun _ => ⟨fun z => absurd z (by omega), fun _ => ⟨fun z => absurd z (by decide), fun _ => kk⟩⟩, fun z => absurd (by omega) z⟩⟩, fun z => ?_⟩⟩
        · rw [show (0 : Int32) = n32 0 from rfl, n32_lt (by omega) (by omega)] at z; omega
        · rw [show (0 : Int32) = n32 0 from rfl, n32_lt (by omega) (by omega)] at z; omega
        · rw [show (399 : Int32) = n32 399 from rfl, n32_le (by omega) (by omega)] at z; omega
      · have d24 := D.2.1
        refine c_slotD I (by omega) (by omega) hg (fun h1 A S => ?_)
        obtain ⟨sm, I1, rA, B, y0⟩ := S
        exact c_deal64 I1 (by omega) (by omega) hg rA B y0 (fun h' da' s' I' => k h' da' (sm.trans s') I')
