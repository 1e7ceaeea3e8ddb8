/-! THE CLASS: if and choice in the shape -/
set_option maxHeartbeats 4000000 in
set_option maxRecDepth 100000 in
theorem c_turn {k t n : Nat} {c : List Nat} {h : Hp} {Q : Hp → Prop} (d0 : hI h 6 n = ce k) (d1 : hI h 6 (n + 1) = n32 t) (C : Cel (n + 3) c h) (e2 : hI h 5 2 = n32 (n + 3 + c.length)) (hn : n + 3 + c.length + 1 ≤ 512)
    (kk : ∀ h', fr (SSh n) h h' → hI h' 5 0 = hI h 5 0 → hI h' 5 2 = n32 (n + 3 + c.length + 1) → hI h' 6 n = ce k → hI h' 6 (n + 1) = n32 t → hI h' 6 (n + 2) = n32 c.length → Cel (n + 3) c h' → Q h') : m_X8_turn (n32 n) h Q := by
  unfold m_X8_turn
  refine c_isBegun e2 (by omega) (by omega) ?_
  refine ⟨fun z => absurd z (by decide), fun _ => ?_⟩
  rw [show m_X8_hasRoom 1 = m_X8_hasRoom (n32 1) from rfl]
  refine c_hasRoom e2 (by omega) (by decide) ?_
  rw [if_pos (by omega)]
  refine ⟨fun z => absurd z (by decide), fun _ => ?_⟩
  rw [e2, n32_sub (by omega), show (3 : Int32) = n32 3 from rfl, n32_sub (by omega), show n + 3 + c.length - n - 3 = c.length by omega, show n32 n + 2 = n32 (n + 2) from n32_add _ 2, n32_ix (by omega)]
  have x2 : hI (wI h 6 (n + 2) (n32 c.length)) 5 2 = n32 (n + 3 + c.length) := by rw [hI_wI, if_neg (by omega)]; exact e2
  rw [x2, n32_ix (by omega)]
  refine ⟨vpI (by omega) (by decide), vpI (by omega) (by decide), ?_⟩
  have y2 : hI (wI (wI h 6 (n + 2) (n32 c.length)) 6 (n + 3 + c.length) 0) 5 2 = n32 (n + 3 + c.length) := by rw [hI_wI, if_neg (by omega)]; exact x2
  rw [y2, show n32 (n + 3 + c.length) + 1 = n32 (n + 3 + c.length + 1) from n32_add _ 1]
  have g : fr (fun q j => q = 6 ∧ (j = n + 2 ∨ j = n + 3 + c.length) ∨ q = 5 ∧ j = 2) h (wI (wI (wI h 6 (n + 2) (n32 c.length)) 6 (n + 3 + c.length) 0) 5 2 (n32 (n + 3 + c.length + 1))) := fr_wI (fr_wI (fr_wI (fr.rf _ _) _ (by omega)) _ (by omega)) _ (by omega)
  have z2 : hI (wI (wI (wI h 6 (n + 2) (n32 c.length)) 6 (n + 3 + c.length) 0) 5 2 (n32 (n + 3 + c.length + 1))) 6 (n + 2) = n32 c.length := by rw [hI_wI, if_neg (by omega), hI_wI, if_neg (by omega), hI_wI, if_pos ⟨rfl, rfl⟩]
  have w2 : hI (wI (wI (wI h 6 (n + 2) (n32 c.length)) 6 (n + 3 + c.length) 0) 5 2 (n32 (n + 3 + c.length + 1))) 5 2 = n32 (n + 3 + c.length + 1) := by rw [hI_wI, if_pos ⟨rfl, rfl⟩]
  generalize wI (wI (wI h 6 (n + 2) (n32 c.length)) 6 (n + 3 + c.length) 0) 5 2 (n32 (n + 3 + c.length + 1)) = h3 at g z2 w2
  exact kk h3 (g.mono (by unfold SSh; omega)) (g.I (by omega)) w2 (by rw [g.I (by omega)]; exact d0) (by rw [g.I (by omega)]; exact d1) z2 (C.mv g (by omega))
theorem list_ext0 {f s : List Nat} (hl : f.length = s.length) (h : ∀ j, j < f.length → f.getD j 0 = s.getD j 0) : f = s := by
  apply List.ext_getElem hl
  intro j h1 h2
  have := h j h1
  rw [List.getD_eq_getElem?_getD, List.getD_eq_getElem?_getD, List.getElem?_eq_getElem h1, List.getElem?_eq_getElem h2] at this
  exact this
set_option maxHeartbeats 4000000 in
set_option maxRecDepth 100000 in
theorem c_isAlike {n1 n2 B : Nat} {f s : List Nat} {h : Hp} {Q : Int32 → Hp → Prop} (F : Cel n1 f h) (S : Cel n2 s h) (hl : f.length = s.length) (hB : B ≤ 900000) (Wf : ∀ v ∈ f, CeB B v) (Ws : ∀ v ∈ s, CeB B v) (h1 : n1 + f.length ≤ 512) (h2 : n2 + s.length ≤ 512) (k : Q (if f = s ∧ 7 ∉ f then 1 else 0) h) : m_X8_isAlike (n32 n1) (n32 n2) (n32 f.length) h Q := by
  unfold m_X8_isAlike
  have main : ∀ r i, r + i = f.length → (∀ j, j < i → f.getD j 0 = s.getD j 0 ∧ f.getD j 0 ≠ 7) → m_X8_isAlike_3 (r + 1) Q (n32 n1) (n32 n2) (n32 f.length) (n32 i) h := by
    intro r
    induction r with
    | zero =>
      intro i hr H
      rw [m_X8_isAlike_3, n32_le (by omega) (by omega)]
      refine ⟨fun _ => ?_, fun z => absurd (by omega) z⟩
      rw [if_pos] at k
      · exact k
      · refine ⟨list_ext0 hl (fun j hj => (H j (by omega)).1), fun m => ?_⟩
        obtain ⟨j, hj, e⟩ := List.getElem_of_mem m
        have := (H j (by omega)).2
        rw [List.getD_eq_getElem?_getD, List.getElem?_eq_getElem hj] at this
        exact this e
    | succ r ih =>
      intro i hr H
      rw [m_X8_isAlike_3, n32_le (by omega) (by omega), n32_add, n32_add, n32_ix (by omega), n32_ix (by omega), F i (by omega), S i (by omega)]
      have bf := Wf _ (getD_mem (l := f) (k := i) (d := 0) (by omega))
      have bs := Ws _ (getD_mem (l := s) (k := i) (d := 0) (by omega))
      have mf : f.getD i 0 ∈ f := getD_mem (by omega)
      have b7 : CeB (B + 8) 7 := Or.inr ⟨by omega, by omega⟩
      have bf' : CeB (B + 8) (f.getD i 0) := by unfold CeB at bf ⊢; omega
      rw [ce_inj bf bs (by omega), show (-6 : Int32) = ce 7 from rfl, ce_inj bf' b7 (by omega)]
      refine ⟨fun z => absurd z (by omega), fun _ => ⟨vpI (by omega) (by decide), vpI (by omega) (by decide), fun z => ?_, fun z => ⟨vpI (by omega) (by decide), fun y => ?_, fun y => ?_⟩⟩⟩
      · rw [if_neg (fun w => z (by rw [w.1]))] at k; exact k
      · intro x1 e1
        rw [e1, show n32 i + 1 = n32 (i + 1) from n32_add _ 1]
        refine ih (i + 1) (by omega) (fun j hj => ?_)
        by_cases q : j = i
        · subst q; exact ⟨z, y⟩
        · exact H j (by omega)
      · rw [if_neg (fun w => w.2 (by rw [← y]; exact mf))] at k; exact k
  exact ⟨_, main f.length 0 (by omega) (fun j hj => absurd hj (by omega))⟩
set_option maxHeartbeats 4000000 in
set_option maxRecDepth 100000 in
theorem c_endTwo {k t n m B : Nat} {f s : List Nat} {h : Hp} {Q : Hp → Prop} (hk : k = 6 ∨ k = 7) (hB : B ≤ 900000) (d0 : hI h 6 n = ce k) (d1 : hI h 6 (n + 1) = n32 t) (d2 : hI h 6 (n + 2) = n32 f.length) (F : Cel (n + 3) f h) (S : Cel (n + 3 + f.length + 1) s h) (Wf : ∀ v ∈ f, CeB B v) (Ws : ∀ v ∈ s, CeB B v) (e0 : hI h 5 0 = n32 m) (e2 : hI h 5 2 = n32 (n + 3 + f.length + 1 + s.length)) (hn : n + 3 + f.length + 1 + s.length ≤ 512)
    (kk : ∀ h', fr (SSh n) h h' → hI h' 5 0 = n32 (m + cloS k t f s) → hI h' 5 2 = n32 (n + (cloC k t f s).length) → Cel n (cloC k t f s) h' → Q h') : m_X8_endTwo (n32 n) h Q := by
  have K1 : cloK k t f s = if f = [] ∧ s = [] then 1 else if f = s ∧ 7 ∉ f then 2 else 0 := by unfold cloK; rw [if_neg (by omega)]
  unfold m_X8_endTwo
  refine c_isBegun e2 (by omega) hn ?_
  refine ⟨fun _ => ?_, fun z => absurd z (by decide)⟩
  intro x7 e7
  rw [show n32 n + 3 = n32 (n + 3) from n32_add _ 3] at e7
  subst e7
  rw [show n32 n + 2 = n32 (n + 2) from n32_add _ 2, n32_ix (by omega), d2]
  refine ⟨vpI (by omega) (by decide), ?_⟩
  intro x8 e8 x9 e9 x10 e10
  subst e8
  rw [n32_add, show n32 (n + 3 + f.length) + 1 = n32 (n + 3 + f.length + 1) from n32_add _ 1] at e9
  subst e9
  rw [e2, n32_sub (by omega), show n + 3 + f.length + 1 + s.length - (n + 3 + f.length + 1) = s.length by omega] at e10
  subst e10
  rw [show n32 (n + 3 + f.length + 1) - 1 = n32 (n + 3 + f.length) by rw [show (1 : Int32) = n32 1 from rfl, n32_sub (by omega)]; rfl, n32_ix (by omega), show (0 : Int32) = n32 0 from rfl, n32_le (by decide) (by omega), n32_eq (by omega) (by omega), n32_eq (by omega) (by omega)]
  refine ⟨fun _ => ⟨vpI (by omega) (by decide), ?_⟩, fun z => absurd (Nat.zero_le _) z⟩
  have f1 : fr (fun q j => q = 6 ∧ j = n + 3 + f.length) h (wI h 6 (n + 3 + f.length) (n32 s.length)) := fr_wI (fr.rf _ _) _ ⟨rfl, rfl⟩
  have y2 : hI (wI h 6 (n + 3 + f.length) (n32 s.length)) 6 (n + 3 + f.length) = n32 s.length := by rw [hI_wI, if_pos ⟨rfl, rfl⟩]
  generalize wI h 6 (n + 3 + f.length) (n32 s.length) = h1 at f1 y2
  have E0 : hI h1 5 0 = n32 m := by rw [f1.I (by omega)]; exact e0
  have E2 : hI h1 5 2 = n32 (n + 3 + f.length + 1 + s.length) := by rw [f1.I (by omega)]; exact e2
  have D0 : hI h1 6 n = ce k := by rw [f1.I (by omega)]; exact d0
  have D1 : hI h1 6 (n + 1) = n32 t := by rw [f1.I (by omega)]; exact d1
  have D2 : hI h1 6 (n + 2) = n32 f.length := by rw [f1.I (by omega)]; exact d2
  have F1 : Cel (n + 3) f h1 := F.mv f1 (by omega)
  have S1 : Cel (n + 3 + f.length + 1) s h1 := S.mv f1 (by omega)
  have f1' : fr (SSh n) h h1 := f1.mono (by unfold SSh; omega)
  have lf : f.length = 0 ↔ f = [] := List.length_eq_zero_iff
  have ls : s.length = 0 ↔ s = [] := List.length_eq_zero_iff
  have stay : cloK k t f s = 0 → Q h1 := by
    intro q
    have eC : cloC k t f s = k :: (t + 8) :: (f.length + 8) :: (f ++ (s.length + 8) :: s) := by
      unfold cloC grC; rw [q, if_neg (by decide), if_neg (by decide), if_neg (by decide), if_neg (by omega)]
    have eS : cloS k t f s = 0 := by unfold cloS; rw [q]; rfl
    rw [eC, eS] at kk
    refine kk h1 f1' E0 (by rw [E2, List.length_cons, List.length_cons, List.length_cons, List.length_append, List.length_cons]; congr 1; omega) (Cel.cons D0 (Cel.cons ?_ (Cel.cons ?_ (Cel.app F1 (Cel.cons ?_ S1)))))
    · rw [D1, ce_num]
    · rw [D2, ce_num]
    · rw [ce_num]; exact y2
  have m82 : ¬ (f = [] ∧ s = []) → m_X8_endTwo_82 Q (n32 n) (n32 (n + 3)) (n32 f.length) (n32 (n + 3 + f.length + 1)) (n32 s.length) h1 := by
    intro nn
    rw [if_neg nn] at K1
    unfold m_X8_endTwo_82
    rw [n32_eq (by omega) (by omega)]
    refine ⟨fun z => stay (by rw [K1, if_neg (fun w => z (by rw [w.1]))]), fun z => ?_⟩
    refine c_isAlike F1 S1 z hB Wf Ws (by omega) (by omega) ?_
    by_cases q : f = s ∧ 7 ∉ f
    · rw [if_pos q] at K1 ⊢
      refine ⟨fun y => absurd y (by decide), fun _ => ?_⟩
      have eC : cloC k t f s = f := by unfold cloC; rw [K1, if_neg (by decide), if_pos rfl]
      have eS : cloS k t f s = 1 := by unfold cloS; rw [K1]; rfl
      rw [eC, eS] at kk
      refine c_lift (by omega) (by omega) (fun h6 f6 x0 x2 xc => ?_)
      rw [x0, E0, show n32 m + 1 = n32 (m + 1) from n32_add _ 1]
      refine kk _ (fr_wI (f1'.trans f6) _ (by unfold SSh; omega)) ?_ ?_ (fun j hj => ?_)
      · rw [hI_wI, if_pos ⟨rfl, rfl⟩]
      · rw [hI_wI, if_neg (by omega)]; exact x2
      · rw [hI_wI, if_neg (by omega), xc j hj]; exact F1 j hj
    · rw [if_neg q] at K1 ⊢
      exact ⟨fun _ => stay K1, fun y => absurd rfl y⟩
  refine ⟨fun z => m82 (fun w => z (lf.mpr w.1)), fun z => ⟨fun y => m82 (fun w => y (ls.mpr w.2)), fun y => ?_⟩⟩
  rw [if_pos ⟨lf.mp z, ls.mp y⟩] at K1
  have eC : cloC k t f s = [] := by unfold cloC; rw [if_pos K1]
  have eS : cloS k t f s = 1 := by unfold cloS; rw [K1]; rfl
  rw [eC, eS] at kk
  have x0 : hI (wI h1 5 2 (n32 n)) 5 0 = n32 m := by rw [hI_wI, if_neg (by omega)]; exact E0
  rw [x0, show n32 m + 1 = n32 (m + 1) from n32_add _ 1]
  refine kk _ (fr_wI (fr_wI f1' _ (by unfold SSh; omega)) _ (by unfold SSh; omega)) ?_ ?_ (Cel.nil _ _)
  · rw [hI_wI, if_pos ⟨rfl, rfl⟩]
  · rw [hI_wI, if_neg (by omega), hI_wI, if_pos ⟨rfl, rfl⟩]; rfl
set_option maxHeartbeats 4000000 in
set_option maxRecDepth 100000 in
theorem c_endTwoW {n l fl : Nat} {h : Hp} {Q : Hp → Prop} (d2 : hI h 6 (n + 2) = n32 l) (e2 : hI h 5 2 = n32 fl) (hn : n + 3 + l + 1 ≤ fl) (hf : fl ≤ 512) (kk : ∀ h' fl', fr (SSh n) h h' → hI h' 5 2 = n32 fl' → n ≤ fl' → fl' ≤ 512 → Q h') : m_X8_endTwo (n32 n) h Q := by
  unfold m_X8_endTwo
  refine c_isBegun e2 (by omega) hf ?_
  refine ⟨fun _ => ?_, fun z => absurd z (by decide)⟩
  intro x7 e7
  rw [show n32 n + 3 = n32 (n + 3) from n32_add _ 3] at e7
  subst e7
  rw [show n32 n + 2 = n32 (n + 2) from n32_add _ 2, n32_ix (by omega), d2]
  refine ⟨vpI (by omega) (by decide), ?_⟩
  intro x8 e8 x9 e9 x10 e10
  subst e8
  rw [n32_add, show n32 (n + 3 + l) + 1 = n32 (n + 3 + l + 1) from n32_add _ 1] at e9
  subst e9
  rw [e2, n32_sub (by omega)] at e10
  subst e10
  rw [show n32 (n + 3 + l + 1) - 1 = n32 (n + 3 + l) by rw [show (1 : Int32) = n32 1 from rfl, n32_sub (by omega)]; rfl, n32_ix (by omega)]
  refine ⟨fun _ => ⟨vpI (by omega) (by decide), ?_⟩, fun z => absurd (by rw [show (0 : Int32) = n32 0 from rfl, n32_le (by decide) (by omega)]; omega) z⟩
  have f1 : fr (SSh n) h (wI h 6 (n + 3 + l) (n32 (fl - (n + 3 + l + 1)))) := fr_wI (fr.rf _ _) _ (by unfold SSh; omega)
  have E2 : hI (wI h 6 (n + 3 + l) (n32 (fl - (n + 3 + l + 1)))) 5 2 = n32 fl := by rw [hI_wI, if_neg (by omega)]; exact e2
  generalize wI h 6 (n + 3 + l) (n32 (fl - (n + 3 + l + 1))) = h1 at f1 E2
  have stay : Q h1 := kk h1 fl f1 E2 (by omega) hf
  have m82 : m_X8_endTwo_82 Q (n32 n) (n32 (n + 3)) (n32 l) (n32 (n + 3 + l + 1)) (n32 (fl - (n + 3 + l + 1))) h1 := by
    unfold m_X8_endTwo_82
    rw [n32_eq (by omega) (by omega)]
    refine ⟨fun _ => stay, fun z => ?_⟩
    have al : ∀ v : Int32, (v = 0 → Q h1) ∧ (¬ v = 0 → m_X8_lift (n32 n) (n32 (n + 3)) (n32 l) h1 (fun h4 => Q (wI h4 5 0 ((hI h4 5 0) + 1)))) := by
      intro v
      refine ⟨fun _ => stay, fun _ => c_lift (by omega) (by omega) (fun h6 f6 x0 x2 xc => ?_)⟩
      refine kk _ (n + l) (fr_wI (f1.trans f6) _ (by unfold SSh; omega)) ?_ (by omega) (by omega)
      rw [hI_wI, if_neg (by omega)]; exact x2
    have main : ∀ r i, r + i = l → m_X8_isAlike_3 (r + 1) (fun (x1 : Int32) (h2 : Hp) => (x1 = 0 → Q h2) ∧ (¬ x1 = 0 → m_X8_lift (n32 n) (n32 (n + 3)) (n32 l) h2 (fun h4 => Q (wI h4 5 0 ((hI h4 5 0) + 1))))) (n32 (n + 3)) (n32 (n + 3 + l + 1)) (n32 l) (n32 i) h1 := by
      intro r
      induction r with
      | zero =>
        intro i hr
        rw [m_X8_isAlike_3, n32_le (by omega) (by omega)]
        exact ⟨fun _ => al 1, fun y => absurd (by omega) y⟩
      | succ r ih =>
        intro i hr
        rw [m_X8_isAlike_3, n32_le (by omega) (by omega), n32_add, n32_add]
        refine ⟨fun y => absurd y (by omega), fun _ => ⟨vpI (by omega) (by decide), vpI (by omega) (by decide), fun _ => al 0, fun _ => ⟨vpI (by omega) (by decide), fun _ => ?_, fun _ => al 0⟩⟩⟩
        intro x1 e1
        rw [e1, show n32 i + 1 = n32 (i + 1) from n32_add _ 1]
        exact ih (i + 1) (by omega)
    exact ⟨l + 1, main l 0 (by omega)⟩
  refine ⟨fun _ => m82, fun _ => ⟨fun _ => m82, fun _ => ?_⟩⟩
  refine kk _ n (fr_wI (fr_wI f1 _ (by unfold SSh; omega)) _ (by unfold SSh; omega)) ?_ (Nat.le_refl _) (by omega)
  rw [hI_wI, if_neg (by omega), hI_wI, if_pos ⟨rfl, rfl⟩]
set_option maxHeartbeats 4000000 in
set_option maxRecDepth 100000 in
theorem c_leavesLeft {c : List Nat} {B : Nat} {h : Hp} {Q : Int32 → Hp → Prop} (C : Cel 0 c h) (hB : B ≤ 900000) (W : ∀ v ∈ c, CeB B v) (e2 : hI h 5 2 = n32 c.length) (hn : c.length ≤ 512) (k : Q (n32 (c.count 0)) h) : m_X8_leavesLeft h Q := by
  unfold m_X8_leavesLeft
  have main : ∀ (rest pre : List Nat), c = pre ++ rest → m_X8_leavesLeft_4 (rest.length + 1) Q (n32 (pre.count 0)) (n32 pre.length) h := by
    intro rest
    induction rest with
    | nil =>
      intro pre e
      rw [List.append_nil] at e
      subst e
      rw [m_X8_leavesLeft_4, e2, n32_le (by omega) (by omega)]
      exact ⟨fun _ => k, fun z => absurd (Nat.le_refl _) z⟩
    | cons v rest ih =>
      intro pre e
      have el : c.length = pre.length + (rest.length + 1) := by rw [e]; simp
      have ev : c.getD pre.length 0 = v := by rw [e, gD_r (Nat.le_refl _), Nat.sub_self]; rfl
      have cj := C pre.length (by omega)
      rw [Nat.zero_add, ev] at cj
      have wv := W v (by rw [e]; simp)
      rw [m_X8_leavesLeft_4, e2, n32_le (by omega) (by omega), n32_ix (by omega), cj, show (-2 : Int32) = ce 0 from rfl, ce_inj wv (Or.inl rfl) (by omega)]
      have nx := ih (pre ++ [v]) (by rw [e]; simp)
      rw [List.length_append, List.count_append, List.length_singleton, List.count_singleton] at nx
      unfold m_X8_leavesLeft_26
      refine ⟨fun z => absurd z (by omega), fun _ => ⟨vpI (by omega) (by decide), fun z => ?_, fun z => ?_⟩⟩
      · intro x1 e1
        rw [e1, show n32 pre.length + 1 = n32 (pre.length + 1) from n32_add _ 1]
        rw [if_neg (by rw [beq_iff_eq]; exact z), Nat.add_zero] at nx
        exact nx
      · intro x2 e2 x1 e1
        rw [e1, e2, show n32 pre.length + 1 = n32 (pre.length + 1) from n32_add _ 1, show n32 (pre.count 0) + 1 = n32 (pre.count 0 + 1) from n32_add _ 1]
        rw [if_pos (by rw [beq_iff_eq]; exact z)] at nx
        exact nx
  exact ⟨_, main c [] rfl⟩
