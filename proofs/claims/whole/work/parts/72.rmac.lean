/-! THE MODEL: a deal's text, whole -/
def ev0 : Ev := (0, rec0)
/-- the hands of choices stand in the nodes' table -/
def ChM (b : Nat) (E : List Ev) (h : Hp) : Prop := ∀ j, j < E.length → (E.getD j ev0).1 = 7 → hI h 64 (sN (run b (E.take j))) = n32 ((E.getD j ev0).2 0)
theorem sN_stp (s : St) (e : Ev) : sN s ≤ sN (stp s e) := by
  unfold stp
  split
  · show sN s ≤ sN s + 1; omega
  · split
    · show sN s ≤ sN s + 1; omega
    · split
      · exact Nat.le_refl _
      · split <;> exact Nat.le_refl _
theorem run_take_lt {b : Nat} : ∀ (E : List Ev) (j : Nat), sN (run b (E.take j)) ≤ sN (run b E) := by
  intro E j
  have g : ∀ (F : List Ev) (s : St), sN s ≤ sN (F.foldl stp s) := by
    intro F
    induction F with
    | nil => intro s; exact Nat.le_refl _
    | cons e F ih => intro s; rw [List.foldl_cons]; exact Nat.le_trans (sN_stp s e) (ih _)
  have e : run b E = (E.drop j).foldl stp (run b (E.take j)) := by
    unfold run
    rw [← List.foldl_append, List.take_append_drop]
  rw [e]
  exact g _ _
theorem getD_snoc_lt {E : List Ev} {e : Ev} {j : Nat} (h : j < E.length) : (E ++ [e]).getD j ev0 = E.getD j ev0 := by
  rw [List.getD_eq_getElem?_getD, List.getElem?_append_left h, ← List.getD_eq_getElem?_getD]
theorem getD_snoc_at {E : List Ev} {e : Ev} : (E ++ [e]).getD E.length ev0 = e := by
  rw [List.getD_eq_getElem?_getD, List.getElem?_append_right (Nat.le_refl _)]
  simp
/-- a choice's node is made by its own event -/
theorem sN_choice {s : St} {r : Rec} : sN (stp s (7, r)) = sN s + 1 := rfl
theorem ChM.old {b : Nat} {E : List Ev} {h h' : Hp} (C : ChM b E h) (f : ∀ i, i < sN (run b E) → hI h' 64 i = hI h 64 i) : ∀ j, j < E.length → (E.getD j ev0).1 = 7 → hI h' 64 (sN (run b (E.take j))) = n32 ((E.getD j ev0).2 0) := by
  intro j hj h7
  have h1 : E.take (j + 1) = E.take j ++ [E.getD j ev0] := by
    rw [List.take_succ, List.getD_eq_getElem?_getD, List.getElem?_eq_getElem hj]; rfl
  have h2 := run_take_lt (b := b) E (j + 1)
  rw [h1, run_snoc] at h2
  have h3 : sN (stp (run b (E.take j)) (E.getD j ev0)) = sN (run b (E.take j)) + 1 := by
    have : E.getD j ev0 = (7, (E.getD j ev0).2) := by rw [← h7]
    rw [this]; rfl
  rw [f _ (by omega)]
  exact C j hj h7
theorem ChM.add {b : Nat} {E : List Ev} {e : Ev} {h h' : Hp} (C : ChM b E h) (f : ∀ i, i < sN (run b E) → hI h' 64 i = hI h 64 i) (n : e.1 = 7 → hI h' 64 (sN (run b E)) = n32 (e.2 0)) : ChM b (E ++ [e]) h' := by
  intro j hj h7
  rw [List.length_append, List.length_singleton] at hj
  by_cases q : j = E.length
  · subst q
    rw [getD_snoc_at] at h7 ⊢
    rw [List.take_left']
    · exact n h7
    · rfl
  · rw [getD_snoc_lt (by omega)] at h7 ⊢
    rw [List.take_append_of_le_length (by omega)]
    exact C.old f j (by omega) h7
theorem fr64 {b i : Nat} {h h' : Hp} (f : fr (SDl b i) h h') : ∀ j, j < i → hI h' 64 j = hI h 64 j := fun j hj => f.I (by unfold SDl; omega)
theorem SDl_mono {b i i' : Nat} (h : i ≤ i') : ∀ a k, SDl b i' a k → SDl b i a k := by unfold SDl; omega
theorem fr64c {f3 : Nat} {h h' : Hp} (f : fr (SCl f3) h h') : ∀ j : Nat, hI h' 64 j = hI h 64 j := fun j => f.I (by unfold SCl SPr; omega)
/-- what the reading of a deal leaves -/
def MacEnd (T : List Nat) (b : Nat) (r : Nat ⊕ List Ev) (h0 h : Hp) : Prop := fr (SDl b b) h0 h ∧ match r with
  | .inl e => PM T (.inl e) h
  | .inr E => (∃ t, PM T (.inr t) h) ∧ DM b (run b E) h ∧ ChM b E h ∧ GI b (run b E) 1 ∧ sK (run b E) = []
theorem gN_evt {T : List Nat} {t : Tk} : (gN T 6 t).2 < 5 := by show (sEvt T (.inr (nxt T t))).2 < 5; exact sEvt_lt
set_option maxHeartbeats 4000000 in
set_option maxRecDepth 100000 in
theorem q_mac {T : List Nat} {b : Nat} {h0 : Hp} {v2 : Int32} {k139 : Int32 → Hp → Prop} {Q : Int32 → Hp → Prop} {r : Nat ⊕ List Ev} (K : ∀ h', MacEnd T b r h0 h' → k139 v2 h') :
    ∀ (n md : Nat) (t : Tk) (E : List Ev) (h : Hp), mac T b n md t E = some r → fr (SDl b b) h0 h → PM T (.inr t) h → DM b (run b E) h → ChM b E h → GI b (run b E) (if md = 0 then 0 else 1) →
      (md = 0 → ∀ m, n + 1 ≤ m → m_X12_deal_81 m k139 Q v2 1 h) ∧
      (md = 1 → ∀ m q, n + 1 ≤ m → n + 1 ≤ q → m_X12_closes_0 q (m_X12_closes_16 (fun (x7 : Int32) (h8 : Hp) => m_X12_deal_136 (fun (v2 : Int32) (v3 : Int32) hh => m_X12_deal_81 m k139 Q v2 v3 hh) k139 Q v2 x7 h8)) (m_X12_closes_141 (fun (x7 : Int32) (h8 : Hp) => m_X12_deal_136 (fun (v2 : Int32) (v3 : Int32) hh => m_X12_deal_81 m k139 Q v2 v3 hh) k139 Q v2 x7 h8)) (m_X12_closes_171 (fun (x7 : Int32) (h8 : Hp) => m_X12_deal_136 (fun (v2 : Int32) (v3 : Int32) hh => m_X12_deal_81 m k139 Q v2 v3 hh) k139 Q v2 x7 h8)) (fun (x7 : Int32) (h8 : Hp) => m_X12_deal_136 (fun (v2 : Int32) (v3 : Int32) hh => m_X12_deal_81 m k139 Q v2 v3 hh) k139 Q v2 x7 h8) h) := by
  have bad : ∀ (e m : Nat) (v3 : Int32) (h : Hp), r = .inl e → 1 ≤ m → fr (SDl b b) h0 h → PM T (.inl e) h → m_X12_deal_81 m k139 Q v2 v3 h := by
    intro e m v3 h er hm f P
    obtain ⟨m, rfl⟩ : ∃ m', m = m' + 1 := ⟨m - 1, by omega⟩
    rw [m_X12_deal_81]
    have kk : k139 v2 h := K h ⟨f, by rw [er]; exact P⟩
    exact ⟨fun _ => kk, fun _ => ⟨fun _ => kk, fun z => absurd z P.bad⟩⟩
  intro n
  induction n with
  | zero => intro md t E h hr; rw [mac] at hr; exact absurd hr (by simp)
  | succ n ih =>
    intro md t E h hr f0 P D C G
    have g1 := G.1.2.1
    refine ⟨fun hmd m hm => ?_, fun hmd m q hm hq => ?_⟩
    · subst hmd
      rw [if_pos rfl] at G
      obtain ⟨m, rfl⟩ : ∃ m', m = m' + 1 := ⟨m - 1, by omega⟩
      rw [m_X12_deal_81]
      refine ⟨fun z => absurd z (by decide), fun _ => ⟨fun z => absurd P.2.1 z, fun _ => ?_⟩⟩
      refine q_kindHere P.2.2.2.1 P.2.2.2.2 ?_
      have hl := pl_le T t KNDS
      have hl8 : KNDS.length = 8 := rfl
      rw [mac] at hr
      unfold m_X12_deal_136
      by_cases q0 : pl T t KNDS = 0
      · rw [if_pos q0] at hr
        rw [q0]
        refine ⟨fun z => absurd z (by decide), fun _ => ?_⟩
        refine q_errs P (fun h' f' P' => bad t.2.1 m 1 h' (by injection hr with hr; exact hr.symm) (by omega) (f0.trans (f'.mono (SPr_SDl b b))) P')
      · rw [if_neg q0] at hr
        refine ⟨fun _ => ?_, fun z => absurd ((pm_ge0 (by omega)).mpr (by omega)) z⟩
        rw [pm_n32 (by omega), show (3 : Int32) = n32 3 from rfl, n32_lt (by decide) (by omega)]
        refine ⟨fun z => ?_, fun z => ?_⟩
        · rw [if_neg (by omega)] at hr
          refine q_readGroup (by omega) (by omega) P D G.1 (fun h' f' P' o' => ?_)
          have fA : fr (SDl b b) h0 h' := f0.trans (f'.mono (SDl_mono g1))
          cases hs : grS T (pl T t KNDS - 1) t (run b E) with
          | inl e =>
            rw [hs] at hr P'
            exact bad e m 1 h' (by injection hr with hr; exact hr.symm) (by omega) fA P'
          | inr t' =>
            rw [hs] at hr P' o'
            obtain ⟨D', c'⟩ := o' trivial
            have hok : okP (grS T (pl T t KNDS - 1) t (run b E)) := by rw [hs]; trivial
            have nc : ¬ (pl T t KNDS - 1 = 7 ∧ sC (run b E) = 3) := fun y => by unfold grS at hok; rw [if_pos y] at hok; exact hok
            have nd : (sK (run b E)).length ≠ 6 := by unfold grS at hok; rw [if_neg nc] at hok; exact sOpen_d hok
            refine (ih 0 t' (E ++ [gEv T (pl T t KNDS - 1) t]) h' hr fA P' (by rw [run_snoc]; exact D') (C.add (fr64 f') c') ?_).1 rfl m (by omega)
            rw [run_snoc, if_pos rfl]
            exact G.grp (by omega) (by omega) nd nc (fun y => by show (gN T (pl T t KNDS - 1) t).2 < 5; rw [y]; exact gN_evt)
        · rw [if_pos (by omega)] at hr
          refine q_readLeaf (by omega) P D G.1 (fun h' f' P' o' => ?_)
          have fA : fr (SDl b b) h0 h' := f0.trans (f'.mono (SDl_mono g1))
          unfold m_X12_closes
          cases hs : lfS T (pl T t KNDS - 1) t (run b E) with
          | inl e =>
            rw [hs] at hr P'
            refine ⟨1, ?_⟩
            rw [m_X12_closes_0]
            exact ⟨fun _ => bad e m 0 h' (by injection hr with hr; exact hr.symm) (by omega) fA P', fun z => absurd z P'.bad⟩
          | inr t' =>
            rw [hs] at hr P' o'
            have hok : okP (lfS T (pl T t KNDS - 1) t (run b E)) := by rw [hs]; trivial
            have nL : (sL (run b E)).length ≠ 12 := fun y => by unfold lfS at hok; rw [if_pos y] at hok; exact hok
            refine ⟨n + 1, (ih 1 t' (E ++ [(0, lfR T (pl T t KNDS - 1) t)]) h' hr fA P' (by rw [run_snoc]; exact o' trivial) (C.add (fr64 f') (fun y => absurd y (by show ¬ 0 = 7; decide))) ?_).2 rfl m (n + 1) (by omega) (Nat.le_refl _)⟩
            rw [run_snoc, if_neg (by decide)]
            exact G.leaf nL
    · subst hmd
      rw [if_neg (by decide)] at G
      obtain ⟨q, rfl⟩ : ∃ q', q = q' + 1 := ⟨q - 1, by omega⟩
      rw [mac] at hr
      refine q_closeStep P D G (fun z => ?_) (fun z z2 => ?_) (fun f l h' z1 hK z2 CF => ?_) (fun f l h' z1 hK z2 CF => ?_)
      · rw [if_pos z] at hr
        unfold m_X12_closes_16
        refine q_nx P (fun h' f' P' => ?_)
        have fA : fr (SDl b b) h0 h' := f0.trans (f'.mono (SPr_SDl b b))
        refine (ih 0 (nxt T t) E h' hr fA P' ?_ (C.old (fun i _ => f'.I (by unfold SPr; omega))) (by rw [if_pos rfl]; exact G.come)).1 rfl m (by omega)
        obtain ⟨d1, d2, d3, d4, d5, d6, d7, d8⟩ := D
        refine ⟨?_, ?_, ?_, ?_, ?_, ?_, d7.mv f' (Nat.le_refl _) (fun k _ => by unfold SPr; omega), fun j j1 j2 => (d8 j j1 j2).mvd (fun _ => rfl) (fun c c1 c2 => f'.I (by unfold SPr; omega))⟩
        · rw [f'.I (by unfold SPr; omega)]; exact d1
        · rw [f'.I (by unfold SPr; omega)]; exact d2
        · rw [f'.I (by unfold SPr; omega)]; exact d3
        · rw [f'.I (by unfold SPr; omega)]; exact d4
        · rw [f'.I (by unfold SPr; omega)]; exact d5
        · rw [f'.I (by unfold SPr; omega)]; exact d6
      · rw [if_neg z] at hr
        unfold m_X12_closes_171 m_X12_closes_185 m_X12_deal_136
        have hk := P.2.2.2.2.kind
        obtain ⟨d1, d2, d3, d4, d5, d6, d7, d8⟩ := id D
        have hd6 := G.1.2.2.2.2.1
        rw [P.2.2.2.1.2.2.1, show (0 : Int32) = n32 0 from rfl, n32_eq (by omega) (by decide), d6, n32_le (by omega) (by decide)]
        have er : r = .inl t.2.1 → m_X12_errs h (fun (h2 : Hp) => m_X12_deal_81 m k139 Q v2 (n32 0) h2) := by
          intro e
          exact q_errs P (fun h' f' P' => bad t.2.1 m _ h' e (by omega) (f0.trans (f'.mono (SPr_SDl b b))) P')
        cases hK : sK (run b E) with
        | nil =>
          rw [hK] at hr
          dsimp only at hr
          refine ⟨fun y => ?_, fun y => ⟨fun _ => ?_, fun w => absurd (Nat.le_refl 0) w⟩⟩
          · rw [if_neg y] at hr
            exact er (by injection hr with hr; exact hr.symm)
          · rw [if_pos y] at hr
            obtain ⟨m, rfl⟩ : ∃ m', m = m' + 1 := ⟨m - 1, by omega⟩
            rw [m_X12_deal_81]
            have kk : k139 v2 h := K h ⟨f0, by
              have er' : r = .inr E := by injection hr with hr; exact hr.symm
              rw [er']
              exact ⟨⟨t, P⟩, D, C, G, hK⟩⟩
            exact ⟨fun _ => kk, fun w => absurd rfl w⟩
        | cons f l =>
          rw [hK] at hr z2
          dsimp only at hr
          have z3 : t.1 ≠ 125 := by
            rcases z2 with z2 | z2
            · exact z2
            · exact absurd z2 (by simp)
          rw [if_neg z3] at hr
          have e' := er (by injection hr with hr; exact hr.symm)
          exact ⟨fun _ => e', fun _ => ⟨fun w => absurd w (by simp), fun _ => e'⟩⟩
      · rw [if_neg (by omega), hK] at hr
        dsimp only at hr
        rw [if_pos z1, if_pos z2] at hr
        have F3 := (G.2 f (by rw [hK]; simp)).1
        refine q_close141 D G hK CF (fun h2 f2 P2 o2 => ?_)
        have fA : fr (SDl b b) h0 h2 := f0.trans (f2.mono (SCl_SDl F3))
        unfold m_X12_deal_136
        cases hs : sOpen T l.length (.inr (nxt T (nxt T t))) with
        | inl e =>
          rw [hs] at hr P2
          exact bad e m _ h2 (by injection hr with hr; exact hr.symm) (by omega) fA P2
        | inr t' =>
          rw [hs] at hr P2 o2
          refine (ih 0 t' (E ++ [(8, rec0)]) h2 hr fA P2 (by rw [run_snoc]; exact o2 trivial) (C.add (fun i _ => fr64c f2 i) (fun y => absurd y (by show ¬ 8 = 7; decide))) ?_).1 rfl m (by omega)
          rw [run_snoc, if_pos rfl]
          exact G.two hK (isTwo_kind z2)
      · rw [if_neg (by omega), hK] at hr
        dsimp only at hr
        rw [if_pos z1, if_neg (by rw [z2]; decide)] at hr
        obtain ⟨c1, c2, c3, c4, c5, c6⟩ := CF
        have F3 := (G.2 f (by rw [hK]; simp)).1
        have fA : fr (SDl b b) h0 h' := f0.trans (c1.mono (SCl_SDl F3))
        refine (ih 1 (nxt T t) (E ++ [(9, rec0)]) h' hr fA c2 (by rw [run_snoc]; exact D.end hK c1 c3 c4 c5 c6) (C.add (fun i _ => fr64c c1 i) (fun y => absurd y (by show ¬ 9 = 7; decide))) ?_).2 rfl m q (by omega) (by omega)
        rw [run_snoc, if_neg (by decide)]
        exact G.end hK
