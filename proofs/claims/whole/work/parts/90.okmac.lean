/-! A DEAL THAT WAS READ IS AS IT SHOULD BE -/
def W9 (b : Nat) (s : St) : Prop := WI b s ∧ ∀ f ∈ sK s, sD s 59 (f 3) = f 1
theorem turned_1 (f c : Rec) : turned f c 1 = f 1 := by unfold turned; split <;> rfl
theorem W9.leaf {b : Nat} {s : St} {r : Rec} (W : W9 b s) (hK : (sK s).length ≤ 6) (hr : LfIn r) (hb : b ≤ sN s) : W9 b (stp s (0, r)) := by
  refine ⟨W.1.leaf hK hr hb, ?_⟩
  rw [stp_leaf]
  intro f hf
  have h3 := (W.1.2.1 f hf).1
  show leafNd (newNd s (r 0)) r (sN s) 59 (f 3) = f 1
  rw [leafNd_ne (by omega), newNd_ne (by omega)]
  exact W.2 f hf
theorem W9.grp {b kd : Nat} {s : St} {r : Rec} (W : W9 b s) (hK : (sK s).length < 6) (h4 : 4 ≤ kd) (h7 : kd ≤ 7) (n4 : kd = 4 → r 0 < 400) (n5 : kd = 5 → r 0 < 10) (n6 : kd = 6 → r 0 < 5) (n7 : kd = 7 → sC s < 3) (hb : b ≤ sN s) : W9 b (stp s (kd, r)) := by
  refine ⟨W.1.grp hK h4 h7 n4 n5 n6 n7 hb, ?_⟩
  rw [stp_open h4 h7]
  intro f hf
  have hf' : f ∈ opened s kd (r 0) :: sK s := hf
  rw [List.mem_cons] at hf'
  show up2 (newNd s kd) 59 (sN s) (opened s kd (r 0) 1) 59 (f 3) = f 1
  rcases hf' with rfl | hf'
  · rw [opened_3, up2_if, if_pos ⟨rfl, rfl⟩]
  · have h3 := (W.1.2.1 f hf').1
    rw [up2_if, if_neg (by omega), newNd_ne (by omega)]
    exact W.2 f hf'
theorem W9.end {b : Nat} {s : St} {f : Rec} {l : List Rec} {r : Rec} (W : W9 b s) (h : sK s = f :: l) : W9 b (stp s (9, r)) := by
  refine ⟨W.1.end h, ?_⟩
  rw [stp_end h]
  intro g hg
  have hg' : g ∈ l := hg
  show up2 (sD s) 62 (f 3) (sN s) 59 (g 3) = g 1
  rw [up2_if, if_neg (by omega)]
  exact W.2 g (by rw [h]; simp [hg'])
theorem W9.two {b : Nat} {s : St} {f : Rec} {l : List Rec} {r : Rec} (W : W9 b s) (h : sK s = f :: l) (hk : f 0 = 6 ∨ f 0 = 7) (h58 : sD s 58 (f 3) = f 0) : W9 b (stp s (8, r)) := by
  have h59 := W.2 f (by rw [h]; simp)
  refine ⟨W.1.two h hk h58 h59, ?_⟩
  rw [stp_two h]
  intro g hg
  have hg' : g ∈ turned f (ctx l) :: l := hg
  rw [List.mem_cons] at hg'
  show up2 (up2 (sD s) 62 (f 3) (sN s)) 63 (f 3) (sN s + 1) 59 (g 3) = g 1
  rw [up2_if, if_neg (by omega), up2_if, if_neg (by omega)]
  rcases hg' with rfl | hg'
  · rw [turned_3, turned_1]; exact h59
  · exact W.2 g (by rw [h]; simp [hg'])
theorem W90 {b : Nat} : W9 b (run b []) := by
  refine ⟨⟨fun j hj => by show 0 ≤ j; omega, fun f hf => absurd hf (by show ¬ f ∈ []; simp), trivial, trivial, fun r hr => absurd hr (by show ¬ r ∈ []; simp), fun i h1 h2 => absurd h2 (by show ¬ i < b; omega), fun i h1 h2 => absurd h2 (by show ¬ i < b; omega)⟩, fun f hf => absurd hf (by show ¬ f ∈ []; simp)⟩
theorem gN_4 {T : List Nat} {t : Tk} : (gN T 4 t).2 ≤ 399 := by show (sNum T 0 399 (.inr (nxt T t))).2 ≤ 399; exact sNum_lt
theorem gN_5 {T : List Nat} {t : Tk} : (gN T 5 t).2 ≤ 9 := by show (sNum T 0 9 (.inr (nxt T t))).2 ≤ 9; exact sNum_lt
set_option maxHeartbeats 4000000 in
set_option maxRecDepth 100000 in
theorem mac_wi {T : List Nat} {b : Nat} : ∀ (n md : Nat) (t : Tk) (E E' : List Ev), mac T b n md t E = some (.inr E') → GI b (run b E) (if md = 0 then 0 else 1) → W9 b (run b E) → W9 b (run b E') ∧ GI b (run b E') 1 ∧ sK (run b E') = [] := by
  intro n
  induction n with
  | zero => intro md t E E' hr; rw [mac] at hr; exact absurd hr (by simp)
  | succ n ih =>
    intro md t E E' hr G W
    have g1 := G.1.2.1
    have gK := G.1.2.2.2.2.1
    have gC := G.1.2.2.2.2.2.1
    cases md with
    | zero =>
      rw [if_pos rfl] at G
      rw [mac] at hr
      have hl := pl_le T t KNDS
      have hl8 : KNDS.length = 8 := rfl
      by_cases q0 : pl T t KNDS = 0
      · rw [if_pos q0] at hr; exact absurd hr (by simp)
      · rw [if_neg q0] at hr
        by_cases q4 : pl T t KNDS ≤ 4
        · rw [if_pos q4] at hr
          cases hs : lfS T (pl T t KNDS - 1) t (run b E) with
          | inl e => rw [hs] at hr; exact absurd hr (by simp)
          | inr t' =>
            rw [hs] at hr
            have hok : okP (lfS T (pl T t KNDS - 1) t (run b E)) := by rw [hs]; trivial
            have nL : (sL (run b E)).length ≠ 12 := fun y => by unfold lfS at hok; rw [if_pos y] at hok; exact hok
            have h7 : okP (l7 T (pl T t KNDS - 1) t).1 := by unfold lfS at hok; rw [if_neg nL] at hok; exact hok
            refine ih 1 t' _ E' hr ?_ ?_
            · rw [run_snoc, if_neg (by decide)]; exact G.leaf nL
            · rw [run_snoc]; exact W.leaf gK (lfR_in (by omega) h7) g1
        · rw [if_neg q4] at hr
          cases hs : grS T (pl T t KNDS - 1) t (run b E) with
          | inl e => rw [hs] at hr; exact absurd hr (by simp)
          | inr t' =>
            rw [hs] at hr
            have hok : okP (grS T (pl T t KNDS - 1) t (run b E)) := by rw [hs]; trivial
            have nc : ¬ (pl T t KNDS - 1 = 7 ∧ sC (run b E) = 3) := fun y => by unfold grS at hok; rw [if_pos y] at hok; exact hok
            have nd : (sK (run b E)).length ≠ 6 := by unfold grS at hok; rw [if_neg nc] at hok; exact sOpen_d hok
            refine ih 0 t' _ E' hr ?_ ?_
            · rw [run_snoc, if_pos rfl]
              exact G.grp (by omega) (by omega) nd nc (fun y => by show (gN T (pl T t KNDS - 1) t).2 < 5; rw [y]; exact gN_evt)
            · rw [run_snoc]
              refine W.grp (by omega) (by omega) (by omega) (fun y => ?_) (fun y => ?_) (fun y => ?_) (fun y => ?_) g1
              · show (gN T (pl T t KNDS - 1) t).2 < 400
                have := gN_4 (T := T) (t := t)
                rw [y]; omega
              · show (gN T (pl T t KNDS - 1) t).2 < 10
                have := gN_5 (T := T) (t := t)
                rw [y]; omega
              · show (gN T (pl T t KNDS - 1) t).2 < 5
                rw [y]; exact gN_evt
              · omega
    | succ md =>
      rw [if_neg (by omega)] at G
      rw [mac] at hr
      by_cases q : t.1 = 44
      · rw [if_pos q] at hr
        exact ih 0 _ E E' hr (by rw [if_pos rfl]; exact G.come) W
      · rw [if_neg q] at hr
        cases hK : sK (run b E) with
        | nil =>
          rw [hK] at hr
          dsimp only at hr
          by_cases q2 : t.1 = 0
          · rw [if_pos q2] at hr
            injection hr with hr; injection hr with hr
            subst hr
            exact ⟨W, G, hK⟩
          · rw [if_neg q2] at hr; exact absurd hr (by simp)
        | cons f l =>
          rw [hK] at hr
          dsimp only at hr
          by_cases q2 : t.1 = 125
          · rw [if_pos q2] at hr
            by_cases q3 : isTwo T f (nxt T t) = true
            · rw [if_pos q3] at hr
              cases hs : sOpen T l.length (.inr (nxt T (nxt T t))) with
              | inl e => rw [hs] at hr; exact absurd hr (by simp)
              | inr t' =>
                rw [hs] at hr
                have F := G.2 f (by rw [hK]; simp)
                refine ih 0 t' _ E' hr ?_ ?_
                · rw [run_snoc, if_pos rfl]; exact G.two hK (isTwo_kind q3)
                · rw [run_snoc]; exact W.two hK (isTwo_kind q3) F.2.2.1
            · rw [if_neg q3] at hr
              refine ih 1 _ _ E' hr ?_ ?_
              · rw [run_snoc, if_neg (by decide)]; exact G.end hK
              · rw [run_snoc]; exact W.end hK
          · rw [if_neg q2] at hr; exact absurd hr (by simp)
theorem W9.ok {b : Nat} {s : St} (W : W9 b s) (G : GI b s 1) (hK : sK s = []) : OkS b s := by
  obtain ⟨⟨w1, w2, w3, w4, w5, w6, w7⟩, -⟩ := W
  obtain ⟨⟨g0, g1, g2, g3, g4, g5, g6⟩, -⟩ := G
  rw [if_neg (by decide)] at g2
  exact ⟨hK, g1, by omega, g5, g6, g3, fun r hr => (w5 r hr).1, w6, rem_whole (fun r hr => (w5 r hr).2.1), rem_none (fun r hr => (w5 r hr).2.2), w7⟩
theorem okA_deal {x : Ab} {v1 v2 : Int32} (K : OkA x) (h24 : (aD x).length ≤ 24) : OkA (nxDeal x v1 v2) := by
  unfold nxDeal
  split
  · rename_i n g e1 e2
    split
    · exact K
    · rename_i n24
      split
      · rename_i E hE
        have M := mac_wi _ _ _ _ _ hE (by rw [if_pos rfl]; exact GI0 (by omega)) W90
        refine ⟨fun d hd => ?_, K.2⟩
        have hd' : d < (aD x ++ [(E, g)]).length := hd
        rw [List.length_append, List.length_singleton] at hd'
        show OkS (96 * d) (dS (aD x ++ [(E, g)]) d) ∧ dG (aD x ++ [(E, g)]) d < 400
        by_cases q : d = (aD x).length
        · subst q
          rw [dS_new, dG_new]
          exact ⟨M.1.ok M.2.1 M.2.2, (argN_some e2).1⟩
        · rw [dS_old (by omega), dG_old (by omega)]
          exact K.1 d (by omega)
      · exact K
      · exact K
  · exact K
