/-! A DEAL'S MASKS HOLD NO BITS BUT ITS OWN -/
def Mk1 (m E C : Nat) : Prop := ∀ j, m.testBit j = true → E.testBit j = true ∨ (5 ≤ j ∧ j < 5 + C)
def MkI (s : St) : Prop := (∀ f ∈ sK s, Mk1 (f 6) (sE s) (sC s) ∧ (f 0 = 6 → (sE s).testBit (f 1) = true) ∧ (f 0 = 7 → f 1 < sC s)) ∧ ∀ r ∈ sL s, Mk1 (r 9) (sE s) (sC s)
theorem Mk1.mono {m E C E' C' : Nat} (M : Mk1 m E C) (hE : ∀ j, E.testBit j = true → E'.testBit j = true) (hC : C ≤ C') : Mk1 m E' C' := fun j hj => by
  rcases M j hj with y | y
  · exact Or.inl (hE j y)
  · exact Or.inr ⟨y.1, by omega⟩
theorem Mk1.br {c : Rec} {E C b : Nat} (M : Mk1 (c 6) E C) (h : E.testBit b = true ∨ (5 ≤ b ∧ b < 5 + C)) : Mk1 (brM c b) E C := fun j hj => by
  unfold brM at hj
  rw [tb_or, Bool.or_eq_true, decide_eq_true_iff] at hj
  rcases hj with y | y
  · exact M j y
  · rw [← y]; exact h
theorem MkI.around {s : St} (M : MkI s) : Mk1 (ctx (sK s) 6) (sE s) (sC s) := by
  cases hK : sK s with
  | nil => intro j hj; exact absurd hj (by show ¬ (rc0 6).testBit j = true; simp [rc0])
  | cons f l => exact (M.1 f (by rw [hK]; simp)).1
theorem MkI.leaf {s : St} {r : Rec} (M : MkI s) : MkI (stp s (0, r)) := by
  have C := M.around
  rw [stp_leaf]
  refine ⟨M.1, fun q hq => ?_⟩
  have hq' : q ∈ sL s ++ [leafRec (ctx (sK s)) r (sN s)] := hq
  rw [List.mem_append, List.mem_singleton] at hq'
  rcases hq' with y | rfl
  · exact M.2 q y
  · exact C
theorem MkI.grp {s : St} {k : Nat} {r : Rec} (M : MkI s) (h4 : 4 ≤ k) (h7 : k ≤ 7) : MkI (stp s (k, r)) := by
  have C := M.around
  rw [stp_open h4 h7]
  have hE : ∀ j, (sE s).testBit j = true → (if k = 6 then sE s ||| 2 ^ r 0 else sE s).testBit j = true := by
    intro j hj
    split
    · rw [tb_or, hj]; rfl
    · exact hj
  have hC : sC s ≤ (if k = 7 then sC s + 1 else sC s) := by split <;> omega
  refine ⟨fun f hf => ?_, fun q hq => (M.2 q hq).mono hE hC⟩
  have hf' : f ∈ opened s k (r 0) :: sK s := hf
  rw [List.mem_cons] at hf'
  show Mk1 (f 6) (if k = 6 then sE s ||| 2 ^ r 0 else sE s) (if k = 7 then sC s + 1 else sC s) ∧ (f 0 = 6 → (if k = 6 then sE s ||| 2 ^ r 0 else sE s).testBit (f 1) = true) ∧ (f 0 = 7 → f 1 < (if k = 7 then sC s + 1 else sC s))
  rcases hf' with rfl | hf'
  · have C' := C.mono hE hC
    by_cases k4 : k = 4
    · subst k4
      exact ⟨C', fun z => absurd z (by show ¬ 4 = 6; decide), fun z => absurd z (by show ¬ 4 = 7; decide)⟩
    · by_cases k5 : k = 5
      · subst k5
        exact ⟨C', fun z => absurd z (by show ¬ 5 = 6; decide), fun z => absurd z (by show ¬ 5 = 7; decide)⟩
      · by_cases k6 : k = 6
        · subst k6
          have bt : (if 6 = 6 then sE s ||| 2 ^ r 0 else sE s).testBit (r 0) = true := by rw [if_pos rfl, tb_or]; simp
          exact ⟨C'.br (Or.inl bt), fun _ => bt, fun z => absurd z (by show ¬ 6 = 7; decide)⟩
        · obtain rfl : k = 7 := by omega
          exact ⟨C'.br (Or.inr ⟨by omega, by rw [if_pos rfl]; omega⟩), fun z => absurd z (by show ¬ 7 = 6; decide), fun _ => by show sC s < _; rw [if_pos rfl]; omega⟩
  · obtain ⟨m1, m2, m3⟩ := M.1 f hf'
    exact ⟨m1.mono hE hC, fun z => hE _ (m2 z), fun z => Nat.lt_of_lt_of_le (m3 z) hC⟩
theorem MkI.two {s : St} {f : Rec} {l : List Rec} {r : Rec} (M : MkI s) (h : sK s = f :: l) (hk : f 0 = 6 ∨ f 0 = 7) : MkI (stp s (8, r)) := by
  rw [stp_two h]
  obtain ⟨m1, m2, m3⟩ := M.1 f (by rw [h]; simp)
  have C : Mk1 (ctx l 6) (sE s) (sC s) := by
    cases l with
    | nil => intro j hj; exact absurd hj (by show ¬ (rc0 6).testBit j = true; simp [rc0])
    | cons g l => exact (M.1 g (by rw [h]; simp)).1
  refine ⟨fun g hg => ?_, M.2⟩
  have hg' : g ∈ turned f (ctx l) :: l := hg
  rw [List.mem_cons] at hg'
  rcases hg' with rfl | hg'
  · rcases hk with y | y
    · unfold turned
      rw [if_pos y]
      exact ⟨C.br (Or.inl (m2 y)), fun _ => m2 y, fun z => absurd z (by show ¬ 6 = 7; decide)⟩
    · unfold turned
      rw [if_neg (by omega)]
      exact ⟨C.br (Or.inr ⟨by omega, by have := m3 y; show 5 + f 1 < 5 + sC s; omega⟩), fun z => absurd z (by show ¬ 7 = 6; decide), fun _ => m3 y⟩
  · exact M.1 g (by rw [h]; simp [hg'])
theorem MkI.end {s : St} {f : Rec} {l : List Rec} {r : Rec} (M : MkI s) (h : sK s = f :: l) : MkI (stp s (9, r)) := by
  rw [stp_end h]
  refine ⟨fun g hg => ?_, M.2⟩
  have hg' : g ∈ l := hg
  exact M.1 g (by rw [h]; simp [hg'])
theorem MkI0 {b : Nat} : MkI (run b []) := ⟨fun f hf => absurd hf (by show ¬ f ∈ []; simp), fun f hf => absurd hf (by show ¬ f ∈ []; simp)⟩
set_option maxHeartbeats 4000000 in
set_option maxRecDepth 100000 in
theorem mac_mk {T : List Nat} {b : Nat} : ∀ (n md : Nat) (t : Tk) (E E' : List Ev), mac T b n md t E = some (.inr E') → MkI (run b E) → MkI (run b E') := by
  intro n
  induction n with
  | zero => intro md t E E' hr; rw [mac] at hr; exact absurd hr (by simp)
  | succ n ih =>
    intro md t E E' hr W
    cases md with
    | zero =>
      rw [mac] at hr
      have hl := pl_le T t KNDS
      have hl8 : KNDS.length = 8 := rfl
      by_cases q0 : pl T t KNDS = 0
      · rw [if_pos q0] at hr; exact absurd hr (by simp)
      · rw [if_neg q0] at hr
        by_cases q4 : pl T t KNDS ≤ 4
        · rw [if_pos q4] at hr
          cases hs : lfS T (pl T t KNDS - 1) t (run b E) with
          | inl e => rw [hs] at hr; exact absurd hr (by simp)
          | inr t' =>
            rw [hs] at hr
            refine ih 1 t' _ E' hr ?_
            rw [run_snoc]; exact W.leaf
        · rw [if_neg q4] at hr
          cases hs : grS T (pl T t KNDS - 1) t (run b E) with
          | inl e => rw [hs] at hr; exact absurd hr (by simp)
          | inr t' =>
            rw [hs] at hr
            refine ih 0 t' _ E' hr ?_
            rw [run_snoc]
            exact W.grp (by omega) (by omega)
    | succ md =>
      rw [mac] at hr
      by_cases q : t.1 = 44
      · rw [if_pos q] at hr
        exact ih 0 _ E E' hr W
      · rw [if_neg q] at hr
        cases hK : sK (run b E) with
        | nil =>
          rw [hK] at hr
          dsimp only at hr
          by_cases q2 : t.1 = 0
          · rw [if_pos q2] at hr
            injection hr with hr; injection hr with hr
            subst hr
            exact W
          · rw [if_neg q2] at hr; exact absurd hr (by simp)
        | cons f l =>
          rw [hK] at hr
          dsimp only at hr
          by_cases q2 : t.1 = 125
          · rw [if_pos q2] at hr
            by_cases q3 : isTwo T f (nxt T t) = true
            · rw [if_pos q3] at hr
              cases hs : sOpen T l.length (.inr (nxt T (nxt T t))) with
              | inl e => rw [hs] at hr; exact absurd hr (by simp)
              | inr t' =>
                rw [hs] at hr
                refine ih 0 t' _ E' hr ?_
                rw [run_snoc]; exact W.two hK (isTwo_kind q3)
            · rw [if_neg q3] at hr
              refine ih 1 _ _ E' hr ?_
              rw [run_snoc]; exact W.end hK
          · rw [if_neg q2] at hr; exact absurd hr (by simp)
def OkM (x : Ab) : Prop := ∀ d, d < (aD x).length → ∀ r ∈ sL (dS (aD x) d), Mk1 (r 9) (sE (dS (aD x) d)) (sC (dS (aD x) d))
theorem okM_deal {x : Ab} {v1 v2 : Int32} (K : OkM x) : OkM (nxDeal x v1 v2) := by
  unfold nxDeal
  split
  · rename_i n g e1 e2
    split
    · exact K
    · rename_i n24
      split
      · rename_i E hE
        have M := mac_mk _ _ _ _ _ hE MkI0
        intro d hd
        have hd' : d < (aD x ++ [(E, g)]).length := hd
        rw [List.length_append, List.length_singleton] at hd'
        show ∀ r ∈ sL (dS (aD x ++ [(E, g)]) d), Mk1 (r 9) (sE (dS (aD x ++ [(E, g)]) d)) (sC (dS (aD x ++ [(E, g)]) d))
        by_cases q : d = (aD x).length
        · subst q
          rw [dS_new]
          exact M.2
        · rw [dS_old (by omega)]
          exact K d (by omega)
      · exact K
      · exact K
  · exact K
