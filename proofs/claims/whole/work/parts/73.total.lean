/-! A TEXT'S READING ENDS -/
def AdvP (T : List Nat) (a : Nat) (s : PS) : Prop := ∀ t, s = .inr t → OkT T t ∧ a ≤ t.2.1
theorem nxt_from {T : List Nat} {t : Tk} (O : OkT T t) : t.2.2 ≤ (nxt T t).2.1 := (tok_from O.le.2.1).1
theorem AdvP.nx {T : List Nat} {a : Nat} {t : Tk} (O : OkT T t) (h : a ≤ t.2.1) : AdvP T a (.inr (nxt T t)) := by
  intro t' e
  injection e with e
  subst e
  have := nxt_from O
  have := O.le
  exact ⟨O.nxt, by omega⟩
theorem AdvP.nx' {T : List Nat} {t : Tk} (O : OkT T t) (h : t.1 ≠ 0) : AdvP T (t.2.1 + 1) (.inr (nxt T t)) := by
  intro t' e
  injection e with e
  subst e
  have := nxt_from O
  have := O.le.2.2.1 h
  exact ⟨O.nxt, by omega⟩
theorem AdvP.no {T : List Nat} {a e : Nat} : AdvP T a (.inl e) := fun t h => absurd h (by simp)
theorem AdvP.num {T : List Nat} {a lo hi : Nat} : ∀ {s : PS}, AdvP T a s → AdvP T a (sNum T lo hi s).1
  | .inl _, _ => AdvP.no
  | .inr t, A => by
    show AdvP T a (if _ then _ else _ : PS × Nat).1
    split
    · exact AdvP.nx (A t rfl).1 (A t rfl).2
    · exact AdvP.no
theorem AdvP.thg {T : List Nat} {a : Nat} : ∀ {s : PS}, AdvP T a s → AdvP T a (sThg T s).1
  | .inl _, _ => AdvP.no
  | .inr t, A => by
    show AdvP T a (if _ then _ else _ : PS × Nat).1
    split
    · exact AdvP.no
    · exact AdvP.nx (A t rfl).1 (A t rfl).2
theorem AdvP.evt {T : List Nat} {a : Nat} : ∀ {s : PS}, AdvP T a s → AdvP T a (sEvt T s).1
  | .inl _, _ => AdvP.no
  | .inr t, A => by
    show AdvP T a (if _ then _ else _ : PS × Nat).1
    split
    · exact AdvP.no
    · exact AdvP.nx (A t rfl).1 (A t rfl).2
theorem AdvP.hnd {T : List Nat} {a nt : Nat} : ∀ {s : PS}, AdvP T a s → AdvP T a (sHnd T nt s).1
  | .inl _, _ => AdvP.no
  | .inr t, A => by
    show AdvP T a (if _ then _ else _ : PS × Nat).1
    split
    · exact AdvP.no
    · exact AdvP.nx (A t rfl).1 (A t rfl).2
theorem AdvP.must {T w : List Nat} {a : Nat} : ∀ {s : PS}, AdvP T a s → AdvP T a (sMust T w s)
  | .inl _, _ => AdvP.no
  | .inr t, A => by
    show AdvP T a (if _ then _ else _)
    split
    · exact AdvP.nx (A t rfl).1 (A t rfl).2
    · exact AdvP.no
theorem AdvP.opn {T : List Nat} {a d : Nat} : ∀ {s : PS}, AdvP T a s → AdvP T a (sOpen T d s)
  | .inl _, _ => AdvP.no
  | .inr t, A => by
    show AdvP T a (if _ then _ else _)
    split
    · exact AdvP.nx (A t rfl).1 (A t rfl).2
    · exact AdvP.no
theorem AdvP.paid {T : List Nat} {a d : Nat} : ∀ {s : PS}, AdvP T a s → AdvP T a (sPaid T d s).1
  | .inl _, _ => AdvP.no
  | .inr t, A => by
    show AdvP T a (if _ then _ else _ : PS × Nat).1
    split
    · exact (AdvP.nx (A t rfl).1 (A t rfl).2).num
    · exact A
theorem adv_leaf {T : List Nat} {t : Tk} {kd : Nat} {s : St} (O : OkT T t) (h : t.1 ≠ 0) : AdvP T (t.2.1 + 1) (lfS T kd t s) := by
  unfold lfS
  split
  · exact AdvP.no
  · have a0 := AdvP.nx' O h
    have a1 : AdvP T (t.2.1 + 1) (l1 T t).1 := a0.hnd
    have a2 : AdvP T (t.2.1 + 1) (l2 T t).1 := a1.hnd
    have a3 : AdvP T (t.2.1 + 1) (l3 T t).1 := a2.thg
    have a4 : AdvP T (t.2.1 + 1) (l4 T t).1 := a3.num
    have a5 : AdvP T (t.2.1 + 1) (l5 T kd t).1 := by
      unfold l5
      split
      · exact a4
      · exact a4.must.num
    have a6 : AdvP T (t.2.1 + 1) (l6 T kd t).1 := a5.must.num
    unfold l7
    split
    · exact a6.paid
    · split
      · exact a6.must.num
      · exact a6
theorem adv_grp {T : List Nat} {t : Tk} {kd : Nat} {s : St} (O : OkT T t) (h : t.1 ≠ 0) : AdvP T (t.2.1 + 1) (grS T kd t s) := by
  unfold grS
  split
  · exact AdvP.no
  · have a0 := AdvP.nx' O h
    refine AdvP.opn ?_
    unfold gN
    split
    · exact a0.num
    · split
      · exact a0.num
      · split
        · exact a0.evt
        · exact a0.hnd
theorem pl_kind {T : List Nat} {t : Tk} {row : List (List Nat)} (h : pl T t row ≠ 0) : t.1 = 1 := by
  unfold pl at h
  by_cases q : t.1 = 1
  · exact q
  · rw [if_neg q] at h; exact absurd rfl h
set_option maxHeartbeats 4000000 in
set_option maxRecDepth 100000 in
theorem mac_ends {T : List Nat} {b : Nat} : ∀ (n md : Nat) (t : Tk) (E : List Ev), OkT T t → T.length < t.2.1 + n → ∃ r, mac T b n md t E = some r := by
  intro n
  induction n with
  | zero => intro md t E O h; have := O.le; omega
  | succ n ih =>
    intro md t E O h
    have go : ∀ (s : PS) (t' : Tk) (md : Nat) (E : List Ev), AdvP T (t.2.1 + 1) s → s = .inr t' → ∃ r, mac T b n md t' E = some r :=
      fun s t' md E A e => ih md t' E (A t' e).1 (by have := (A t' e).2; omega)
    cases md with
    | zero =>
      rw [mac]
      by_cases q0 : pl T t KNDS = 0
      · rw [if_pos q0]; exact ⟨_, rfl⟩
      · have h1 := pl_kind q0
        rw [if_neg q0]
        split
        · have A := adv_leaf (kd := pl T t KNDS - 1) (s := run b E) O (by omega)
          cases hs : lfS T (pl T t KNDS - 1) t (run b E) with
          | inl e => exact ⟨_, rfl⟩
          | inr t' => exact go _ t' _ _ A hs
        · have A := adv_grp (kd := pl T t KNDS - 1) (s := run b E) O (by omega)
          cases hs : grS T (pl T t KNDS - 1) t (run b E) with
          | inl e => exact ⟨_, rfl⟩
          | inr t' => exact go _ t' _ _ A hs
    | succ md =>
      rw [mac]
      by_cases q : t.1 = 44
      · rw [if_pos q]
        have A := AdvP.nx' O (by omega) _ rfl
        exact ih 0 _ E A.1 (by omega)
      · rw [if_neg q]
        cases sK (run b E) with
        | nil =>
          dsimp only
          split <;> exact ⟨_, rfl⟩
        | cons f l =>
          dsimp only
          by_cases q2 : t.1 = 125
          · have A := AdvP.nx' O (by omega) _ rfl
            rw [if_pos q2]
            split
            · have A2 : AdvP T (t.2.1 + 1) (sOpen T l.length (.inr (nxt T (nxt T t)))) := (AdvP.nx A.1 A.2).opn
              cases hs : sOpen T l.length (.inr (nxt T (nxt T t))) with
              | inl e => exact ⟨_, rfl⟩
              | inr t' => exact go _ t' _ _ A2 hs
            · exact ih 1 _ _ A.1 (by omega)
          · rw [if_neg q2]; exact ⟨_, rfl⟩
