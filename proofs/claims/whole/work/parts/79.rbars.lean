/-! THE MODEL: statements are read, one after the other -/
def bars (T : List Nat) (mx : Nat) : Nat → PS → List Rec → Option (Nat ⊕ List Rec)
  | 0, _, _ => none
  | _ + 1, .inl e, _ => some (.inl e)
  | n + 1, .inr t, L => if t.1 = 0 then some (.inr L) else if L.length = mx then some (.inl t.2.1) else bars T mx n (brS T (.inr t)) (L ++ [brR T (.inr t)])
theorem AdvP.frm {T : List Nat} {a : Nat} : ∀ {s : PS}, AdvP T a s → AdvP T a (sFrm T s).1
  | .inl _, _ => AdvP.no
  | .inr t, A => by
    show AdvP T a (if _ then _ else _ : PS × Nat).1
    split
    · exact AdvP.no
    · exact AdvP.nx (A t rfl).1 (A t rfl).2
theorem AdvP.ofT {T : List Nat} {a : Nat} : ∀ {s : PS}, AdvP T a s → AdvP T a (sOfT T s).1
  | .inl _, _ => AdvP.no
  | .inr t, A => by
    show AdvP T a (if _ then _ else _ : PS × Nat).1
    split
    · exact (AdvP.nx (A t rfl).1 (A t rfl).2).thg
    · exact A
theorem AdvP.snx {T : List Nat} {a : Nat} : ∀ {s : PS}, AdvP T a s → AdvP T a (sNx T s)
  | .inl _, _ => AdvP.no
  | .inr t, A => AdvP.nx (A t rfl).1 (A t rfl).2
theorem AdvP.tie {T : List Nat} {a : Nat} : ∀ (n b : Nat) (s : PS), AdvP T a s → AdvP T a (tieL T n b s).1
  | 0, _, _, A => A
  | _ + 1, _, .inl _, _ => AdvP.no
  | n + 1, b, .inr t, A => by
    rw [tieL]
    split
    · exact A
    · exact AdvP.tie n _ _ (AdvP.nx (A t rfl).1 (A t rfl).2)
theorem AdvP.wit {T : List Nat} {a : Nat} : ∀ {s : PS}, AdvP T a s → AdvP T a (sWit T s).1
  | .inl _, _ => AdvP.no
  | .inr t, A => by
    show AdvP T a (if _ then _ else _ : PS × Nat).1
    split
    · exact (AdvP.nx (A t rfl).1 (A t rfl).2).num
    · exact A
theorem AdvP.sgn {T : List Nat} {a c : Nat} : ∀ {s : PS}, AdvP T a s → AdvP T a (sEnd T c s)
  | .inl _, _ => AdvP.no
  | .inr t, A => by
    show AdvP T a (if _ then _ else _)
    split
    · exact AdvP.nx (A t rfl).1 (A t rfl).2
    · exact AdvP.no
theorem adv_bar {T : List Nat} {t : Tk} (O : OkT T t) (h : t.1 ≠ 0) : AdvP T (t.2.1 + 1) (brS T (.inr t)) := by
  have a1 : AdvP T (t.2.1 + 1) (sMust T wBar (.inr t)) := by
    show AdvP T _ (if _ then _ else _)
    split
    · exact AdvP.nx' O h
    · exact AdvP.no
  have a2 : AdvP T (t.2.1 + 1) (b2 T (.inr t)).1 := a1.frm
  have a3 : AdvP T (t.2.1 + 1) (b3 T (.inr t)).1 := a2.ofT
  unfold brS
  split
  · have a5 : AdvP T (t.2.1 + 1) (b5 T (.inr t)).1 := a3.snx.frm
    have a6 : AdvP T (t.2.1 + 1) (b6 T (.inr t)).1 := a5.ofT
    have a7 : AdvP T (t.2.1 + 1) (b7 T (.inr t)).1 := AdvP.tie _ _ _ a6
    have a8 : AdvP T (t.2.1 + 1) (b8 T (.inr t)).1 := a7.wit
    exact a8.sgn
  · exact a3.sgn
theorem bars_ends {T : List Nat} {mx : Nat} : ∀ (n : Nat) (s : PS) (L : List Rec), 0 < n → (∀ t, s = .inr t → OkT T t ∧ T.length + 1 < t.2.1 + n) → ∃ r, bars T mx n s L = some r := by
  intro n
  induction n with
  | zero => intro s L h; omega
  | succ n ih =>
    intro s L _ H
    cases s with
    | inl e => exact ⟨_, rfl⟩
    | inr t =>
      obtain ⟨O, hf⟩ := H t rfl
      rw [bars]
      by_cases q : t.1 = 0
      · rw [if_pos q]; exact ⟨_, rfl⟩
      · rw [if_neg q]
        by_cases q2 : L.length = mx
        · rw [if_pos q2]; exact ⟨_, rfl⟩
        · rw [if_neg q2]
          have := O.le
          refine ih _ _ (by omega) (fun t' e => ?_)
          have A := adv_bar O q t' e
          exact ⟨A.1, by omega⟩
def SBx (base mx a k : Nat) : Prop := SPr a k ∨ 93 ≤ a ∧ a ≤ 99 ∧ base ≤ k ∧ k < base + mx
/-- what the reading of statements leaves -/
def BarsEnd (T : List Nat) (base mx : Nat) (r : Nat ⊕ List Rec) (h0 h : Hp) (v3 : Int32) : Prop := fr (SBx base mx) h0 h ∧ match r with
  | .inl e => PM T (.inl e) h
  | .inr L => (∃ t, PM T (.inr t) h) ∧ v3 = n32 L.length ∧ L.length ≤ mx ∧ ∀ k, k < L.length → RStm (L.getD k rec0) h (base + k) ∧ okStm (L.getD k rec0)
theorem getD_rec_lt {L : List Rec} {e : Rec} {j : Nat} (h : j < L.length) : (L ++ [e]).getD j rec0 = L.getD j rec0 := by
  rw [List.getD_eq_getElem?_getD, List.getElem?_append_left h, ← List.getD_eq_getElem?_getD]
theorem getD_rec_at {L : List Rec} {e : Rec} : (L ++ [e]).getD L.length rec0 = e := by
  rw [List.getD_eq_getElem?_getD, List.getElem?_append_right (Nat.le_refl _)]
  simp
theorem RStm.mvi {r : Rec} {h h' : Hp} {i : Nat} (R : RStm r h i) (f : ∀ a, 93 ≤ a → a ≤ 99 → hI h' a i = hI h a i) : RStm r h' i := by
  unfold RStm at R ⊢
  rw [f 93 (by decide) (by decide), f 94 (by decide) (by decide), f 95 (by decide) (by decide), f 96 (by decide) (by decide), f 97 (by decide) (by decide), f 98 (by decide) (by decide), f 99 (by decide) (by decide)]
  exact R
set_option maxHeartbeats 4000000 in
set_option maxRecDepth 100000 in
theorem q_bars {T : List Nat} {base mx : Nat} {h0 : Hp} {k41 : Int32 → Hp → Prop} {Q : Int32 → Hp → Prop} {r : Nat ⊕ List Rec} (hb : base + mx ≤ 240) (K : ∀ h' v3, BarsEnd T base mx r h0 h' v3 → k41 v3 h') :
    ∀ (n : Nat) (s : PS) (L : List Rec) (v3 : Int32) (h : Hp), bars T mx n s L = some r → fr (SBx base mx) h0 h → PM T s h → (okP s → v3 = n32 L.length ∧ L.length ≤ mx ∧ ∀ k, k < L.length → RStm (L.getD k rec0) h (base + k) ∧ okStm (L.getD k rec0)) → ∀ m, n + 1 ≤ m → m_X12_readBars_2 m k41 Q (n32 base) (n32 mx) v3 h := by
  have bad : ∀ (e m : Nat) (v3 : Int32) (h : Hp), r = .inl e → 1 ≤ m → fr (SBx base mx) h0 h → PM T (.inl e) h → m_X12_readBars_2 m k41 Q (n32 base) (n32 mx) v3 h := by
    intro e m v3 h er hm f P
    obtain ⟨m, rfl⟩ : ∃ m', m = m' + 1 := ⟨m - 1, by omega⟩
    rw [m_X12_readBars_2]
    have kk : k41 v3 h := K h v3 ⟨f, by rw [er]; exact P⟩
    exact ⟨fun _ => kk, fun _ => ⟨fun _ => kk, fun z => absurd z P.bad⟩⟩
  intro n
  induction n with
  | zero => intro s L v3 h hr; rw [bars] at hr; exact absurd hr (by simp)
  | succ n ih =>
    intro s L v3 h hr f0 P o m hm
    cases s with
    | inl e =>
      rw [bars] at hr
      exact bad e m v3 h (by injection hr with hr; exact hr.symm) (by omega) f0 P
    | inr t =>
      obtain ⟨e3, hL, hR⟩ := o trivial
      obtain ⟨m, rfl⟩ : ∃ m', m = m' + 1 := ⟨m - 1, by omega⟩
      have hk := P.2.2.2.2.kind
      rw [bars] at hr
      rw [m_X12_readBars_2, P.2.2.2.1.2.2.1, show (0 : Int32) = n32 0 from rfl, n32_eq (by omega) (by decide)]
      refine ⟨fun z => ?_, fun z => ⟨fun y => absurd P.2.1 y, fun _ => ?_⟩⟩
      · rw [if_pos z] at hr
        have er : r = .inr L := by injection hr with hr; exact hr.symm
        exact K h v3 ⟨f0, by rw [er]; exact ⟨⟨t, P⟩, e3, hL, hR⟩⟩
      · rw [if_neg z] at hr
        unfold m_X12_readBars_35
        rw [e3, n32_eq (by omega) (by omega), n32_add]
        refine ⟨fun q => ?_, fun q => ?_⟩
        · rw [if_neg q] at hr
          refine q_readBar (s := .inr t) (by omega) P (fun h' f' P' o' => ?_)
          intro x1 e1
          have fA : fr (SBx base mx) h0 h' := f0.trans (f'.mono (by unfold SBs SBx SPr; omega))
          refine ih (brS T (.inr t)) (L ++ [brR T (.inr t)]) x1 h' hr fA P' (fun ok => ⟨?_, ?_, fun j hj => ?_⟩) m (by omega)
          · rw [e1, List.length_append]; exact n32_add _ 1
          · rw [List.length_append, List.length_singleton]; omega
          · rw [List.length_append, List.length_singleton] at hj
            by_cases qj : j = L.length
            · subst qj
              rw [getD_rec_at]
              exact ⟨o' ok, brR_ok T _⟩
            · rw [getD_rec_lt (by omega)]
              obtain ⟨R1, R2⟩ := hR j (by omega)
              exact ⟨R1.mvi (fun a a1 a2 => f'.I (by unfold SBs SPr; omega)), R2⟩
        · rw [if_pos q] at hr
          refine q_errs P (fun h' f' P' => ?_)
          intro x1 e1
          exact bad t.2.1 m x1 h' (by injection hr with hr; exact hr.symm) (by omega) (f0.trans (f'.mono (fun _ _ h => Or.inl h))) P'
