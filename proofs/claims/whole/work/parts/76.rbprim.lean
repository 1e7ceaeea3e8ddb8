/-! THE MODEL: what a statement's words are -/
def FRMS : List (List Nat) := [[112, 97, 115, 115], [103, 105, 102, 116], [115, 97, 108, 101], [104, 105, 114, 101], [97, 110, 121]]
def TIES : List (List Nat) := [[98, 97, 99, 107], [115, 97, 109, 101], [109, 111, 114, 101]]
theorem frm_knd (w : List Nat) : plA w FRMS 0 = if 1 ≤ plA w KNDS 0 ∧ plA w KNDS 0 ≤ 4 then plA w KNDS 0 else if w = wAny then 5 else 0 := by
  by_cases a0 : w = [112, 97, 115, 115]
  · subst a0; decide
  · by_cases a1 : w = [103, 105, 102, 116]
    · subst a1; decide
    · by_cases a2 : w = [115, 97, 108, 101]
      · subst a2; decide
      · by_cases a3 : w = [104, 105, 114, 101]
        · subst a3; decide
        · have eF : plA w FRMS 0 = if w = wAny then 5 else 0 := by
            unfold FRMS wAny
            simp only [plA]
            rw [if_neg a0, if_neg a1, if_neg a2, if_neg a3]
          have eK : plA w KNDS 0 = 0 ∨ 5 ≤ plA w KNDS 0 := by
            unfold KNDS
            simp only [plA]
            rw [if_neg a0, if_neg a1, if_neg a2, if_neg a3]
            repeat (first | omega | split)
          rw [eF, if_neg (show ¬ (1 ≤ plA w KNDS 0 ∧ plA w KNDS 0 ≤ 4) by omega)]
theorem q_kindAny {h : Hp} {Q : Int32 → Hp → Prop} (k : ∀ v, Q v h) : m_X12_kindHere h Q := by
  unfold m_X12_kindHere
  simp only [k, implies_true, and_self]
theorem q_isAny {c : Int64} {h : Hp} {Q : Int32 → Hp → Prop} (k : ∀ v, Q v h) : m_X12_is c h Q := by
  unfold m_X12_is
  simp only [k, implies_true, and_self]
def sFrm (T : List Nat) : PS → PS × Nat
  | .inl e => (.inl e, 0)
  | .inr t => if pl T t FRMS = 0 then (.inl t.2.1, 0) else (.inr (nxt T t), pl T t FRMS - 1)
theorem sFrm_ok {T : List Nat} : ∀ {s : PS}, okP (sFrm T s).1 → okP s
  | .inl _, h => h
  | .inr _, _ => trivial
theorem sFrm_lt {T : List Nat} : ∀ {s : PS}, (sFrm T s).2 < 5
  | .inl _ => by show 0 < 5; decide
  | .inr t => by
    have := pl_le T t FRMS
    have e : FRMS.length = 5 := rfl
    show (if _ then _ else _ : PS × Nat).2 < 5
    split
    · show 0 < 5; decide
    · show _ - 1 < 5; omega
set_option maxHeartbeats 4000000 in
set_option maxRecDepth 100000 in
theorem q_form {T : List Nat} {s : PS} {h : Hp} {Q : Int32 → Hp → Prop} (P : PM T s h) (k : ∀ h' v, fr SPr h h' → PM T (sFrm T s).1 h' → (okP (sFrm T s).1 → v = n32 (sFrm T s).2) → Q v h') : m_X12_formHere h Q := by
  unfold m_X12_formHere
  cases s with
  | inl e =>
    have fin : ∀ s0, m_X12_formHere_33 Q s0 h := fun s0 => ⟨fun z => absurd z P.bad, fun _ => k h 0 (fr.rf _ _) P (fun o => absurd o (fun z => z))⟩
    refine q_kindAny (fun v => ?_)
    unfold m_X12_within
    have i0 : ∀ b : Int32, (b = 0 → m_X12_is 1132 h (fun (x9 : Int32) (h10 : Hp) => (x9 = 0 → m_X12_formHere_33 Q (-1) h10) ∧ (¬ x9 = 0 → m_X12_formHere_33 Q 4 h10))) ∧ (¬ b = 0 → m_X12_formHere_33 Q v h) := fun b => ⟨fun _ => q_isAny (fun _ => ⟨fun _ => fin _, fun _ => fin _⟩), fun _ => fin _⟩
    exact ⟨fun _ => i0 _, fun _ => ⟨fun _ => i0 _, fun _ => i0 _⟩⟩
  | inr t =>
    have hl := pl_le T t KNDS
    have hl8 : KNDS.length = 8 := rfl
    have hf := pl_le T t FRMS
    have hf5 : FRMS.length = 5 := rfl
    unfold sFrm at k
    dsimp only at k
    have fin : m_X12_formHere_33 Q (pm (pl T t FRMS)) h := by
      unfold m_X12_formHere_33
      refine ⟨fun _ => ?_, fun z => absurd P.2.1 z⟩
      by_cases q : pl T t FRMS = 0
      · rw [if_pos q] at k
        rw [q]
        exact ⟨fun z => absurd z (by decide), fun _ => q_errs P (fun h' f' P' => k h' _ f' P' (fun o => absurd o (fun z => z)))⟩
      · rw [if_neg q] at k
        exact ⟨fun _ => q_nx P (fun h' f' P' => k h' _ f' P' (fun _ => pm_n32 (by omega))), fun z => absurd ((pm_ge0 (by omega)).mpr (by omega)) z⟩
    have ef : pl T t FRMS = if 1 ≤ pl T t KNDS ∧ pl T t KNDS ≤ 4 then pl T t KNDS else if isW T t wAny then 5 else 0 := by
      unfold pl isW
      by_cases q : t.1 = 1
      · rw [if_pos q, if_pos q, frm_knd, q]
        simp
      · rw [if_neg q, if_neg q, beq_eq_false_iff_ne.mpr q]
        rfl
    refine q_kindHere P.2.2.2.1 P.2.2.2.2 ?_
    rw [show (0 : Int32) = n32 0 from rfl, show (3 : Int32) = n32 3 from rfl]
    refine q_within (fun c => ⟨fun _ => ?_, fun z => absurd rfl z⟩) (fun c1 c2 => ⟨fun z => absurd z (by decide), fun _ => ?_⟩)
    · rw [pm_ltn (by omega) (by decide), n_ltpm (by decide) (by omega)] at c
      rw [if_neg (by omega)] at ef
      rw [show (1132 : Int64) = z64 (w27 wAny : Nat) from by decide]
      refine q_is wAny P.2.2.2.1 P.2.2.2.2 (by decide) (by decide) (fun q => ⟨fun _ => ?_, fun z => absurd rfl z⟩) (fun q => ⟨fun z => absurd z (by decide), fun _ => ?_⟩)
      · rw [q, if_neg (by decide)] at ef
        rw [ef] at fin; exact fin
      · rw [q, if_pos rfl] at ef
        rw [ef] at fin; exact fin
    · rw [pm_ltn (by omega) (by decide)] at c1
      rw [n_ltpm (by decide) (by omega)] at c2
      rw [if_pos (by omega)] at ef
      rw [ef] at fin; exact fin
def sOfT (T : List Nat) : PS → PS × Nat
  | .inl e => (.inl e, 0)
  | .inr t => if isW T t wOf then ((sThg T (.inr (nxt T t))).1, (sThg T (.inr (nxt T t))).2 + 1) else (.inr t, 0)
theorem sOfT_ok {T : List Nat} : ∀ {s : PS}, okP (sOfT T s).1 → okP s
  | .inl _, h => h
  | .inr _, _ => trivial
theorem sOfT_lt {T : List Nat} : ∀ {s : PS}, (sOfT T s).2 < 7
  | .inl _ => by show 0 < 7; decide
  | .inr t => by
    have := sThg_lt (T := T) (s := .inr (nxt T t))
    show (if _ then _ else _ : PS × Nat).2 < 7
    split
    · show _ + 1 < 7; omega
    · show 0 < 7; decide
theorem q_of {T : List Nat} {s : PS} {h : Hp} {Q : Int32 → Hp → Prop} (P : PM T s h) (k : ∀ h' v, fr SPr h h' → PM T (sOfT T s).1 h' → (okP (sOfT T s).1 → v = pm (sOfT T s).2) → Q v h') : m_X12_ofHere h Q := by
  unfold m_X12_ofHere
  cases s with
  | inl e => exact ⟨fun _ => k h _ (fr.rf _ _) P (fun o => absurd o (fun z => z)), fun z => absurd z P.bad⟩
  | inr t =>
    unfold sOfT at k
    dsimp only at k
    refine ⟨fun z => absurd P.2.1 z, fun _ => ?_⟩
    rw [show (411 : Int64) = z64 (w27 wOf : Nat) from by decide]
    refine q_is wOf P.2.2.2.1 P.2.2.2.2 (by decide) (by decide) (fun q => ?_) (fun q => ?_)
    · rw [q, if_neg (by decide)] at k
      exact ⟨fun z => absurd rfl z, fun _ => k h _ (fr.rf _ _) P (fun _ => rfl)⟩
    · rw [q, if_pos rfl] at k
      refine ⟨fun _ => q_nx P (fun h1 f1 P1 => q_thing P1 (fun h2 v f2 P2 o2 => k h2 v (f1.trans f2) P2 (fun o => o2 o))), fun z => absurd z (by decide)⟩
def sAsk (T : List Nat) : PS → Nat
  | .inl _ => 0
  | .inr t => pl T t TIES
theorem sAsk_le (T : List Nat) : ∀ s : PS, sAsk T s ≤ 3
  | .inl _ => Nat.zero_le _
  | .inr t => pl_le T t TIES
set_option maxHeartbeats 4000000 in
set_option maxRecDepth 100000 in
theorem q_asked {T : List Nat} {s : PS} {h : Hp} {Q : Int32 → Hp → Prop} (P : PM T s h) (k : Q (pm (sAsk T s)) h) : m_X12_askedHere h Q := by
  unfold m_X12_askedHere
  cases s with
  | inl e => exact ⟨fun z => absurd z P.bad, fun _ => k⟩
  | inr t =>
    refine ⟨fun _ => ?_, fun z => absurd P.2.1 z⟩
    have ea : sAsk T (.inr t) = if isW T t wBack then 1 else if isW T t wSame then 2 else if isW T t wMore then 3 else 0 := by
      show pl T t TIES = _
      unfold pl isW wBack wSame wMore TIES
      by_cases q : t.1 = 1
      · rw [if_pos q, q]
        simp [plA]
      · rw [if_neg q, beq_eq_false_iff_ne.mpr q]
        rfl
    rw [ea] at k
    rw [show (40187 : Int64) = z64 (w27 wBack : Nat) from by decide, show (375062 : Int64) = z64 (w27 wSame : Nat) from by decide, show (267305 : Int64) = z64 (w27 wMore : Nat) from by decide]
    refine q_is wBack P.2.2.2.1 P.2.2.2.2 (by decide) (by decide) (fun q1 => ⟨fun _ => ?_, fun z => absurd rfl z⟩) (fun q1 => ⟨fun z => absurd z (by decide), fun _ => by rw [q1, if_pos rfl] at k; exact k⟩)
    rw [q1, if_neg (by decide)] at k
    refine q_is wSame P.2.2.2.1 P.2.2.2.2 (by decide) (by decide) (fun q2 => ⟨fun _ => ?_, fun z => absurd rfl z⟩) (fun q2 => ⟨fun z => absurd z (by decide), fun _ => by rw [q2, if_pos rfl] at k; exact k⟩)
    rw [q2, if_neg (by decide)] at k
    refine q_is wMore P.2.2.2.1 P.2.2.2.2 (by decide) (by decide) (fun q3 => ⟨fun _ => by rw [q3, if_neg (by decide)] at k; exact k, fun z => absurd rfl z⟩) (fun q3 => ⟨fun z => absurd z (by decide), fun _ => by rw [q3, if_pos rfl] at k; exact k⟩)
def sEnd (T : List Nat) (c : Nat) : PS → PS
  | .inl e => .inl e
  | .inr t => if t.1 = c then .inr (nxt T t) else .inl t.2.1
theorem q_bar166 {T : List Nat} {s : PS} {h : Hp} {Q : Hp → Prop} (P : PM T s h) (k : ∀ h', fr SPr h h' → PM T (sEnd T 59 s) h' → Q h') : m_X12_readBar_166 Q h := by
  unfold m_X12_readBar_166
  cases s with
  | inl e => exact ⟨fun z => absurd z P.bad, fun _ => k h (fr.rf _ _) P⟩
  | inr t =>
    have hk := P.2.2.2.2.kind
    unfold sEnd at k
    dsimp only at k
    refine ⟨fun _ => ?_, fun z => absurd P.2.1 z⟩
    rw [P.2.2.2.1.2.2.1, show (59 : Int32) = n32 59 from rfl, n32_eq (by omega) (by decide)]
    refine ⟨fun z => ?_, fun z => ?_⟩
    · rw [if_neg z] at k; exact q_errs P k
    · rw [if_pos z] at k; exact q_nx P k
