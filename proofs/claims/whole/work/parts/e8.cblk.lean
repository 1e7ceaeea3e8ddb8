/-! THE CLASS: a block is read -/
def RdJ (T : List Nat) (a b md n0 d m0 m1 : Nat) (E : List Ev) (t : Tk) (h : Hp) : Prop := GI b (run b E) md ∧ W9 b (run b E) ∧ (sK (run b E)).length = d ∧ RmI d m0 m1 n0 (shR b E).2.1 (sL (run b E)).length ∧ CM T (.inr t) h ∧ DlC a (run b E) h ∧ ShC n0 (shR b E) h
def WkB (a n0 : Nat) (h h' : Hp) : Prop := fr (SRd a n0) h h' ∧ ∃ fl, hI h' 5 2 = n32 fl ∧ n0 ≤ fl ∧ fl ≤ 512
def RAS (T : List Nat) (b a : Nat) (r : Nat ⊕ List Ev) (d : Nat) (RA : Int32 → Hp → (Int32 → Hp → Prop) → Prop) : Prop :=
  ∀ (n n0 m0 : Nat) (t : Tk) (E : List Ev) (h : Hp) (Q : Int32 → Hp → Prop), mac T b n 0 t E = some r → RdJ T a b 0 n0 d m0 0 E t h → CxC (ctx (sK (run b E))) h → (shR b E).2.1 = [] →
    (∀ h' e, r = .inl e → CM T (.inl e) h' → WkB a n0 h h' → Q 0 h') →
    (∀ h' n' t' E' m1, mac T b n' 1 t' E' = some r → t'.1 ≠ 44 → t.2.1 ≤ t'.2.1 → RdJ T a b 1 n0 d m0 m1 E' t' h' → CxC (ctx (sK (run b E))) h' → sK (run b E') = sK (run b E) → (shR b E').1 = (shR b E).1 → fr (SRd a n0) h h' → Q 1 h') → RA (n32 d) h Q
theorem SCm_SRd (a n0 : Nat) : ∀ q k, SCm q k → SRd a n0 q k := fun _ _ y => Or.inl y
theorem ShC.mvS {n0 : Nat} {z : Sh} {h h' : Hp} (C : ShC n0 z h) (f : fr SCm h h') : ShC n0 z h' := C.mv f (by unfold SCm; omega)
/-- a text's state before a block: what is wanted of it once the block is there -/
def BlkP (T : List Nat) (b : Nat) (r : Nat ⊕ List Ev) (n0 d m0 : Nat) (E1 : List Ev) (t : Tk) : Prop :=
  (∀ e, sOpen T d (.inr t) = .inl e → r = .inl e) ∧ ∀ t1, sOpen T d (.inr t) = .inr t1 → d < 6 ∧ (∃ n, mac T b n 0 t1 E1 = some r) ∧ GI b (run b E1) 0 ∧ W9 b (run b E1) ∧ (sK (run b E1)).length = d + 1 ∧ RmI (d + 1) m0 0 n0 [] (sL (run b E1)).length
set_option maxHeartbeats 4000000 in
set_option maxRecDepth 100000 in
theorem c_readBlock {T : List Nat} {a b d n0 m0 : Nat} {r : Nat ⊕ List Ev} {RA : Int32 → Hp → (Int32 → Hp → Prop) → Prop} {E1 : List Ev} {t : Tk} {h : Hp} {Q : Int32 → Hp → Prop} (ha : 108 ≤ a) (H : d < 6 → RAS T b a r (d + 1) RA) (hd : d ≤ 6) (P : CM T (.inr t) h) (B : BlkP T b r n0 d m0 E1 t) (hz : (shR b E1).2.1 = []) (C : CxC (ctx (sK (run b E1))) h) (D : DlC a (run b E1) h) (Z : ShC n0 (shR b E1) h) (h512 : n0 ≤ 512)
    (kb : ∀ h' e, r = .inl e → CM T (.inl e) h' → WkB a n0 h h' → Q 0 h')
    (kg : ∀ h' n' t' E2 m1, mac T b n' 1 t' E2 = some r → t'.1 = 125 → t.2.1 ≤ (nxt T t').2.1 → RdJ T a b 1 n0 (d + 1) m0 m1 E2 (nxt T t') h' → sK (run b E2) = sK (run b E1) → (shR b E2).1 = (shR b E1).1 → fr (SRd a n0) h h' → CxC (ctx (sK (run b E1))) h' → Q 1 h') : m_X2_readBlock RA (n32 d) h Q := by
  unfold m_X2_readBlock
  obtain ⟨B1, B2⟩ := B
  have z2 : hI h 5 2 = n32 n0 := by have := Z.2.1; rw [hz] at this; exact this
  have wk : ∀ h', fr SCm h h' → WkB a n0 h h' := fun h' f => ⟨f.mono (SCm_SRd _ _), n0, by rw [f.I (by unfold SCm; omega)]; exact z2, Nat.le_refl _, h512⟩
  rw [show (6 : Int32) = n32 6 from rfl, n32_lt (by omega) (by omega)]
  refine ⟨fun d6 => ?_, fun d6 => ?_⟩
  · rw [show m_X10_takeSign 123 = m_X10_takeSign (n32 123) from rfl]
    refine c_takeSign (by decide) P (fun h2 f2 P2 => ?_)
    by_cases q : t.1 = 123
    · have eo : sOpen T d (.inr t) = .inr (nxt T t) := by unfold sOpen; dsimp only; rw [if_pos ⟨q, by omega⟩]
      have ee : sEnd T 123 (.inr t) = .inr (nxt T t) := by unfold sEnd; dsimp only; rw [if_pos q]
      rw [ee] at P2
      rw [decide_eq_true q]
      refine ⟨fun y => absurd y one0, fun _ => ?_⟩
      obtain ⟨-, ⟨n, hm⟩, b2, b3, b4, b5⟩ := B2 _ eo
      rw [show n32 d + 1 = n32 (d + 1) from n32_add _ 1]
      have nf := nxt_from P.2.2.2
      have ol := P.2.2.2.le
      refine H d6 n n0 m0 (nxt T t) E1 h2 _ hm ⟨b2, b3, b4, by rw [hz]; exact b5, P2, D.mv f2 (by unfold SCm; omega) ?_, Z.mvS f2⟩ (C.mv f2 (by unfold SCm; omega)) hz (fun h' e er P' w => ?_) (fun h4 n' t' E' m1 hm' n44 le R C4 sk sh f4 => ?_)
      · intro q k h1 h2 z
        unfold SCm at z
        omega
      · exact ⟨fun _ => kb h' e er P' ⟨(f2.mono (SCm_SRd _ _)).trans w.1, w.2⟩, fun y => absurd rfl y⟩
      · refine ⟨fun y => absurd y one0, fun _ => ?_⟩
        obtain ⟨g1, g2, g3, g4, g5, g6, g7⟩ := R
        rw [show m_X10_takeSign 125 = m_X10_takeSign (n32 125) from rfl]
        refine c_takeSign (by decide) g5 (fun h6 f6 P6 => ?_)
        by_cases q2 : t'.1 = 125
        · have ee2 : sEnd T 125 (.inr t') = .inr (nxt T t') := by unfold sEnd; dsimp only; rw [if_pos q2]
          rw [ee2] at P6
          rw [decide_eq_true q2]
          refine ⟨fun y => absurd y one0, fun _ => ?_⟩
          have nf' := nxt_from g5.2.2.2
          have ol' := g5.2.2.2.le
          refine kg h6 n' t' E' m1 hm' q2 (by omega) ⟨g1, g2, g3, g4, P6, g6.mv f6 (by unfold SCm; omega) ?_, g7.mvS f6⟩ sk sh (((f2.mono (SCm_SRd _ _)).trans f4).trans (f6.mono (SCm_SRd _ _))) (C4.mv f6 (by unfold SCm; omega))
          intro q k h1 h2 z
          unfold SCm at z
          omega
        · have ee2 : sEnd T 125 (.inr t') = .inl t'.2.1 := by unfold sEnd; dsimp only; rw [if_neg q2]
          rw [ee2] at P6
          rw [decide_eq_false q2]
          refine ⟨fun _ => kb h6 t'.2.1 ?_ P6 ⟨((f2.mono (SCm_SRd _ _)).trans f4).trans (f6.mono (SCm_SRd _ _)), n0 + (shR b E').2.1.length, by rw [f6.I (by unfold SCm; omega)]; exact g7.2.1, by omega, ?_⟩, fun y => absurd rfl y⟩
          · cases n' with
            | zero => rw [mac] at hm'; exact absurd hm' (by simp)
            | succ n' =>
              rw [mac, if_neg n44] at hm'
              cases hK : sK (run b E') with
              | nil => rw [hK] at g3; exact absurd g3 (by simp)
              | cons f l =>
                rw [hK] at hm'
                dsimp only at hm'
                rw [if_neg q2] at hm'
                injection hm' with hm'; exact hm'.symm
          · have := g4.room g1.1.2.2.2.1 (by omega); omega
    · have eo : sOpen T d (.inr t) = .inl t.2.1 := by unfold sOpen; dsimp only; rw [if_neg (fun y => q y.1)]
      have ee : sEnd T 123 (.inr t) = .inl t.2.1 := by unfold sEnd; dsimp only; rw [if_neg q]
      rw [ee] at P2
      rw [decide_eq_false q]
      exact ⟨fun _ => kb h2 _ (B1 _ eo) P2 (wk h2 f2), fun y => absurd rfl y⟩
  · have eo : sOpen T d (.inr t) = .inl t.2.1 := by unfold sOpen; dsimp only; rw [if_neg (by omega)]
    exact c_refuse P (fun h2 f2 P2 => ⟨Or.inl rfl, kb h2 _ (B1 _ eo) P2 (wk h2 f2)⟩)
