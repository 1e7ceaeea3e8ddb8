/-! THE CLASS: sly -/
theorem lsB_iff (a b : Nat) : lsB a b = true ↔ pop a < pop b ∨ pop a = pop b ∧ a < b := by unfold lsB; simp
theorem bsC_comm {a b : Nat} (ha : a ≠ 0) (hb : b ≠ 0) (z : Nat) : bsC (bsC z a) b = bsC (bsC z b) a := by
  unfold bsC
  simp only [lsB_iff]
  by_cases z0 : z = 0
  · subst z0
    simp only [true_or, if_true, ha, hb, false_or]
    split <;> split <;> omega
  · simp only [z0, false_or]
    by_cases q1 : pop a < pop z ∨ pop a = pop z ∧ a < z
    · by_cases q2 : pop b < pop z ∨ pop b = pop z ∧ b < z
      · simp only [if_pos q1, if_pos q2, ha, hb, false_or]
        split <;> split <;> omega
      · simp only [if_pos q1, if_neg q2, ha, z0, false_or]
        split <;> omega
    · by_cases q2 : pop b < pop z ∨ pop b = pop z ∧ b < z
      · simp only [if_neg q1, if_pos q2, hb, z0, false_or]
        split <;> omega
      · simp only [if_neg q1, if_neg q2, z0, false_or]
theorem bst_bsC : ∀ (l : List Nat) (b : Nat), (b = 0 ∨ ∀ s ∈ l, b < s) → l.Pairwise (· < ·) → (∀ s ∈ l, s ≠ 0) → l.foldl bst b = l.foldl bsC b
  | [], _, _, _, _ => rfl
  | s :: l, b, hb, hp, hz => by
    rw [List.foldl_cons, List.foldl_cons]
    have h1 := List.pairwise_cons.mp hp
    have e : bst b s = bsC b s := by
      unfold bst bsC
      simp only [lsB_iff]
      by_cases b0 : b = 0
      · rw [if_pos (Or.inl b0), if_pos (Or.inl b0)]
      · have lt : b < s := by
          rcases hb with hb | hb
          · exact absurd hb b0
          · exact hb s (by simp)
        by_cases q : pop s < pop b
        · rw [if_pos (Or.inr q), if_pos (Or.inr (Or.inl q))]
        · rw [if_neg (by omega), if_neg (by omega)]
    rw [e]
    refine bst_bsC l _ ?_ h1.2 (fun t ht => hz t (by simp [ht]))
    unfold bsC
    split
    · exact Or.inr h1.1
    · rcases hb with hb | hb
      · exact Or.inl hb
      · exact Or.inr (fun t ht => hb t (by simp [ht]))
theorem sly_lt (x : Ab) (k : Nat) : (slyAll x k).Pairwise (· < ·) := by
  unfold slyAll slyL
  exact List.Pairwise.filter _ (List.pairwise_lt_range' (step := 1))
theorem RuO.of {x : Ab} {da : Nat → Nat} {h : Hp} {Q : Option Nat → Hp → Prop} (I : InvC x da h) (T : TxS x) (k : ∀ ro, RuO (lawS x) ro h → Q ro h) : m_X11_lawInForce h Q :=
  c_law I (fun e => k none (Or.inl ⟨rfl, by unfold lawS; rw [List.length_eq_zero_iff.mp e]; rfl⟩)) (fun a _ ha C => k (some a) (Or.inr ⟨a, rfl, ha, T.law, C⟩))
theorem c_six {v : Int32} {A B : Prop} (k0 : arg6 v = none → A) (k1 : ∀ a : Nat, 1 ≤ a → a ≤ 6 → v = n32 a → arg6 v = some a → B) : (v < 1 → A) ∧ (¬ v < 1 → (6 < v → A) ∧ (¬ 6 < v → B)) := by
  unfold arg6 at k0 k1
  rcases arg_cases v 7 with ⟨e, c⟩ | ⟨a, h1, h2, rfl, e⟩
  · rw [e] at k0
    refine ⟨fun _ => k0 rfl, fun y => ⟨fun _ => k0 rfl, fun z => ?_⟩⟩
    rcases c with c | ⟨a, g1, g2, rfl⟩
    · exact absurd (Int32.lt_trans c (by decide)) y
    · rw [show (6 : Int32) = n32 6 from rfl, n32_lt (by decide) g2] at z; omega
  · rw [e] at k0 k1
    rw [show (1 : Int32) = n32 1 from rfl, show (6 : Int32) = n32 6 from rfl, n32_lt (by omega) (by omega), n32_lt (by omega) (by omega)]
    refine ⟨fun z => k0 (by rw [show a = 0 by omega]; rfl), fun y => ⟨fun z => absurd z (by omega), fun z => k1 a (by omega) (by omega) rfl ?_⟩⟩
    cases a with
    | zero => omega
    | succ a => rfl
theorem C_sly {x : Ab} {da : Nat → Nat} {v1 v2 : Int32} {h : Hp} {Q : Int32 → Hp → Prop} (I : InvC x da h) (K : OkA x) (M : OkM x) (T : TxS x) (k : ∀ h', sameM h h' → InvC x da h' → Q (ansSly x v1 v2) h') : m_X11_sly v1 v2 h Q := by
  unfold m_X11_sly
  unfold ansSly at k
  refine c_six (fun e => ?_) (fun k0 h1 h6 e1 e2 => ?_)
  · rw [e] at k; exact k h (sameM.rf h) I
  · rw [e2] at k
    subst e1
    rw [show (2 : Int32) = n32 2 from rfl]
    refine c_within (by decide) (fun e => ?_) (fun w hw hw2 e3 e4 => ?_)
    · rw [e] at k; exact ⟨fun z => absurd rfl z, fun _ => k h (sameM.rf h) I⟩
    · rw [e4] at k
      subst e3
      dsimp only at k
      refine ⟨fun _ => ?_, fun z => absurd z (by decide)⟩
      refine RuO.of I T (fun ro R => ?_)
      refine c_look I K M h1 h6 R (fun h' r fl f' I' hr r6 S => ?_)
      have o10 := I'.2.2.2.2.2.2.2.1.2.1
      have kk := k h' (sameM.of f' SLk_M) I'
      have P : (fl.filter (fun s => decide (pop s ≤ k0))).Perm (slyAll x k0) := by
        have := S.2.2.2.filter (fun s => decide (pop s ≤ k0))
        rw [sly_cut x hr] at this
        exact this
      rw [show (0 : Int32) = n32 0 from rfl, n32_eq hw2 (by decide)]
      refine ⟨fun z => ?_, fun z => ?_⟩
      · rw [if_neg z] at kk
        refine c_fewest S o10 h6 ?_
        have nz : ∀ s ∈ slyAll x k0, s ≠ 0 := fun s hs => by have := sly_mem hs; omega
        rw [P.foldl_eq' (fun a ha b hb z => bsC_comm (nz a (P.mem_iff.mp ha)) (nz b (P.mem_iff.mp hb)) z), ← bst_bsC _ _ (Or.inl rfl) (sly_lt x k0) nz]
        exact kk
      · rw [if_pos z] at kk
        refine c_howMany S o10 h6 ?_
        rw [P.length_eq]
        exact kk
