/-! A DEAL MADE PLAIN: what marks change, and what signs tell -/
def sameOn (X X' : Fg) (a e : Nat) : Prop := ∀ j, a ≤ j → j < e → X'.1 j = X.1 j ∧ X'.2.1 j = X.2.1 j ∧ X'.2.2 j = X.2.2 j
theorem sameOn.sub {X X' : Fg} {a e a' e' : Nat} (s : sameOn X X' a e) (h1 : a ≤ a') (h2 : e' ≤ e) : sameOn X X' a' e' := fun j h3 h4 => s j (by omega) (by omega)
theorem SA_same {nd : Nat → Nat → Nat} {hd : Nat → Nat} {X X' : Fg} : ∀ a e u q, Fo nd a e u q → sameOn X X' a e → SA nd hd X' a e = SA nd hd X a e := by
  refine Fo_ind (fun a u q _ => ?_) (fun a e u q g f1 f2 f3 f4 f5 f6 f7 f8 i1 i2 i3 s => ?_)
  · rw [SA_nil, SA_nil]
  · obtain ⟨g1, g2, g3, g4⟩ := id g
    obtain ⟨s1, s2, s3⟩ := s a (Nat.le_refl _) g1
    rw [SA_cons g, SA_cons g, s1, s2, i3 (s.sub (by omega) (Nat.le_refl _)), i1 (s.sub (by omega) (by omega)), i2 (s.sub (by omega) (by omega))]
    unfold vsC gt
    rw [i1 (s.sub (by omega) (by omega)), i2 (s.sub (by omega) (by omega)), s3]
theorem VP_same {nd : Nat → Nat → Nat} {X X' : Fg} : ∀ a e u q, Fo nd a e u q → sameOn X X' a e → VP nd X' a e = VP nd X a e := by
  refine Fo_ind (fun a u q _ => ?_) (fun a e u q g f1 f2 f3 f4 f5 f6 f7 f8 i1 i2 i3 s => ?_)
  · rw [VP_nil, VP_nil]
  · obtain ⟨g1, g2, g3, g4⟩ := id g
    obtain ⟨s1, s2, s3⟩ := s a (Nat.le_refl _) g1
    rw [VP_cons g, VP_cons g, s1, s2, i3 (s.sub (by omega) (Nat.le_refl _)), i1 (s.sub (by omega) (by omega)), i2 (s.sub (by omega) (by omega))]
theorem SA_no {nd : Nat → Nat → Nat} {hd : Nat → Nat} {X : Fg} : ∀ a e u q, Fo nd a e u q → (∀ j, a ≤ j → j < e → X.1 j = true) → SA nd hd X a e = [] := by
  refine Fo_ind (fun a u q _ => ?_) (fun a e u q g f1 f2 f3 f4 f5 f6 f7 f8 i1 i2 i3 s => ?_)
  · rw [SA_nil]
  · obtain ⟨g1, g2, g3, g4⟩ := id g
    rw [SA_cons g, s a (Nat.le_refl _) g1, i3 (fun j h1 h2 => s j (by omega) h2)]
    rfl
theorem vsC_ne (nd : Nat → Nat → Nat) (hd : Nat → Nat) (X : Fg) (a : Nat) : ∃ t, vsC nd hd X a = (if nd 58 a < 4 then 0 else nd 58 a) :: t := by
  unfold vsC
  split
  · exact ⟨_, rfl⟩
  · unfold grC; split <;> exact ⟨_, rfl⟩
theorem vsG_ne (nd : Nat → Nat → Nat) (X : Fg) (p a : Nat) : ∃ t, vsG nd X p a = (p + 1) :: t := by
  unfold vsG
  split <;> exact ⟨_, rfl⟩
theorem fm_nil {nd : Nat → Nat → Nat} {hd : Nat → Nat} {X : Fg} {l : List Nat} : l.flatMap (vsC nd hd X) = [] ↔ l = [] := by
  cases l with
  | nil => simp
  | cons x t =>
    obtain ⟨t', e⟩ := vsC_ne nd hd X x
    rw [List.flatMap_cons, e]; simp
/-- one node that is seen becomes through -/
theorem SA_one {nd : Nat → Nat → Nat} {hd : Nat → Nat} {X X' : Fg} {x : Nat} (h1 : ∀ j, X'.1 j = X.1 j) (h2 : ∀ j, X'.2.1 j = if j = x then true else X.2.1 j) (h3 : ∀ j, x < j → X'.2.2 j = X.2.2 j) :
    ∀ a e u q, Fo nd a e u q → (∀ j, a ≤ j → X'.2.2 j = X.2.2 j) → VP nd X a e = [x] → SA nd hd X' a e = SA nd hd X (x + 1) (md nd x) ++ SA nd hd X (md nd x) (nd 62 x) := by
  have off : ∀ a e u q, Fo nd a e u q → (∀ j, a ≤ j → X'.2.2 j = X.2.2 j) → (∀ j, a ≤ j → j < e → j ≠ x) → SA nd hd X' a e = SA nd hd X a e := by
    intro a e u q F d n
    refine SA_same a e u q F (fun j j1 j2 => ⟨h1 j, ?_, d j j1⟩)
    rw [h2, if_neg (n j j1 j2)]
  refine Fo_ind (fun a u q _ hx => ?_) (fun a e u q g f1 f2 f3 f4 f5 f6 f7 f8 i1 i2 i3 d hx => ?_)
  · rw [VP_nil] at hx; exact absurd hx (by simp)
  · obtain ⟨g1, g2, g3, g4⟩ := id g
    have e0 : ∀ {a e u q}, Fo nd a e u q → VP nd X a e = [] → SA nd hd X a e = [] := fun F z => by rw [SA_vp _ _ _ _ F, z]; rfl
    have inn : ∀ {a e u q}, Fo nd a e u q → VP nd X a e = [x] → a ≤ x ∧ x < e := by
      intro a e u q F z
      obtain ⟨y1, y2, -, -, e', u', q', y5, y6, y7⟩ := VP_in _ _ _ _ F x (by rw [z]; simp)
      have := Fo_le y6
      exact ⟨y1, by omega⟩
    rw [VP_cons g] at hx
    rw [SA_cons g, h1, h2]
    by_cases n1 : X.1 a = true
    · rw [if_pos n1] at hx ⊢
      exact i3 (fun j hj => d j (by omega)) hx
    · rw [if_neg n1] at hx ⊢
      by_cases n2 : X.2.1 a = true
      · rw [if_pos n2] at hx
        have e2 : (if a = x then true else X.2.1 a) = true := by split
                                                                 · rfl
                                                                 · exact n2
        rw [if_pos e2]
        rcases List.append_eq_singleton_iff.mp hx with ⟨z1, z2⟩ | ⟨z1, z2⟩
        · obtain ⟨y1, y2⟩ := List.append_eq_nil_iff.mp z1
          have w := inn f8 z2
          rw [off _ _ _ _ f6 (fun j hj => d j (by omega)) (fun j j1 j2 => by omega), off _ _ _ _ f7 (fun j hj => d j (by omega)) (fun j j1 j2 => by omega), e0 f6 y1, e0 f7 y2]
          exact i3 (fun j hj => d j (by omega)) z2
        · rcases List.append_eq_singleton_iff.mp z1 with ⟨y1, y2⟩ | ⟨y1, y2⟩
          · have w := inn f7 y2
            rw [off _ _ _ _ f6 (fun j hj => d j (by omega)) (fun j j1 j2 => by omega), off _ _ _ _ f8 (fun j hj => d j (by omega)) (fun j j1 j2 => by omega), e0 f6 y1, e0 f8 z2, i2 (fun j hj => d j (by omega)) y2]
            simp
          · have w := inn f6 y1
            rw [off _ _ _ _ f7 (fun j hj => d j (by omega)) (fun j j1 j2 => by omega), off _ _ _ _ f8 (fun j hj => d j (by omega)) (fun j j1 j2 => by omega), e0 f7 y2, e0 f8 z2, i1 (fun j hj => d j (by omega)) y1]
            simp
      · rw [if_neg n2] at hx
        have hx' : a = x ∧ VP nd X (nd 62 a) e = [] := by simpa using hx
        obtain ⟨rfl, z⟩ := hx'
        rw [if_pos (by simp), off _ _ _ _ f6 (fun j hj => d j (by omega)) (fun j j1 j2 => by omega), off _ _ _ _ f7 (fun j hj => d j (by omega)) (fun j j1 j2 => by omega), off _ _ _ _ f8 (fun j hj => d j (by omega)) (fun j j1 j2 => by omega), e0 f8 z]
        simp
theorem isJA_iff {nd : Nat → Nat → Nat} {hd : Nat → Nat} {X : Fg} {a e u q : Nat} (F : Fo nd a e u q) : isJA (SA nd hd X a e) = true ↔ ∃ x, VP nd X a e = [x] ∧ nd 58 x = 4 := by
  rw [SA_vp _ _ _ _ F]
  cases hv : VP nd X a e with
  | nil => simp [isJA]
  | cons x t =>
    rw [List.flatMap_cons]
    by_cases q4 : nd 58 x < 4
    · have e1 : vsC nd hd X x = lfC nd x := by unfold vsC; rw [if_pos q4]
      rw [e1]
      constructor
      · intro z; exact absurd z (by simp [isJA, lfC])
      · rintro ⟨y, z, w⟩
        injection z with z1 z2
        subst z1; omega
    · have e1 : vsC nd hd X x = grC (nd 58 x) (gt nd hd X x) (SA nd hd X (x + 1) (md nd x)) (SA nd hd X (md nd x) (nd 62 x)) := by unfold vsC; rw [if_neg q4]
      rw [e1]
      by_cases k4 : nd 58 x = 4
      · rw [k4, show grC 4 (gt nd hd X x) (SA nd hd X (x + 1) (md nd x)) (SA nd hd X (md nd x) (nd 62 x)) = 4 :: (gt nd hd X x + 8) :: ((SA nd hd X (x + 1) (md nd x)).length + 8) :: SA nd hd X (x + 1) (md nd x) from rfl]
        have : isJA (4 :: (gt nd hd X x + 8) :: ((SA nd hd X (x + 1) (md nd x)).length + 8) :: SA nd hd X (x + 1) (md nd x) ++ t.flatMap (vsC nd hd X)) = true ↔ t.flatMap (vsC nd hd X) = [] := by
          unfold isJA
          rw [← List.length_eq_zero_iff]
          simp
        rw [this, fm_nil]
        constructor
        · rintro rfl; exact ⟨x, rfl, k4⟩
        · rintro ⟨y, z, w⟩
          injection z with z1 z2
      · constructor
        · intro z
          exfalso
          unfold grC at z
          split at z <;> simp [isJA, k4] at z
        · rintro ⟨y, z, w⟩
          injection z with z1 z2
          subst z1; omega
/-- a root of trees, no choice seen in it -/
def okN (nd : Nat → Nat → Nat) (x : Nat) : Prop := ∃ e u q, x ≠ e ∧ Fo nd x e u q
theorem VP_ok {nd : Nat → Nat → Nat} {X : Fg} {a e u q : Nat} (F : Fo nd a e u q) : ∀ x ∈ VP nd X a e, okN nd x := by
  intro x hx
  obtain ⟨-, -, -, -, e', u', q', y5, y6, -⟩ := VP_in _ _ _ _ F x hx
  exact ⟨e', u', q', y5, y6⟩
theorem lf7 (nd : Nat → Nat → Nat) (a : Nat) : 7 ∉ lfC nd a := by
  unfold lfC
  simp
theorem gr7 {k t : Nat} {f s : List Nat} (h : 7 ∉ grC k t f s) : k ≠ 7 ∧ 7 ∉ f ∧ (6 ≤ k → 7 ∉ s) := by
  unfold grC at h
  split at h
  · simp only [List.mem_cons, not_or] at h
    exact ⟨fun z => h.1 z.symm, h.2.2.2, fun z => by omega⟩
  · simp only [List.mem_cons, List.mem_append, not_or] at h
    exact ⟨fun z => h.1 z.symm, h.2.2.2.1, fun _ => h.2.2.2.2.2⟩
/-- the same signs: the same cells -/
theorem SG_inj {nd : Nat → Nat → Nat} {hd : Nat → Nat} {X : Fg} : ∀ (n : Nat) (l l' : List Nat) (p : Nat) (R R' : List Nat), (∀ x ∈ l, okN nd x) → (∀ x ∈ l', okN nd x) → 7 ∉ l.flatMap (vsC nd hd X) → 7 ∉ l'.flatMap (vsC nd hd X) → (l.flatMap (vsG nd X p)).length ≤ n → (∀ t, R ≠ (p + 1) :: t) → (∀ t, R' ≠ (p + 1) :: t) → l.flatMap (vsG nd X p) ++ R = l'.flatMap (vsG nd X p) ++ R' → l.flatMap (vsC nd hd X) = l'.flatMap (vsC nd hd X) ∧ R = R' := by
  intro n
  induction n with
  | zero =>
    intro l l' p R R' o o' c c' hn hR hR' E
    cases l with
    | nil =>
      cases l' with
      | nil => exact ⟨rfl, E⟩
      | cons x t =>
        obtain ⟨t', e⟩ := vsG_ne nd X p x
        rw [List.flatMap_cons, e] at E
        exact absurd E (by simpa using hR _)
    | cons x t =>
      obtain ⟨t', e⟩ := vsG_ne nd X p x
      rw [List.flatMap_cons, e] at hn
      simp at hn
  | succ n ih =>
    intro l l' p R R' o o' c c' hn hR hR' E
    cases l with
    | nil =>
      cases l' with
      | nil => exact ⟨rfl, E⟩
      | cons x t =>
        obtain ⟨t', e⟩ := vsG_ne nd X p x
        rw [List.flatMap_cons, e] at E
        exact absurd E (by simpa using hR _)
    | cons x t =>
      cases l' with
      | nil =>
        obtain ⟨t', e⟩ := vsG_ne nd X p x
        rw [List.flatMap_cons, e] at E
        exact absurd E.symm (by simpa using hR' _)
      | cons x' t' =>
        rw [List.flatMap_cons, List.flatMap_cons, List.append_assoc, List.append_assoc] at E
        rw [List.flatMap_cons, List.mem_append, not_or] at c c'
        rw [List.flatMap_cons, List.length_append] at hn
        obtain ⟨e0, u0, q0, ne0, F0⟩ := o x (by simp)
        obtain ⟨e1, u1, q1, ne1, F1⟩ := o' x' (by simp)
        obtain ⟨g, -, -, f3, f4, f5, f6, f7, -⟩ := Fo_cons F0 ne0
        obtain ⟨g', -, -, f3', f4', f5', f6', f7', -⟩ := Fo_cons F1 ne1
        rw [List.flatMap_cons, List.flatMap_cons]
        by_cases k4 : nd 58 x < 4
        · by_cases k4' : nd 58 x' < 4
          · have v1 : vsG nd X p x = [p + 1, nd 58 x + 1, nd 59 x + 1, nd 64 x + 1, nd 65 x + 1, nd 66 x + 1, nd 67 x + 1, nd 68 x + 1, nd 69 x + 1, nd 70 x + 1] := by unfold vsG; rw [if_pos k4]
            have v2 : vsG nd X p x' = [p + 1, nd 58 x' + 1, nd 59 x' + 1, nd 64 x' + 1, nd 65 x' + 1, nd 66 x' + 1, nd 67 x' + 1, nd 68 x' + 1, nd 69 x' + 1, nd 70 x' + 1] := by unfold vsG; rw [if_pos k4']
            rw [v1, v2] at E
            simp only [List.cons_append, List.nil_append, List.cons.injEq, Nat.add_right_cancel_iff, true_and] at E
            obtain ⟨a1, a2, a3, a4, a5, a6, a7, a8, a9, E⟩ := E
            rw [v1] at hn
            obtain ⟨z1, z2⟩ := ih t t' p R R' (fun y hy => o y (by simp [hy])) (fun y hy => o' y (by simp [hy])) c.2 c'.2 (by simp only [List.length_cons, List.length_nil] at hn; omega) hR hR' E
            refine ⟨?_, z2⟩
            rw [z1]
            have w1 : vsC nd hd X x = lfC nd x := by unfold vsC; rw [if_pos k4]
            have w2 : vsC nd hd X x' = lfC nd x' := by unfold vsC; rw [if_pos k4']
            rw [w1, w2]
            unfold lfC
            rw [a1, a3, a4, a5, a6, a7, a8, a9]
          · exfalso
            unfold vsG at E
            rw [if_pos k4, if_neg k4'] at E
            simp only [List.cons_append, List.nil_append, List.cons.injEq, Nat.add_right_cancel_iff, true_and] at E
            omega
        · by_cases k4' : nd 58 x' < 4
          · exfalso
            unfold vsG at E
            rw [if_neg k4, if_pos k4'] at E
            simp only [List.cons_append, List.nil_append, List.cons.injEq, Nat.add_right_cancel_iff, true_and] at E
            omega
          · have v1 : vsG nd X p x = (p + 1) :: (nd 58 x + 1) :: ((if nd 58 x = 4 then X.2.2 x else nd 59 x) + 1) :: (SG nd X 0 (x + 1) (md nd x) ++ (SG nd X (if nd 58 x = 6 then 1 else 0) (md nd x) (nd 62 x) ++ [0])) := by unfold vsG; rw [if_neg k4]
            have v2 : vsG nd X p x' = (p + 1) :: (nd 58 x' + 1) :: ((if nd 58 x' = 4 then X.2.2 x' else nd 59 x') + 1) :: (SG nd X 0 (x' + 1) (md nd x') ++ (SG nd X (if nd 58 x' = 6 then 1 else 0) (md nd x') (nd 62 x') ++ [0])) := by unfold vsG; rw [if_neg k4']
            have w1 : vsC nd hd X x = grC (nd 58 x) (gt nd hd X x) (SA nd hd X (x + 1) (md nd x)) (SA nd hd X (md nd x) (nd 62 x)) := by unfold vsC; rw [if_neg k4]
            have w2 : vsC nd hd X x' = grC (nd 58 x') (gt nd hd X x') (SA nd hd X (x' + 1) (md nd x')) (SA nd hd X (md nd x') (nd 62 x')) := by unfold vsC; rw [if_neg k4']
            rw [v1] at hn
            rw [v1, v2] at E
            simp only [List.cons_append, List.nil_append, List.cons.injEq, Nat.add_right_cancel_iff, true_and, List.append_assoc] at E
            obtain ⟨a1, a2, E⟩ := E
            simp only [List.length_cons, List.length_append, List.length_nil] at hn
            rw [w1] at c
            rw [w2] at c'
            obtain ⟨c7, cf, cs⟩ := gr7 c.1
            obtain ⟨c7', cf', cs'⟩ := gr7 c'.1
            have sec : ∀ y, nd 58 y < 6 → nd 63 y = 0 → md nd y = nd 62 y := fun y _ z => by unfold md; rw [if_pos z]
            have hh : ∀ (y : Nat) (A : List Nat), nd 58 y < 8 → nd 58 y ≠ 7 → (nd 58 y < 6 → nd 63 y = 0) → Fo nd (md nd y) (nd 62 y) (y + 1) 1 → ∀ s, SG nd X (if nd 58 y = 6 then 1 else 0) (md nd y) (nd 62 y) ++ 0 :: A ≠ (0 + 1) :: s := by
              intro y A h8 h7 h6 Fy s
              by_cases y6 : nd 58 y = 6
              · rw [if_pos y6, SG_vp 1 _ _ _ _ Fy]
                cases VP nd X (md nd y) (nd 62 y) with
                | nil => simp
                | cons z l =>
                  obtain ⟨s', e⟩ := vsG_ne nd X 1 z
                  rw [List.flatMap_cons, e]; simp
              · rw [if_neg y6, sec y (by omega) (h6 (by omega)), SG_nil]; simp
            have hh1 := hh x (t.flatMap (vsG nd X p) ++ R) f3 c7 f5 f7
            have hh2 := hh x' (t'.flatMap (vsG nd X p) ++ R') f3' c7' f5' f7'
            rw [SG_vp 0 _ _ _ _ f6, SG_vp 0 _ _ _ _ f6'] at E
            rw [SG_vp 0 _ _ _ _ f6] at hn
            rw [SA_vp _ _ _ _ f6] at cf
            rw [SA_vp _ _ _ _ f6'] at cf'
            obtain ⟨z1, E⟩ := ih _ _ 0 _ _ (VP_ok f6) (VP_ok f6') cf cf' (by omega) hh1 hh2 E
            rw [← SA_vp _ _ _ _ f6, ← SA_vp _ _ _ _ f6'] at z1
            rw [a1] at E
            have cs2 : 7 ∉ (VP nd X (md nd x) (nd 62 x)).flatMap (vsC nd hd X) := by
              rw [← SA_vp _ _ _ _ f7]
              by_cases y6 : nd 58 x < 6
              · rw [sec x y6 (f5 y6), SA_nil]; simp
              · exact cs (by omega)
            have cs2' : 7 ∉ (VP nd X (md nd x') (nd 62 x')).flatMap (vsC nd hd X) := by
              rw [← SA_vp _ _ _ _ f7']
              by_cases y6 : nd 58 x' < 6
              · rw [sec x' y6 (f5' y6), SA_nil]; simp
              · exact cs' (by omega)
            rw [SG_vp _ _ _ _ _ f7, SG_vp _ _ _ _ _ f7'] at E
            rw [SG_vp _ _ _ _ _ f7, a1] at hn
            obtain ⟨z2, E⟩ := ih _ _ _ _ _ (VP_ok f7) (VP_ok f7') cs2 cs2' (by omega) (fun s => by simp) (fun s => by simp) E
            rw [← SA_vp _ _ _ _ f7, ← SA_vp _ _ _ _ f7'] at z2
            injection E with _ E
            obtain ⟨z3, z4⟩ := ih t t' p R R' (fun y hy => o y (by simp [hy])) (fun y hy => o' y (by simp [hy])) c.2 c'.2 (by omega) hR hR' E
            refine ⟨?_, z4⟩
            rw [z3, w1, w2, z1, z2, a1]
            congr 2
            unfold gt
            rw [a1] at a2 c7
            rw [a1]
            by_cases y4 : nd 58 x' = 4
            · rw [if_pos y4, if_pos y4] at a2 ⊢; exact a2
            · rw [if_neg y4, if_neg y4] at a2 ⊢
              rw [if_neg c7, if_neg c7]; exact a2
/-- the same cells: the same signs -/
theorem SA_inj {nd : Nat → Nat → Nat} {hd : Nat → Nat} {X : Fg} : ∀ (n : Nat) (l l' : List Nat) (p : Nat), (∀ x ∈ l, okN nd x) → (∀ x ∈ l', okN nd x) → 7 ∉ l.flatMap (vsC nd hd X) → (l.flatMap (vsC nd hd X)).length ≤ n → l.flatMap (vsC nd hd X) = l'.flatMap (vsC nd hd X) → l.flatMap (vsG nd X p) = l'.flatMap (vsG nd X p) := by
  intro n
  induction n with
  | zero =>
    intro l l' p o o' c hn E
    have h0 : l.flatMap (vsC nd hd X) = [] := List.length_eq_zero_iff.mp (by omega)
    rw [h0] at E
    rw [fm_nil.mp h0, fm_nil.mp E.symm]
  | succ n ih =>
    intro l l' p o o' c hn E
    cases l with
    | nil =>
      rw [List.flatMap_nil] at E
      rw [fm_nil.mp E.symm]
    | cons x t =>
      cases l' with
      | nil =>
        rw [List.flatMap_nil] at E
        exact absurd (fm_nil.mp E) (by simp)
      | cons x' t' =>
        rw [List.flatMap_cons, List.flatMap_cons] at E
        rw [List.flatMap_cons, List.mem_append, not_or] at c
        rw [List.flatMap_cons, List.length_append] at hn
        obtain ⟨e0, u0, q0, ne0, F0⟩ := o x (by simp)
        obtain ⟨e1, u1, q1, ne1, F1⟩ := o' x' (by simp)
        obtain ⟨g, -, -, f3, f4, f5, f6, f7, -⟩ := Fo_cons F0 ne0
        obtain ⟨g', -, -, f3', f4', f5', f6', f7', -⟩ := Fo_cons F1 ne1
        rw [List.flatMap_cons, List.flatMap_cons]
        by_cases k4 : nd 58 x < 4
        · have w1 : vsC nd hd X x = lfC nd x := by unfold vsC; rw [if_pos k4]
          by_cases k4' : nd 58 x' < 4
          · have w2 : vsC nd hd X x' = lfC nd x' := by unfold vsC; rw [if_pos k4']
            rw [w1, w2] at E
            rw [w1] at hn
            unfold lfC at E hn
            simp only [List.cons_append, List.nil_append, List.cons.injEq, Nat.add_right_cancel_iff, true_and] at E
            obtain ⟨a1, a3, a4, a5, a6, a7, a8, a9, E⟩ := E
            rw [ih t t' p (fun y hy => o y (by simp [hy])) (fun y hy => o' y (by simp [hy])) c.2 (by simp only [List.length_cons, List.length_nil] at hn; omega) E]
            unfold vsG
            rw [if_pos k4, if_pos k4', a1, (f4 k4).2, (f4' k4').2, a3, a4, a5, a6, a7, a8, a9]
          · exfalso
            obtain ⟨s, e⟩ := vsC_ne nd hd X x'
            rw [w1, e, if_neg k4'] at E
            unfold lfC at E
            simp only [List.cons_append, List.cons.injEq] at E
            omega
        · by_cases k4' : nd 58 x' < 4
          · exfalso
            obtain ⟨s, e⟩ := vsC_ne nd hd X x
            obtain ⟨s', e'⟩ := vsC_ne nd hd X x'
            rw [e', e, if_neg k4, if_pos k4'] at E
            simp only [List.cons_append, List.cons.injEq] at E
            omega
          · have w1 : vsC nd hd X x = grC (nd 58 x) (gt nd hd X x) (SA nd hd X (x + 1) (md nd x)) (SA nd hd X (md nd x) (nd 62 x)) := by unfold vsC; rw [if_neg k4]
            have w2 : vsC nd hd X x' = grC (nd 58 x') (gt nd hd X x') (SA nd hd X (x' + 1) (md nd x')) (SA nd hd X (md nd x') (nd 62 x')) := by unfold vsC; rw [if_neg k4']
            rw [w1] at c hn
            rw [w1, w2] at E
            obtain ⟨c7, cf, cs⟩ := gr7 c.1
            have sec : ∀ y, nd 58 y < 6 → nd 63 y = 0 → md nd y = nd 62 y := fun y _ z => by unfold md; rw [if_pos z]
            have kk : nd 58 x = nd 58 x' := by
              unfold grC at E
              split at E <;> split at E <;> (simp only [List.cons_append, List.cons.injEq] at E; exact E.1)
            have gg : gt nd hd X x = gt nd hd X x' → (if nd 58 x = 4 then X.2.2 x else nd 59 x) = (if nd 58 x' = 4 then X.2.2 x' else nd 59 x') := by
              intro z
              unfold gt at z
              rw [kk] at z c7 ⊢
              by_cases y4 : nd 58 x' = 4
              · rw [if_pos y4, if_pos y4] at z ⊢; exact z
              · rw [if_neg y4, if_neg y4] at z ⊢
                rw [if_neg c7, if_neg c7] at z; exact z
            by_cases k6 : nd 58 x < 6
            · have k6' : nd 58 x' < 6 := by omega
              unfold grC at E hn
              rw [if_pos k6, if_pos k6'] at E
              rw [if_pos k6] at hn
              simp only [List.cons_append, List.cons.injEq, Nat.add_right_cancel_iff] at E
              obtain ⟨-, a2, a3, E⟩ := E
              obtain ⟨b1, b2⟩ := List.append_inj E a3
              simp only [List.length_cons] at hn
              rw [ih t t' p (fun y hy => o y (by simp [hy])) (fun y hy => o' y (by simp [hy])) c.2 (by omega) b2]
              rw [SA_vp _ _ _ _ f6] at b1 cf hn
              rw [SA_vp _ _ _ _ f6'] at b1
              have j1 := ih _ _ 0 (VP_ok f6) (VP_ok f6') cf (by omega) b1
              rw [← SG_vp 0 _ _ _ _ f6, ← SG_vp 0 _ _ _ _ f6'] at j1
              unfold vsG
              rw [if_neg k4, if_neg k4', j1, gg a2, sec x k6 (f5 k6), sec x' k6' (f5' k6'), SG_nil, SG_nil, kk]
            · have k6' : ¬ nd 58 x' < 6 := by omega
              unfold grC at E hn
              rw [if_neg k6, if_neg k6'] at E
              rw [if_neg k6] at hn
              simp only [List.cons_append, List.cons.injEq, Nat.add_right_cancel_iff, List.append_assoc] at E
              obtain ⟨-, a2, a3, E⟩ := E
              obtain ⟨b1, b2⟩ := List.append_inj E a3
              simp only [List.cons.injEq, Nat.add_right_cancel_iff] at b2
              obtain ⟨a4, b2⟩ := b2
              obtain ⟨b3, b4⟩ := List.append_inj b2 a4
              simp only [List.length_cons, List.length_append] at hn
              rw [ih t t' p (fun y hy => o y (by simp [hy])) (fun y hy => o' y (by simp [hy])) c.2 (by omega) b4]
              have cs1 := cs (by omega)
              rw [SA_vp _ _ _ _ f6] at b1 cf hn
              rw [SA_vp _ _ _ _ f6'] at b1
              rw [SA_vp _ _ _ _ f7] at b3 cs1 hn
              rw [SA_vp _ _ _ _ f7'] at b3
              have j1 := ih _ _ 0 (VP_ok f6) (VP_ok f6') cf (by omega) b1
              have j2 := ih _ _ (if nd 58 x = 6 then 1 else 0) (VP_ok f7) (VP_ok f7') cs1 (by omega) b3
              rw [← SG_vp 0 _ _ _ _ f6, ← SG_vp 0 _ _ _ _ f6'] at j1
              rw [← SG_vp _ _ _ _ _ f7, ← SG_vp _ _ _ _ _ f7'] at j2
              unfold vsG
              rw [if_neg k4, if_neg k4', j1, gg a2, j2, kk]
