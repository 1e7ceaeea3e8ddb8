/-! THE CLASS: lends, loan, step, price -/
theorem C_lends {x : Ab} {da : Nat → Nat} {v1 v2 : Int32} {h : Hp} {Q : Int32 → Hp → Prop} (I : InvC x da h) (K : OkA x) (M : OkM x) (k : ∀ h', sameM h h' → InvC x da h' → Q (ansLends x v1 v2) h') : m_X11_lends v1 v2 h Q := by
  unfold m_X11_lends
  unfold ansLends at k
  have V := I.vw
  have B := I.2.2.2.2.2.2.1.bd
  refine c_pair (fun q => ?_) (fun l b hl hb hlb e1 e2 e3 e4 => ?_)
  · refine ⟨fun _ => ?_, fun z => absurd rfl z⟩
    have := k h (sameM.rf h) I
    cases g1 : argN v1 8 with
    | none => rw [g1] at this; exact this
    | some l => cases g2 : argN v2 8 with
      | none => rw [g1, g2] at this; exact this
      | some b => rw [g1, g2] at this; dsimp only at this; rw [if_pos (q l b g1 g2)] at this; exact this
  · rw [e3, e4] at k
    dsimp only at k
    rw [if_neg hlb] at k
    subst e1; subst e2
    refine ⟨fun z => absurd z (by decide), fun _ => c_isLooked V K B (fun lk => ⟨fun _ => ?_, fun z => absurd z (by decide)⟩) (fun lk => ⟨fun z => absurd rfl z, fun _ => ?_⟩)⟩
    · rw [if_pos lk] at k
      refine c_learn I K M lk (fun h1 m1 I1 T1 => ?_)
      rw [show (8 : Int32) = n32 8 from rfl, n32_mul, n32_add, Nat.mul_comm l 8, n32_ix (by omega), T1.2.1 l b hl hb]
      exact ⟨vpI (by omega) (by decide), k h1 m1 I1⟩
    · rw [if_neg lk] at k
      exact k h (sameM.rf h) I
theorem C_loan {x : Ab} {da : Nat → Nat} {h : Hp} {Q : Int32 → Hp → Prop} (I : InvC x da h) (K : OkA x) (M : OkM x) (k : ∀ h', sameM h h' → InvC x da h' → Q (ansLoan x) h') : m_X11_loan h Q := by
  unfold m_X11_loan
  unfold ansLoan loanN at k
  have V := I.vw
  have B := I.2.2.2.2.2.2.1.bd
  refine c_isLooked V K B (fun lk => ⟨fun _ => ?_, fun z => absurd z (by decide)⟩) (fun lk => ⟨fun z => absurd rfl z, fun _ => ?_⟩)
  · rw [if_pos lk] at k
    refine c_learn I K M lk (fun h1 m1 I1 T1 => ?_)
    rw [T1.1]
    exact k h1 m1 I1
  · rw [if_neg lk] at k
    exact k h (sameM.rf h) I
theorem dv10 : ∀ w : Fin 78, n32 w.val / 10 = n32 (w.val / 10) := by decide +kernel
theorem C_step {x : Ab} {da : Nat → Nat} {h : Hp} {Q : Int64 → Hp → Prop} (I : InvC x da h) (K : OkA x) (M : OkM x) (k : ∀ h', sameM h h' → InvC x da h' → Q (ansStep x) h') : m_X11_step h Q := by
  unfold m_X11_step
  unfold ansStep loanN at k
  have V := I.vw
  have B := I.2.2.2.2.2.2.1.bd
  refine c_isLooked V K B (fun lk => ⟨fun _ => ?_, fun z => absurd z (by decide)⟩) (fun lk => ⟨fun z => absurd rfl z, fun _ => ?_⟩)
  · rw [if_pos lk] at k
    refine c_learn I K M lk (fun h1 m1 I1 T1 => ?_)
    have kk := k h1 m1 I1
    rw [T1.1]
    have T4 := T1.2.2.2
    cases hp : loanP (aF x) (aD x) (aB x) with
    | none =>
      rw [hp] at kk
      exact ⟨fun z => absurd rfl z, fun _ => kk⟩
    | some p =>
      rw [hp] at kk T4
      have p64 : p < 64 := List.mem_range.mp (List.mem_of_find?_eq_some hp)
      have e : pm (loanV (some p)) = n32 (10 * (p / 8) + p % 8) := rfl
      have ev : loanV (some p) = 10 * (p / 8) + p % 8 + 1 := rfl
      rw [ev, if_neg (by omega)] at kk
      rw [e]
      refine ⟨fun _ => ?_, fun z => ?_⟩
      · have dv := dv10 ⟨10 * (p / 8) + p % 8, by omega⟩
        dsimp only at dv
        have q8 : (10 * (p / 8) + p % 8) / 10 = p / 8 := by omega
        rw [dv, q8, n32_ix (by omega)]
        refine ⟨vpI (by omega) (by decide), ?_⟩
        rw [T4 (p / 8) (by omega) (by simp) (by rw [ev]; omega)]
        rw [show (10 * (p / 8) + p % 8 + 1 - 1) / 10 = p / 8 by omega] at kk
        exact kk
      · rw [n32_m1 (by omega)] at z; exact z.elim
  · rw [if_neg lk] at k
    exact k h (sameM.rf h) I
theorem prS_zero {F : Nat → Nat} {D : List Dl} {bs : List Nat} {l b : Nat} {g : Bool} : ∀ {cs : List Nat} {s : Nat × Nat}, ((cs.foldl (prS F D bs l b g) s).1 = 0 ↔ s.1 = 0 ∧ (cs.filter (fun c => bLend F D bs c l b)).length = 0)
  | [], s => by simp
  | c :: cs, s => by
    rw [List.foldl_cons, prS_zero, List.filter_cons, prS_up]
    by_cases y : bLend F D bs c l b = true
    · have y' : lendsB F (bRows D bs c 0) l b = true := y
      have p := lends_pos y'
      rw [if_pos y, if_pos y', List.length_cons]
      constructor
      · rintro ⟨a1, a2⟩
        by_cases q : s.1 = 0 ∨ (if g then s.1 * (lnP F (bRows D bs c 0) l).2 < (lnP F (bRows D bs c 0) l).1 * s.2 else (lnP F (bRows D bs c 0) l).1 * s.2 < s.1 * (lnP F (bRows D bs c 0) l).2)
        · have e : upP g (lnP F (bRows D bs c 0) l) s = lnP F (bRows D bs c 0) l := if_pos q
          rw [e] at a1
          have : (net F (bRows D bs c 0) l 0).toNat = 0 := a1
          omega
        · have e : upP g (lnP F (bRows D bs c 0) l) s = s := if_neg q
          rw [e] at a1
          exact absurd (Or.inl a1) q
      · rintro ⟨-, a2⟩; omega
    · have y' : ¬ lendsB F (bRows D bs c 0) l b = true := y
      rw [if_neg y, if_neg y']
theorem C_price {x : Ab} {da : Nat → Nat} {v1 v2 v3 : Int32} {h : Hp} {Q : Int64 → Hp → Prop} (I : InvC x da h) (K : OkA x) (M : OkM x) (k : ∀ h', sameM h h' → InvC x da h' → Q (ansPrice x v1 v2 v3) h') : m_X11_price v1 v2 v3 h Q := by
  unfold m_X11_price
  unfold ansPrice at k
  have V := I.vw
  have B := I.2.2.2.2.2.2.1.bd
  refine c_pair (fun q => ?_) (fun l b hl hb hlb e1 e2 e3 e4 => ?_)
  · refine ⟨fun _ => ?_, fun z => absurd rfl z⟩
    have := k h (sameM.rf h) I
    cases g1 : argN v1 8 with
    | none => rw [g1] at this; exact this
    | some l => cases g2 : argN v2 8 with
      | none => rw [g1, g2] at this; exact this
      | some b => cases g3 : argN v3 4 with
        | none => rw [g1, g2, g3] at this; exact this
        | some w => rw [g1, g2, g3] at this; dsimp only at this; rw [if_pos (q l b g1 g2)] at this; exact this
  · rw [e3, e4] at k
    subst e1; subst e2
    refine ⟨fun z => absurd z (by decide), fun _ => ?_⟩
    rw [show (4 : Int32) = n32 4 from rfl]
    refine c_within (by omega) (fun e => ?_) (fun w hw hw2 e5 e6 => ?_)
    · rw [e] at k; exact ⟨fun _ => k h (sameM.rf h) I, fun z => absurd rfl z⟩
    · rw [e6] at k
      dsimp only at k
      rw [if_neg hlb] at k
      subst e5
      refine ⟨fun z => absurd z (by decide), fun _ => c_isLooked V K B (fun lk => ⟨fun _ => ?_, fun z => absurd z (by decide)⟩) (fun lk => ⟨fun z => absurd rfl z, fun _ => ?_⟩)⟩
      · rw [if_pos lk] at k
        refine c_learn I K M lk (fun h1 m1 I1 T1 x9 e9 => ?_)
        rw [show (8 : Int32) = n32 8 from rfl, n32_mul, n32_add, Nat.mul_comm l 8] at e9
        subst e9
        have kk := k h1 m1 I1
        have lb : lendN (aF x) (aD x) (aB x) l b ≤ (codesL (aD x) (aB x)).length := List.length_filter_le _ _
        have cl : (codesL (aD x) (aB x)).length < 2147483648 := by
          rw [codesL_SM K B.2.2.2]
          unfold SM
          refine Nat.lt_of_le_of_lt (List.length_filter_le _ _) ?_
          rw [List.length_range]
          exact Nat.lt_of_le_of_lt (pw_le (show 5 + bChs (aD x) (aB x) ≤ 13 by omega)) (by decide)
        have pz := prS_zero (F := aF x) (D := aD x) (bs := aB x) (l := l) (b := b) (g := decide (2 ≤ w)) (cs := codesL (aD x) (aB x)) (s := (0, 1))
        have pz' : (prA (aF x) (aD x) (aB x) l b (decide (2 ≤ w))).1 = 0 ↔ lendN (aF x) (aD x) (aB x) l b = 0 := ⟨fun y => (pz.mp y).2, fun y => pz.mpr ⟨rfl, y⟩⟩
        rw [n32_ix (by omega), T1.2.1 l b hl hb, show (0 : Int32) = n32 0 from rfl, n32_eq (by omega) (by decide)]
        refine ⟨vpI (by omega) (by decide), fun z => ?_, fun z => ?_⟩
        · rw [if_neg (fun y => z (pz'.mp y))] at kk
          have j := T1.2.2.1 l b hl hb z w hw
          rw [n32_mul, n32_add, Nat.mul_comm (8 * l + b) 4, n32_ix (by omega), j]
          exact ⟨vpI (by omega) (by decide), kk⟩
        · rw [if_pos (pz'.mpr z)] at kk
          exact kk
      · rw [if_neg lk] at k
        exact k h (sameM.rf h) I
