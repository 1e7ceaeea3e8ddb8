/-! THE CLASS: the search, what may lend, what is a loan -/
def bI (b : Bool) : Int32 := if b then 1 else 0
theorem bI_or (a b : Bool) : bI a ||| bI b = bI (a || b) := by cases a <;> cases b <;> decide
def evT (A : Nat → Int) (f t : Nat) : Bool := (List.range' t (6 - t)).all (fun u => decide (A (f * 6 + u) = 0))
def evB (A : Nat → Int) (f : Nat) : Bool := decide (A (f * 6) ≠ 0) && evT A f 1
def abvB (A : Nat → Int) (f : Nat) : Bool := evB A f && decide (0 < A (f * 6))
def blwB (A : Nat → Int) (f : Nat) : Bool := evB A f && decide (A (f * 6) < 0)
def Bnd (A : Nat → Int) : Prop := ∀ k, k < 48 → -3000000000000 ≤ A k ∧ A k ≤ 3000000000000
theorem evT_succ {A : Nat → Int} {f t : Nat} (h : t < 6) : evT A f t = (decide (A (f * 6 + t) = 0) && evT A f (t + 1)) := by
  unfold evT
  rw [show 6 - t = (6 - (t + 1)) + 1 by omega, List.range'_succ, List.all_cons]
theorem evT_end (A : Nat → Int) (f : Nat) : evT A f 6 = true := rfl
theorem c_ml47 {A : Nat → Int} {base f : Nat} {v1 v2 v3 v4 : Int32} {h : Hp} {Q : Int32 → Hp → Prop} {k87 : Int32 → Int32 → Int32 → Int32 → Int32 → Int32 → Hp → Prop} (S : SmA h 42 base A) (B : Bnd A) (hb : base + 48 ≤ 336) (hf : f < 8) :
    ∀ (r t : Nat) (e : Bool), r + t = 6 → k87 v1 v2 v3 v4 (n32 (base + f * 6)) (bI (e && evT A f t)) h → m_X7_mayLend_47 (r + 1) k87 Q v1 v2 v3 v4 (n32 (base + f * 6)) (bI e) (n32 t) h := by
  intro r
  induction r with
  | zero =>
    intro t e hr k
    rw [m_X7_mayLend_47, show (6 : Int32) = n32 6 from rfl, n32_le (by decide) (by omega)]
    rw [show t = 6 by omega, evT_end, Bool.and_true] at k
    exact ⟨fun _ => k, fun z => absurd (by omega) z⟩
  | succ r ih =>
    intro t e hr k
    rw [m_X7_mayLend_47, show (6 : Int32) = n32 6 from rfl, n32_le (by decide) (by omega)]
    refine ⟨fun z => absurd z (by omega), fun _ => ?_⟩
    cases e with
    | false =>
      rw [Bool.false_and] at k
      exact ⟨fun _ => k, fun z => absurd rfl z⟩
    | true =>
      have b := B (f * 6 + t) (by omega)
      have s := S (f * 6 + t) (by omega)
      rw [← Nat.add_assoc] at s
      rw [Bool.true_and, evT_succ (by omega)] at k
      rw [n32_add, n32_ix (by omega), s, show (0 : Int64) = z64 0 from rfl, show (0 : Int32) = n32 0 from rfl, lgc_eq (by omega) (by omega) (by decide) (by decide)]
      refine ⟨fun z => absurd z (by decide), fun _ => ⟨vpI (by omega) (by decide), fun z => ?_, fun z => ?_⟩⟩
      · unfold m_X7_mayLend_79
        intro x4 e4
        rw [e4, show n32 t + 1 = n32 (t + 1) from n32_add _ 1]
        refine ih (t + 1) false (by omega) ?_
        rw [decide_eq_false z, Bool.false_and] at k
        rw [Bool.false_and]; exact k
      · unfold m_X7_mayLend_79
        intro x4 e4
        rw [e4, show n32 t + 1 = n32 (t + 1) from n32_add _ 1]
        refine ih (t + 1) true (by omega) ?_
        rw [decide_eq_true z, Bool.true_and] at k
        rw [Bool.true_and]; exact k
theorem any_succ (f : Nat → Bool) (n : Nat) : (List.range (n + 1)).any f = ((List.range n).any f || f n) := by
  rw [List.range_succ, List.any_append]; simp
set_option maxHeartbeats 4000000 in
set_option maxRecDepth 100000 in
theorem c_mayLend {A : Nat → Int} {base : Nat} {h : Hp} {Q : Int32 → Hp → Prop} (S : SmA h 42 base A) (B : Bnd A) (hb : base + 48 ≤ 336) (k : Q (bI ((List.range 8).any (abvB A) && (List.range 8).any (blwB A))) h) : m_X7_mayLend (n32 base) h Q := by
  have main : ∀ (r f : Nat), r + f = 8 → m_X7_mayLend_7 (r + 1) (m_X7_mayLend_147 Q) Q (n32 base) (bI ((List.range f).any (abvB A))) (bI ((List.range f).any (blwB A))) (n32 f) h := by
    intro r
    induction r with
    | zero =>
      intro f hr
      rw [m_X7_mayLend_7, show (8 : Int32) = n32 8 from rfl, n32_le (by decide) (by omega)]
      refine ⟨fun _ => ?_, fun z => absurd (by omega) z⟩
      rw [show f = 8 by omega]
      unfold m_X7_mayLend_147
      generalize (List.range 8).any (abvB A) = a at k
      generalize (List.range 8).any (blwB A) = b at k
      cases a <;> cases b
      · exact ⟨fun _ => k, fun z => absurd rfl z⟩
      · exact ⟨fun _ => k, fun z => absurd rfl z⟩
      · exact ⟨fun z => absurd z (by decide), fun _ => ⟨fun _ => k, fun z => absurd rfl z⟩⟩
      · exact ⟨fun z => absurd z (by decide), fun _ => ⟨fun z => absurd z (by decide), fun _ => k⟩⟩
    | succ r ih =>
      intro f hr
      have hf : f < 8 := by omega
      have b := B (f * 6) (by omega)
      have s := S (f * 6) (by omega)
      have nx := ih (f + 1) (by omega)
      rw [any_succ, any_succ, ← bI_or, ← bI_or] at nx
      generalize bI ((List.range f).any (abvB A)) = v2 at nx
      generalize bI ((List.range f).any (blwB A)) = v3 at nx
      rw [m_X7_mayLend_7, show (8 : Int32) = n32 8 from rfl, n32_le (by decide) (by omega)]
      refine ⟨fun z => absurd z (by omega), fun _ x5 e5 => ?_⟩
      rw [show (6 : Int32) = n32 6 from rfl, n32_mul, n32_add] at e5
      subst e5
      have e0 : n32 (base + f * 6) + 0 = n32 (base + f * 6) := n32_add _ 0
      rw [e0, n32_ix (by omega), s, show (0 : Int64) = z64 0 from rfl, show (0 : Int32) = n32 0 from rfl, lgc_eq (by omega) (by omega) (by decide) (by decide)]
      -- behind the walk over things
      have aft : m_X7_mayLend_87 (fun (v1 : Int32) (v2 : Int32) (v3 : Int32) (v4 : Int32) hh => m_X7_mayLend_7 (r + 1) (m_X7_mayLend_147 Q) Q v1 v2 v3 v4 hh) (m_X7_mayLend_147 Q) Q (n32 base) v2 v3 (n32 f) (n32 (base + f * 6)) (bI (evB A f)) h := by
        have last : ∀ (w2 : Int32) (q : Bool), w2 = v2 ||| bI (abvB A f) → q = blwB A f → m_X7_mayLend_139 (fun (v1 : Int32) (v2 : Int32) (v3 : Int32) (v4 : Int32) hh => m_X7_mayLend_7 (r + 1) (m_X7_mayLend_147 Q) Q v1 v2 v3 v4 hh) (m_X7_mayLend_147 Q) Q (n32 base) w2 (n32 f) v3 (bI q) h := by
          intro w2 q e1 e2
          unfold m_X7_mayLend_139
          intro x1 y1 x2 y2
          rw [y1, y2, e1, e2, show n32 f + 1 = n32 (f + 1) from n32_add _ 1]
          exact nx
        have mid : ∀ q : Bool, q = abvB A f → m_X7_mayLend_112 (fun (v1 : Int32) (v2 : Int32) (v3 : Int32) (v4 : Int32) hh => m_X7_mayLend_7 (r + 1) (m_X7_mayLend_147 Q) Q v1 v2 v3 v4 hh) (m_X7_mayLend_147 Q) Q (n32 base) v3 (n32 f) (n32 (base + f * 6)) (bI (evB A f)) v2 (bI q) h := by
          intro q e1
          unfold m_X7_mayLend_112 m_X7_mayLend_138
          intro x3 y3
          rw [e1] at y3
          rw [e0, n32_ix (by omega), s, show (0 : Int64) = z64 0 from rfl, show (0 : Int32) = n32 0 from rfl, lgc_ge (by omega) (by omega) (by decide) (by decide)]
          cases he : evB A f with
          | false => exact ⟨fun _ => last x3 false y3 (by unfold blwB; rw [he]; rfl), fun z => absurd rfl z⟩
          | true =>
            refine ⟨fun z => absurd z (by decide), fun _ => ⟨vpI (by omega) (by decide), fun z => last x3 false y3 (by unfold blwB; rw [he]; simp; omega), fun z => last x3 true y3 (by unfold blwB; rw [he]; simp; omega)⟩⟩
        unfold m_X7_mayLend_87 m_X7_mayLend_111
        rw [e0, n32_ix (by omega), s, show (0 : Int64) = z64 0 from rfl, show (0 : Int32) = n32 0 from rfl, lgc_le (by omega) (by omega) (by decide) (by decide)]
        cases he : evB A f with
        | false =>
          have m0 := mid false (by unfold abvB; rw [he]; rfl)
          rw [he] at m0
          exact ⟨fun _ => m0, fun z => absurd rfl z⟩
        | true =>
          refine ⟨fun z => absurd z (by decide), fun _ => ⟨vpI (by omega) (by decide), fun z => ?_, fun z => ?_⟩⟩
          · have m0 := mid false (by unfold abvB; rw [he]; simp; omega)
            rw [he] at m0; exact m0
          · have m0 := mid true (by unfold abvB; rw [he]; simp; omega)
            rw [he] at m0; exact m0
      unfold m_X7_mayLend_42
      refine ⟨vpI (by omega) (by decide), fun z => ⟨6, ?_⟩, fun z => ⟨6, ?_⟩⟩
      · refine c_ml47 S B hb hf 5 1 false rfl ?_
        have : evB A f = (false && evT A f 1) := by unfold evB; rw [z]; rfl
        rw [← this]; exact aft
      · refine c_ml47 S B hb hf 5 1 true rfl ?_
        have : evB A f = (true && evT A f 1) := by unfold evB; rw [decide_eq_true z]
        rw [← this]; exact aft
  exact ⟨9, main 8 0 rfl⟩
/-- what no code 0 leaves room for is no loan -/
theorem may_ln {x : Ab} {l : List Nat} (h : loanN (aF x) (aD x) l ≠ 0) : ((List.range 8).any (abvB (fun k => net (aF x) (bRows (aD x) l 0 0) (k / 6) (k % 6))) && (List.range 8).any (blwB (fun k => net (aF x) (bRows (aD x) l 0 0) (k / 6) (k % 6)))) = true := by
  unfold loanN at h
  split at h
  · cases hp : loanP (aF x) (aD x) l with
    | none => rw [hp] at h; exact absurd rfl h
    | some p =>
      unfold loanP at hp
      have p1 := List.find?_some hp
      have p2 := List.mem_range.mp (List.mem_of_find?_eq_some hp)
      rw [List.all_eq_true] at p1
      have c0 : 0 ∈ codesL (aD x) l := by
        unfold codesL
        rw [List.mem_filter, List.mem_range]
        exact ⟨Nat.mul_pos (by decide) (Nat.two_pow_pos _), by simp⟩
      have ln := p1 0 c0
      unfold bLend lendsB at ln
      simp only [Bool.and_eq_true, decide_eq_true_eq] at ln
      obtain ⟨⟨⟨⟨⟨-, q1⟩, q2⟩, q3⟩, q4⟩, -⟩ := ln
      have ev : ∀ f, clean (aF x) (bRows (aD x) l 0 0) f = true → evT (fun k => net (aF x) (bRows (aD x) l 0 0) (k / 6) (k % 6)) f 1 = true := by
        intro f hc
        unfold clean at hc
        unfold evT
        rw [List.all_eq_true] at hc ⊢
        intro u hu
        rw [List.mem_range'_1] at hu
        have := hc (u - 1) (List.mem_range.mpr (by omega))
        rw [beq_iff_eq, show u - 1 + 1 = u by omega] at this
        rw [decide_eq_true_eq]
        dsimp only
        rw [show (f * 6 + u) / 6 = f by omega, show (f * 6 + u) % 6 = u by omega]
        exact this
      rw [Bool.and_eq_true, List.any_eq_true, List.any_eq_true]
      refine ⟨⟨p / 8, List.mem_range.mpr (by omega), ?_⟩, ⟨p % 8, List.mem_range.mpr (by omega), ?_⟩⟩
      · unfold abvB evB
        rw [ev _ q1]
        simp only [show p / 8 * 6 / 6 = p / 8 by omega, show p / 8 * 6 % 6 = 0 by omega]
        simp [q3]; omega
      · unfold blwB evB
        rw [ev _ q2]
        simp only [show p % 8 * 6 / 6 = p % 8 by omega, show p % 8 * 6 % 6 = 0 by omega]
        simp [q4]; omega
  · exact absurd rfl h
def SIl (a k : Nat) : Prop := SLoan a k ∨ a = 35
theorem c_isLoan {x : Ab} {da : Nat → Nat} {s : Nat} {h : Hp} {Q : Int32 → Hp → Prop} (V : CVw x da h) (K : OkA x) (M : OkM x) (B : CBd x da 39 (subL (aO x) s) h) (W : CWgh x h) (Td : CTdy h) (hs : s < 2 ^ (aO x).length) (h10 : s < 1024)
    (k : ∀ h', fr SIl h h' → CWgh x h' → CTdy h' → Q (bI (lnO x s)) h') : m_X7_isLoan (n32 s) h Q := by
  have fin : ∀ h', fr SIl h h' → CWgh x h' → CTdy h' → hI h' 35 s = n32 (lnV x s) → m_X7_isLoan_35 Q (n32 s) h' := by
    intro h' f' W' T' e
    unfold m_X7_isLoan_35
    have := k h' f' W' T'
    rw [n32_ix (by omega), e, show (2 : Int32) = n32 2 from rfl]
    unfold lnV
    unfold lnO at this
    by_cases q : loanN (aF x) (aD x) (subL (aO x) s) = 0
    · rw [if_pos q]
      rw [q] at this
      exact ⟨vpI h10 (by decide), fun _ => this, fun z => absurd z (by decide)⟩
    · rw [if_neg q]
      have e2 : (loanN (aF x) (aD x) (subL (aO x) s) != 0) = true := by simp [q]
      rw [e2] at this
      exact ⟨vpI h10 (by decide), fun z => absurd rfl z, fun _ => this⟩
  unfold m_X7_isLoan
  rw [n32_ix (by omega)]
  refine ⟨vpI h10 (by decide), fun z => ?_, fun z => ?_⟩
  · rcases W s h10 with w | w
    · exact absurd w z
    · exact fin h (fr.rf _ _) W Td w.2
  · refine c_findLoan V K M B (by decide) Td (fun h1 f1 T1 => ?_)
    have l78 := loanN_le (aF x) (aD x) (subL (aO x) s)
    have go : ∀ v : Nat, v = lnV x s → m_X7_isLoan_34 Q (n32 s) (n32 s) (n32 v) h1 := by
      intro v ev
      unfold m_X7_isLoan_34
      rw [n32_ix (by omega)]
      refine ⟨vpI h10 (by decide), fin _ (fr_wI (f1.mono (fun a k z => Or.inl z)) _ (Or.inr rfl)) (fun t ht => ?_) (fun f hf => T1 f hf) (by rw [hI_wI, if_pos ⟨rfl, rfl⟩, ev])⟩
      rw [hI_wI]
      by_cases e : t = s
      · subst e
        rw [if_pos ⟨rfl, rfl⟩]
        exact Or.inr ⟨hs, by rw [ev]⟩
      · rw [if_neg (fun z => e z.2), f1.I (by unfold SLoan STe SWg; omega)]
        exact W t ht
    rw [show (-1 : Int32) = pm 0 from rfl, pm_inj (by omega) (by decide)]
    refine ⟨fun q => go 2 (by unfold lnV; rw [if_neg q]), fun q => go 1 (by unfold lnV; rw [if_pos q])⟩
