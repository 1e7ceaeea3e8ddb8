/-! THE CLASS: stop: which words spare all that is honest -/
def hbB (x : Ab) (w : Nat) : Bool := (List.range (aH x).length).any (fun i => bars1 (aF x) (wordS x w) (lvs (aD x) (honS x i)))
def uW (x : Ab) (n : Nat) : Nat := (List.range n).foldl (fun b w => if hbB x w then b else b ||| 2 ^ w) 0
theorem uW_succ (x : Ab) (n : Nat) : uW x (n + 1) = if hbB x n then uW x n else uW x n ||| 2 ^ n := by simp [uW, List.range_succ]
theorem uW_bit (x : Ab) : ∀ n i, (uW x n).testBit i = (decide (i < n) && !hbB x i)
  | 0, i => by simp [uW]
  | n + 1, i => by
    rw [uW_succ]
    have := uW_bit x n i
    by_cases q : hbB x n = true
    · rw [if_pos q, this]
      by_cases e : i = n
      · subst e; simp [q]
      · simp only [show (i < n + 1) = (i < n) from propext (by omega)]
    · rw [if_neg q, tb_or, this]
      by_cases e : i = n
      · subst e; simp [q]
      · simp only [show (i < n + 1) = (i < n) from propext (by omega), decide_eq_false (show ¬ n = i by omega), Bool.or_false]
theorem uW_lt (x : Ab) : ∀ n, uW x n < 2 ^ n
  | 0 => by simp [uW]
  | n + 1 => by
    rw [uW_succ]
    have h1 := uW_lt x n
    have h2 : (2 : Nat) ^ n < 2 ^ (n + 1) := Nat.pow_lt_pow_right (by decide) (by omega)
    split
    · omega
    · exact Nat.or_lt_two_pow (by omega) h2
theorem hBits_bit (x : Ab) : ∀ n w, (hBits x n).testBit w = (decide (w < (aW x).length) && (List.range n).any (fun i => bars1 (aF x) (wordS x w) (lvs (aD x) (honS x i))))
  | 0, w => by simp [hBits]
  | n + 1, w => by
    rw [hBits_succ, Nat.testBit_or, hBits_bit x n w, wBits_bit, any_succ]
    cases decide (w < (aW x).length) <;> simp
theorem not_bad {x : Ab} {n : Nat} (hn : n < 2 ^ (aW x).length) : n &&& hBits x (aH x).length = 0 ↔ ∀ j, n.testBit j = true → (uW x (aW x).length).testBit j = true := by
  have lt : ∀ j, n.testBit j = true → j < (aW x).length := fun j b => by
    rcases Nat.lt_or_ge j (aW x).length with q | q
    · exact q
    · rw [Nat.testBit_lt_two_pow (Nat.lt_of_lt_of_le hn (pw_le q))] at b; cases b
  constructor
  · intro h j b
    have e := congrArg (fun w => Nat.testBit w j) h
    simp only [Nat.testBit_and, Nat.zero_testBit, b, Bool.true_and] at e
    rw [hBits_bit, decide_eq_true (lt j b), Bool.true_and] at e
    rw [uW_bit, decide_eq_true (lt j b), Bool.true_and]
    unfold hbB
    rw [e]; rfl
  · intro h
    apply Nat.eq_of_testBit_eq
    intro j
    rw [Nat.testBit_and, Nat.zero_testBit]
    cases b : n.testBit j with
    | false => rfl
    | true =>
      have := h j b
      rw [uW_bit, decide_eq_true (lt j b), Bool.true_and] at this
      rw [hBits_bit, decide_eq_true (lt j b), Bool.true_and, Bool.true_and]
      unfold hbB at this
      simpa using this
theorem CHn.bd {x : Ab} {da : Nat → Nat} {h : Hp} (C : CHn x da h) {i : Nat} (hi : i < (aH x).length) : ∃ b, hR h 13 i = some b ∧ 108 ≤ b ∧ CBd x da b (honS x i) h := by
  obtain ⟨b, q1, q2, q3, q4, q5, q6, -⟩ := C.2.2 i hi
  exact ⟨b, q1, q2.1, q3, q4, q5, q6⟩
theorem c_spares {x : Ab} {da : Nat → Nat} {w a : Nat} {h : Hp} {Q : Int32 → Hp → Prop} (I : InvC x da h) (K : OkA x) (T : TxS x) (hw : w < (aW x).length) (ha : 108 ≤ a) (C : CRul (wordS x w) h a) (k : ∀ h', fr SJg h h' → Q (bI (!hbB x w)) h') : m_X11_sparesHonest a h Q := by
  have h6 := I.2.2.2.2.2.2.2.2.1.2.1
  have main : ∀ (r i : Nat) (h1 : Hp), r + i = (aH x).length → fr SJg h h1 → (∀ t, t < i → bars1 (aF x) (wordS x w) (lvs (aD x) (honS x t)) = false) → m_X11_sparesHonest_2 (r + 1) Q a (n32 i) h1 := by
    intro r
    induction r with
    | zero =>
      intro i h1 hr f1 hz
      have I1 := I.own (f1.mono SJg_Own)
      rw [m_X11_sparesHonest_2, I1.2.2.2.2.2.2.2.2.1.1, n32_le (by omega) (by omega)]
      refine ⟨fun _ => ?_, fun z => absurd (by omega) z⟩
      have e : hbB x w = false := by
        unfold hbB
        rw [List.any_eq_false]
        intro t ht
        rw [List.mem_range] at ht
        rw [hz t (by omega)]; decide
      have := k h1 f1
      rw [e] at this
      exact this
    | succ r ih =>
      intro i h1 hr f1 hz
      have I1 := I.own (f1.mono SJg_Own)
      have V1 := I1.vw
      obtain ⟨b, rb, hb, B⟩ := I1.2.2.2.2.2.2.2.2.1.bd (show i < (aH x).length by omega)
      rw [m_X11_sparesHonest_2, I1.2.2.2.2.2.2.2.2.1.1, n32_le (by omega) (by omega), n32_ix (by omega)]
      refine ⟨fun z => absurd z (by omega), fun _ => ⟨vpI (by omega) (by decide), b, rb, ?_⟩⟩
      refine c_hear V1 K B (by omega) (fun h2 f2 A2 => ?_)
      have V2 := V1.mv f2 (by unfold SJg; omega)
      have hbs : bars1 (aF x) (wordS x w) (lvs (aD x) (honS x i)) = (brc (aF x) (wordS x w) (lvs (aD x) (honS x i))).isSome := rfl
      refine c_first V2 A2 (C.fr (f1.trans f2) (by unfold SJg; omega)) (T.2 w hw) ha (fun z => ⟨fun _ x6 e6 => ?_, fun y => absurd rfl y⟩) (fun s p q h3 z hs f3 _ _ => ⟨fun y => ?_, fun _ => ?_⟩)
      · rw [e6, show n32 i + 1 = n32 (i + 1) from n32_add _ 1]
        refine ih (i + 1) h2 (by omega) (f1.trans f2) (fun t ht => ?_)
        by_cases e : t = i
        · rw [e, hbs, z]; rfl
        · exact hz t (by omega)
      · have := T.2 w hw
        rw [n32_m1 (by omega)] at y; exact y.elim
      · have e : hbB x w = true := by
          unfold hbB
          rw [List.any_eq_true]
          exact ⟨i, List.mem_range.mpr (by omega), by rw [hbs, z]; rfl⟩
        have := k h3 ((f1.trans f2).trans (f3.mono SHt_SJg))
        rw [e] at this
        exact this
  exact ⟨_, main (aH x).length 0 h (by omega) (fr.rf _ _) (fun t ht => absurd ht (by omega))⟩
theorem c_stop29 {x : Ab} {da : Nat → Nat} {v1 : Int32} {h0 : Hp} {Q : Int32 → Hp → Prop} {k62 : Int32 → Int32 → Hp → Prop} (I : InvC x da h0) (K : OkA x) (T : TxS x) (k : ∀ h', fr SJg h0 h' → k62 v1 (n32 (uW x (aW x).length)) h') :
    ∀ (r w : Nat) (h : Hp), r + w = (aW x).length → fr SJg h0 h → m_X11_stop_29 (r + 1) k62 Q v1 (n32 (uW x w)) (n32 w) h := by
  have l12 := I.2.2.2.2.2.1.2.2.2.1.1
  intro r
  induction r with
  | zero =>
    intro w h hr f
    have I1 := I.own (f.mono SJg_Own)
    rw [m_X11_stop_29, I1.2.2.2.2.2.1.2.2.1, n32_le (by omega) (by omega)]
    exact ⟨fun _ => by rw [show w = (aW x).length by omega]; exact k h f, fun z => absurd (by omega) z⟩
  | succ r ih =>
    intro w h hr f
    have I1 := I.own (f.mono SJg_Own)
    obtain ⟨a, ra, ha, C⟩ := I1.rules.2 w (by omega)
    have lt := uW_lt x w
    have p12 : 2 ^ w ≤ 2 ^ 12 := pw_le (by omega)
    rw [m_X11_stop_29, I1.2.2.2.2.2.1.2.2.1, n32_le (by omega) (by omega), n32_ix (by omega)]
    refine ⟨fun z => absurd z (by omega), fun _ => ⟨vpI (by omega) (by decide), a, ra, ?_⟩⟩
    refine c_spares I1 K T (by omega) ha C (fun h2 f2 => ?_)
    have nx := ih (w + 1) h2 (by omega) (f.trans f2)
    rw [uW_succ] at nx
    unfold m_X11_stop_56
    cases hq : hbB x w with
    | true =>
      rw [hq, if_pos rfl] at nx
      refine ⟨fun _ x3 e3 => ?_, fun z => absurd rfl z⟩
      rw [e3, show n32 w + 1 = n32 (w + 1) from n32_add _ 1]
      exact nx
    | false =>
      rw [hq, if_neg (by decide)] at nx
      refine ⟨fun z => absurd z (by decide), fun _ x7 e7 x3 e3 => ?_⟩
      rw [show (1 : Int32) = n32 1 from rfl, show (31 : Int32) = n32 31 from rfl, shl1 (by omega), n32_or (by omega) (by omega)] at e7
      rw [e3, e7, show n32 w + 1 = n32 (w + 1) from n32_add _ 1]
      exact nx
