/-! WORDS AND NUMERALS: the Model's small readers -/
def OkT (T : List Nat) (t : Tk) : Prop := ∃ p, p ≤ T.length ∧ t = tok T p
theorem OkT.le {T : List Nat} {t : Tk} (O : OkT T t) : t.2.1 ≤ t.2.2 ∧ t.2.2 ≤ T.length ∧ (t.1 ≠ 0 → t.2.1 < t.2.2) ∧ (t.1 = 0 ↔ t.2.1 = T.length) := by
  obtain ⟨p, hp, rfl⟩ := O
  exact (tok_from hp).2
theorem OkT.nxt {T : List Nat} {t : Tk} (O : OkT T t) : OkT T (nxt T t) := ⟨t.2.2, O.le.2.1, rfl⟩
theorem OkT.kind {T : List Nat} {t : Tk} (O : OkT T t) : t.1 ≤ 125 := by
  obtain ⟨p, hp, rfl⟩ := O
  unfold tok
  generalize skp isB T p = a
  unfold tokA
  split
  · split
    · show 1 ≤ 125; decide
    · split
      · show (if _ then 3 else 2) ≤ 125
        split <;> decide
      · split
        · rename_i q
          show T.getD a 0 ≤ 125
          unfold isS at q
          rw [Bool.or_eq_true, Bool.or_eq_true, Bool.or_eq_true, beq_iff_eq, beq_iff_eq, beq_iff_eq, beq_iff_eq] at q
          omega
        · show 3 ≤ 125; decide
  · show 0 ≤ 125; decide
theorem OkT.letters {T : List Nat} {t : Tk} (O : OkT T t) (h : t.1 = 1) : ∀ c ∈ tkW T t, 97 ≤ c ∧ c ≤ 122 := by
  obtain ⟨p, hp, rfl⟩ := O
  exact tok_letters h
theorem OkT.digits {T : List Nat} {t : Tk} (O : OkT T t) (h : t.1 = 2) : w10 (tkW T t) < 10000 := by
  obtain ⟨p, hp, rfl⟩ := O
  have h1 := skp_le (f := isB) hp
  unfold tkW
  unfold tok at h ⊢
  generalize skp isB T p = a at h h1
  unfold tokA at h ⊢
  by_cases ha : a < T.length
  · rw [if_pos ha] at h ⊢
    by_cases q : isL (T.getD a 0)
    · rw [if_pos q] at h; exact absurd h (by show ¬ 1 = 2; decide)
    · rw [if_neg q] at h ⊢
      by_cases q2 : isD (T.getD a 0)
      · rw [if_pos q2] at h ⊢
        have u1 := skp_ge isD T a
        have u2 := skp_le (f := isD) h1
        have h2 : skp isD T a - a ≤ 4 := by
          revert h
          show (if _ then 3 else 2) = 2 → _
          split
          · intro z; omega
          · intro _; omega
        have := w10_lt _ (slc T a (skp isD T a)) rfl (fun c hc => by have := slc_all (f := isD) c hc; unfold isD at this; rw [Bool.and_eq_true, decide_eq_true_eq, decide_eq_true_eq] at this; exact this.2)
        rw [slc_len u1 u2] at this
        have l2 : 10 ^ (skp isD T a - a) ≤ 10 ^ 4 := Nat.pow_le_pow_right (by decide) h2
        show w10 (slc T a (skp isD T a)) < 10000
        omega
      · rw [if_neg q2] at h
        by_cases q3 : isS (T.getD a 0)
        · rw [if_pos q3] at h
          have h' : T.getD a 0 = 2 := h
          rw [h'] at q3
          exact absurd q3 (by decide)
        · rw [if_neg q3] at h
          exact absurd h (by show ¬ 3 = 2; decide)
  · rw [if_neg ha] at h
    exact absurd h (by show ¬ 0 = 2; decide)
def isW (T : List Nat) (t : Tk) (w : List Nat) : Bool := t.1 == 1 && tkW T t == w
theorem wv_eq {w u : List Nat} (hw : ∀ c ∈ w, 97 ≤ c ∧ c ≤ 122) (hu : ∀ c ∈ u, 97 ≤ c ∧ c ≤ 122) (h6 : u.length ≤ 6) : lg_cmp (wv w) (z64 (w27 u : Nat)) = 0 ↔ w = u := by
  have b2 := w27_lt _ u rfl (fun c hc => (hu c hc).2)
  have c2 : 27 ^ u.length ≤ 27 ^ 6 := Nat.pow_le_pow_right (by decide) h6
  unfold wv
  by_cases q : w.length ≤ 6
  · have b1 := w27_lt _ w rfl (fun c hc => (hw c hc).2)
    have c1 : 27 ^ w.length ≤ 27 ^ 6 := Nat.pow_le_pow_right (by decide) q
    rw [if_pos q, show (0 : Int32) = n32 0 from rfl, lgc_eq (by omega) (by omega) (by omega) (by omega)]
    refine ⟨fun e => w27_inj _ w u rfl hw hu (by omega), fun e => by rw [e]⟩
  · rw [if_neg q, show (-1 : Int64) = z64 (-1) from rfl, show (0 : Int32) = n32 0 from rfl, lgc_eq (by omega) (by omega) (by omega) (by omega)]
    refine ⟨fun e => by omega, fun e => by rw [e] at q; omega⟩
theorem q_is {T : List Nat} {t : Tk} {h : Hp} {Q : Int32 → Hp → Prop} (w : List Nat) (M : TkM T t h) (O : OkT T t) (hu : ∀ c ∈ w, 97 ≤ c ∧ c ≤ 122) (h6 : w.length ≤ 6) (k1 : isW T t w = false → Q 0 h) (k2 : isW T t w = true → Q 1 h) : m_X12_is (z64 (w27 w : Nat)) h Q := by
  unfold m_X12_is
  have hk := O.kind
  rw [M.2.2.1, show (1 : Int32) = n32 1 from rfl, n32_eq (by omega) (by decide)]
  unfold isW at k1 k2
  refine ⟨fun z => k1 (by rw [beq_eq_false_iff_ne.mpr z]; rfl), fun z => ?_⟩
  rw [M.2.2.2.1 z, wv_eq (O.letters z) hu h6]
  refine ⟨fun y => k1 (by rw [beq_eq_false_iff_ne.mpr y]; simp), fun y => k2 (by rw [z, y]; simp)⟩
/-- which word of a row (0: none) -/
def plA (w : List Nat) : List (List Nat) → Nat → Nat
  | [], _ => 0
  | u :: l, i => if w = u then i + 1 else plA w l (i + 1)
def pl (T : List Nat) (t : Tk) (row : List (List Nat)) : Nat := if t.1 = 1 then plA (tkW T t) row 0 else 0
def HNDS : List (List Nat) := [[97], [98], [99], [100], [101], [102], [103], [104]]
def THGS : List (List Nat) := [[99, 111, 105, 110], [109, 117, 108, 101], [99, 108, 111, 116, 104], [104, 111, 117, 115, 101], [119, 111, 114, 107], [103, 114, 97, 105, 110]]
def EVTS : List (List Nat) := [[100, 105, 101, 115], [114, 97, 105, 110], [119, 97, 114], [100, 101, 97, 114], [102, 108, 111, 111, 100]]
def KNDS : List (List Nat) := [[112, 97, 115, 115], [103, 105, 102, 116], [115, 97, 108, 101], [104, 105, 114, 101], [97, 102, 116, 101, 114], [116, 105, 109, 101, 115], [105, 102], [99, 104, 111, 105, 99, 101]]
def wFor : List Nat := [102, 111, 114]
def wAt : List Nat := [97, 116]
def wPaid : List Nat := [112, 97, 105, 100]
def wBack : List Nat := [98, 97, 99, 107]
def wElse : List Nat := [101, 108, 115, 101]
def wOr : List Nat := [111, 114]
def wBar : List Nat := [98, 97, 114]
def wAny : List Nat := [97, 110, 121]
def wOf : List Nat := [111, 102]
def wSame : List Nat := [115, 97, 109, 101]
def wMore : List Nat := [109, 111, 114, 101]
def wWithin : List Nat := [119, 105, 116, 104, 105, 110]
def wThen : List Nat := [116, 104, 101, 110]
theorem plA_le (w : List Nat) : ∀ (l : List (List Nat)) (i : Nat), plA w l i ≤ i + l.length
  | [], i => Nat.zero_le _
  | u :: l, i => by
    rw [plA]
    have := plA_le w l (i + 1)
    split
    · simp
    · simp at this ⊢; omega
theorem pl_le (T : List Nat) (t : Tk) (row : List (List Nat)) : pl T t row ≤ row.length := by
  unfold pl
  split
  · have := plA_le (tkW T t) row 0; omega
  · exact Nat.zero_le _
set_option maxHeartbeats 4000000 in
set_option maxRecDepth 100000 in
theorem q_thingHere {T : List Nat} {t : Tk} {h : Hp} {Q : Int32 → Hp → Prop} (M : TkM T t h) (O : OkT T t) (k : Q (pm (pl T t THGS)) h) : m_X12_thingHere h Q := by
  unfold m_X12_thingHere
  have hk := O.kind
  rw [M.2.2.1, show (1 : Int32) = n32 1 from rfl, n32_eq (by omega) (by decide)]
  unfold pl at k
  refine ⟨fun z => ?_, fun z => by rw [if_neg z] at k; exact k⟩
  rw [if_pos z] at k
  unfold THGS at k
  have ww := fun u hu h6 => wv_eq (w := tkW T t) (u := u) (O.letters z) hu h6
  have w0 := ww [99, 111, 105, 110] (by decide) (by decide)
  have w1 := ww [109, 117, 108, 101] (by decide) (by decide)
  have w2 := ww [99, 108, 111, 116, 104] (by decide) (by decide)
  have w3 := ww [104, 111, 117, 115, 101] (by decide) (by decide)
  have w4 := ww [119, 111, 114, 107] (by decide) (by decide)
  have w5 := ww [103, 114, 97, 105, 110] (by decide) (by decide)
  rw [M.2.2.2.1 z, show (70241 : Int64) = z64 (w27 [99, 111, 105, 110] : Nat) from by decide, show (271517 : Int64) = z64 (w27 [109, 117, 108, 101] : Nat) from by decide, show (1842002 : Int64) = z64 (w27 [99, 108, 111, 116, 104] : Nat) from by decide, show (4562600 : Int64) = z64 (w27 [104, 111, 117, 115, 101] : Nat) from by decide, show (464141 : Int64) = z64 (w27 [119, 111, 114, 107] : Nat) from by decide, show (4075367 : Int64) = z64 (w27 [103, 114, 97, 105, 110] : Nat) from by decide, w0, w1, w2, w3, w4, w5]
  generalize tkW T t = w at k
  simp only [plA] at k
  refine ⟨fun a0 => ⟨fun a1 => ⟨fun a2 => ⟨fun a3 => ⟨fun a4 => ⟨fun a5 => ?_, fun a5 => ?_⟩, fun a4 => ?_⟩, fun a3 => ?_⟩, fun a2 => ?_⟩, fun a1 => ?_⟩, fun a0 => ?_⟩
  · rw [if_neg a0, if_neg a1, if_neg a2, if_neg a3, if_neg a4, if_neg a5] at k; exact k
  · rw [if_neg a0, if_neg a1, if_neg a2, if_neg a3, if_neg a4, if_pos a5] at k; exact k
  · rw [if_neg a0, if_neg a1, if_neg a2, if_neg a3, if_pos a4] at k; exact k
  · rw [if_neg a0, if_neg a1, if_neg a2, if_pos a3] at k; exact k
  · rw [if_neg a0, if_neg a1, if_pos a2] at k; exact k
  · rw [if_neg a0, if_pos a1] at k; exact k
  · rw [if_pos a0] at k; exact k
set_option maxHeartbeats 4000000 in
set_option maxRecDepth 100000 in
theorem q_eventHere {T : List Nat} {t : Tk} {h : Hp} {Q : Int32 → Hp → Prop} (M : TkM T t h) (O : OkT T t) (k : Q (pm (pl T t EVTS)) h) : m_X12_eventHere h Q := by
  unfold m_X12_eventHere
  have hk := O.kind
  rw [M.2.2.1, show (1 : Int32) = n32 1 from rfl, n32_eq (by omega) (by decide)]
  unfold pl at k
  refine ⟨fun z => ?_, fun z => by rw [if_neg z] at k; exact k⟩
  rw [if_pos z] at k
  unfold EVTS at k
  have ww := fun u hu h6 => wv_eq (w := tkW T t) (u := u) (O.letters z) hu h6
  have w0 := ww [100, 105, 101, 115] (by decide) (by decide)
  have w1 := ww [114, 97, 105, 110] (by decide) (by decide)
  have w2 := ww [119, 97, 114] (by decide) (by decide)
  have w3 := ww [100, 101, 97, 114] (by decide) (by decide)
  have w4 := ww [102, 108, 111, 111, 100] (by decide) (by decide)
  rw [M.2.2.2.1 z, show (85447 : Int64) = z64 (w27 [100, 105, 101, 115] : Nat) from by decide, show (355280 : Int64) = z64 (w27 [114, 97, 105, 110] : Nat) from by decide, show (16812 : Int64) = z64 (w27 [119, 97, 114] : Nat) from by decide, show (82422 : Int64) = z64 (w27 [100, 101, 97, 114] : Nat) from by decide, show (3436186 : Int64) = z64 (w27 [102, 108, 111, 111, 100] : Nat) from by decide, w0, w1, w2, w3, w4]
  generalize tkW T t = w at k
  simp only [plA] at k
  refine ⟨fun a0 => ⟨fun a1 => ⟨fun a2 => ⟨fun a3 => ⟨fun a4 => ?_, fun a4 => ?_⟩, fun a3 => ?_⟩, fun a2 => ?_⟩, fun a1 => ?_⟩, fun a0 => ?_⟩
  · rw [if_neg a0, if_neg a1, if_neg a2, if_neg a3, if_neg a4] at k; exact k
  · rw [if_neg a0, if_neg a1, if_neg a2, if_neg a3, if_pos a4] at k; exact k
  · rw [if_neg a0, if_neg a1, if_neg a2, if_pos a3] at k; exact k
  · rw [if_neg a0, if_neg a1, if_pos a2] at k; exact k
  · rw [if_neg a0, if_pos a1] at k; exact k
  · rw [if_pos a0] at k; exact k
set_option maxHeartbeats 4000000 in
set_option maxRecDepth 100000 in
theorem q_kindHere {T : List Nat} {t : Tk} {h : Hp} {Q : Int32 → Hp → Prop} (M : TkM T t h) (O : OkT T t) (k : Q (pm (pl T t KNDS)) h) : m_X12_kindHere h Q := by
  unfold m_X12_kindHere
  have hk := O.kind
  rw [M.2.2.1, show (1 : Int32) = n32 1 from rfl, n32_eq (by omega) (by decide)]
  unfold pl at k
  refine ⟨fun z => ?_, fun z => by rw [if_neg z] at k; exact k⟩
  rw [if_pos z] at k
  unfold KNDS at k
  have ww := fun u hu h6 => wv_eq (w := tkW T t) (u := u) (O.letters z) hu h6
  have w0 := ww [112, 97, 115, 115] (by decide) (by decide)
  have w1 := ww [103, 105, 102, 116] (by decide) (by decide)
  have w2 := ww [115, 97, 108, 101] (by decide) (by decide)
  have w3 := ww [104, 105, 114, 101] (by decide) (by decide)
  have w4 := ww [97, 102, 116, 101, 114] (by decide) (by decide)
  have w5 := ww [116, 105, 109, 101, 115] (by decide) (by decide)
  have w6 := ww [105, 102] (by decide) (by decide)
  have w7 := ww [99, 104, 111, 105, 99, 101] (by decide) (by decide)
  rw [M.2.2.2.1 z, show (316189 : Int64) = z64 (w27 [112, 97, 115, 115] : Nat) from by decide, show (144524 : Int64) = z64 (w27 [103, 105, 102, 116] : Nat) from by decide, show (375035 : Int64) = z64 (w27 [115, 97, 108, 101] : Nat) from by decide, show (164516 : Int64) = z64 (w27 [104, 105, 114, 101] : Nat) from by decide, show (664272 : Int64) = z64 (w27 [97, 102, 116, 101, 114] : Nat) from by decide, show (10815598 : Int64) = z64 (w27 [116, 105, 109, 101, 115] : Nat) from by decide, show (249 : Int64) = z64 (w27 [105, 102] : Nat) from by decide, show (47600141 : Int64) = z64 (w27 [99, 104, 111, 105, 99, 101] : Nat) from by decide, w0, w1, w2, w3, w4, w5, w6, w7]
  generalize tkW T t = w at k
  simp only [plA] at k
  refine ⟨fun a0 => ⟨fun a1 => ⟨fun a2 => ⟨fun a3 => ⟨fun a4 => ⟨fun a5 => ⟨fun a6 => ⟨fun a7 => ?_, fun a7 => ?_⟩, fun a6 => ?_⟩, fun a5 => ?_⟩, fun a4 => ?_⟩, fun a3 => ?_⟩, fun a2 => ?_⟩, fun a1 => ?_⟩, fun a0 => ?_⟩
  · rw [if_neg a0, if_neg a1, if_neg a2, if_neg a3, if_neg a4, if_neg a5, if_neg a6, if_neg a7] at k; exact k
  · rw [if_neg a0, if_neg a1, if_neg a2, if_neg a3, if_neg a4, if_neg a5, if_neg a6, if_pos a7] at k; exact k
  · rw [if_neg a0, if_neg a1, if_neg a2, if_neg a3, if_neg a4, if_neg a5, if_pos a6] at k; exact k
  · rw [if_neg a0, if_neg a1, if_neg a2, if_neg a3, if_neg a4, if_pos a5] at k; exact k
  · rw [if_neg a0, if_neg a1, if_neg a2, if_neg a3, if_pos a4] at k; exact k
  · rw [if_neg a0, if_neg a1, if_neg a2, if_pos a3] at k; exact k
  · rw [if_neg a0, if_neg a1, if_pos a2] at k; exact k
  · rw [if_neg a0, if_pos a1] at k; exact k
  · rw [if_pos a0] at k; exact k
