/-! THE MODEL: stop -/
def hBits (x : Ab) (n : Nat) : Nat := (List.range n).foldl (fun b i => b ||| wBits x (lvs (aD x) (honS x i)) (aW x).length) 0
theorem hBits_succ (x : Ab) (n : Nat) : hBits x (n + 1) = hBits x n ||| wBits x (lvs (aD x) (honS x n)) (aW x).length := by simp [hBits, List.range_succ]
theorem hBits_lt (x : Ab) : ∀ n, hBits x n < 2 ^ (aW x).length
  | 0 => by simp [hBits]; exact Nat.two_pow_pos _
  | n + 1 => by rw [hBits_succ]; exact Nat.or_lt_two_pow (hBits_lt x n) (wBits_lt _ _ _)
/-- does a choice of words bar every set of a row -/
def wHit (x : Ab) (bits : Nat) (s : Nat) : Bool := wBits x (lvs (aD x) (subL (aO x) s)) (aW x).length &&& bits != 0
def stpF (x : Ab) (l : List Nat) (bad : Nat) (b bits : Nat) : Nat := if bits &&& bad = 0 ∧ (b = 0 ∨ pop bits < pop (b - 1)) ∧ l.all (wHit x bits) then bits + 1 else b
def stpK (x : Ab) (l : List Nat) (bad n : Nat) : Nat := (List.range n).foldl (stpF x l bad) 0
theorem stpK_succ (x : Ab) (l : List Nat) (bad n : Nat) : stpK x l bad (n + 1) = stpF x l bad (stpK x l bad n) n := by simp [stpK, List.range_succ]
theorem stpK_le (x : Ab) (l : List Nat) (bad : Nat) : ∀ n, stpK x l bad n ≤ n
  | 0 => by simp [stpK]
  | n + 1 => by
    rw [stpK_succ]
    have := stpK_le x l bad n
    unfold stpF
    split <;> omega
def ansStop (x : Ab) (v : Int32) : Int32 := match arg6 v with
  | some k => pm (stpK x (slyAll x k) (hBits x (aH x).length) (2 ^ (aW x).length))
  | none => -1
theorem all_take_succ {l : List Nat} {f : Nat → Bool} {i : Nat} (hi : i < l.length) : (l.take (i + 1)).all f = ((l.take i).all f && f (l.getD i 0)) := by
  rw [List.take_succ, List.getElem?_eq_getElem hi, List.all_append]
  simp [List.getD_eq_getElem?_getD, List.getElem?_eq_getElem hi]
set_option maxHeartbeats 4000000 in
set_option maxRecDepth 100000 in
theorem q_stop95 {x : Ab} {k0 : Nat} {h : Hp} {Q : Int32 → Hp → Prop} {k135 : Int32 → Int32 → Int32 → Int32 → Hp → Prop} {v2 v3 : Int32} {bits : Nat} (hw : (aW x).length ≤ 12) (hb : bits < 4096) (hl : (slyAll x k0).length < 1024) (A : SlyA x (slyAll x k0) h) (k : k135 v2 v3 (n32 bits) (if (slyAll x k0).all (wHit x bits) then 1 else 0) h) :
    ∀ (r i : Nat), r + i = (slyAll x k0).length → m_X12_stop_95 (r + 1) k135 Q v2 v3 (n32 bits) (if ((slyAll x k0).take i).all (wHit x bits) then 1 else 0) (n32 i) h := by
  have hall : ∀ i, ((slyAll x k0).take i).all (wHit x bits) = false → (slyAll x k0).all (wHit x bits) = false := by
    intro i q
    rw [List.all_eq_false] at q ⊢
    obtain ⟨s, hs, hq⟩ := q
    exact ⟨s, List.mem_of_mem_take hs, hq⟩
  intro r
  induction r with
  | zero =>
    intro i hr
    rw [m_X12_stop_95, A.1, show i = (slyAll x k0).length by omega, List.take_length]
    refine ⟨fun _ => k, fun z => ?_⟩
    rw [n32_le (by omega) (by omega)] at z; omega
  | succ r ih =>
    intro i hr
    have := ih (i + 1) (by omega)
    rw [m_X12_stop_95, A.1]
    refine ⟨fun z => ?_, fun _ => ?_⟩
    · rw [n32_le (by omega) (by omega)] at z; omega
    · cases hq : ((slyAll x k0).take i).all (wHit x bits) with
      | false =>
        rw [hall i hq] at k
        exact ⟨fun _ => k, fun z => absurd rfl z⟩
      | true =>
        have w1 := wBits_lt x (lvs (aD x) (subL (aO x) ((slyAll x k0).getD i 0))) (aW x).length
        have w2 : 2 ^ (aW x).length ≤ 2 ^ 12 := pw_le hw
        rw [all_take_succ (by omega), hq, Bool.true_and] at this
        refine ⟨fun z => absurd z (by decide), fun _ => ⟨vpI (by omega) (by decide), ?_⟩⟩
        unfold m_X12_stop_127
        rw [n32_ix (by omega), A.2.2 i (by omega), n32_and (by omega) (by omega), show (0 : Int32) = n32 0 from rfl, n32_eq (Nat.lt_of_le_of_lt Nat.and_le_right (by omega)) (by decide), show n32 i + 1 = n32 (i + 1) from n32_add _ 1]
        refine ⟨fun z x2 e2 => ?_, fun z x2 e2 => ?_⟩
        · rw [if_neg (by unfold wHit; rw [z]; decide)] at this
          rw [e2]; exact this
        · rw [if_pos (by unfold wHit; rw [bne_iff_ne]; exact z)] at this
          rw [e2]; exact this
set_option maxHeartbeats 4000000 in
set_option maxRecDepth 100000 in
theorem q_stop52 {x : Ab} {k0 : Nat} {h : Hp} {Q : Int32 → Hp → Prop} (I : InvR x h) (hl : (slyAll x k0).length < 1024) (A : SlyA x (slyAll x k0) h) (k : Q (pm (stpK x (slyAll x k0) (hBits x (aH x).length) (2 ^ (aW x).length))) h) :
    ∀ (r n : Nat), r + n = 2 ^ (aW x).length → m_X12_stop_52 (r + 1) Q (n32 (hBits x (aH x).length)) (pm (stpK x (slyAll x k0) (hBits x (aH x).length) n)) (n32 n) h := by
  obtain ⟨e68, l12, -⟩ := id I.2.2.2.2.2.2.1
  have w2 : 2 ^ (aW x).length ≤ 2 ^ 12 := pw_le l12
  have hbb := hBits_lt x (aH x).length
  intro r
  induction r with
  | zero =>
    intro n hr
    rw [m_X12_stop_52, e68, show (1 : Int32) = n32 1 from rfl, show (31 : Int32) = n32 31 from rfl, shl1 (by omega), show n = 2 ^ (aW x).length by omega]
    refine ⟨fun _ => k, fun z => ?_⟩
    rw [n32_le (by omega) (by omega)] at z; omega
  | succ r ih =>
    intro n hr
    have nx := ih (n + 1) (by omega)
    have hle := stpK_le x (slyAll x k0) (hBits x (aH x).length) n
    rw [stpK_succ] at nx
    rw [m_X12_stop_52, e68, show (1 : Int32) = n32 1 from rfl, show (31 : Int32) = n32 31 from rfl, shl1 (by omega)]
    generalize stpK x (slyAll x k0) (hBits x (aH x).length) n = b at nx hle
    generalize hBits x (aH x).length = bad at nx hbb
    unfold stpF at nx
    have old : (¬ (n &&& bad = 0 ∧ (b = 0 ∨ pop n < pop (b - 1)) ∧ (slyAll x k0).all (wHit x n) = true)) → m_X12_stop_143 (fun (v2:Int32) (v3:Int32) (v4:Int32) hh => m_X12_stop_52 (r + 1) Q v2 v3 v4 hh) Q (n32 bad) (pm b) (n32 n) h := by
      intro q
      rw [if_neg q] at nx
      unfold m_X12_stop_143
      intro x1 e1
      rw [e1, show n32 n + 1 = n32 (n + 1) from n32_add _ 1]
      exact nx
    have try1 : n &&& bad = 0 → (b = 0 ∨ pop n < pop (b - 1)) → m_X12_stop_89 (fun (v2:Int32) (v3:Int32) (v4:Int32) hh => m_X12_stop_52 (r + 1) Q v2 v3 v4 hh) Q (n32 bad) (pm b) (n32 n) h := by
      intro q1 q2
      unfold m_X12_stop_89
      refine ⟨_, q_stop95 l12 (by omega) hl A ?_ (slyAll x k0).length 0 (by omega)⟩
      unfold m_X12_stop_135
      by_cases q3 : (slyAll x k0).all (wHit x n) = true
      · rw [if_pos q3]
        refine ⟨fun z => absurd z (by decide), fun _ => ?_⟩
        rw [if_pos ⟨q1, q2, q3⟩] at nx
        unfold m_X12_stop_143
        intro x1 e1
        rw [e1, show n32 n + 1 = n32 (n + 1) from n32_add _ 1]
        exact nx
      · rw [if_neg q3]
        exact ⟨fun _ => old (fun z => q3 z.2.2), fun z => absurd rfl z⟩
    refine ⟨fun z => ?_, fun _ => ?_⟩
    · rw [n32_le (by omega) (by omega)] at z; omega
    · rw [n32_and (by omega) (by omega), show (0 : Int32) = n32 0 from rfl, n32_eq (Nat.lt_of_le_of_lt Nat.and_le_left (by omega)) (by decide)]
      refine ⟨fun q => old (fun z => q z.1), fun q1 => ⟨fun q2 => ?_, fun q2 => ?_⟩⟩
      · rw [show n32 0 = (0 : Int32) from rfl, pm_lt0 (by omega)] at q2
        exact try1 q1 (Or.inl q2)
      · rw [show n32 0 = (0 : Int32) from rfl, pm_lt0 (by omega)] at q2
        have p1 := popK_le n 24
        have p2 := popK_le (b - 1) 24
        have p1e : pop n = popK n 24 := rfl
        have p2e : pop (b - 1) = popK (b - 1) 24 := rfl
        refine q_bits (by omega) ?_
        rw [show pm b = n32 (b - 1) from pm_n32 (by omega)]
        refine q_bits (by omega) ?_
        rw [← pm_n32 (show 0 < b by omega), n32_lt (by omega) (by omega)]
        exact ⟨fun z => try1 q1 (Or.inr z), fun z => old (fun y => by omega)⟩
set_option maxHeartbeats 4000000 in
set_option maxRecDepth 100000 in
theorem R_stop {x : Ab} {v1 : Int32} {h : Hp} {Q : Int32 → Hp → Prop} (I : InvR x h) (K : OkA x) (k : ∀ h', fr Scr h h' → Q (ansStop x v1) h') : m_X12_stop v1 h Q := by
  unfold m_X12_stop
  unfold ansStop at k
  refine q_six (fun e => ?_) (fun k0 h1 h6 e1 e2 => ?_)
  · rw [e] at k; exact ⟨fun z => absurd rfl z, fun _ => k h (fr.rf _ _)⟩
  · rw [e2] at k
    subst e1
    dsimp only at k
    refine ⟨fun _ => ?_, fun z => absurd z (by decide)⟩
    obtain ⟨e68, l12, -⟩ := id I.2.2.2.2.2.2.1
    have w2 : 2 ^ (aW x).length ≤ 2 ^ 12 := pw_le l12
    obtain ⟨b1, b2, -⟩ := id I.2.2.2.2.2.2.2.2.1
    have hp : 2 ^ (aO x).length ≤ 2 ^ 10 := pw_le b2
    have hp0 : 0 < 2 ^ (aO x).length := Nat.two_pow_pos _
    have main : ∀ (r n : Nat) (h2 : Hp), r + n = (aH x).length → fr Scr h h2 → m_X12_stop_16 (r + 1) (m_X12_stop_42 Q) Q (n32 k0) (n32 (hBits x n)) (n32 n) h2 := by
      intro r
      induction r with
      | zero =>
        intro n h2 hr f2
        have I2 := I.fr f2
        obtain ⟨e88, l6, -⟩ := id I2.2.2.2.2.2.2.2.2.2
        rw [m_X12_stop_16, e88]
        refine ⟨fun _ => ?_, fun z => ?_⟩
        · unfold m_X12_stop_42
          refine q_findSly I2 K h1 h6 (fun h3 f3 I3 A3 => ?_)
          rw [show n = (aH x).length by omega]
          have hl := slyL_len x k0 (2 ^ (aO x).length - 1)
          exact ⟨_, q_stop52 I3 (by show (slyL x k0 _).length < _; omega) A3 (k h3 (f2.trans (f3.mono SSl_Scr))) (2 ^ (aW x).length) 0 (by omega)⟩
        · rw [n32_le (by omega) (by omega)] at z; omega
      | succ r ih =>
        intro n h2 hr f2
        have I2 := I.fr f2
        obtain ⟨e88, l6, -⟩ := id I2.2.2.2.2.2.2.2.2.2
        rw [m_X12_stop_16, e88]
        refine ⟨fun z => ?_, fun _ => ?_⟩
        · rw [n32_le (by omega) (by omega)] at z; omega
        · refine q_honest I2 (by omega) (fun h3 f3 L3 => ?_)
          have I3 := I2.fr (f3.mono SLs_Scr)
          refine q_words I3 K (I.inH (by omega)).1 L3 (fun h4 f4 I4 L4 => ?_)
          intro x1 e1 x2 e2
          have a1 := hBits_lt x n
          have a2 := wBits_lt x (lvs (aD x) (honS x n)) (aW x).length
          rw [e1, e2, n32_or (by omega) (by omega), ← hBits_succ, show n32 n + 1 = n32 (n + 1) from n32_add _ 1]
          exact ih (n + 1) h4 (by omega) ((f2.trans (f3.mono SLs_Scr)).trans (f4.mono SBr_Scr))
    exact ⟨_, main (aH x).length 0 h (by omega) (fr.rf _ _)⟩
