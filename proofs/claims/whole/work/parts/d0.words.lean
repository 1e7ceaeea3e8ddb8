/-! THE CLASS: stop: which words bar a set, what is needed -/
def hitB (x : Ab) (w s i : Nat) : Bool := (List.range i).any (fun t => s.testBit t && (List.range (t + 1)).any (fun j => s.testBit j && prB x (wordS x w) j t))
theorem hitB_eq {x : Ab} (nd : (aO x).Nodup) (w s : Nat) : hitB x w s (aO x).length = bars1 (aF x) (wordS x w) (lvs (aD x) (subL (aO x) s)) := by
  have L := let_sub (x := x) (S := wordS x w) (bits := s) nd (n := (aO x).length) (Nat.le_refl _)
  rw [Bool.eq_iff_iff]
  unfold subL hitB
  rw [← Bool.not_eq_false (bars1 _ _ _), L, List.any_eq_true]
  constructor
  · rintro ⟨t, ht, q⟩ h
    rw [List.mem_range] at ht
    rw [Bool.and_eq_true, List.any_eq_true] at q
    obtain ⟨st, j, hj, q⟩ := q
    rw [List.mem_range] at hj
    rw [Bool.and_eq_true] at q
    rw [h t ht st j (by omega) q.1] at q
    cases q.2
  · intro h
    refine Classical.byContradiction (fun c => h (fun i hi si j hj sj => ?_))
    cases hp : prB x (wordS x w) j i with
    | false => rfl
    | true =>
      refine absurd ⟨i, List.mem_range.mpr hi, ?_⟩ c
      rw [Bool.and_eq_true, List.any_eq_true]
      exact ⟨si, j, List.mem_range.mpr (by omega), by rw [sj, hp]; rfl⟩
def nWp (x : Ab) (u s w : Nat) : Bool := u.testBit w && bars1 (aF x) (wordS x w) (lvs (aD x) (subL (aO x) s))
def nW (x : Ab) (u s n : Nat) : Nat := (List.range n).foldl (fun b w => if nWp x u s w then b ||| 2 ^ w else b) 0
theorem nW_succ (x : Ab) (u s n : Nat) : nW x u s (n + 1) = if nWp x u s n then nW x u s n ||| 2 ^ n else nW x u s n := by simp [nW, List.range_succ]
theorem nW_lt (x : Ab) (u s : Nat) : ∀ n, nW x u s n < 2 ^ n
  | 0 => by simp [nW]
  | n + 1 => by
    rw [nW_succ]
    have h1 := nW_lt x u s n
    have h2 : (2 : Nat) ^ n < 2 ^ (n + 1) := Nat.pow_lt_pow_right (by decide) (by omega)
    split
    · exact Nat.or_lt_two_pow (by omega) h2
    · omega
theorem nW_bit (x : Ab) (u s : Nat) : ∀ n i, (nW x u s n).testBit i = (decide (i < n) && nWp x u s i)
  | 0, i => by simp [nW]
  | n + 1, i => by
    rw [nW_succ]
    have := nW_bit x u s n i
    by_cases q : nWp x u s n = true
    · rw [if_pos q, tb_or, this]
      by_cases e : i = n
      · subst e; simp [q]
      · simp only [show (i < n + 1) = (i < n) from propext (by omega), decide_eq_false (show ¬ n = i by omega), Bool.or_false]
    · rw [if_neg q, this]
      by_cases e : i = n
      · subst e; simp [q]
      · simp only [show (i < n + 1) = (i < n) from propext (by omega)]
def WbA (x : Ab) (u : Nat) (h : Hp) : Prop := ∀ w, u.testBit w = true → BrA x (wordS x w) 37 (w * 10) (aO x).length h
theorem hit_cell {x : Ab} {w s t v : Nat} (hv : v < 2 ^ (t + 1)) (tb : ∀ j, j ≤ t → v.testBit j = prB x (wordS x w) j t) : (List.range (t + 1)).any (fun j => s.testBit j && prB x (wordS x w) j t) = decide (v &&& s ≠ 0) := by
  rw [Bool.eq_iff_iff, decide_eq_true_eq, List.any_eq_true]
  constructor
  · rintro ⟨j, hj, q⟩ z
    rw [List.mem_range] at hj
    rw [Bool.and_eq_true] at q
    have := (and_no hv).mp z j hj q.1
    rw [tb j (by omega), q.2] at this
    cases this
  · intro h
    refine Classical.byContradiction (fun c => h ((and_no hv).mpr (fun j hj sj => ?_)))
    cases hp : v.testBit j with
    | false => rfl
    | true =>
      rw [tb j (by omega)] at hp
      exact absurd ⟨j, List.mem_range.mpr hj, by rw [sj, hp]; rfl⟩ c
set_option maxHeartbeats 4000000 in
set_option maxRecDepth 100000 in
theorem c_wb15 {x : Ab} {da : Nat → Nat} {u s w b : Nat} {h : Hp} {Q : Int32 → Hp → Prop} {k75 : Int32 → Int32 → Int32 → Int32 → Hp → Prop} (O : COff x da h) (W : WbA x u h) (hu : u < 4096) (hs : s < 1024) (hw : w < 12) (hb : b < 2 ^ w) (uw : u.testBit w = true)
    (k : k75 (n32 s) (n32 u) (n32 (if hitB x w s (aO x).length then b ||| 2 ^ w else b)) (n32 w) h) :
    ∀ (r i : Nat), r + i = (aO x).length → m_X7_wordsThatBar_15 (r + 1) k75 Q (n32 s) (n32 u) (n32 (if hitB x w s i then b ||| 2 ^ w else b)) (n32 w) (n32 i) h := by
  have o10 := O.2.1
  have p12 : 2 ^ (w + 1) ≤ 2 ^ 12 := pw_le (by omega)
  have pw1 : 2 ^ (w + 1) = 2 ^ w * 2 := Nat.pow_succ 2 w
  have bl : ∀ q : Bool, (if q then b ||| 2 ^ w else b) < 4096 := fun q => by
    cases q
    · show b < 4096; omega
    · show b ||| 2 ^ w < 4096
      have : b ||| 2 ^ w < 2 ^ (w + 1) := Nat.or_lt_two_pow (by omega) (by omega)
      omega
  intro r
  induction r with
  | zero =>
    intro i hr
    rw [m_X7_wordsThatBar_15, O.1, n32_le (by omega) (by omega)]
    exact ⟨fun _ => by rw [show i = (aO x).length by omega]; exact k, fun z => absurd (by omega) z⟩
  | succ r ih =>
    intro i hr
    have il : i < (aO x).length := by omega
    obtain ⟨v, ev, v2, vt⟩ := W w uw i il
    have nx := ih (i + 1) (by omega)
    have hsucc : hitB x w s (i + 1) = (hitB x w s i || (s.testBit i && decide (v &&& s ≠ 0))) := by
      unfold hitB
      rw [any_succ, hit_cell v2 vt]
    have p10 : 2 ^ (i + 1) ≤ 2 ^ 10 := pw_le (by omega)
    rw [m_X7_wordsThatBar_15, O.1, n32_le (by omega) (by omega), show (31 : Int32) = n32 31 from rfl, show (1 : Int32) = n32 1 from rfl, n32_bit (by omega) (by omega), n32_bit (by omega) (by omega), bit_mod, bit_mod, if_pos uw, show (10 : Int32) = n32 10 from rfl, n32_mul, n32_add, n32_ix (by omega), ev, n32_and (by omega) (by omega), show (0 : Int32) = n32 0 from rfl, n32_eq (Nat.lt_of_le_of_lt Nat.and_le_left (by omega)) (by decide), shl1 (by omega), n32_or (by have := bl (hitB x w s i); omega) (by omega)]
    unfold m_X7_wordsThatBar_69
    refine ⟨fun z => absurd z (by omega), fun _ => ⟨fun z => absurd rfl z, fun _ => ?_⟩⟩
    cases hsi : s.testBit i with
    | false =>
      rw [hsucc, hsi, Bool.false_and, Bool.or_false] at nx
      refine ⟨fun _ x2 e2 => ?_, fun z => absurd z (by decide)⟩
      rw [e2, show n32 i + 1 = n32 (i + 1) from n32_add _ 1]
      exact nx
    | true =>
      refine ⟨fun z => absurd rfl z, fun _ => ⟨vpI (by omega) (by decide), fun z x2 e2 => ?_, fun z x3 e3 x2 e2 => ?_⟩⟩
      · rw [hsucc, hsi, decide_eq_false (fun q => q z), Bool.true_and, Bool.or_false] at nx
        rw [e2, show n32 i + 1 = n32 (i + 1) from n32_add _ 1]
        exact nx
      · rw [hsucc, hsi, decide_eq_true z, Bool.true_and, Bool.or_true, if_pos rfl] at nx
        have e4 : (if hitB x w s i then b ||| 2 ^ w else b) ||| 2 ^ w = b ||| 2 ^ w := by
          split
          · rw [Nat.or_assoc, Nat.or_self]
          · rfl
        rw [e4] at e3
        rw [e2, e3, show n32 i + 1 = n32 (i + 1) from n32_add _ 1]
        exact nx
theorem c_wordsThatBar {x : Ab} {da : Nat → Nat} {u s : Nat} {h : Hp} {Q : Int32 → Hp → Prop} (O : COff x da h) (W : WbA x u h) (hu : u < 4096) (hs : s < 1024) (k : Q (n32 (nW x u s 12)) h) : m_X7_wordsThatBar (n32 s) (n32 u) h Q := by
  have o10 := O.2.1
  have main : ∀ (r w : Nat), r + w = 12 → m_X7_wordsThatBar_5 (r + 1) Q (n32 s) (n32 u) (n32 (nW x u s w)) (n32 w) h := by
    intro r
    induction r with
    | zero =>
      intro w hr
      rw [m_X7_wordsThatBar_5, show (12 : Int32) = n32 12 from rfl, n32_le (by decide) (by omega)]
      exact ⟨fun _ => by rw [show w = 12 by omega]; exact k, fun z => absurd (by omega) z⟩
    | succ r ih =>
      intro w hr
      have nx := ih (w + 1) (by omega)
      rw [nW_succ] at nx
      have hb := nW_lt x u s w
      rw [m_X7_wordsThatBar_5, show (12 : Int32) = n32 12 from rfl, n32_le (by decide) (by omega)]
      refine ⟨fun z => absurd z (by omega), fun _ => ?_⟩
      unfold nWp at nx
      cases uw : u.testBit w with
      | true =>
        rw [uw, Bool.true_and, ← hitB_eq O.2.2.2.2] at nx
        have g := c_wb15 (Q := Q) (k75 := m_X7_wordsThatBar_75 (fun (v1 : Int32) (v2 : Int32) (v3 : Int32) (v4 : Int32) hh => m_X7_wordsThatBar_5 (r + 1) Q v1 v2 v3 v4 hh) Q) O W hu hs (by omega) hb uw ?_ (aO x).length 0 (by omega)
        · exact ⟨_, g⟩
        · unfold m_X7_wordsThatBar_75
          intro x1 e1
          rw [e1, show n32 w + 1 = n32 (w + 1) from n32_add _ 1]
          exact nx
      | false =>
        rw [uw, Bool.false_and, if_neg (by decide)] at nx
        refine ⟨1, ?_⟩
        have go : m_X7_wordsThatBar_75 (fun (v1 : Int32) (v2 : Int32) (v3 : Int32) (v4 : Int32) hh => m_X7_wordsThatBar_5 (r + 1) Q v1 v2 v3 v4 hh) Q (n32 s) (n32 u) (n32 (nW x u s w)) (n32 w) h := by
          unfold m_X7_wordsThatBar_75
          intro x1 e1
          rw [e1, show n32 w + 1 = n32 (w + 1) from n32_add _ 1]
          exact nx
        rw [m_X7_wordsThatBar_15, show (31 : Int32) = n32 31 from rfl, show (1 : Int32) = n32 1 from rfl, n32_bit (by omega) (by omega), bit_mod, uw, if_neg (by decide)]
        exact ⟨fun _ => go, fun _ => ⟨fun _ => go, fun z => absurd z (by decide)⟩⟩
  exact ⟨13, main 12 0 rfl⟩
def NdA (nl : List Nat) (h : Hp) : Prop := hI h 32 11 = n32 nl.length ∧ ∀ j, j < nl.length → hI h 38 j = n32 (nl.getD j 0)
def SNd (a k : Nat) : Prop := a = 38 ∨ a = 32 ∧ k = 11
theorem c_putNeed {nl : List Nat} {v : Nat} {h : Hp} {Q : Hp → Prop} (A : NdA nl h) (hl : nl.length < 1024) (hv : v < 4096) (hn : ∀ t ∈ nl, t < 4096) (k : ∀ h', fr SNd h h' → NdA (if v ∈ nl then nl else nl ++ [v]) h' → Q h') : m_X7_putNeed (n32 v) h Q := by
  have main : ∀ (rest pre : List Nat), nl = pre ++ rest → v ∉ pre → m_X7_putNeed_2 (rest.length + 1) (m_X7_putNeed_27 Q) Q (n32 v) (n32 pre.length) h := by
    intro rest
    induction rest with
    | nil =>
      intro pre e hp
      rw [List.append_nil] at e
      subst e
      rw [m_X7_putNeed_2, A.1, n32_le (by omega) (by omega)]
      refine ⟨fun _ => ?_, fun z => absurd (Nat.le_refl _) z⟩
      unfold m_X7_putNeed_27
      rw [A.1, show (1024 : Int32) = n32 1024 from rfl, n32_le (by decide) (by omega), n32_ix (by omega)]
      refine ⟨fun z => absurd z (by omega), fun _ => ⟨vpI (by omega) (by decide), ?_⟩⟩
      have e5 : hI (wI h 38 nl.length (n32 v)) 32 11 = n32 nl.length := by rw [hI_wI, if_neg (by omega)]; exact A.1
      rw [e5, show n32 nl.length + 1 = n32 (nl.length + 1) from n32_add _ 1]
      refine k _ (fr_wI (fr_wI (fr.rf _ _) _ (Or.inl rfl)) _ (Or.inr ⟨rfl, rfl⟩)) ?_
      rw [if_neg hp]
      refine ⟨by rw [hI_wI, if_pos ⟨rfl, rfl⟩, List.length_append, List.length_singleton], fun j hj => ?_⟩
      rw [List.length_append, List.length_singleton] at hj
      rw [hI_wI, if_neg (by omega), hI_wI]
      by_cases q : j = nl.length
      · subst q; rw [if_pos ⟨rfl, rfl⟩, getD_app_at]
      · rw [if_neg (by omega), getD_app_lt (by omega)]; exact A.2 j (by omega)
    | cons t rest ih =>
      intro pre e hp
      have el : nl.length = pre.length + (rest.length + 1) := by rw [e]; simp
      have et : hI h 38 pre.length = n32 t := by rw [A.2 _ (by omega), e, getD_mid]
      have t4 := hn t (by rw [e]; simp)
      rw [m_X7_putNeed_2, A.1, n32_le (by omega) (by omega), n32_ix (by omega), et, n32_eq (by omega) (by omega)]
      refine ⟨fun z => absurd z (by omega), fun _ => ⟨vpI (by omega) (by decide), fun z x1 e1 => ?_, fun z => ?_⟩⟩
      · rw [e1, show n32 pre.length + 1 = n32 (pre.length + 1) from n32_add _ 1]
        have nx := ih (pre ++ [t]) (by rw [e]; simp) (by simp [hp]; omega)
        rw [List.length_append] at nx
        exact nx
      · refine k h (fr.rf _ _) ?_
        rw [if_pos (by rw [e, z]; simp)]
        exact A
  exact ⟨_, main nl [] rfl (by simp)⟩
theorem c_meets {nl : List Nat} {n : Nat} {h : Hp} {Q : Int32 → Hp → Prop} (A : NdA nl h) (hl : nl.length ≤ 1024) (hv : n < 4096) (hn : ∀ t ∈ nl, t < 4096) (k : Q (bI (nl.all (fun v => decide (v &&& n ≠ 0)))) h) : m_X7_meetsNeeds (n32 n) h Q := by
  have main : ∀ (rest pre : List Nat), nl = pre ++ rest → nl.all (fun v => decide (v &&& n ≠ 0)) = rest.all (fun v => decide (v &&& n ≠ 0)) → m_X7_meetsNeeds_2 (rest.length + 1) Q (n32 n) (n32 pre.length) h := by
    intro rest
    induction rest with
    | nil =>
      intro pre e he
      rw [List.append_nil] at e
      subst e
      rw [m_X7_meetsNeeds_2, A.1, n32_le (by omega) (by omega)]
      rw [he] at k
      exact ⟨fun _ => k, fun z => absurd (Nat.le_refl _) z⟩
    | cons t rest ih =>
      intro pre e he
      have el : nl.length = pre.length + (rest.length + 1) := by rw [e]; simp
      have et : hI h 38 pre.length = n32 t := by rw [A.2 _ (by omega), e, getD_mid]
      have t4 := hn t (by rw [e]; simp)
      rw [List.all_cons] at he
      rw [m_X7_meetsNeeds_2, A.1, n32_le (by omega) (by omega), n32_ix (by omega), et, n32_and (by omega) (by omega), show (0 : Int32) = n32 0 from rfl, n32_eq (Nat.lt_of_le_of_lt Nat.and_le_left (by omega)) (by decide)]
      refine ⟨fun z => absurd z (by omega), fun _ => ⟨vpI (by omega) (by decide), fun z x1 e1 => ?_, fun z => ?_⟩⟩
      · rw [e1, show n32 pre.length + 1 = n32 (pre.length + 1) from n32_add _ 1]
        rw [decide_eq_true z, Bool.true_and] at he
        have nx := ih (pre ++ [t]) (by rw [e]; simp) he
        rw [List.length_append] at nx
        exact nx
      · rw [he, decide_eq_false (fun q => q z), Bool.false_and] at k
        exact k
  exact ⟨_, main nl [] rfl rfl⟩
