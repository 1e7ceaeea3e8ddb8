/-! THE CLASS: cells of a shape -/
def ce (c : Nat) : Int32 := if 8 ≤ c then n32 (c - 8) else if c = 0 then -2 else if c = 4 then -3 else if c = 5 then -4 else if c = 6 then -5 else -6
def CeB (m c : Nat) : Prop := c = 0 ∨ 4 ≤ c ∧ c < m
theorem ce_num (t : Nat) : ce (t + 8) = n32 t := by unfold ce; rw [if_pos (by omega)]; rfl
theorem ce_toInt {m c : Nat} (h : CeB m c) (hm : m ≤ 1000000) : (ce c).toInt = if 8 ≤ c then (c : Int) - 8 else if c = 0 then -2 else if c = 4 then -3 else if c = 5 then -4 else if c = 6 then -5 else -6 := by
  unfold ce
  by_cases q : 8 ≤ c
  · rw [if_pos q, if_pos q, n32_toInt (by unfold CeB at h; omega)]; omega
  · rw [if_neg q, if_neg q]
    repeat (first | rfl | split)
theorem ce_inj {m a b : Nat} (ha : CeB m a) (hb : CeB m b) (hm : m ≤ 1000000) : ce a = ce b ↔ a = b := by
  rw [← Int32.toInt_inj, ce_toInt ha hm, ce_toInt hb hm]
  unfold CeB at ha hb
  constructor
  · intro h
    repeat (first | omega | split at h)
  · rintro rfl; rfl
def Cel (n : Nat) (c : List Nat) (h : Hp) : Prop := ∀ j, j < c.length → hI h 6 (n + j) = ce (c.getD j 0)
theorem gD_l {c d : List Nat} {j : Nat} (h : j < c.length) : (c ++ d).getD j 0 = c.getD j 0 := by
  rw [List.getD_eq_getElem?_getD, List.getElem?_append_left h, ← List.getD_eq_getElem?_getD]
theorem gD_r {c d : List Nat} {j : Nat} (h : c.length ≤ j) : (c ++ d).getD j 0 = d.getD (j - c.length) 0 := by
  rw [List.getD_eq_getElem?_getD, List.getElem?_append_right h, ← List.getD_eq_getElem?_getD]
theorem Cel.nil (n : Nat) (h : Hp) : Cel n [] h := fun j hj => absurd hj (by simp)
theorem Cel.app {n : Nat} {c d : List Nat} {h : Hp} (C : Cel n c h) (D : Cel (n + c.length) d h) : Cel n (c ++ d) h := by
  intro j hj
  rw [List.length_append] at hj
  by_cases q : j < c.length
  · rw [gD_l q]; exact C j q
  · have := D (j - c.length) (by omega)
    rw [show n + c.length + (j - c.length) = n + j by omega] at this
    rw [this, gD_r (by omega)]
theorem Cel.cons {n a : Nat} {c : List Nat} {h : Hp} (e : hI h 6 n = ce a) (C : Cel (n + 1) c h) : Cel n (a :: c) h := by
  intro j hj
  cases j with
  | zero => exact e
  | succ j =>
    have := C j (by rw [List.length_cons] at hj; omega)
    rw [show n + (j + 1) = n + 1 + j by omega, this]; rfl
theorem Cel.mv {n : Nat} {c : List Nat} {h h' : Hp} {S : Nat → Nat → Prop} (C : Cel n c h) (f : fr S h h') (hs : ∀ j, n ≤ j → j < n + c.length → ¬ S 6 j) : Cel n c h' := fun j hj => by
  rw [f.I (hs _ (by omega) (by omega))]; exact C j hj
/-- what an operation of the shape may touch, from a place on -/
def SSh (n q k : Nat) : Prop := q = 5 ∧ (k = 0 ∨ k = 2) ∨ q = 6 ∧ n ≤ k
theorem SSh.le {n m : Nat} (h : m ≤ n) : ∀ q k, SSh n q k → SSh m q k := by unfold SSh; omega
theorem c_hasRoom {n m : Nat} {h : Hp} {Q : Int32 → Hp → Prop} (e : hI h 5 2 = n32 n) (hn : n ≤ 600) (hm : m ≤ 600) (k : Q (if n + m ≤ 512 then 1 else 0) h) : m_X8_hasRoom (n32 m) h Q := by
  unfold m_X8_hasRoom
  rw [e, n32_add, show (512 : Int32) = n32 512 from rfl, n32_lt (by decide) (by omega)]
  refine ⟨fun z => ?_, fun z => ?_⟩
  · rw [if_neg (by omega)] at k; exact k
  · rw [if_pos (by omega)] at k; exact k
theorem c_isBegun {n fl : Nat} {h : Hp} {Q : Int32 → Hp → Prop} (e : hI h 5 2 = n32 fl) (hn : n + 3 ≤ fl) (hf : fl ≤ 512) (k : Q 1 h) : m_X8_isBegun (n32 n) h Q := by
  unfold m_X8_isBegun
  rw [e, show (0 : Int32) = n32 0 from rfl, n32_lt (by omega) (by omega), show (3 : Int32) = n32 3 from rfl, n32_add, n32_lt (by omega) (by omega)]
  exact ⟨fun z => absurd z (by omega), fun _ => ⟨fun z => absurd z (by omega), fun _ => k⟩⟩
set_option maxHeartbeats 4000000 in
set_option maxRecDepth 100000 in
theorem c_begin {n mk t : Nat} {h : Hp} {Q : Int32 → Hp → Prop} (e : hI h 5 2 = n32 n) (hn : n + 3 ≤ 512) (k : ∀ h', fr (SSh n) h h' → hI h' 5 0 = hI h 5 0 → hI h' 5 2 = n32 (n + 3) → Cel n [mk, t + 8, 8] h' → Q (n32 n) h') : m_X8_begin (ce mk) (n32 t) h Q := by
  unfold m_X8_begin
  rw [show m_X8_hasRoom 3 = m_X8_hasRoom (n32 3) from rfl]
  refine c_hasRoom e (by omega) (by decide) ?_
  rw [if_pos (by omega)]
  refine ⟨fun _ => ?_, fun z => absurd z (by decide)⟩
  intro x3 e3
  rw [e] at e3
  rw [e3, show n32 n + 1 = n32 (n + 1) from n32_add _ 1, show n32 n + 2 = n32 (n + 2) from n32_add _ 2, n32_ix (by omega), n32_ix (by omega), n32_ix (by omega)]
  refine ⟨vpI (by omega) (by decide), vpI (by omega) (by decide), vpI (by omega) (by decide), ?_⟩
  have e5 : hI (wI (wI (wI h 6 n (ce mk)) 6 (n + 1) (n32 t)) 6 (n + 2) 0) 5 2 = n32 n := by rw [hI_wI, if_neg (by omega), hI_wI, if_neg (by omega), hI_wI, if_neg (by omega)]; exact e
  rw [e5, show n32 n + 3 = n32 (n + 3) from n32_add _ 3]
  refine k _ (fr_wI (fr_wI (fr_wI (fr_wI (fr.rf _ _) _ (by unfold SSh; omega)) _ (by unfold SSh; omega)) _ (by unfold SSh; omega)) _ (by unfold SSh; omega)) ?_ ?_ (Cel.cons ?_ (Cel.cons ?_ (Cel.cons ?_ (Cel.nil _ _))))
  · rw [hI_wI, if_neg (by omega), hI_wI, if_neg (by omega), hI_wI, if_neg (by omega), hI_wI, if_neg (by omega)]
  · rw [hI_wI, if_pos ⟨rfl, rfl⟩]
  · rw [hI_wI, if_neg (by omega), hI_wI, if_neg (by omega), hI_wI, if_neg (by omega), hI_wI, if_pos ⟨rfl, rfl⟩]
  · rw [hI_wI, if_neg (by omega), hI_wI, if_neg (by omega), hI_wI, if_pos ⟨rfl, rfl⟩, ce_num]
  · rw [hI_wI, if_neg (by omega), hI_wI, if_pos ⟨rfl, by omega⟩]; rfl
set_option maxHeartbeats 4000000 in
set_option maxRecDepth 100000 in
theorem c_putLeafS {n : Nat} {r : Rec} {h : Hp} {Q : Hp → Prop} (e : hI h 5 2 = n32 n) (hn : n + 9 ≤ 512) (s : ∀ j, j < 8 → hI h 7 j = n32 (r j)) (k : ∀ h', fr (SSh n) h h' → hI h' 5 0 = hI h 5 0 → hI h' 5 2 = n32 (n + 9) → Cel n (lfCe r) h' → Q h') : m_X8_putLeaf 7 8 h Q := by
  unfold m_X8_putLeaf
  rw [show m_X8_hasRoom 9 = m_X8_hasRoom (n32 9) from rfl]
  refine c_hasRoom e (by omega) (by decide) ?_
  rw [if_pos (by omega)]
  refine ⟨fun z => absurd z (by decide), fun _ => ?_⟩
  rw [e, n32_ix (by omega)]
  have e5 : hI (wI h 6 n (-2)) 5 2 = n32 n := by rw [hI_wI, if_neg (by omega)]; exact e
  rw [e5, show n32 n + 1 = n32 (n + 1) from n32_add _ 1, n32_ix (by omega), show (0 : Int32) = n32 0 from rfl, n32_lt (by omega) (by omega), n32_ix (by omega), show (8 : Int32) = n32 8 from rfl, n32_ix (by omega), n32_lt (by omega) (by omega), n32_lt (by omega) (by omega)]
  refine ⟨vpI (by omega) (by decide), by omega, by omega, by omega, by omega, by omega, ?_⟩
  have x5 : hI (cpI (wI h 6 n (-2)) 7 0 6 (n + 1) 8) 5 2 = n32 n := by rw [hI_cpI, if_neg (by omega)]; exact e5
  rw [x5, show n32 n + 9 = n32 (n + 9) from n32_add _ 9]
  have c0 : hI (wI (cpI (wI h 6 n (-2)) 7 0 6 (n + 1) 8) 5 2 (n32 (n + 9))) 6 n = ce 0 := by
    rw [hI_wI, if_neg (by omega), hI_cpI, if_neg (by omega), hI_wI, if_pos ⟨rfl, rfl⟩]; rfl
  have cj : ∀ j, j < 8 → hI (wI (cpI (wI h 6 n (-2)) 7 0 6 (n + 1) 8) 5 2 (n32 (n + 9))) 6 (n + 1 + j) = ce (r j + 8) := fun j hj => by
    rw [hI_wI, if_neg (by omega), hI_cpI, if_pos (by omega), hI_wI, if_neg (by omega), show 0 + (n + 1 + j - (n + 1)) = j by omega, s j hj, ce_num]
  refine k _ (fr_wI (fr_cpI (fr_wI (fr.rf _ _) _ (by unfold SSh; omega)) _ _ _ _ _ (fun j _ _ => by unfold SSh; omega)) _ (by unfold SSh; omega)) ?_ ?_ ?_
  · rw [hI_wI, if_neg (by omega), hI_cpI, if_neg (by omega), hI_wI, if_neg (by omega)]
  · rw [hI_wI, if_pos ⟨rfl, rfl⟩]
  · generalize wI (cpI (wI h 6 n (-2)) 7 0 6 (n + 1) 8) 5 2 (n32 (n + 9)) = h2 at c0 cj
    unfold lfCe
    refine Cel.cons c0 (Cel.cons (cj 0 (by decide)) (Cel.cons (cj 1 (by decide)) (Cel.cons (cj 2 (by decide)) (Cel.cons (cj 3 (by decide)) (Cel.cons (cj 4 (by decide)) (Cel.cons (cj 5 (by decide)) (Cel.cons (cj 6 (by decide)) (Cel.cons (cj 7 (by decide)) (Cel.nil _ _)))))))))
theorem c_lift {s n l : Nat} {h : Hp} {Q : Hp → Prop} (hs : s ≤ n) (hn : n + l ≤ 512) (k : ∀ h', fr (SSh s) h h' → hI h' 5 0 = hI h 5 0 → hI h' 5 2 = n32 (s + l) → (∀ j, j < l → hI h' 6 (s + j) = hI h 6 (n + j)) → Q h') : m_X8_lift (n32 s) (n32 n) (n32 l) h Q := by
  unfold m_X8_lift
  rw [show (0 : Int32) = n32 0 from rfl, n32_lt (by omega) (by omega), n32_lt (by omega) (by omega), n32_lt (by omega) (by omega), n32_ix (by omega), n32_ix (by omega), n32_ix (by omega), n32_add]
  refine ⟨by omega, by omega, by omega, by omega, by omega, ?_⟩
  refine k _ (fr_wI (fr_cpI (fr.rf _ _) _ _ _ _ _ (fun j _ _ => by unfold SSh; omega)) _ (by unfold SSh; omega)) ?_ ?_ (fun j hj => ?_)
  · rw [hI_wI, if_neg (by omega), hI_cpI, if_neg (by omega)]
  · rw [hI_wI, if_pos ⟨rfl, rfl⟩]
  · rw [hI_wI, if_neg (by omega), hI_cpI, if_pos (by omega), show n + (s + j - s) = n + j by omega]
/-- cells that are well made: numbers behind marks -/
def WfC (m : Nat) (c : List Nat) : Prop := (∀ v ∈ c, CeB m v) ∧ (c = [] ∨ 3 ≤ c.length ∧ (c.getD 0 9 = 4 → 8 ≤ c.getD 1 0))
theorem ja_num {m c2 l : Nat} (h : CeB m c2) (hm : m ≤ 1000000) (h3 : 3 ≤ l) (hl : l ≤ 600) : ce c2 + n32 3 = n32 l ↔ c2 = l + 5 := by
  by_cases q : 8 ≤ c2
  · have e : ce c2 = n32 (c2 - 8) := by unfold ce; rw [if_pos q]
    unfold CeB at h
    rw [e, n32_add, n32_eq (by omega) (by omega)]
    omega
  · have e : ce c2 + n32 3 = 1 ∨ ce c2 + n32 3 = 0 ∨ ce c2 + n32 3 = -1 ∨ ce c2 + n32 3 = -2 ∨ ce c2 + n32 3 = -3 := by
      unfold ce
      rw [if_neg q]
      repeat (first | decide | split)
    have t := n32_toInt (a := l) (by omega)
    constructor
    · intro z
      rw [z] at e
      rcases e with e | e | e | e | e
      · rw [e] at t; exact absurd t (by show ¬ (1 : Int) = (l : Int); omega)
      · rw [e] at t; exact absurd t (by show ¬ (0 : Int) = (l : Int); omega)
      · rw [e] at t; exact absurd t (by show ¬ (-1 : Int) = (l : Int); omega)
      · rw [e] at t; exact absurd t (by show ¬ (-2 : Int) = (l : Int); omega)
      · rw [e] at t; exact absurd t (by show ¬ (-3 : Int) = (l : Int); omega)
    · intro z; omega
theorem c_isJA {m n : Nat} {c : List Nat} {h : Hp} {Q : Int32 → Hp → Prop} (C : Cel n c h) (W : ∀ v ∈ c, CeB m v) (hm : m ≤ 900000) (hn : n + c.length ≤ 512) (k : Q (bI (isJA c)) h) : m_X8_isJustAfter (n32 n) (n32 c.length) h Q := by
  unfold m_X8_isJustAfter
  unfold isJA at k
  rw [show (-3 : Int32) = ce 4 from rfl, show (3 : Int32) = n32 3 from rfl, n32_lt (by omega) (by omega), show n32 n + 2 = n32 (n + 2) from n32_add _ 2]
  refine ⟨fun z => ?_, fun z => ?_⟩
  · have e : c.getD 2 0 = 0 := by rw [List.getD_eq_getElem?_getD, List.getElem?_eq_none (by omega)]; rfl
    rw [e, show ((0 : Nat) == c.length + 5) = false from by rw [beq_eq_false_iff_ne]; omega, Bool.and_false] at k
    exact k
  · have c0 := C 0 (by omega)
    have c2 := C 2 (by omega)
    rw [Nat.add_zero] at c0
    rw [n32_ix (by omega), n32_ix (by omega), c0, c2]
    have w0 := W _ (getD_mem (l := c) (d := 0) (show 0 < c.length by omega))
    have w2 := W _ (getD_mem (l := c) (d := 0) (show 2 < c.length by omega))
    have e0 : c.getD 0 9 = c.getD 0 0 := by
      rw [List.getD_eq_getElem?_getD, List.getD_eq_getElem?_getD, List.getElem?_eq_getElem (by omega)]; rfl
    rw [e0] at k
    have m8 : 8 ≤ m ∨ m < 8 := by omega
    have b4 : CeB (m + 8) 4 := Or.inr ⟨by omega, by omega⟩
    have w0' : CeB (m + 8) (c.getD 0 0) := by unfold CeB at w0 ⊢; omega
    refine ⟨vpI (by omega) (by decide), ?_⟩
    by_cases hm2 : m + 8 ≤ 1000000
    · rw [ce_inj w0' b4 hm2, ja_num w2 (by omega) (by omega) (by omega)]
      refine ⟨fun y => ?_, fun y => ⟨vpI (by omega) (by decide), fun y2 => ?_, fun y2 => ?_⟩⟩
      · rw [show (c.getD 0 0 == 4) = false from by rw [beq_eq_false_iff_ne]; exact y, Bool.false_and] at k; exact k
      · rw [show (c.getD 2 0 == c.length + 5) = false from by rw [beq_eq_false_iff_ne]; exact y2, Bool.and_false] at k; exact k
      · rw [y, y2, beq_self_eq_true, beq_self_eq_true] at k; exact k
    · exact absurd hm2 (by omega)
