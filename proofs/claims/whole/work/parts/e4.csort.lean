/-! THE CLASS: rows by days -/
def ByA (a : Nat) (p : List Nat) (h : Hp) : Prop := ∀ j, j < p.length → hI h (a + 4) j = n32 (p.getD j 0)
theorem c_dayOf {a k d : Nat} {h : Hp} {Q : Int32 → Hp → Prop} (hk : k < 36) (e : hI h (a + 2) (6 * k) = n32 d) (q : Q (n32 d) h) : m_X1_dayOf a (n32 k) h Q := by
  unfold m_X1_dayOf
  rw [show n32 k * 6 + 0 = n32 (6 * k) by rw [show (6 : Int32) = n32 6 from rfl, n32_mul, show (0 : Int32) = n32 0 from rfl, n32_add, Nat.mul_comm]; rfl, n32_ix (by omega), e]
  exact ⟨vpI (by omega) (by decide), q⟩
def Ins (a i : Nat) (p1 p2 : List Nat) (h : Hp) : Prop := ByA a p1 h ∧ ∀ j, j < p2.length → hI h (a + 4) (p1.length + 1 + j) = n32 (p2.getD j 0)
set_option maxHeartbeats 4000000 in
set_option maxRecDepth 100000 in
theorem c_ins {a i n : Nat} {D : Nat → Nat} {p : List Nat} {h0 : Hp} {k2 : Nat → Int32 → Hp → Prop} {Q : Hp → Prop} (hi : i < n) (hn : n ≤ 36) (pl : p.length = i) (pm : ∀ q ∈ p, q < i) (hD : ∀ k, k < n → hI h0 (a + 2) (6 * k) = n32 (D k) ∧ D k < 3000) (pw : p.Pairwise (fun u v => D u ≤ D v))
    (k : ∀ h' p1 p2, p = p1 ++ p2 → (∀ q ∈ p1, D q ≤ D i) → (∀ q ∈ p2, D i < D q) → fr (fun q _ => q = a + 4) h0 h' → ByA a (p1 ++ i :: p2) h' → k2 a (n32 (i + 1)) h') :
    ∀ (m : Nat) (p1 p2 : List Nat) (h : Hp), p1.length = m → p = p1 ++ p2 → (∀ q ∈ p2, D i < D q) → fr (fun q _ => q = a + 4) h0 h → Ins a i p1 p2 h → m_X1_sortByDay_12 (m + 1) (m_X1_sortByDay_56 k2 Q) Q a (n32 i) (n32 m) h := by
  have fin : ∀ (p1 p2 : List Nat) (h : Hp), p = p1 ++ p2 → (∀ q ∈ p1, D q ≤ D i) → (∀ q ∈ p2, D i < D q) → fr (fun q _ => q = a + 4) h0 h → Ins a i p1 p2 h → m_X1_sortByDay_56 k2 Q a (n32 i) (n32 p1.length) h := by
    intro p1 p2 h e h1 h2 f I
    have el : p.length = p1.length + p2.length := by rw [e, List.length_append]
    unfold m_X1_sortByDay_56
    refine ⟨vpI (by omega) (by decide), fun x1 e1 => ?_⟩
    rw [e1, show n32 i + 1 = n32 (i + 1) from n32_add _ 1, n32_ix (by omega)]
    refine k _ p1 p2 e h1 h2 (fr_wI f _ rfl) (fun j hj => ?_)
    rw [List.length_append, List.length_cons] at hj
    by_cases q1 : j < p1.length
    · rw [hI_wI, if_neg (by omega), gD_l q1]; exact I.1 j q1
    · rw [gD_r (by omega)]
      by_cases q2 : j = p1.length
      · subst q2; rw [hI_wI, if_pos ⟨rfl, rfl⟩, Nat.sub_self]; rfl
      · rw [hI_wI, if_neg (by omega)]
        obtain ⟨s, rfl⟩ : ∃ s, j = p1.length + 1 + s := ⟨j - p1.length - 1, by omega⟩
        rw [I.2 s (by omega), show p1.length + 1 + s - p1.length = s + 1 by omega]; rfl
  intro m
  induction m with
  | zero =>
    intro p1 p2 h hl e h2 f I
    have e1 : p1 = [] := List.length_eq_zero_iff.mp hl
    subst e1
    rw [m_X1_sortByDay_12, show (0 : Int32) = n32 0 from rfl, n32_le (by decide) (by decide)]
    exact ⟨fun _ => fin [] p2 h e (fun q hq => absurd hq (by simp)) h2 f I, fun z => absurd (by omega) z⟩
  | succ m ih =>
    intro p1 p2 h hl e h2 f I
    rcases snoc_cases p1 with e1 | ⟨u, q, e1⟩
    · rw [e1] at hl; exact absurd hl (by simp)
    have ul : u.length = m := by rw [e1, List.length_append, List.length_singleton] at hl; omega
    have el : p.length = p1.length + p2.length := by rw [e, List.length_append]
    have qi : q < i := pm q (by rw [e, e1]; simp)
    have yq : hI h (a + 4) m = n32 q := by
      have := I.1 m (by omega)
      rw [this, e1, ← ul, gD_r (Nat.le_refl _), Nat.sub_self]; rfl
    have dq := hD q (by omega)
    have di := hD i (by omega)
    rw [m_X1_sortByDay_12, show (0 : Int32) = n32 0 from rfl, n32_le (by omega) (by decide), show n32 (m + 1) - 1 = n32 m by rw [show (1 : Int32) = n32 1 from rfl, n32_sub (by omega)]; rfl, n32_ix (by omega), n32_ix (by omega), yq]
    refine ⟨fun z => absurd z (by omega), fun _ => ⟨vpI (by omega) (by decide), ?_⟩⟩
    refine c_dayOf (by omega) (by rw [f.I (by omega)]; exact dq.1) ?_
    refine c_dayOf (by omega) (by rw [f.I (by omega)]; exact di.1) ?_
    rw [n32_le (by omega) (by omega)]
    refine ⟨fun z => ?_, fun z => ⟨vpI (by omega) (by decide), vpI (by omega) (by decide), fun x6 e6 => ?_⟩⟩
    · have := fin p1 p2 h e (fun v hv => ?_) h2 f I
      · rw [hl] at this; exact this
      · rw [e1] at hv
        rw [List.mem_append, List.mem_singleton] at hv
        rcases hv with hv | rfl
        · have pw' := pw
          rw [e, e1, List.append_assoc, List.pairwise_append] at pw'
          have := pw'.2.2 v hv q (by simp)
          omega
        · exact z
    · rw [e6, show n32 (m + 1) + -1 = n32 m by rw [show (n32 (m + 1) + -1 : Int32) = n32 (m + 1) - 1 from by rw [Int32.sub_eq_add_neg], show (1 : Int32) = n32 1 from rfl, n32_sub (by omega)]; rfl, yq]
      refine ih u (q :: p2) _ ul (by rw [e, e1]; simp) (fun v hv => ?_) (fr_wI f _ rfl) ⟨fun j hj => ?_, fun j hj => ?_⟩
      · rw [List.mem_cons] at hv
        rcases hv with rfl | hv
        · omega
        · exact h2 v hv
      · rw [hI_wI, if_neg (by omega), I.1 j (by omega), e1, gD_l hj]
      · rw [List.length_cons] at hj
        rw [ul]
        cases j with
        | zero => rw [Nat.add_zero, hI_wI, if_pos ⟨rfl, rfl⟩]; rfl
        | succ j =>
          rw [hI_wI, if_neg (by omega)]
          have := I.2 j (by omega)
          rw [hl] at this
          rw [show m + 1 + (j + 1) = m + 1 + 1 + j by omega, this]; rfl
set_option maxHeartbeats 4000000 in
set_option maxRecDepth 100000 in
theorem c_sort {a n : Nat} {D : Nat → Nat} {h0 : Hp} {Q : Hp → Prop} (ha : 108 ≤ a) (hn : n ≤ 36) (e6 : hI h0 a 6 = n32 n) (hD : ∀ k, k < n → hI h0 (a + 2) (6 * k) = n32 (D k) ∧ D k < 3000) (k : ∀ h' p, fr (fun q _ => q = a + 4) h0 h' → p.Perm (List.range n) → p.Pairwise (fun u v => D u ≤ D v) → ByA a p h' → Q h') : m_X1_sortByDay a h0 Q := by
  unfold m_X1_sortByDay
  have main : ∀ (r i : Nat) (p : List Nat) (h : Hp), r + i = n → p.Perm (List.range i) → p.Pairwise (fun u v => D u ≤ D v) → fr (fun q _ => q = a + 4) h0 h → ByA a p h → m_X1_sortByDay_2 (r + 1) Q a (n32 i) h := by
    intro r
    induction r with
    | zero =>
      intro i p h hr pe pw f B
      rw [m_X1_sortByDay_2, f.I (by omega), e6, n32_le (by omega) (by omega)]
      refine ⟨fun _ => k h p f ?_ pw B, fun z => absurd (by omega) z⟩
      rw [show n = i by omega]; exact pe
    | succ r ih =>
      intro i p h hr pe pw f B
      have pl : p.length = i := by rw [pe.length_eq, List.length_range]
      have pm : ∀ q ∈ p, q < i := fun q hq => List.mem_range.mp (pe.mem_iff.mp hq)
      rw [m_X1_sortByDay_2, f.I (by omega), e6, n32_le (by omega) (by omega)]
      refine ⟨fun z => absurd z (by omega), fun _ => ⟨i + 1, ?_⟩⟩
      refine c_ins (n := n) (p := p) (h0 := h0) (D := D) (by omega) hn pl pm hD pw (fun h' p1 p2 e h1 h2 f' B' => ?_) i p [] h pl (by simp) (fun q hq => absurd hq (by simp)) f ⟨B, fun j hj => absurd hj (by simp)⟩
      refine ih (i + 1) (p1 ++ i :: p2) h' (by omega) ?_ ?_ f' B'
      · rw [List.range_succ]
        refine List.perm_middle.trans ?_
        rw [← e]
        exact (List.Perm.cons i pe).trans (List.perm_append_singleton i (List.range i)).symm
      · rw [e, List.pairwise_append] at pw
        rw [List.pairwise_append, List.pairwise_cons]
        refine ⟨pw.1, ⟨fun v hv => Nat.le_of_lt (h2 v hv), pw.2.1⟩, fun u hu v hv => ?_⟩
        rw [List.mem_cons] at hv
        rcases hv with rfl | hv
        · exact h1 u hu
        · exact pw.2.2 u hu v hv
  exact ⟨_, main n 0 [] h0 (by omega) (by simp) List.Pairwise.nil (fr.rf _ _) (fun j hj => absurd hj (by simp))⟩
