/-! THE CLASS: what isn't even; a weighing whole -/
def clA (A : Nat → Nat → Int) (f t : Nat) : Bool := (List.range t).all (fun t => A f (t + 1) == 0)
theorem clA_succ (A : Nat → Nat → Int) (f t : Nat) : clA A f (t + 1) = (clA A f t && (A f (t + 1) == 0)) := by simp [clA, List.range_succ, List.all_append]
def SFu (a k : Nat) : Prop := a = 14 ∧ (k = 18 ∨ k = 19)
theorem c_un29 {A : Nat → Nat → Int} {f : Nat} {v1 : Int32} {k69 : Int32 → Int32 → Hp → Prop} {Q : Hp → Prop} {h0 : Hp} {u : Nat → Bool} (hf : f < 8) (hA : ∀ t, t < 6 → t ≠ 0 → hJ h0 19 (6 * f + t) = z64 (A f t)) (bA : ∀ t, -3000000000000 ≤ A f t ∧ A f t ≤ 3000000000000)
    (k : ∀ h' un, fr (fun a k => a = 14 ∧ k = 18) h0 h' → un < 256 → hI h' 14 18 = n32 un → (∀ j, j ≠ f → un.testBit j = u j) → un.testBit f = !clA A f 5 → k69 v1 (n32 f) h') :
    ∀ (r t : Nat) (h : Hp) (un : Nat), r + t = 5 → fr (fun a k => a = 14 ∧ k = 18) h0 h → un < 256 → hI h 14 18 = n32 un → (∀ j, j ≠ f → un.testBit j = u j) → un.testBit f = !clA A f t → m_X5_findUneven_29 (r + 1) k69 Q v1 (n32 f) (n32 (t + 1)) h := by
  intro r
  induction r with
  | zero =>
    intro t h un e f1 b e18 o1 o2
    have : t = 5 := by omega
    subst this
    rw [m_X5_findUneven_29, show (6 : Int32) = n32 6 from rfl, n32_le (by omega) (by omega)]
    exact ⟨fun _ => k h un f1 b e18 o1 o2, fun z => absurd (by omega) z⟩
  | succ r ih =>
    intro t h un e f1 b e18 o1 o2
    have bt := bA (t + 1)
    have pf := pw_le (show f ≤ 7 by omega)
    have a1 : hJ h 19 (f * 6 + (t + 1)) = z64 (A f (t + 1)) := by rw [f1.J (by omega), Nat.mul_comm]; exact hA _ (by omega) (by omega)
    rw [m_X5_findUneven_29, show (6 : Int32) = n32 6 from rfl, n32_le (by omega) (by omega), n32_mul, n32_add, n32_ix (by omega), a1, show (0 : Int64) = z64 0 from rfl, show (0 : Int32) = n32 0 from rfl, lgc_eq (by omega) (by omega) (by omega) (by omega), e18, show (1 : Int32) = n32 1 from rfl, show (31 : Int32) = n32 31 from rfl, shl1 (by omega), n32_or (by omega) (by omega)]
    unfold m_X5_findUneven_63
    refine ⟨fun z => absurd z (by omega), fun _ => ⟨vpI (by omega) (by decide), fun z x2 e2 => ?_, fun z x2 e2 => ?_⟩⟩
    · rw [e2, show n32 (t + 1) + 1 = n32 (t + 1 + 1) from n32_add _ 1]
      refine ih (t + 1) h un (by omega) f1 b e18 o1 ?_
      rw [o2, clA_succ, z]; simp
    · rw [e2, show n32 (t + 1) + 1 = n32 (t + 1 + 1) from n32_add _ 1]
      refine ih (t + 1) _ (un ||| 2 ^ f) (by omega) (fr_wI f1 _ ⟨rfl, rfl⟩) (or_256 b hf) (by rw [hI_wI, if_pos ⟨rfl, rfl⟩]) (fun j hj => ?_) ?_
      · rw [tb_or, o1 j hj]; simp; omega
      · rw [tb_or, clA_succ]
        have : (A f (t + 1) == 0) = false := by simpa using z
        simp [this]
set_option maxHeartbeats 4000000 in
set_option maxRecDepth 100000 in
theorem c_findUneven {L : List Nat} {A : Nat → Nat → Int} {S : Nat → Int} {h : Hp} {Q : Hp → Prop} (Pr : PrA L h) (hA : ∀ f t, f < 8 → t < 6 → t ≠ 0 → hJ h 19 (6 * f + t) = z64 (A f t)) (hS : ∀ f, f < 8 → hJ h 21 f = z64 (S f)) (bA : ∀ f t, -3000000000000 ≤ A f t ∧ A f t ≤ 3000000000000) (bS : ∀ f, -9000000000000000 ≤ S f ∧ S f ≤ 9000000000000000) (Z : ∀ f, f < 8 → f ∉ L → (∀ t, A f t = 0) ∧ S f = 0)
    (k : ∀ h' un be, fr SFu h h' → un < 256 → be < 256 → hI h' 14 18 = n32 un → hI h' 14 19 = n32 be → (∀ f, f < 8 → un.testBit f = !clA A f 5 ∧ be.testBit f = decide (S f < 0)) → Q h') : m_X5_findUneven h Q := by
  have l8 := Pr.2.1
  have main : ∀ (rest pre : List Nat) (h1 : Hp) (un be : Nat), L = pre ++ rest → fr SFu h h1 → un < 256 → be < 256 → hI h1 14 18 = n32 un → hI h1 14 19 = n32 be → (∀ f, f < 8 → un.testBit f = (decide (f ∈ pre) && !clA A f 5) ∧ be.testBit f = (decide (f ∈ pre) && decide (S f < 0))) → m_X5_findUneven_12 (rest.length + 1) Q (n32 pre.length) h1 := by
    intro rest
    induction rest with
    | nil =>
      intro pre h1 un be e f1 b1 b2 e18 e19 o
      rw [List.append_nil] at e
      have P1 := Pr.mv f1 (by unfold SFu; omega) (by unfold SFu; omega)
      rw [m_X5_findUneven_12, P1.1, e, n32_le (by rw [← e]; omega) (by rw [← e]; omega)]
      refine ⟨fun _ => k h1 un be f1 b1 b2 e18 e19 (fun f hf => ?_), fun z => absurd (Nat.le_refl _) z⟩
      obtain ⟨o1, o2⟩ := o f hf
      rw [o1, o2]
      by_cases q : f ∈ pre
      · simp [q]
      · obtain ⟨z1, z2⟩ := Z f hf (by rw [e]; exact q)
        simp [q, clA, z1, z2]
    | cons p rest ih =>
      intro pre h1 un be e f1 b1 b2 e18 e19 o
      have P1 := Pr.mv f1 (by unfold SFu; omega) (by unfold SFu; omega)
      have P1' := P1
      rw [e] at P1'
      obtain ⟨e17, p8, pl, pn⟩ := P1'.mid
      have el : L.length = pre.length + (rest.length + 1) := by rw [e]; simp
      have pp := pw_le (show p ≤ 7 by omega)
      have bs := bS p
      have nx := ih (pre ++ [p])
      rw [List.length_append] at nx
      rw [m_X5_findUneven_12, P1.1, n32_le (by omega) (by omega), n32_ix (by omega), e17]
      refine ⟨fun z => absurd z (by omega), fun _ => ⟨vpI pl (by decide), fun x3 e3 => ?_⟩⟩
      subst e3
      refine ⟨6, c_un29 (A := A) (h0 := h1) (u := fun j => un.testBit j) p8 (fun t ht h0 => by rw [f1.J (by unfold SFu; omega)]; exact hA p t p8 ht h0) (fun t => bA p t) (fun h2 un2 f2 c1 c2 c3 c4 => ?_) 5 0 h1 un rfl (fr.rf _ _) b1 e18 (fun _ _ => rfl) ?_⟩
      · have fS : fr SFu h h2 := f1.trans (f2.mono (by unfold SFu; omega))
        have a21 : hJ h2 21 p = z64 (S p) := by rw [fS.J (by unfold SFu; omega)]; exact hS p p8
        have a19 : hI h2 14 19 = n32 be := by rw [f2.I (by omega)]; exact e19
        unfold m_X5_findUneven_69 m_X5_findUneven_92
        rw [n32_ix (by omega), a21, a19, show (0 : Int64) = z64 0 from rfl, show (0 : Int32) = n32 0 from rfl, lgc_ge (by omega) (by omega) (by omega) (by omega), show (1 : Int32) = n32 1 from rfl, show (31 : Int32) = n32 31 from rfl, shl1 (by omega), n32_or (by omega) (by omega)]
        have un2' : ∀ f, f < 8 → un2.testBit f = (decide (f ∈ pre ++ [p]) && !clA A f 5) := by
          intro f hf
          by_cases y : f = p
          · subst y; rw [c4]; simp
          · rw [c3 f y, (o f hf).1]; simp [y]
        refine ⟨vpI p8 (by decide), fun z x1 e1 => ?_, fun z x1 e1 => ?_⟩
        · rw [e1, n32_add]
          refine nx h2 un2 be (by rw [e]; simp) fS c1 b2 c2 a19 (fun f hf => ⟨un2' f hf, ?_⟩)
          rw [(o f hf).2]
          by_cases y : f = p
          · subst y
            have : ¬ S f < 0 := by omega
            simp [pn, this]
          · simp [y]
        · rw [e1, n32_add]
          refine nx _ un2 (be ||| 2 ^ p) (by rw [e]; simp) (fr_wI fS _ ⟨rfl, Or.inr rfl⟩) c1 (or_256 b2 p8) (by rw [hI_wI, if_neg (by omega)]; exact c2) (by rw [hI_wI, if_pos ⟨rfl, rfl⟩]) (fun f hf => ⟨un2' f hf, ?_⟩)
          rw [tb_or, (o f hf).2]
          by_cases y : f = p
          · subst y
            have : S f < 0 := by omega
            simp [pn, this]
          · have : ¬ p = f := fun w => y w.symm
            simp [y, this]
      · rw [(o p p8).1]; simp [pn, clA]
  unfold m_X5_findUneven
  refine ⟨_, main L [] _ 0 0 rfl (fr_wI (fr_wI (fr.rf _ _) _ ⟨rfl, Or.inl rfl⟩) _ ⟨rfl, Or.inr rfl⟩) (by decide) (by decide) (by rw [hI_wI, if_neg (by omega), hI_wI, if_pos ⟨rfl, rfl⟩]; rfl) (by rw [hI_wI, if_pos ⟨rfl, rfl⟩]; rfl) (fun f hf => by simp)⟩
