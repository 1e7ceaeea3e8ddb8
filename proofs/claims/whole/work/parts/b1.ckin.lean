/-! THE CLASS: what hangs together -/
def KdA (x : Ab) (da : Nat → Nat) (h : Hp) : Prop := ∀ d, d < (aD x).length → hR h 8 d = some (da d) ∧ hI h (da d) 0 = n32 d ∧ hI h (da d) 1 = n32 (dG (aD x) d) ∧ hI h (da d) 5 = n32 (thBits (dL (aD x) d)) ∧ 108 ≤ da d
theorem InvC.kd {x : Ab} {da : Nat → Nat} {h : Hp} (I : InvC x da h) : KdA x da h := fun d hd => by
  obtain ⟨a1, a2, a3, a4⟩ := I.2.2.1.da hd
  exact ⟨a1, a3, a4.1, a4.2.2.2.2.1, a2.1⟩
theorem KdA.mv {x : Ab} {da : Nat → Nat} {h h' : Hp} {S : Nat → Nat → Prop} (D : KdA x da h) (f : fr S h h') (n : ∀ a k, S a k → a ≠ 8 ∧ a < 108) : KdA x da h' := fun d hd => by
  obtain ⟨a1, a2, a3, a4, a5⟩ := D d hd
  exact ⟨by rw [f.R (fun z => (n _ _ z).1 rfl)]; exact a1, by rw [f.I (fun z => by have := n _ _ z; omega)]; exact a2, by rw [f.I (fun z => by have := n _ _ z; omega)]; exact a3, by rw [f.I (fun z => by have := n _ _ z; omega)]; exact a4, a5⟩
theorem thB64 {L : List Rec} (hL : ∀ r ∈ L, LfOk r) : thBits L < 64 := by
  have : ∀ (L : List Rec) (b : Nat), b < 2 ^ 6 → (∀ r ∈ L, LfOk r) → L.foldl (fun b r => b ||| 2 ^ r 3) b < 2 ^ 6 := by
    intro L
    induction L with
    | nil => intro b hb _; exact hb
    | cons r L ih =>
      intro b hb h
      rw [List.foldl_cons]
      have r3 := (h r (by simp)).2.2.2.2.1
      have := pw_le (show r 3 ≤ 5 by omega)
      exact ih _ (Nat.or_lt_two_pow hb (by omega)) (fun q hq => h q (by simp [hq]))
  exact this L 0 (by decide) hL
theorem and62 : ∀ a : Fin 64, n32 a.val &&& (-2) = n32 (a.val &&& 62) := by decide +kernel
theorem c_hang {x : Ab} {da : Nat → Nat} {n i j : Nat} {h : Hp} {Q : Int32 → Hp → Prop} (D : KdA x da h) (K : OkA x) (hn : n < 2147483648) (hi : i < (aD x).length) (hj : j < (aD x).length) (i24 : i < 24) (j24 : j < 24) (fi : hI h 50 i = n32 (faBits (aF x) (dL (aD x) i))) (fj : hI h 50 j = n32 (faBits (aF x) (dL (aD x) j))) (k1 : hangB x n i j = true → Q 1 h) (k0 : hangB x n i j = false → Q 0 h) : m_X4_hangTogether (da i) (da j) (n32 n) h Q := by
  obtain ⟨-, a1, a2, a3, -⟩ := D i hi
  obtain ⟨-, b1, b2, b3, -⟩ := D j hj
  have oi := (K.1 i hi).1.2.2.2.2.2.2.1
  have oj := (K.1 j hj).1.2.2.2.2.2.2.1
  have ti := thB64 oi
  have tj := thB64 oj
  have gi := (K.1 i hi).2
  have gj := (K.1 j hj).2
  have ffi := (fold_lt (aF x) _ oi K.2).2
  have ffj := (fold_lt (aF x) _ oj K.2).2
  have ti' : thBits (dL (aD x) i) < 64 := ti
  have tj' : thBits (dL (aD x) j) < 64 := tj
  have ffi' : faBits (aF x) (dL (aD x) i) < 256 := ffi
  have ffj' : faBits (aF x) (dL (aD x) j) < 256 := ffj
  have tt : thBits (dL (aD x) i) &&& thBits (dL (aD x) j) < 64 := Nat.lt_of_le_of_lt Nat.and_le_left ti'
  have t62 := and62 ⟨thBits (dL (aD x) i) &&& thBits (dL (aD x) j), tt⟩
  dsimp only at t62
  have t2 : thBits (dL (aD x) i) &&& thBits (dL (aD x) j) &&& 62 < 2147483648 := Nat.lt_of_le_of_lt Nat.and_le_left (by omega)
  have f2 : faBits (aF x) (dL (aD x) i) &&& faBits (aF x) (dL (aD x) j) < 2147483648 := Nat.lt_of_le_of_lt Nat.and_le_left (by omega)
  have ab : (if (0 : Int32) ≤ n32 (dG (aD x) i) - n32 (dG (aD x) j) then n32 (dG (aD x) i) - n32 (dG (aD x) j) else 0 - (n32 (dG (aD x) i) - n32 (dG (aD x) j))) = n32 ((dG (aD x) i - dG (aD x) j) + (dG (aD x) j - dG (aD x) i)) := by
    by_cases y : dG (aD x) j ≤ dG (aD x) i
    · rw [n32_sub y, if_pos (by rw [show (0 : Int32) = n32 0 from rfl, n32_le (by decide) (by omega)]; omega)]
      congr 1; omega
    · have ng := n32_subneg (p := dG (aD x) i) (q := dG (aD x) j) (by omega) (by omega)
      rw [if_neg (by rw [show (0 : Int32) = n32 0 from rfl]; exact Int32.not_le.mpr ng), Int32.zero_sub, Int32.neg_sub, n32_sub (by omega)]
      congr 1; omega
  unfold m_X4_hangTogether
  intro x1 e1
  rw [a3, b3, n32_and (by omega) (by omega), t62] at e1
  subst e1
  rw [a1, b1, a2, b2, ab, n32_ix (by omega), n32_ix (by omega), fi, fj, n32_and (by omega) (by omega), show (0 : Int32) = n32 0 from rfl, n32_eq t2 (by decide), n32_eq f2 (by decide), n32_lt hn (by omega)]
  refine ⟨fun z => k0 ?_, fun z => ⟨vpI i24 (by decide), vpI j24 (by decide), fun z2 => k0 ?_, fun z2 => ⟨fun z3 => k0 ?_, fun z3 => k1 ?_⟩⟩⟩
  · unfold hangB; rw [z]; simp
  · unfold hangB; rw [z2]; simp
  · unfold hangB
    rw [show decide (dG (aD x) i - dG (aD x) j + (dG (aD x) j - dG (aD x) i) ≤ n) = false from decide_eq_false (by omega)]; simp
  · unfold hangB
    rw [show decide (dG (aD x) i - dG (aD x) j + (dG (aD x) j - dG (aD x) i) ≤ n) = true from decide_eq_true (by omega)]
    simp [z, z2]
/-- two labels become one -/
def jn (g : Nat → Nat) (a b : Nat) : Nat → Nat := fun d => if g d = a ∨ g d = b then (if b < a then b else a) else g d
set_option maxHeartbeats 4000000 in
set_option maxRecDepth 100000 in
theorem c_join {g : Nat → Nat} {a b i : Nat} {h0 : Hp} {Q : Hp → Prop} (hi : i < 24) (ha : a < 24) (hb : b < 24) (G : ∀ d, d ≤ i → hI h0 47 d = n32 (g d) ∧ g d < 24) (k : ∀ h', fr (fun a _ => a = 47) h0 h' → (∀ d, d ≤ i → hI h' 47 d = n32 (jn g a b d) ∧ jn g a b d < 24) → Q h') : m_X4_join (n32 a) (n32 b) (n32 i) h0 Q := by
  unfold m_X4_join
  intro x2 e2
  have e2' : x2 = n32 (if b < a then b else a) := by
    rw [e2]
    by_cases y : b < a
    · rw [if_pos y, if_pos ((n32_lt (by omega) (by omega)).mpr y)]
    · rw [if_neg y, if_neg (fun w => y ((n32_lt (by omega) (by omega)).mp w))]
  subst e2'
  clear e2
  have ml : (if b < a then b else a) < 24 := by split <;> omega
  have jl : ∀ d, d ≤ i → jn g a b d < 24 := fun d hd => by
    unfold jn
    have := (G d hd).2
    split
    · exact ml
    · exact this
  have main : ∀ (r v : Nat) (h : Hp), r + v = i + 1 → fr (fun a _ => a = 47) h0 h → (∀ d, d ≤ i → hI h 47 d = n32 (if d < v then jn g a b d else g d)) → m_X4_join_10 (r + 1) Q (n32 a) (n32 b) (n32 i) (n32 (if b < a then b else a)) (n32 v) h := by
    intro r
    induction r with
    | zero =>
      intro v h e f A
      rw [m_X4_join_10, n32_lt (by omega) (by omega)]
      refine ⟨fun _ => k h f (fun d hd => ⟨?_, jl d hd⟩), fun z => absurd (by omega) z⟩
      rw [A d hd, if_pos (by omega)]
    | succ r ih =>
      intro v h e f A
      have gv := (G v (by omega)).2
      have av := A v (by omega)
      rw [if_neg (by omega)] at av
      have setv : (g v = a ∨ g v = b) → m_X4_join_38 (fun (v1 v2 v3 v4 v5 : Int32) hh => m_X4_join_10 (r + 1) Q v1 v2 v3 v4 v5 hh) Q (n32 a) (n32 b) (n32 i) (n32 (if b < a then b else a)) (n32 v) h := by
        intro c
        unfold m_X4_join_38 m_X4_join_47
        rw [n32_ix (by omega)]
        refine ⟨vpI (by omega) (by decide), fun x1 e1 => ?_⟩
        rw [e1, show n32 v + 1 = n32 (v + 1) from n32_add _ 1]
        refine ih (v + 1) _ (by omega) (fr_wI f _ rfl) (fun d hd => ?_)
        rw [hI_wI]
        by_cases y : d = v
        · subst y
          rw [if_pos ⟨rfl, rfl⟩, if_pos (show d < d + 1 by omega)]
          unfold jn
          rw [if_pos c]
        · rw [if_neg (fun w => y w.2), A d hd]
          by_cases q : d < v
          · rw [if_pos q, if_pos (by omega)]
          · rw [if_neg q, if_neg (by omega)]
      rw [m_X4_join_10, n32_lt (by omega) (by omega), n32_ix (by omega), av, n32_eq (by omega) (by omega), n32_eq (by omega) (by omega)]
      refine ⟨fun z => absurd z (by omega), fun _ => ⟨vpI (by omega) (by decide), fun z => setv (Or.inl z), fun z => ⟨vpI (by omega) (by decide), fun z2 => ?_, fun z2 => setv (Or.inr z2)⟩⟩⟩
      unfold m_X4_join_47
      intro x1 e1
      rw [e1, show n32 v + 1 = n32 (v + 1) from n32_add _ 1]
      refine ih (v + 1) h (by omega) f (fun d hd => ?_)
      rw [A d hd]
      by_cases y : d = v
      · subst y
        rw [if_neg (by omega), if_pos (by omega)]
        unfold jn
        rw [if_neg (fun w => w.elim z z2)]
      · by_cases q : d < v
        · rw [if_pos q, if_pos (by omega)]
        · rw [if_neg q, if_neg (by omega)]
  exact ⟨_, main (i + 1) 0 h0 rfl (fr.rf _ _) (fun d hd => by rw [if_neg (by omega)]; exact (G d hd).1)⟩
