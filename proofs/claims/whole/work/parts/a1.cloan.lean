/-! THE CLASS: codes that differ in no bit that tells -/
theorem nmB_bit {x : Ab} (K : OkA x) {l : List Nat} (hin : inD x l) (j : Nat) : (nmB (aD x) l).testBit j = if j < 5 then (bEvs (aD x) l).testBit j else decide (j - 5 < bChs (aD x) l) := by
  have he := bEvs_lt K hin
  unfold nmB
  rw [show bEvs (aD x) l + 32 * (2 ^ bChs (aD x) l - 1) = 2 ^ 5 * (2 ^ bChs (aD x) l - 1) + bEvs (aD x) l by omega, Nat.testBit_two_pow_mul_add _ he, Nat.testBit_two_pow_sub_one]
theorem bEvs_in : ∀ {D : List Dl} {l : List Nat} {a d j : Nat}, (a.testBit j = true ∨ d ∈ l ∧ (dE D d).testBit j = true) → (l.foldl (fun b d => b ||| dE D d) a).testBit j = true
  | D, [], a, d, j, h => by
    rcases h with h | ⟨h, -⟩
    · exact h
    · exact absurd h (by simp)
  | D, e :: l, a, d, j, h => by
    rw [List.foldl_cons]
    refine bEvs_in (d := d) ?_
    rcases h with h | ⟨h, h2⟩
    · left; rw [Nat.testBit_or, h]; rfl
    · rcases List.mem_cons.mp h with rfl | h
      · left; rw [Nat.testBit_or, h2, Bool.or_true]
      · exact Or.inr ⟨h, h2⟩
theorem bh_bit (m bf j : Nat) : (bh m bf).testBit j = if j < 5 then m.testBit j else (decide (bf ≤ j - 5) && m.testBit (j - bf)) := by
  unfold bh
  have e1 : m % 32 + m / 32 * 2 ^ bf * 32 = 2 ^ 5 * (2 ^ bf * (m / 32)) + m % 32 := by rw [Nat.mul_comm (m / 32)]; omega
  rw [e1, Nat.testBit_two_pow_mul_add _ (show m % 32 < 2 ^ 5 by omega)]
  by_cases q : j < 5
  · rw [if_pos q, if_pos q, show (32 : Nat) = 2 ^ 5 from rfl, Nat.testBit_mod_two_pow]; simp [q]
  · rw [if_neg q, if_neg q, Nat.testBit_two_pow_mul, show (32 : Nat) = 2 ^ 5 from rfl, Nat.testBit_div_two_pow]
    by_cases w : bf ≤ j - 5
    · rw [show j - 5 - bf + 5 = j - bf by omega]
    · simp [w]
theorem bChs_at {D : List Dl} {l : List Nat} {i : Nat} (hi : i < l.length) : bChs D (l.take i) + dC D (l.getD i 0) ≤ bChs D l := by
  have e : l = l.take i ++ (l.getD i 0 :: l.drop (i + 1)) := by
    rw [List.getD_eq_getElem?_getD, List.getElem?_eq_getElem hi, Option.getD_some, List.getElem_cons_drop, List.take_append_drop]
  have : bChs D l = bChs D (l.take i) + bChs D (l.getD i 0 :: l.drop (i + 1)) := by
    conv => lhs; rw [e]
    rw [bChs_app]
  rw [this]
  unfold bChs
  rw [List.map_cons, List.sum_cons]; omega
/-- an entry's mask holds bits of the bundle alone -/
theorem en_mask {x : Ab} {l : List Nat} {E : List Rec} (K : OkA x) (M : OkM x) (hin : inD x l) (T : TkP x l E) {e : Rec} (he : e ∈ E) {j : Nat} (hj : (e 4).testBit j = true) : (nmB (aD x) l).testBit j = true := by
  have h1 := T.1.mem_iff.mp he
  unfold bAll at h1
  obtain ⟨i, hi, h2⟩ := List.mem_flatMap.mp h1
  have hi' := List.mem_range.mp hi
  obtain ⟨q, hq, rfl⟩ := List.mem_map.mp h2
  obtain ⟨hq1, -⟩ := List.mem_filter.mp hq
  unfold cRows at hq1
  obtain ⟨r, hr, hr2⟩ := List.mem_flatMap.mp hq1
  have q4 : q 4 = r 9 := by
    split at hr2
    · exact absurd hr2 (by simp)
    · obtain ⟨q0, -, rfl⟩ := List.mem_map.mp hr2; rfl
  have hmem : l.getD i 0 ∈ l := by rw [List.getD_eq_getElem?_getD, List.getElem?_eq_getElem hi', Option.getD_some]; exact List.getElem_mem hi'
  have dl := hin _ hmem
  have mk := M _ dl r hr
  have c1 := bChs_at (D := aD x) hi'
  have e32 : dE (aD x) (l.getD i 0) < 2 ^ 5 := (K.1 _ dl).1.2.2.2.2.1
  have hj' : (bh (q 4) (bChs (aD x) (l.take i))).testBit j = true := hj
  rw [bh_bit, q4] at hj'
  rw [nmB_bit K hin]
  by_cases j5 : j < 5
  · rw [if_pos j5] at hj' ⊢
    rcases mk j hj' with y | y
    · exact bEvs_in (d := l.getD i 0) (Or.inr ⟨hmem, y⟩)
    · omega
  · rw [if_neg j5] at hj' ⊢
    rw [Bool.and_eq_true, decide_eq_true_iff] at hj'
    rcases mk _ hj'.2 with y | y
    · have : (dE (aD x) (l.getD i 0)).testBit (j - bChs (aD x) (l.take i)) = false := Nat.testBit_lt_two_pow (Nat.lt_of_lt_of_le e32 (pw_le (by omega)))
      have y' : (dE (aD x) (l.getD i 0)).testBit (j - bChs (aD x) (l.take i)) = true := y
      rw [this] at y'; cases y'
    · have y2 : j - bChs (aD x) (l.take i) < 5 + dC (aD x) (l.getD i 0) := y.2
      rw [decide_eq_true_iff]; omega
theorem btB_in : ∀ {E : List Rec} {b j : Nat}, (E.foldl (fun b e => b ||| e 4) b).testBit j = true ↔ (b.testBit j = true ∨ ∃ e ∈ E, (e 4).testBit j = true)
  | [], b, j => by simp
  | e :: E, b, j => by
    rw [List.foldl_cons, btB_in, Nat.testBit_or, Bool.or_eq_true]
    constructor
    · rintro ((y | y) | ⟨q, hq, y⟩)
      · exact Or.inl y
      · exact Or.inr ⟨e, by simp, y⟩
      · exact Or.inr ⟨q, by simp [hq], y⟩
    · rintro (y | ⟨q, hq, y⟩)
      · exact Or.inl (Or.inl y)
      · rcases List.mem_cons.mp hq with rfl | hq
        · exact Or.inl (Or.inr y)
        · exact Or.inr ⟨q, hq, y⟩
theorem btB_nm {x : Ab} {l : List Nat} {E : List Rec} (K : OkA x) (M : OkM x) (hin : inD x l) (T : TkP x l E) {j : Nat} (hj : (btB E).testBit j = true) : (nmB (aD x) l).testBit j = true := by
  rcases btB_in.mp hj with y | ⟨e, he, y⟩
  · exact absurd y (by simp)
  · exact en_mask K M hin T he y
theorem sub_and {a b : Nat} (h : ∀ j, a.testBit j = true → b.testBit j = true) : a &&& b = a := by
  apply Nat.eq_of_testBit_eq
  intro j
  rw [Nat.testBit_and]
  cases hj : a.testBit j with
  | false => rfl
  | true => rw [h j hj]; rfl
theorem psB_cut {E : List Rec} {e : Rec} (he : e ∈ E) (c : Nat) : psB (c &&& btB E) e = psB c e := by
  have : c &&& btB E &&& e 4 = c &&& e 4 := by
    have s : e 4 &&& btB E = e 4 := sub_and (fun j hj => btB_in.mpr (Or.inr ⟨e, he, hj⟩))
    rw [Nat.and_assoc, Nat.and_comm (btB E), s]
  unfold psB
  rw [this]
theorem lendsB_congr {F : Nat → Nat} {fl fl' : List Rec} (h : ∀ f t dd, netG F fl f t dd = netG F fl' f t dd) (l b : Nat) : lendsB F fl l b = lendsB F fl' l b := by
  have n0 : ∀ f t, net F fl f t = net F fl' f t := fun f t => by rw [← netG0, ← netG0, h]
  have nD : ∀ f d, netD F fl f 0 d = netD F fl' f 0 d := fun f d => by rw [← netGD, ← netGD, h]
  have cl : ∀ f, clean F fl f = clean F fl' f := fun f => by unfold clean; simp only [n0]
  have sq : seqN F fl l = seqN F fl' l := by
    unfold seqN
    have e : (List.range 3000).map (fun d => (d, netD F fl l 0 d)) = (List.range 3000).map (fun d => (d, netD F fl' l 0 d)) := List.map_congr_left (fun d _ => by rw [nD])
    rw [e]
  unfold lendsB
  rw [cl, cl, n0, n0, sq]
  cases lendDay (seqN F fl' l) with
  | none => rfl
  | some d => dsimp only; rw [nD]
theorem bLend_cut {x : Ab} {l : List Nat} {E : List Rec} (T : TkP x l E) (c p b : Nat) : bLend (aF x) (aD x) l (c &&& btB E) p b = bLend (aF x) (aD x) l c p b := by
  unfold bLend
  refine lendsB_congr (fun f t dd => ?_) p b
  rw [← nE_rows T, ← nE_rows T]
  have : E.filter (psB (c &&& btB E)) = E.filter (psB c) := List.filter_congr (fun e he => psB_cut he c)
  rw [this]
/-- codes within the bits that tell are enough -/
theorem all_cut {x : Ab} {l : List Nat} {E : List Rec} (K : OkA x) (M : OkM x) (hin : inD x l) (T : TkP x l E) {k : Nat} (hk : btB E < 2 ^ k) (p b : Nat) : (SM (btB E) k).all (fun c => bLend (aF x) (aD x) l c p b) = (codesL (aD x) l).all (fun c => bLend (aF x) (aD x) l c p b) := by
  rw [Bool.eq_iff_iff, List.all_eq_true, List.all_eq_true, codesL_SM K hin]
  constructor
  · intro H c hc
    rw [← bLend_cut T]
    refine H _ (SM_mem.mpr ⟨Nat.lt_of_le_of_lt Nat.and_le_right hk, ?_⟩)
    rw [Nat.and_assoc, Nat.and_self]
  · intro H c hc
    obtain ⟨-, h2⟩ := SM_mem.mp hc
    have bit : ∀ j, c.testBit j = true → (nmB (aD x) l).testBit j = true := by
      intro j hj
      refine btB_nm K M hin T (j := j) ?_
      rw [← h2, Nat.testBit_and, Bool.and_eq_true] at hj
      exact hj.2
    refine H c (SM_mem.mpr ⟨?_, sub_and bit⟩)
    have h3 : c &&& nmB (aD x) l = c := sub_and bit
    have he := bEvs_lt K hin
    have p2 := Nat.two_pow_pos (bChs (aD x) l)
    have : c ≤ nmB (aD x) l := by rw [← h3]; exact Nat.and_le_right
    have : nmB (aD x) l < 2 ^ (5 + bChs (aD x) l) := by unfold nmB; rw [Nat.pow_add]; omega
    omega
theorem btB_lt2 {x : Ab} {l : List Nat} {E : List Rec} (K : OkA x) (M : OkM x) (hin : inD x l) (T : TkP x l E) : btB E < 2 ^ (5 + bChs (aD x) l) := by
  have h3 : btB E &&& nmB (aD x) l = btB E := sub_and (fun j hj => btB_nm K M hin T hj)
  have he := bEvs_lt K hin
  have p2 := Nat.two_pow_pos (bChs (aD x) l)
  have : btB E ≤ nmB (aD x) l := by rw [← h3]; exact Nat.and_le_right
  have : nmB (aD x) l < 2 ^ (5 + bChs (aD x) l) := by unfold nmB; rw [Nat.pow_add]; omega
  omega
/-- the least bit -/
theorem ntz_tab : ∀ v : Fin 256, v.val ≠ 0 → ∃ t : Fin 8, v.val.testBit t.val = true ∧ (∀ b : Fin 8, b.val < t.val → v.val.testBit b.val = false) ∧ (n32 v.val ^^^ (-1)) &&& (n32 v.val - 1) = n32 (2 ^ t.val - 1) := by decide +kernel
theorem q_ntz {v : Nat} {h : Hp} {Q : Int32 → Hp → Prop} (hv : v < 256) (h0 : v ≠ 0) (k : ∀ t, t < 8 → v.testBit t = true → (∀ b, b < t → v.testBit b = false) → Q (n32 t) h) : m_J6_numberOfTrailingZeros_0f7a4 (n32 v) h Q := by
  obtain ⟨⟨t, ht⟩, h1, h2, h3⟩ := ntz_tab ⟨v, hv⟩ h0
  have kk := k t ht h1 (fun b hb => h2 ⟨b, by omega⟩ hb)
  dsimp only at h3
  unfold m_J6_numberOfTrailingZeros_0f7a4
  rw [h3]
  clear h1 h2 h3 k
  intro x7 e7
  subst e7
  have c8 : t = 0 ∨ t = 1 ∨ t = 2 ∨ t = 3 ∨ t = 4 ∨ t = 5 ∨ t = 6 ∨ t = 7 := by omega
  rcases c8 with rfl | rfl | rfl | rfl | rfl | rfl | rfl | rfl
  · exact ⟨fun z => absurd z (by decide), fun _ => kk⟩
  all_goals
    refine ⟨fun _ => ⟨fun _ => ?_, fun z => absurd (by decide) z⟩, fun z => absurd (by decide) z⟩
    unfold m_J6_numberOfTrailingZeros_0f7a4_34
    refine ⟨fun _ => ?_, fun z => absurd (by decide) z⟩
    unfold m_J6_numberOfTrailingZeros_0f7a4_49
  · refine ⟨fun _ => ⟨fun _ => kk, fun z => absurd (by decide) z⟩, fun z => absurd (by decide) z⟩
  · refine ⟨fun _ => ⟨fun _ => kk, fun z => absurd (by decide) z⟩, fun z => absurd (by decide) z⟩
  · refine ⟨fun _ => ⟨fun z => absurd z (by decide), fun _ x1 e1 x2 e2 => ?_⟩, fun z => absurd (by decide) z⟩
    subst e1; subst e2; exact kk
  · refine ⟨fun _ => ⟨fun z => absurd z (by decide), fun _ x1 e1 x2 e2 => ?_⟩, fun z => absurd (by decide) z⟩
    subst e1; subst e2; exact kk
  · refine ⟨fun z => absurd z (by decide), fun _ x1 e1 x2 e2 => ?_⟩
    subst e1; subst e2
    exact ⟨fun _ => kk, fun z => absurd (by decide) z⟩
  · refine ⟨fun z => absurd z (by decide), fun _ x1 e1 x2 e2 => ?_⟩
    subst e1; subst e2
    exact ⟨fun _ => kk, fun z => absurd (by decide) z⟩
  · refine ⟨fun z => absurd z (by decide), fun _ x1 e1 x2 e2 => ?_⟩
    subst e1; subst e2
    refine ⟨fun z => absurd z (by decide), fun _ x3 e3 x4 e4 => ?_⟩
    subst e3; subst e4; exact kk
