/-! DAYS IN ORDER -/
theorem pw_ext : ∀ {l m : List Nat}, l.Pairwise (· < ·) → m.Pairwise (· < ·) → (∀ x, x ∈ l ↔ x ∈ m) → l = m
  | [], [], _, _, _ => rfl
  | [], b :: m, _, _, h => absurd ((h b).mpr (by simp)) (by simp)
  | a :: l, [], _, _, h => absurd ((h a).mp (by simp)) (by simp)
  | a :: l, b :: m, h1, h2, h => by
    rw [List.pairwise_cons] at h1 h2
    have hab : a = b := by
      have ha : a ∈ b :: m := (h a).mp (by simp)
      have hb : b ∈ a :: l := (h b).mpr (by simp)
      rw [List.mem_cons] at ha hb
      rcases ha with e | ha
      · exact e
      · rcases hb with e | hb
        · exact e.symm
        · have := h1.1 b hb
          have := h2.1 a ha
          omega
    subst hab
    congr 1
    refine pw_ext h1.2 h2.2 (fun x => ?_)
    constructor
    · intro hx
      have := (h x).mp (by simp [hx])
      rw [List.mem_cons] at this
      rcases this with e | e
      · have := h1.1 x hx; omega
      · exact e
    · intro hx
      have := (h x).mpr (by simp [hx])
      rw [List.mem_cons] at this
      rcases this with e | e
      · have := h2.1 x hx; omega
      · exact e
/-- a day comes among the others, in its place -/
def insD (d : Nat) : List Nat → List Nat
  | [] => [d]
  | e :: t => if e < d then e :: insD d t else if e = d then e :: t else d :: e :: t
theorem insD_mem (d : Nat) : ∀ l x, x ∈ insD d l ↔ x = d ∨ x ∈ l
  | [], x => by simp [insD]
  | e :: t, x => by
    unfold insD
    split
    · rw [List.mem_cons, insD_mem d t, List.mem_cons]
      constructor
      · rintro (h | h | h)
        · exact Or.inr (Or.inl h)
        · exact Or.inl h
        · exact Or.inr (Or.inr h)
      · rintro (h | h | h)
        · exact Or.inr (Or.inl h)
        · exact Or.inl h
        · exact Or.inr (Or.inr h)
    · split
      · rename_i q
        rw [List.mem_cons]
        constructor
        · exact Or.inr
        · rintro (h | h)
          · left; rw [h, q]
          · exact h
      · simp
theorem insD_pw (d : Nat) : ∀ {l : List Nat}, l.Pairwise (· < ·) → (insD d l).Pairwise (· < ·)
  | [], _ => by simp [insD]
  | e :: t, h => by
    rw [List.pairwise_cons] at h
    unfold insD
    split
    · rename_i q
      rw [List.pairwise_cons]
      refine ⟨fun x hx => ?_, insD_pw d h.2⟩
      rw [insD_mem] at hx
      rcases hx with rfl | hx
      · exact q
      · exact h.1 x hx
    · split
      · rw [List.pairwise_cons]; exact h
      · rename_i q1 q2
        rw [List.pairwise_cons, List.pairwise_cons]
        refine ⟨fun x hx => ?_, h⟩
        rw [List.mem_cons] at hx
        rcases hx with rfl | hx
        · omega
        · have := h.1 x hx; omega
theorem insD_len (d : Nat) : ∀ l, (insD d l).length ≤ l.length + 1
  | [] => by simp [insD]
  | e :: t => by
    unfold insD
    split
    · have := insD_len d t; simp; omega
    · split <;> simp
theorem insD_in {d : Nat} : ∀ {pre t : List Nat}, (∀ e ∈ pre, e < d) → insD d (pre ++ d :: t) = pre ++ d :: t
  | [], t, _ => by simp [insD]
  | a :: pre, t, h1 => by
    rw [List.cons_append]
    unfold insD
    rw [if_pos (h1 a (by simp)), insD_in (fun e he => h1 e (by simp [he]))]
theorem insD_new {d : Nat} : ∀ {pre post : List Nat}, (∀ e ∈ pre, e < d) → (∀ e t, post = e :: t → d < e) → insD d (pre ++ post) = pre ++ d :: post
  | [], [], _, _ => rfl
  | [], e :: t, _, h2 => by
    have := h2 e t rfl
    rw [List.nil_append]
    unfold insD
    rw [if_neg (by omega), if_neg (by omega)]
    rfl
  | a :: pre, post, h1, h2 => by
    rw [List.cons_append]
    unfold insD
    rw [if_pos (h1 a (by simp)), insD_new (fun e he => h1 e (by simp [he])) h2]
    rfl
/-- the days of coin -/
def daysOf (fl : List Rec) : List Nat := fl.foldl (fun ds r => if r 3 = 0 then insD (r 0) ds else ds) []
theorem daysF (fl : List Rec) : ∀ ds : List Nat, ds.Pairwise (· < ·) → (fl.foldl (fun ds r => if r 3 = 0 then insD (r 0) ds else ds) ds).Pairwise (· < ·) ∧ ∀ x, x ∈ fl.foldl (fun ds r => if r 3 = 0 then insD (r 0) ds else ds) ds ↔ x ∈ ds ∨ ∃ r ∈ fl, r 3 = 0 ∧ r 0 = x := by
  induction fl with
  | nil => intro ds h; exact ⟨h, fun x => by simp⟩
  | cons r fl ih =>
    intro ds h
    rw [List.foldl_cons]
    by_cases q : r 3 = 0
    · rw [if_pos q]
      obtain ⟨i1, i2⟩ := ih _ (insD_pw (r 0) h)
      refine ⟨i1, fun x => ?_⟩
      rw [i2, insD_mem]
      constructor
      · rintro ((e | e) | ⟨s, hs, e⟩)
        · exact Or.inr ⟨r, by simp, q, e.symm⟩
        · exact Or.inl e
        · exact Or.inr ⟨s, by simp [hs], e⟩
      · rintro (e | ⟨s, hs, e1, e2⟩)
        · exact Or.inl (Or.inr e)
        · rw [List.mem_cons] at hs
          rcases hs with rfl | hs
          · exact Or.inl (Or.inl e2.symm)
          · exact Or.inr ⟨s, hs, e1, e2⟩
    · rw [if_neg q]
      obtain ⟨i1, i2⟩ := ih _ h
      refine ⟨i1, fun x => ?_⟩
      rw [i2]
      constructor
      · rintro (e | ⟨s, hs, e⟩)
        · exact Or.inl e
        · exact Or.inr ⟨s, by simp [hs], e⟩
      · rintro (e | ⟨s, hs, e1, e2⟩)
        · exact Or.inl e
        · rw [List.mem_cons] at hs
          rcases hs with rfl | hs
          · exact absurd e1 q
          · exact Or.inr ⟨s, hs, e1, e2⟩
theorem days_pw (fl : List Rec) : (daysOf fl).Pairwise (· < ·) := (daysF fl [] List.Pairwise.nil).1
theorem days_mem (fl : List Rec) (x : Nat) : x ∈ daysOf fl ↔ ∃ r ∈ fl, r 3 = 0 ∧ r 0 = x := by
  have := (daysF fl [] List.Pairwise.nil).2 x
  simpa [daysOf] using this
theorem netD_zero {F : Nat → Nat} {fl : List Rec} {f d : Nat} (h : ¬ ∃ r ∈ fl, r 3 = 0 ∧ r 0 = d) : netD F fl f 0 d = 0 := by
  unfold netD
  induction fl with
  | nil => rfl
  | cons r fl ih =>
    rw [List.map_cons, List.sum_cons, ih (fun ⟨s, hs, e⟩ => h ⟨s, by simp [hs], e⟩), if_neg (fun q => h ⟨r, by simp, q⟩)]
    rfl
theorem rng_pw (n : Nat) : (List.range n).Pairwise (· < ·) := List.pairwise_lt_range
/-- the days of coin with what a family nets on them, are all its days -/
theorem seq_days {F : Nat → Nat} {fl : List Rec} {l : Nat} (ok : ∀ r ∈ fl, RowOk r) : ((daysOf (nz fl)).map (fun d => (d, netD F fl l 0 d))).filter (fun q => q.2 != 0) = seqN F fl l := by
  unfold seqN
  rw [List.filter_map, List.filter_map]
  refine congrArg (List.map _) ?_
  refine pw_ext ((days_pw _).filter _) ((rng_pw _).filter _) (fun x => ?_)
  rw [List.mem_filter, List.mem_filter, days_mem, List.mem_range]
  constructor
  · rintro ⟨⟨r, hr, -, e⟩, q⟩
    have := (ok r (List.mem_filter.mp hr).1).1
    exact ⟨by omega, q⟩
  · rintro ⟨-, q⟩
    refine ⟨?_, q⟩
    have q' : netD F fl l 0 x ≠ 0 := by simpa using q
    have e : netD F (nz fl) l 0 x = netD F fl l 0 x := by rw [← netGD, ← netGD, netG_nz]
    rw [← e] at q'
    apply Classical.byContradiction
    intro h
    exact q' (netD_zero h)
/-- days with nothing on them change nothing of what is out, if all is back at the end -/
theorem outS_filter : ∀ (L : List (Nat × Int)) (c : Int) (d : Nat), 0 ≤ c + (L.map (·.2)).sum → outS c d (L.filter (fun q => q.2 != 0)) = outS c d L
  | [], _, _, _ => rfl
  | q :: L, c, d, h => by
    rw [List.map_cons, List.sum_cons] at h
    by_cases hq : q.2 = 0
    · rw [List.filter_cons, if_neg (by simp [hq]), outS, hq, Int.add_zero, ← outS_filter L c q.1 (by omega)]
      have key : ∀ (M : List (Nat × Int)) (c : Int) (d e : Nat), (∀ q ∈ M, q.2 ≠ 0) → 0 ≤ c + (M.map (·.2)).sum → outS c d M = (if c < 0 then - c * ((e : Int) - d) else 0) + outS c e M := by
        intro M c d e hM hs
        cases M with
        | nil =>
          simp at hs
          rw [if_neg (by omega)]
          simp [outS]
        | cons p M =>
          rw [outS, outS]
          split
          · have : - c * ((p.1 : Int) - d) = - c * ((e : Int) - d) + - c * ((p.1 : Int) - e) := by
              rw [← Int.mul_add]; congr 1; omega
            omega
          · omega
      rw [key _ c d q.1 (fun p hp => by simpa using (List.mem_filter.mp hp).2) ?_]
      have es : ∀ M : List (Nat × Int), ((M.filter (fun q => q.2 != 0)).map (·.2)).sum = (M.map (·.2)).sum := by
        intro M
        induction M with
        | nil => rfl
        | cons p M ih =>
          rw [List.filter_cons]
          by_cases hp : p.2 = 0
          · rw [if_neg (by simp [hp]), List.map_cons, List.sum_cons, ih, hp]; omega
          · rw [if_pos (by simp [hp]), List.map_cons, List.map_cons, List.sum_cons, List.sum_cons, ih]
      rw [es]
      omega
    · rw [List.filter_cons, if_pos (by simp [hq]), outS, outS, outS_filter L (c + q.2) q.1 (by omega)]
