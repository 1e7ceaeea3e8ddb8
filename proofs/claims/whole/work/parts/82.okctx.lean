/-! WHAT STANDS AROUND A PART: by the row of what is under way, and by the table of nodes -/
/-- two records say the same of what stands around -/
def eq47 (c c' : Rec) : Prop := c 4 = c' 4 ∧ c 5 = c' 5 ∧ c 6 = c' 6 ∧ c 7 = c' 7
theorem eq47.rf (c : Rec) : eq47 c c := ⟨rfl, rfl, rfl, rfl⟩
theorem eq47.trans {a b c : Rec} (h1 : eq47 a b) (h2 : eq47 b c) : eq47 a c := ⟨h1.1.trans h2.1, h1.2.1.trans h2.2.1, h1.2.2.1.trans h2.2.2.1, h1.2.2.2.trans h2.2.2.2⟩
theorem inside_47 {k n p : Nat} {c c' : Rec} (h : eq47 c c') : inside k n p c = inside k n p c' := by
  obtain ⟨h4, h5, h6, h7⟩ := h
  unfold inside brT brM brV
  rw [h4, h5, h6, h7]
theorem cx_fuel {nd : Nat → Nat → Nat} {m : Nat} (hm : ∀ j, j < m → nd 60 j ≤ j) : ∀ (n n' u p : Nat), u ≤ m → u ≤ n → u ≤ n' → cx nd n u p = cx nd n' u p
  | 0, 0, _, _, _, _, _ => rfl
  | 0, n' + 1, u, p, _, h, _ => by rw [cx, cx, if_pos (by omega)]
  | n + 1, 0, u, p, _, _, h => by rw [cx, cx, if_pos (by omega)]
  | n + 1, n' + 1, u, p, h1, h2, h3 => by
    rw [cx, cx]
    by_cases q : u = 0
    · rw [if_pos q, if_pos q]
    · have := hm (u - 1) (by omega)
      rw [if_neg q, if_neg q, cx_fuel hm n n' _ _ (by omega) (by omega) (by omega)]
theorem cx_same {nd nd' : Nat → Nat → Nat} {m : Nat} (hm : ∀ j, j < m → nd 60 j ≤ j) (h : ∀ c j, 58 ≤ c → c ≤ 61 → j < m → nd' c j = nd c j) : ∀ (n u p : Nat), u ≤ m → cx nd' n u p = cx nd n u p
  | 0, _, _, _ => rfl
  | n + 1, u, p, h1 => by
    rw [cx, cx]
    by_cases q : u = 0
    · rw [if_pos q, if_pos q]
    · have := hm (u - 1) (by omega)
      rw [if_neg q, if_neg q, h 58 (u - 1) (by decide) (by decide) (by omega), h 59 (u - 1) (by decide) (by decide) (by omega), h 60 (u - 1) (by decide) (by decide) (by omega), h 61 (u - 1) (by decide) (by decide) (by omega), cx_same hm h n _ _ (by omega)]
/-- the row of what is under way agrees with the table -/
def StkC (nd : Nat → Nat → Nat) : List Rec → Prop
  | [] => True
  | f :: l => eq47 f (inside (nd 58 (f 3)) (nd 59 (f 3)) (f 2) (ctx l)) ∧ nd 60 (f 3) = topUp l ∧ nd 61 (f 3) = topPart l ∧ StkC nd l
theorem ctx_cx {nd : Nat → Nat → Nat} {m : Nat} (hm : ∀ j, j < m → nd 60 j ≤ j) : ∀ (K : List Rec) (n : Nat), StkC nd K → (∀ f ∈ K, f 3 < m) → topUp K ≤ n → eq47 (ctx K) (cx nd n (topUp K) (topPart K))
  | [], 0, _, _, _ => eq47.rf _
  | [], n + 1, _, _, _ => by
    show eq47 rc0 (cx nd (n + 1) 0 0)
    rw [cx, if_pos rfl]; exact eq47.rf _
  | f :: l, 0, _, _, h => absurd h (by show ¬ f 3 + 1 ≤ 0; omega)
  | f :: l, n + 1, S, F, h => by
    obtain ⟨s1, s2, s3, s4⟩ := S
    have h3 : f 3 < m := F f (by simp)
    have hn : f 3 + 1 ≤ n + 1 := h
    have ih := ctx_cx hm l n s4 (fun g hg => F g (by simp [hg])) (by have := hm (f 3) h3; omega)
    show eq47 f (cx nd (n + 1) (f 3 + 1) (f 2))
    rw [cx, if_neg (by omega), show f 3 + 1 - 1 = f 3 by omega, s2, s3, ← inside_47 ih]
    exact s1
theorem opened_in {s : St} {k n : Nat} (h : 4 ≤ k) (h7 : k ≤ 7) : eq47 (opened s k n) (inside k (opened s k n 1) 0 (ctx (sK s))) := by
  unfold opened inside
  by_cases q4 : k = 4
  · rw [if_pos q4, if_pos q4]; exact eq47.rf _
  · rw [if_neg q4, if_neg q4]
    by_cases q5 : k = 5
    · rw [if_pos q5, if_pos q5]; exact eq47.rf _
    · rw [if_neg q5, if_neg q5]
      by_cases q6 : k = 6
      · rw [if_pos q6, if_pos q6]; exact eq47.rf _
      · rw [if_neg q6, if_neg q6]; exact eq47.rf _
theorem turned_in {f c : Rec} (h : f 0 = 6 ∨ f 0 = 7) : eq47 (turned f c) (inside (f 0) (f 1) 1 c) := by
  unfold turned inside
  rcases h with h | h
  · rw [if_pos h, if_neg (by omega), if_neg (by omega), if_pos h]; exact eq47.rf _
  · rw [if_neg (by omega), if_neg (by omega), if_neg (by omega), if_neg (by omega)]; exact eq47.rf _
theorem StkC.mv {nd nd' : Nat → Nat → Nat} {m : Nat} (h : ∀ c j, 58 ≤ c → c ≤ 61 → j < m → nd' c j = nd c j) : ∀ {K : List Rec}, (∀ f ∈ K, f 3 < m) → StkC nd K → StkC nd' K
  | [], _, _ => trivial
  | f :: l, F, S => by
    have h3 := F f (by simp)
    refine ⟨?_, ?_, ?_, S.2.2.2.mv h (fun g hg => F g (by simp [hg]))⟩
    · rw [h 58 _ (by decide) (by decide) h3, h 59 _ (by decide) (by decide) h3]; exact S.1
    · rw [h 60 _ (by decide) (by decide) h3]; exact S.2.1
    · rw [h 61 _ (by decide) (by decide) h3]; exact S.2.2.1
