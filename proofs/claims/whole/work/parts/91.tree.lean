/-! A DEAL MADE PLAIN: rows of nodes as trees -/
/-- where a node's second part begins -/
def md (nd : Nat → Nat → Nat) (a : Nat) : Nat := if nd 63 a = 0 then nd 62 a else nd 63 a - 1
abbrev Gd (nd : Nat → Nat → Nat) (a e : Nat) : Prop := a < e ∧ a + 1 ≤ md nd a ∧ md nd a ≤ nd 62 a ∧ nd 62 a ≤ e
/-- nodes from a to e are whole trees, one beside another, in the part q of the node u - 1 -/
def Fo (nd : Nat → Nat → Nat) (a e u q : Nat) : Prop :=
  if a = e then True
  else if h : Gd nd a e then nd 60 a = u ∧ nd 61 a = q ∧ nd 58 a < 8 ∧ (nd 58 a < 4 → nd 62 a = a + 1 ∧ nd 59 a = 0) ∧ (nd 58 a < 6 → nd 63 a = 0) ∧ Fo nd (a + 1) (md nd a) (a + 1) 0 ∧ Fo nd (md nd a) (nd 62 a) (a + 1) 1 ∧ Fo nd (nd 62 a) e u q
  else False
termination_by e - a
decreasing_by all_goals omega
theorem Fo_le {nd : Nat → Nat → Nat} {a e u q : Nat} (F : Fo nd a e u q) : a ≤ e := by
  rw [Fo] at F
  by_cases h : a = e
  · omega
  · rw [if_neg h] at F
    by_cases g : Gd nd a e
    · have := g.1; omega
    · rw [dif_neg g] at F; exact absurd F (fun z => z)
/-- the first tree of a row that isn't empty -/
theorem Fo_cons {nd : Nat → Nat → Nat} {a e u q : Nat} (F : Fo nd a e u q) (h : a ≠ e) : Gd nd a e ∧ nd 60 a = u ∧ nd 61 a = q ∧ nd 58 a < 8 ∧ (nd 58 a < 4 → nd 62 a = a + 1 ∧ nd 59 a = 0) ∧ (nd 58 a < 6 → nd 63 a = 0) ∧ Fo nd (a + 1) (md nd a) (a + 1) 0 ∧ Fo nd (md nd a) (nd 62 a) (a + 1) 1 ∧ Fo nd (nd 62 a) e u q := by
  rw [Fo, if_neg h] at F
  by_cases g : Gd nd a e
  · rw [dif_pos g] at F; exact ⟨g, F⟩
  · rw [dif_neg g] at F; exact absurd F (fun z => z)
theorem Fo_nil {nd : Nat → Nat → Nat} {a u q : Nat} : Fo nd a a u q := by rw [Fo, if_pos rfl]; trivial
theorem Fo_mk {nd : Nat → Nat → Nat} {a e u q : Nat} (g : Gd nd a e) (h : nd 60 a = u ∧ nd 61 a = q ∧ nd 58 a < 8 ∧ (nd 58 a < 4 → nd 62 a = a + 1 ∧ nd 59 a = 0) ∧ (nd 58 a < 6 → nd 63 a = 0) ∧ Fo nd (a + 1) (md nd a) (a + 1) 0 ∧ Fo nd (md nd a) (nd 62 a) (a + 1) 1 ∧ Fo nd (nd 62 a) e u q) : Fo nd a e u q := by
  have := g.1
  rw [Fo, if_neg (by omega), dif_pos g]; exact h
/-- trees, by induction: a first tree's parts, then the rest -/
theorem Fo_ind {nd : Nat → Nat → Nat} {P : Nat → Nat → Nat → Nat → Prop} (nil : ∀ a u q, P a a u q)
    (cons : ∀ a e u q, Gd nd a e → nd 60 a = u → nd 61 a = q → nd 58 a < 8 → (nd 58 a < 4 → nd 62 a = a + 1 ∧ nd 59 a = 0) → (nd 58 a < 6 → nd 63 a = 0) → Fo nd (a + 1) (md nd a) (a + 1) 0 → Fo nd (md nd a) (nd 62 a) (a + 1) 1 → Fo nd (nd 62 a) e u q → P (a + 1) (md nd a) (a + 1) 0 → P (md nd a) (nd 62 a) (a + 1) 1 → P (nd 62 a) e u q → P a e u q) :
    ∀ a e u q, Fo nd a e u q → P a e u q := by
  have key : ∀ n a e u q, e - a ≤ n → Fo nd a e u q → P a e u q := by
    intro n
    induction n with
    | zero =>
      intro a e u q hn F
      have := Fo_le F
      have : a = e := by omega
      subst this
      exact nil a u q
    | succ n ih =>
      intro a e u q hn F
      by_cases h : a = e
      · subst h; exact nil a u q
      · obtain ⟨g, f1, f2, f3, f4, f5, f6, f7, f8⟩ := Fo_cons F h
        obtain ⟨g1, g2, g3, g4⟩ := id g
        exact cons a e u q g f1 f2 f3 f4 f5 f6 f7 f8 (ih _ _ _ _ (by omega) f6) (ih _ _ _ _ (by omega) f7) (ih _ _ _ _ (by omega) f8)
  intro a e u q F
  exact key (e - a) a e u q (Nat.le_refl _) F
/-- a leaf's cells: a mark, then what it says, each 8 more -/
def lfC (nd : Nat → Nat → Nat) (a : Nat) : List Nat := [0, nd 58 a + 8, nd 64 a + 8, nd 65 a + 8, nd 66 a + 8, nd 67 a + 8, nd 68 a + 8, nd 69 a + 8, nd 70 a + 8]
/-- a row of cells that is one "after" -/
def isJA (c : List Nat) : Bool := c.getD 0 9 == 4 && c.getD 2 0 == c.length + 5
/-- a group's cells -/
def grC (k t : Nat) (f s : List Nat) : List Nat := if k < 6 then k :: (t + 8) :: (f.length + 8) :: f else k :: (t + 8) :: (f.length + 8) :: (f ++ (s.length + 8) :: s)
/-- how a group is made plain: 0 it stays, 1 nothing is left, 2 what is in it, 3 two "after" are one -/
def cloK (k t : Nat) (f s : List Nat) : Nat :=
  if k < 6 then (if f = [] ∨ k = 5 ∧ t = 0 then 1 else if k = 4 ∧ t = 0 ∨ k = 5 ∧ t = 1 then 2 else if k = 4 ∧ isJA f = true then 3 else 0)
  else (if f = [] ∧ s = [] then 1 else if f = s ∧ 7 ∉ f then 2 else 0)
def cloC (k t : Nat) (f s : List Nat) : List Nat := if cloK k t f s = 1 then [] else if cloK k t f s = 2 then f else if cloK k t f s = 3 then 4 :: (f.getD 1 0 + t) :: f.drop 2 else grC k t f s
def cloS (k t : Nat) (f s : List Nat) : Nat := if cloK k t f s = 0 then 0 else 1
/-- a node's number, by the hands of choices -/
def tl (nd : Nat → Nat → Nat) (hd : Nat → Nat) (a : Nat) : Nat := if nd 58 a = 7 then hd a else nd 59 a
/-- cells of trees made plain -/
def FC (nd : Nat → Nat → Nat) (hd : Nat → Nat) (a e : Nat) : List Nat :=
  if h : Gd nd a e then (if nd 58 a < 4 then lfC nd a else cloC (nd 58 a) (tl nd hd a) (FC nd hd (a + 1) (md nd a)) (FC nd hd (md nd a) (nd 62 a))) ++ FC nd hd (nd 62 a) e
  else []
termination_by e - a
decreasing_by all_goals omega
/-- the steps it takes -/
def FS (nd : Nat → Nat → Nat) (hd : Nat → Nat) (a e : Nat) : Nat :=
  if h : Gd nd a e then (if nd 58 a < 4 then 0 else FS nd hd (a + 1) (md nd a) + FS nd hd (md nd a) (nd 62 a) + cloS (nd 58 a) (tl nd hd a) (FC nd hd (a + 1) (md nd a)) (FC nd hd (md nd a) (nd 62 a))) + FS nd hd (nd 62 a) e
  else 0
termination_by e - a
decreasing_by all_goals omega
theorem FC_nil (nd : Nat → Nat → Nat) (hd : Nat → Nat) (a : Nat) : FC nd hd a a = [] := by
  rw [FC, dif_neg]
  exact fun g => by have := g.1; omega
theorem FS_nil (nd : Nat → Nat → Nat) (hd : Nat → Nat) (a : Nat) : FS nd hd a a = 0 := by
  rw [FS, dif_neg]
  exact fun g => by have := g.1; omega
theorem FC_cons {nd : Nat → Nat → Nat} {hd : Nat → Nat} {a e : Nat} (g : Gd nd a e) : FC nd hd a e = (if nd 58 a < 4 then lfC nd a else cloC (nd 58 a) (tl nd hd a) (FC nd hd (a + 1) (md nd a)) (FC nd hd (md nd a) (nd 62 a))) ++ FC nd hd (nd 62 a) e := by
  rw [FC, dif_pos g]
theorem FS_cons {nd : Nat → Nat → Nat} {hd : Nat → Nat} {a e : Nat} (g : Gd nd a e) : FS nd hd a e = (if nd 58 a < 4 then 0 else FS nd hd (a + 1) (md nd a) + FS nd hd (md nd a) (nd 62 a) + cloS (nd 58 a) (tl nd hd a) (FC nd hd (a + 1) (md nd a)) (FC nd hd (md nd a) (nd 62 a))) + FS nd hd (nd 62 a) e := by
  rw [FS, dif_pos g]
/-! BY MARKS: what is nothing, what is through, days -/
abbrev Fg : Type := (Nat → Bool) × (Nat → Bool) × (Nat → Nat)
def gt (nd : Nat → Nat → Nat) (hd : Nat → Nat) (X : Fg) (a : Nat) : Nat := if nd 58 a = 4 then X.2.2 a else if nd 58 a = 7 then hd a else nd 59 a
def SA (nd : Nat → Nat → Nat) (hd : Nat → Nat) (X : Fg) (a e : Nat) : List Nat :=
  if h : Gd nd a e then (if X.1 a then [] else if X.2.1 a then SA nd hd X (a + 1) (md nd a) ++ SA nd hd X (md nd a) (nd 62 a) else if nd 58 a < 4 then lfC nd a else grC (nd 58 a) (gt nd hd X a) (SA nd hd X (a + 1) (md nd a)) (SA nd hd X (md nd a) (nd 62 a))) ++ SA nd hd X (nd 62 a) e
  else []
termination_by e - a
decreasing_by all_goals omega
/-- the nodes that are seen -/
def VP (nd : Nat → Nat → Nat) (X : Fg) (a e : Nat) : List Nat :=
  if h : Gd nd a e then (if X.1 a then [] else if X.2.1 a then VP nd X (a + 1) (md nd a) ++ VP nd X (md nd a) (nd 62 a) else [a]) ++ VP nd X (nd 62 a) e
  else []
termination_by e - a
decreasing_by all_goals omega
/-- signs: 0 a group ends, else one more than the number -/
def SG (nd : Nat → Nat → Nat) (X : Fg) (p a e : Nat) : List Nat :=
  if h : Gd nd a e then (if X.1 a then [] else if X.2.1 a then SG nd X p (a + 1) (md nd a) ++ SG nd X p (md nd a) (nd 62 a) else if nd 58 a < 4 then [p + 1, nd 58 a + 1, nd 59 a + 1, nd 64 a + 1, nd 65 a + 1, nd 66 a + 1, nd 67 a + 1, nd 68 a + 1, nd 69 a + 1, nd 70 a + 1] else (p + 1) :: (nd 58 a + 1) :: ((if nd 58 a = 4 then X.2.2 a else nd 59 a) + 1) :: (SG nd X 0 (a + 1) (md nd a) ++ (SG nd X (if nd 58 a = 6 then 1 else 0) (md nd a) (nd 62 a) ++ [0]))) ++ SG nd X p (nd 62 a) e
  else []
termination_by e - a
decreasing_by all_goals omega
theorem SA_nil (nd : Nat → Nat → Nat) (hd : Nat → Nat) (X : Fg) (a : Nat) : SA nd hd X a a = [] := by
  rw [SA, dif_neg]
  exact fun g => by have := g.1; omega
theorem VP_nil (nd : Nat → Nat → Nat) (X : Fg) (a : Nat) : VP nd X a a = [] := by
  rw [VP, dif_neg]
  exact fun g => by have := g.1; omega
theorem SG_nil (nd : Nat → Nat → Nat) (X : Fg) (p a : Nat) : SG nd X p a a = [] := by
  rw [SG, dif_neg]
  exact fun g => by have := g.1; omega
/-- one node that is seen -/
def vsC (nd : Nat → Nat → Nat) (hd : Nat → Nat) (X : Fg) (a : Nat) : List Nat := if nd 58 a < 4 then lfC nd a else grC (nd 58 a) (gt nd hd X a) (SA nd hd X (a + 1) (md nd a)) (SA nd hd X (md nd a) (nd 62 a))
def vsG (nd : Nat → Nat → Nat) (X : Fg) (p a : Nat) : List Nat := if nd 58 a < 4 then [p + 1, nd 58 a + 1, nd 59 a + 1, nd 64 a + 1, nd 65 a + 1, nd 66 a + 1, nd 67 a + 1, nd 68 a + 1, nd 69 a + 1, nd 70 a + 1] else (p + 1) :: (nd 58 a + 1) :: ((if nd 58 a = 4 then X.2.2 a else nd 59 a) + 1) :: (SG nd X 0 (a + 1) (md nd a) ++ (SG nd X (if nd 58 a = 6 then 1 else 0) (md nd a) (nd 62 a) ++ [0]))
theorem SA_cons {nd : Nat → Nat → Nat} {hd : Nat → Nat} {X : Fg} {a e : Nat} (g : Gd nd a e) : SA nd hd X a e = (if X.1 a then [] else if X.2.1 a then SA nd hd X (a + 1) (md nd a) ++ SA nd hd X (md nd a) (nd 62 a) else vsC nd hd X a) ++ SA nd hd X (nd 62 a) e := by
  rw [SA, dif_pos g]; rfl
theorem VP_cons {nd : Nat → Nat → Nat} {X : Fg} {a e : Nat} (g : Gd nd a e) : VP nd X a e = (if X.1 a then [] else if X.2.1 a then VP nd X (a + 1) (md nd a) ++ VP nd X (md nd a) (nd 62 a) else [a]) ++ VP nd X (nd 62 a) e := by
  rw [VP, dif_pos g]
theorem SG_cons {nd : Nat → Nat → Nat} {X : Fg} {p a e : Nat} (g : Gd nd a e) : SG nd X p a e = (if X.1 a then [] else if X.2.1 a then SG nd X p (a + 1) (md nd a) ++ SG nd X p (md nd a) (nd 62 a) else vsG nd X p a) ++ SG nd X p (nd 62 a) e := by
  rw [SG, dif_pos g]; rfl
theorem SA_vp {nd : Nat → Nat → Nat} {hd : Nat → Nat} {X : Fg} : ∀ a e u q, Fo nd a e u q → SA nd hd X a e = (VP nd X a e).flatMap (vsC nd hd X) := by
  refine Fo_ind (fun a u q => ?_) (fun a e u q g f1 f2 f3 f4 f5 f6 f7 f8 i1 i2 i3 => ?_)
  · rw [SA_nil, VP_nil]; rfl
  · rw [SA_cons g, VP_cons g, List.flatMap_append, i3]
    congr 1
    split
    · rfl
    · split
      · rw [List.flatMap_append, i1, i2]
      · simp
theorem SG_vp {nd : Nat → Nat → Nat} {X : Fg} (p : Nat) : ∀ a e u q, Fo nd a e u q → SG nd X p a e = (VP nd X a e).flatMap (vsG nd X p) := by
  refine Fo_ind (fun a u q => ?_) (fun a e u q g f1 f2 f3 f4 f5 f6 f7 f8 i1 i2 i3 => ?_)
  · rw [SG_nil, VP_nil]; rfl
  · rw [SG_cons g, VP_cons g, List.flatMap_append, i3]
    congr 1
    split
    · rfl
    · split
      · rw [List.flatMap_append, i1, i2]
      · simp
/-- nodes that are seen are trees of the row -/
theorem VP_in {nd : Nat → Nat → Nat} {X : Fg} : ∀ a e u q, Fo nd a e u q → ∀ x ∈ VP nd X a e, a ≤ x ∧ nd 62 x ≤ e ∧ X.1 x = false ∧ X.2.1 x = false ∧ ∃ e' u' q', x ≠ e' ∧ Fo nd x e' u' q' ∧ e' ≤ e := by
  refine Fo_ind (fun a u q => ?_) (fun a e u q g f1 f2 f3 f4 f5 f6 f7 f8 i1 i2 i3 => ?_)
  · rw [VP_nil]; intro x hx; exact absurd hx (by simp)
  · intro x hx
    rw [VP_cons g, List.mem_append] at hx
    obtain ⟨g1, g2, g3, g4⟩ := id g
    rcases hx with hx | hx
    · by_cases h1 : X.1 a = true
      · rw [if_pos h1] at hx; exact absurd hx (by simp)
      · rw [if_neg h1] at hx
        by_cases h2 : X.2.1 a = true
        · rw [if_pos h2, List.mem_append] at hx
          rcases hx with hx | hx
          · obtain ⟨y1, y2, y3, y4, e', u', q', y5, y6, y7⟩ := i1 x hx
            exact ⟨by omega, by omega, y3, y4, e', u', q', y5, y6, by omega⟩
          · obtain ⟨y1, y2, y3, y4, e', u', q', y5, y6, y7⟩ := i2 x hx
            exact ⟨by omega, by omega, y3, y4, e', u', q', y5, y6, by omega⟩
        · rw [if_neg h2, List.mem_singleton] at hx
          subst hx
          exact ⟨Nat.le_refl _, g4, by simpa using h1, by simpa using h2, e, u, q, by omega, Fo_mk g ⟨f1, f2, f3, f4, f5, f6, f7, f8⟩, Nat.le_refl _⟩
    · obtain ⟨y1, y2, y3, y4, e', u', q', y5, y6, y7⟩ := i3 x hx
      exact ⟨by omega, y2, y3, y4, e', u', q', y5, y6, y7⟩
