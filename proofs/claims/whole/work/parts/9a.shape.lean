/-! A DEAL MADE PLAIN WHILE IT IS READ: the row of cells, by events -/
abbrev SFr : Type := Nat × List Nat × List Nat
abbrev Sh : Type := List SFr × List Nat × Nat
def lfCe (r : Rec) : List Nat := [0, r 0 + 8, r 1 + 8, r 2 + 8, r 3 + 8, r 4 + 8, r 5 + 8, r 6 + 8, r 7 + 8]
def shA (f : Rec) (g : SFr) (c : List Nat) : List Nat := if f 2 = 0 then c else g.2.2
def shB (f : Rec) (c : List Nat) : List Nat := if f 2 = 0 then [] else c
def shp (s : St) (z : Sh) (e : Ev) : Sh :=
  if e.1 = 0 then (z.1, z.2.1 ++ lfCe e.2, z.2.2)
  else if e.1 < 8 then ((e.2 0, z.2.1, []) :: z.1, [], z.2.2)
  else match sK s, z.1 with
    | f :: _, g :: l => if e.1 = 8 then ((g.1, g.2.1, z.2.1) :: l, [], z.2.2) else (l, g.2.1 ++ cloC (f 0) g.1 (shA f g z.2.1) (shB f z.2.1), z.2.2 + cloS (f 0) g.1 (shA f g z.2.1) (shB f z.2.1))
    | _, _ => z
def shR (b : Nat) (E : List Ev) : Sh := (E.foldl (fun p e => (stp p.1 e, shp p.1 p.2 e)) (st0 b, (([], [], 0) : Sh))).2
theorem shR_snoc (b : Nat) (E : List Ev) (e : Ev) : shR b (E ++ [e]) = shp (run b E) (shR b E) e := by
  have key : ∀ (F : List Ev) (p : St × Sh), (F.foldl (fun p e => (stp p.1 e, shp p.1 p.2 e)) p).1 = F.foldl stp p.1 := by
    intro F
    induction F with
    | nil => intro p; rfl
    | cons e F ih => intro p; rw [List.foldl_cons, List.foldl_cons, ih]
  unfold shR run
  rw [List.foldl_append, List.foldl_cons, List.foldl_nil]
  show shp (E.foldl (fun p e => (stp p.1 e, shp p.1 p.2 e)) (st0 b, (([], [], 0) : Sh))).1 _ _ = _
  rw [key]
def agr (nd nd' : Nat → Nat → Nat) (hd hd' : Nat → Nat) (a e : Nat) : Prop := ∀ j, a ≤ j → j < e → hd' j = hd j ∧ ∀ c, 58 ≤ c → c ≤ 70 → nd' c j = nd c j
theorem agr.sub {nd nd' : Nat → Nat → Nat} {hd hd' : Nat → Nat} {a e a' e' : Nat} (s : agr nd nd' hd hd' a e) (h1 : a ≤ a') (h2 : e' ≤ e) : agr nd nd' hd hd' a' e' := fun j h3 h4 => s j (by omega) (by omega)
theorem agr_at {nd nd' : Nat → Nat → Nat} {hd hd' : Nat → Nat} {a e j : Nat} (s : agr nd nd' hd hd' a e) (h1 : a ≤ j) (h2 : j < e) : md nd' j = md nd j ∧ tl nd' hd' j = tl nd hd j ∧ lfC nd' j = lfC nd j := by
  obtain ⟨q1, q2⟩ := s j h1 h2
  unfold md tl lfC
  rw [q1, q2 62 (by decide) (by decide), q2 63 (by decide) (by decide), q2 58 (by decide) (by decide), q2 59 (by decide) (by decide), q2 64 (by decide) (by decide), q2 65 (by decide) (by decide), q2 66 (by decide) (by decide), q2 67 (by decide) (by decide), q2 68 (by decide) (by decide), q2 69 (by decide) (by decide), q2 70 (by decide) (by decide)]
  exact ⟨rfl, rfl, rfl⟩
theorem Fo_same {nd nd' : Nat → Nat → Nat} {hd hd' : Nat → Nat} : ∀ a e u q, Fo nd a e u q → agr nd nd' hd hd' a e → Fo nd' a e u q := by
  refine Fo_ind (fun a u q _ => Fo_nil) (fun a e u q g f1 f2 f3 f4 f5 f6 f7 f8 i1 i2 i3 s => ?_)
  obtain ⟨g1, g2, g3, g4⟩ := id g
  obtain ⟨q1, q2⟩ := s a (Nat.le_refl _) g1
  have m := (agr_at s (Nat.le_refl _) g1).1
  have e62 := q2 62 (by decide) (by decide)
  refine Fo_mk ⟨g1, by rw [m]; exact g2, by rw [m, e62]; exact g3, by rw [e62]; exact g4⟩ ?_
  rw [m, e62, q2 58 (by decide) (by decide), q2 59 (by decide) (by decide), q2 60 (by decide) (by decide), q2 61 (by decide) (by decide), q2 63 (by decide) (by decide)]
  exact ⟨f1, f2, f3, f4, f5, i1 (s.sub (by omega) (by omega)), i2 (s.sub (by omega) (by omega)), i3 (s.sub (by omega) (by omega))⟩
theorem FCS_same {nd nd' : Nat → Nat → Nat} {hd hd' : Nat → Nat} : ∀ a e u q, Fo nd a e u q → agr nd nd' hd hd' a e → FC nd' hd' a e = FC nd hd a e ∧ FS nd' hd' a e = FS nd hd a e := by
  refine Fo_ind (fun a u q _ => ?_) (fun a e u q g f1 f2 f3 f4 f5 f6 f7 f8 i1 i2 i3 s => ?_)
  · rw [FC_nil, FC_nil, FS_nil, FS_nil]; exact ⟨rfl, rfl⟩
  obtain ⟨g1, g2, g3, g4⟩ := id g
  obtain ⟨q1, q2⟩ := s a (Nat.le_refl _) g1
  obtain ⟨m, t, lf⟩ := agr_at s (Nat.le_refl _) g1
  have e62 := q2 62 (by decide) (by decide)
  have g' : Gd nd' a e := ⟨g1, by rw [m]; exact g2, by rw [m, e62]; exact g3, by rw [e62]; exact g4⟩
  obtain ⟨y1, y2⟩ := i1 (s.sub (by omega) (by omega))
  obtain ⟨y3, y4⟩ := i2 (s.sub (by omega) (by omega))
  obtain ⟨y5, y6⟩ := i3 (s.sub (by omega) (by omega))
  rw [FC_cons g, FC_cons g', FS_cons g, FS_cons g', m, t, lf, e62, q2 58 (by decide) (by decide), y1, y2, y3, y4, y5, y6]
  exact ⟨rfl, rfl⟩
/-- rows of trees one behind the other -/
theorem Fo_app {nd : Nat → Nat → Nat} {e2 : Nat} (hd : Nat → Nat) : ∀ a e u q, Fo nd a e u q → Fo nd e e2 u q → Fo nd a e2 u q ∧ FC nd hd a e2 = FC nd hd a e ++ FC nd hd e e2 ∧ FS nd hd a e2 = FS nd hd a e + FS nd hd e e2 := by
  refine Fo_ind (fun a u q F => ?_) (fun a e u q g f1 f2 f3 f4 f5 f6 f7 f8 i1 i2 i3 F => ?_)
  · rw [FC_nil, FS_nil]; exact ⟨F, rfl, (Nat.zero_add _).symm⟩
  obtain ⟨g1, g2, g3, g4⟩ := id g
  have le := Fo_le F
  have g' : Gd nd a e2 := ⟨by omega, g2, g3, by omega⟩
  obtain ⟨y1, y2, y3⟩ := i3 F
  refine ⟨Fo_mk g' ⟨f1, f2, f3, f4, f5, f6, f7, y1⟩, ?_, ?_⟩
  · rw [FC_cons g, FC_cons g', y2, List.append_assoc]
  · rw [FS_cons g, FS_cons g', y3]; omega
def ShI (b : Nat) (nd : Nat → Nat → Nat) (hd : Nat → Nat) : List Rec → List SFr → Nat → List Nat → Nat → Prop
  | [], [], e, c, m => Fo nd b e 0 0 ∧ c = FC nd hd b e ∧ m = FS nd hd b e
  | f :: l, g :: z, e, c, m => ∃ m0, ShI b nd hd l z (f 3) g.2.1 m0 ∧ f 3 < e ∧ nd 58 (f 3) = f 0 ∧ 4 ≤ f 0 ∧ f 0 < 8 ∧ nd 60 (f 3) = topUp l ∧ nd 61 (f 3) = topPart l ∧ tl nd hd (f 3) = g.1 ∧
      (f 2 = 0 ∧ nd 63 (f 3) = 0 ∧ Fo nd (f 3 + 1) e (f 3 + 1) 0 ∧ c = FC nd hd (f 3 + 1) e ∧ m = m0 + FS nd hd (f 3 + 1) e ∨
       f 2 = 1 ∧ 6 ≤ f 0 ∧ f 3 + 2 ≤ nd 63 (f 3) ∧ nd 63 (f 3) ≤ e + 1 ∧ Fo nd (f 3 + 1) (nd 63 (f 3) - 1) (f 3 + 1) 0 ∧ g.2.2 = FC nd hd (f 3 + 1) (nd 63 (f 3) - 1) ∧ Fo nd (nd 63 (f 3) - 1) e (f 3 + 1) 1 ∧ c = FC nd hd (nd 63 (f 3) - 1) e ∧ m = m0 + (FS nd hd (f 3 + 1) (nd 63 (f 3) - 1) + FS nd hd (nd 63 (f 3) - 1) e))
  | _, _, _, _, _ => False
theorem tl_at {nd nd' : Nat → Nat → Nat} {hd hd' : Nat → Nat} {j : Nat} (h1 : hd' j = hd j) (h2 : nd' 58 j = nd 58 j) (h3 : nd' 59 j = nd 59 j) : tl nd' hd' j = tl nd hd j := by
  unfold tl; rw [h1, h2, h3]
theorem ShI.mv {b : Nat} {nd nd' : Nat → Nat → Nat} {hd hd' : Nat → Nat} : ∀ {K : List Rec} {z : List SFr} {e m : Nat} {c : List Nat}, ShI b nd hd K z e c m → agr nd nd' hd hd' 0 e → ShI b nd' hd' K z e c m
  | [], [], e, m, c, ⟨F, h1, h2⟩, s => by
    obtain ⟨y1, y2⟩ := FCS_same _ _ _ _ F (s.sub (Nat.zero_le _) (Nat.le_refl _))
    exact ⟨Fo_same _ _ _ _ F (s.sub (Nat.zero_le _) (Nat.le_refl _)), by rw [y1]; exact h1, by rw [y2]; exact h2⟩
  | f :: l, g :: z, e, m, c, ⟨m0, h0, h1, h2, h3, h4, h5, h6, h7, h8⟩, s => by
    obtain ⟨q1, q2⟩ := s (f 3) (Nat.zero_le _) h1
    refine ⟨m0, h0.mv (s.sub (Nat.zero_le _) (by omega)), h1, ?_, h3, h4, ?_, ?_, ?_, ?_⟩
    · rw [q2 58 (by decide) (by decide)]; exact h2
    · rw [q2 60 (by decide) (by decide)]; exact h5
    · rw [q2 61 (by decide) (by decide)]; exact h6
    · rw [tl_at q1 (q2 58 (by decide) (by decide)) (q2 59 (by decide) (by decide))]; exact h7
    · rw [q2 63 (by decide) (by decide)]
      rcases h8 with ⟨w1, w2, w3, w4, w5⟩ | ⟨w1, w2, w3, w4, w5, w6, w7, w8, w9⟩
      · obtain ⟨y1, y2⟩ := FCS_same _ _ _ _ w3 (s.sub (Nat.zero_le _) (Nat.le_refl _))
        exact Or.inl ⟨w1, w2, Fo_same _ _ _ _ w3 (s.sub (Nat.zero_le _) (Nat.le_refl _)), by rw [y1]; exact w4, by rw [y2]; exact w5⟩
      · obtain ⟨y1, y2⟩ := FCS_same _ _ _ _ w5 (s.sub (Nat.zero_le _) (by omega))
        obtain ⟨y3, y4⟩ := FCS_same _ _ _ _ w7 (s.sub (Nat.zero_le _) (Nat.le_refl _))
        exact Or.inr ⟨w1, w2, w3, w4, Fo_same _ _ _ _ w5 (s.sub (Nat.zero_le _) (by omega)), by rw [y1]; exact w6, Fo_same _ _ _ _ w7 (s.sub (Nat.zero_le _) (Nat.le_refl _)), by rw [y3]; exact w8, by rw [y2, y4]; exact w9⟩
/-- more trees at the end of what is open -/
theorem ShI.more {b : Nat} {nd : Nat → Nat → Nat} {hd : Nat → Nat} {e2 : Nat} : ∀ {K : List Rec} {z : List SFr} {e m : Nat} {c : List Nat}, ShI b nd hd K z e c m → Fo nd e e2 (topUp K) (topPart K) → ShI b nd hd K z e2 (c ++ FC nd hd e e2) (m + FS nd hd e e2)
  | [], [], e, m, c, ⟨F, h1, h2⟩, T => by
    obtain ⟨y1, y2, y3⟩ := Fo_app hd _ _ _ _ F T
    exact ⟨y1, by rw [y2, h1], by rw [y3, h2]⟩
  | f :: l, g :: z, e, m, c, ⟨m0, h0, h1, h2, h3, h4, h5, h6, h7, h8⟩, T => by
    have le := Fo_le T
    have T' : Fo nd e e2 (f 3 + 1) (f 2) := T
    refine ⟨m0, h0, by omega, h2, h3, h4, h5, h6, h7, ?_⟩
    rcases h8 with ⟨w1, w2, w3, w4, w5⟩ | ⟨w1, w2, w3, w4, w5, w6, w7, w8, w9⟩
    · rw [w1] at T'
      obtain ⟨y1, y2, y3⟩ := Fo_app hd _ _ _ _ w3 T'
      exact Or.inl ⟨w1, w2, y1, by rw [y2, w4], by rw [y3, w5, Nat.add_assoc]⟩
    · rw [w1] at T'
      obtain ⟨y1, y2, y3⟩ := Fo_app hd _ _ _ _ w7 T'
      exact Or.inr ⟨w1, w2, w3, by omega, w5, w6, y1, by rw [y2, w8], by rw [y3, w9]; omega⟩
/-- as a text is read -/
def ShE (b : Nat) (s : St) (z : Sh) : Prop := ∃ hd, ShI b (sD s) hd (sK s) z.1 (sN s) z.2.1 z.2.2
theorem Fo_one {nd : Nat → Nat → Nat} {a u q : Nat} (g : Gd nd a (nd 62 a)) (h : nd 60 a = u ∧ nd 61 a = q ∧ nd 58 a < 8 ∧ (nd 58 a < 4 → nd 62 a = a + 1 ∧ nd 59 a = 0) ∧ (nd 58 a < 6 → nd 63 a = 0) ∧ Fo nd (a + 1) (md nd a) (a + 1) 0 ∧ Fo nd (md nd a) (nd 62 a) (a + 1) 1) : Fo nd a (nd 62 a) u q :=
  Fo_mk g ⟨h.1, h.2.1, h.2.2.1, h.2.2.2.1, h.2.2.2.2.1, h.2.2.2.2.2.1, h.2.2.2.2.2.2, Fo_nil⟩
theorem ShE.leaf {b : Nat} {s : St} {z : Sh} {r : Rec} (S : ShE b s z) (h4 : r 0 < 4) : ShE b (stp s (0, r)) (shp s z (0, r)) := by
  obtain ⟨hd, S⟩ := S
  refine ⟨hd, ?_⟩
  rw [stp_leaf]
  have es : shp s z (0, r) = (z.1, z.2.1 ++ lfCe r, z.2.2) := by unfold shp; rw [if_pos rfl]
  rw [es]
  show ShI b (leafNd (newNd s (r 0)) r (sN s)) hd (sK s) z.1 (sN s + 1) (z.2.1 ++ lfCe r) z.2.2
  have hne : ∀ c j, j ≠ sN s → leafNd (newNd s (r 0)) r (sN s) c j = sD s c j := fun c j hj => by rw [leafNd_ne hj, newNd_ne hj]
  have hat : ∀ c, c < 64 → leafNd (newNd s (r 0)) r (sN s) c (sN s) = newNd s (r 0) c (sN s) := fun c hc => leafNd_lo hc
  obtain ⟨a1, a2, a3, a4, a5, a6⟩ := newNd_at s (r 0)
  obtain ⟨b1, b2, b3, b4, b5, b6, b7⟩ := leafNd_at (newNd s (r 0)) r (sN s)
  have S' := S.mv (nd' := leafNd (newNd s (r 0)) r (sN s)) (hd' := hd) (fun j _ j2 => ⟨rfl, fun c _ _ => hne c j (by omega)⟩)
  have e62 : leafNd (newNd s (r 0)) r (sN s) 62 (sN s) = sN s + 1 := by rw [hat 62 (by decide)]; exact a5
  have e63 : leafNd (newNd s (r 0)) r (sN s) 63 (sN s) = 0 := by rw [hat 63 (by decide)]; exact a6
  have e58 : leafNd (newNd s (r 0)) r (sN s) 58 (sN s) = r 0 := by rw [hat 58 (by decide)]; exact a1
  have em : md (leafNd (newNd s (r 0)) r (sN s)) (sN s) = sN s + 1 := by unfold md; rw [if_pos e63, e62]
  have T : Fo (leafNd (newNd s (r 0)) r (sN s)) (sN s) (sN s + 1) (topUp (sK s)) (topPart (sK s)) := by
    have g : Gd (leafNd (newNd s (r 0)) r (sN s)) (sN s) (leafNd (newNd s (r 0)) r (sN s) 62 (sN s)) := ⟨by omega, by omega, by omega, Nat.le_refl _⟩
    have := Fo_one (u := topUp (sK s)) (q := topPart (sK s)) g ⟨by rw [hat 60 (by decide)]; exact a3, by rw [hat 61 (by decide)]; exact a4, by omega, fun _ => ⟨e62, by rw [hat 59 (by decide)]; exact a2⟩, fun _ => e63, by rw [em]; exact Fo_nil, by rw [em, e62]; exact Fo_nil⟩
    rw [e62] at this; exact this
  have M := S'.more T
  have g : Gd (leafNd (newNd s (r 0)) r (sN s)) (sN s) (sN s + 1) := ⟨by omega, by omega, by omega, by omega⟩
  rw [FC_cons g, FS_cons g, e62, e58, if_pos h4, if_pos h4, FC_nil, FS_nil, List.append_nil] at M
  have el : lfC (leafNd (newNd s (r 0)) r (sN s)) (sN s) = lfCe r := by
    unfold lfC lfCe
    rw [e58, b1, b2, b3, b4, b5, b6, b7]
  rw [el] at M
  exact M
theorem ShE.grp {b kd : Nat} {s : St} {z : Sh} {r : Rec} (S : ShE b s z) (h4 : 4 ≤ kd) (h7 : kd ≤ 7) : ShE b (stp s (kd, r)) (shp s z (kd, r)) := by
  obtain ⟨hd, S⟩ := S
  refine ⟨fun j => if j = sN s then r 0 else hd j, ?_⟩
  rw [stp_open h4 h7]
  have es : shp s z (kd, r) = ((r 0, z.2.1, []) :: z.1, [], z.2.2) := by unfold shp; rw [if_neg (by show ¬ kd = 0; omega), if_pos (by show kd < 8; omega)]
  rw [es]
  have o0 := opened_0 (s := s) (n := r 0) h4 h7
  have o1 := opened_1 (s := s) (n := r 0) h4 h7
  have o2 := opened_2 s kd (r 0)
  have o3 := opened_3 s kd (r 0)
  generalize opened s kd (r 0) = op at o0 o1 o2 o3
  have hne : ∀ c j, j ≠ sN s → up2 (newNd s kd) 59 (sN s) (op 1) c j = sD s c j := fun c j hj => by rw [up2_if, if_neg (by omega), newNd_ne hj]
  have hat : ∀ c, c ≠ 59 → up2 (newNd s kd) 59 (sN s) (op 1) c (sN s) = newNd s kd c (sN s) := fun c hc => by rw [up2_if, if_neg (by omega)]
  have h59 : up2 (newNd s kd) 59 (sN s) (op 1) 59 (sN s) = op 1 := by rw [up2_if, if_pos ⟨rfl, rfl⟩]
  obtain ⟨a1, a2, a3, a4, a5, a6⟩ := newNd_at s kd
  have S' := S.mv (nd' := up2 (newNd s kd) 59 (sN s) (op 1)) (hd' := fun j => if j = sN s then r 0 else hd j) (fun j _ j2 => ⟨by show (if j = sN s then r 0 else hd j) = hd j; rw [if_neg (by omega)], fun c _ _ => hne c j (by omega)⟩)
  refine ⟨z.2.2, ?_, ?_, ?_, ?_, ?_, ?_, ?_, ?_, Or.inl ⟨o2, ?_, ?_, ?_, ?_⟩⟩
  · rw [o3]; exact S'
  · rw [o3]; show sN s < sN s + 1; omega
  · rw [o3, o0]; show up2 (newNd s kd) 59 (sN s) (op 1) 58 (sN s) = kd; rw [hat 58 (by decide)]; exact a1
  · rw [o0]; exact h4
  · rw [o0]; omega
  · rw [o3]; show up2 (newNd s kd) 59 (sN s) (op 1) 60 (sN s) = _; rw [hat 60 (by decide)]; exact a3
  · rw [o3]; show up2 (newNd s kd) 59 (sN s) (op 1) 61 (sN s) = _; rw [hat 61 (by decide)]; exact a4
  · rw [o3]
    show tl (up2 (newNd s kd) 59 (sN s) (op 1)) (fun j => if j = sN s then r 0 else hd j) (sN s) = r 0
    unfold tl
    rw [hat 58 (by decide), a1, h59]
    split
    · show (if sN s = sN s then r 0 else hd (sN s)) = r 0
      rw [if_pos rfl]
    · rename_i q; rw [o1, if_neg q]
  · rw [o3]; show up2 (newNd s kd) 59 (sN s) (op 1) 63 (sN s) = 0; rw [hat 63 (by decide)]; exact a6
  · rw [o3]; exact Fo_nil
  · rw [o3]; exact (FC_nil _ _ _).symm
  · rw [o3]; show z.2.2 = z.2.2 + FS _ _ (sN s + 1) (sN s + 1); rw [FS_nil]; rfl
theorem ShE.two {b : Nat} {s : St} {z : Sh} {f : Rec} {l : List Rec} {r : Rec} (S : ShE b s z) (h : sK s = f :: l) (h2 : f 2 = 0) (hk : f 0 = 6 ∨ f 0 = 7) : ShE b (stp s (8, r)) (shp s z (8, r)) := by
  obtain ⟨hd, S⟩ := S
  refine ⟨hd, ?_⟩
  rw [h] at S
  obtain ⟨zf, zc, zm⟩ := z
  cases zf with
  | nil => exact absurd S (fun q => q)
  | cons g zl =>
    have es : shp s (g :: zl, zc, zm) (8, r) = ((g.1, g.2.1, zc) :: zl, [], zm) := by
      unfold shp
      rw [if_neg (by show ¬ 8 = 0; decide), if_neg (by show ¬ 8 < 8; decide), h]
      rfl
    rw [es, stp_two h]
    obtain ⟨m0, y0, y1, y2, y3, y4, y5, y6, y7, y8⟩ := S
    rcases y8 with ⟨w1, w2, w3, w4, w5⟩ | ⟨w1, -⟩
    · have u0 : ∀ c j, j ≠ f 3 → up2 (up2 (sD s) 62 (f 3) (sN s)) 63 (f 3) (sN s + 1) c j = sD s c j := fun c j hj => by rw [up2_if, if_neg (by omega), up2_if, if_neg (by omega)]
      have u1 : ∀ c, c ≠ 62 → c ≠ 63 → up2 (up2 (sD s) 62 (f 3) (sN s)) 63 (f 3) (sN s + 1) c (f 3) = sD s c (f 3) := fun c h1 h2 => by rw [up2_if, if_neg (by omega), up2_if, if_neg (by omega)]
      have u63 : up2 (up2 (sD s) 62 (f 3) (sN s)) 63 (f 3) (sN s + 1) 63 (f 3) = sN s + 1 := by rw [up2_if, if_pos ⟨rfl, rfl⟩]
      have t3 := turned_3 f (ctx l)
      have t2 := turned_2 f (ctx l)
      have t0 := turned_0 (ctx l) hk
      generalize turned f (ctx l) = tf at t3 t2 t0
      have ag : agr (sD s) (up2 (up2 (sD s) 62 (f 3) (sN s)) 63 (f 3) (sN s + 1)) hd hd (f 3 + 1) (sN s) := fun j j1 j2 => ⟨rfl, fun c _ _ => u0 c j (by omega)⟩
      obtain ⟨v1, v2⟩ := FCS_same _ _ _ _ w3 ag
      show ShI b (up2 (up2 (sD s) 62 (f 3) (sN s)) 63 (f 3) (sN s + 1)) hd (tf :: l) ((g.1, g.2.1, zc) :: zl) (sN s) [] zm
      generalize up2 (up2 (sD s) 62 (f 3) (sN s)) 63 (f 3) (sN s + 1) = nd' at u0 u1 u63 ag v1 v2
      have y1' : f 3 < sN s := y1
      refine ⟨m0, ?_, ?_, ?_, ?_, ?_, ?_, ?_, ?_, Or.inr ⟨t2, ?_, ?_, ?_, ?_, ?_, ?_, ?_, ?_⟩⟩
      · rw [t3]; exact y0.mv (fun j _ j2 => ⟨rfl, fun c _ _ => u0 c j (by omega)⟩)
      · rw [t3]; exact y1
      · rw [t3, t0, u1 58 (by decide) (by decide)]; exact y2
      · rw [t0]; exact y3
      · rw [t0]; exact y4
      · rw [t3, u1 60 (by decide) (by decide)]; exact y5
      · rw [t3, u1 61 (by decide) (by decide)]; exact y6
      · rw [t3, tl_at rfl (u1 58 (by decide) (by decide)) (u1 59 (by decide) (by decide))]; exact y7
      · rw [t0]; omega
      · rw [t3, u63]; omega
      · rw [t3, u63]; exact Nat.le_refl _
      · rw [t3, u63]; exact Fo_same _ _ _ _ w3 ag
      · rw [t3, u63, show sN s + 1 - 1 = sN s from rfl, v1]; exact w4
      · rw [t3, u63]; exact Fo_nil
      · rw [t3, u63]; exact (FC_nil _ _ _).symm
      · rw [t3, u63, show sN s + 1 - 1 = sN s from rfl, v2, FS_nil, Nat.add_zero]; exact w5
    · omega
theorem ShE.end {b : Nat} {s : St} {z : Sh} {f : Rec} {l : List Rec} {r : Rec} (S : ShE b s z) (h : sK s = f :: l) : ShE b (stp s (9, r)) (shp s z (9, r)) := by
  obtain ⟨hd, S⟩ := S
  refine ⟨hd, ?_⟩
  rw [h] at S
  obtain ⟨zf, zc, zm⟩ := z
  cases zf with
  | nil => exact absurd S (fun q => q)
  | cons g zl =>
    have es : shp s (g :: zl, zc, zm) (9, r) = (zl, g.2.1 ++ cloC (f 0) g.1 (shA f g zc) (shB f zc), zm + cloS (f 0) g.1 (shA f g zc) (shB f zc)) := by
      unfold shp
      rw [if_neg (by show ¬ 9 = 0; decide), if_neg (by show ¬ 9 < 8; decide), h]
      rfl
    rw [es, stp_end h]
    obtain ⟨m0, y0, y1, y2, y3, y4, y5, y6, y7, y8⟩ := S
    have u0 : ∀ c j, j ≠ f 3 → up2 (sD s) 62 (f 3) (sN s) c j = sD s c j := fun c j hj => by rw [up2_if, if_neg (by omega)]
    have u1 : ∀ c, c ≠ 62 → up2 (sD s) 62 (f 3) (sN s) c (f 3) = sD s c (f 3) := fun c h1 => by rw [up2_if, if_neg (by omega)]
    have u62 : up2 (sD s) 62 (f 3) (sN s) 62 (f 3) = sN s := by rw [up2_if, if_pos ⟨rfl, rfl⟩]
    show ShI b (up2 (sD s) 62 (f 3) (sN s)) hd l zl (sN s) _ _
    have y1' : f 3 < sN s := y1
    have ag : ∀ a, f 3 < a → agr (sD s) (up2 (sD s) 62 (f 3) (sN s)) hd hd a (sN s) := fun a ha j j1 j2 => ⟨rfl, fun c _ _ => u0 c j (by omega)⟩
    have Y0 := y0.mv (nd' := up2 (sD s) 62 (f 3) (sN s)) (hd' := hd) (fun j _ j2 => ⟨rfl, fun c _ _ => u0 c j (by omega)⟩)
    have tt : tl (up2 (sD s) 62 (f 3) (sN s)) hd (f 3) = g.1 := by rw [tl_at rfl (u1 58 (by decide)) (u1 59 (by decide))]; exact y7
    generalize hnd : up2 (sD s) 62 (f 3) (sN s) = nd' at u0 u1 u62 ag Y0 tt
    -- the tree that is whole now
    have key : ∃ mm, mm = md nd' (f 3) ∧ f 3 + 1 ≤ mm ∧ mm ≤ sN s ∧ (f 0 < 6 → nd' 63 (f 3) = 0) ∧ Fo nd' (f 3 + 1) mm (f 3 + 1) 0 ∧ Fo nd' mm (sN s) (f 3 + 1) 1 ∧ FC nd' hd (f 3 + 1) mm = shA f g zc ∧ FC nd' hd mm (sN s) = shB f zc ∧ zm = m0 + (FS nd' hd (f 3 + 1) mm + FS nd' hd mm (sN s)) := by
      rcases y8 with ⟨w1, w2, w3, w4, w5⟩ | ⟨w1, w2, w3, w4, w5, w6, w7, w8, w9⟩
      · obtain ⟨v1, v2⟩ := FCS_same _ _ _ _ w3 (ag _ (by omega))
        refine ⟨sN s, ?_, by omega, Nat.le_refl _, fun _ => by rw [u1 63 (by decide)]; exact w2, Fo_same _ _ _ _ w3 (ag _ (by omega)), Fo_nil, ?_, ?_, ?_⟩
        · unfold md; rw [u1 63 (by decide), if_pos w2, u62]
        · rw [v1]; unfold shA; rw [if_pos w1]; exact w4.symm
        · rw [FC_nil]; unfold shB; rw [if_pos w1]
        · rw [v2, FS_nil, Nat.add_zero]; exact w5
      · have ag2 : agr (sD s) nd' hd hd (f 3 + 1) (sD s 63 (f 3) - 1) := fun j j1 j2 => ⟨rfl, fun c _ _ => u0 c j (by omega)⟩
        obtain ⟨v1, v2⟩ := FCS_same _ _ _ _ w5 ag2
        obtain ⟨v3, v4⟩ := FCS_same _ _ _ _ w7 (ag _ (by omega))
        refine ⟨sD s 63 (f 3) - 1, ?_, by omega, by omega, fun q => by omega, Fo_same _ _ _ _ w5 ag2, Fo_same _ _ _ _ w7 (ag _ (by omega)), ?_, ?_, ?_⟩
        · unfold md; rw [u1 63 (by decide), if_neg (by omega)]
        · rw [v1]; unfold shA; rw [if_neg (by omega)]; exact w6.symm
        · rw [v3]; unfold shB; rw [if_neg (by omega)]; exact w8.symm
        · rw [v2, v4]; exact w9
    obtain ⟨mm, k1, k2, k3, k4, k5, k6, k7, k8, k9⟩ := key
    have g0 : Gd nd' (f 3) (nd' 62 (f 3)) := ⟨by omega, by omega, by omega, Nat.le_refl _⟩
    have T : Fo nd' (f 3) (sN s) (topUp l) (topPart l) := by
      have := Fo_one (u := topUp l) (q := topPart l) g0 ⟨by rw [u1 60 (by decide)]; exact y5, by rw [u1 61 (by decide)]; exact y6, by rw [u1 58 (by decide)]; omega, fun q => by rw [u1 58 (by decide)] at q; omega, fun q => k4 (by rw [u1 58 (by decide)] at q; omega), by rw [← k1]; exact k5, by rw [← k1, u62]; exact k6⟩
      rw [u62] at this; exact this
    have M := Y0.more T
    have g1 : Gd nd' (f 3) (sN s) := ⟨by omega, by omega, by omega, by omega⟩
    rw [FC_cons g1, FS_cons g1, u62, u1 58 (by decide), y2, if_neg (by omega), if_neg (by omega), FC_nil, FS_nil, List.append_nil, tt, ← k1, k7, k8] at M
    have em : m0 + (FS nd' hd (f 3 + 1) mm + FS nd' hd mm (sN s) + cloS (f 0) g.1 (shA f g zc) (shB f zc) + 0) = zm + cloS (f 0) g.1 (shA f g zc) (shB f zc) := by rw [k9]; omega
    rw [em] at M
    exact M
theorem ShE0 {b : Nat} : ShE b (run b []) (shR b []) := ⟨fun _ => 0, Fo_nil, (FC_nil _ _ _).symm, (FS_nil _ _ _).symm⟩
set_option maxHeartbeats 4000000 in
set_option maxRecDepth 100000 in
theorem mac_sh {T : List Nat} {b : Nat} : ∀ (n md : Nat) (t : Tk) (E E' : List Ev), mac T b n md t E = some (.inr E') → ShE b (run b E) (shR b E) → ShE b (run b E') (shR b E') := by
  intro n
  induction n with
  | zero => intro md t E E' hr; rw [mac] at hr; exact absurd hr (by simp)
  | succ n ih =>
    intro md t E E' hr W
    cases md with
    | zero =>
      rw [mac] at hr
      have hl := pl_le T t KNDS
      have hl8 : KNDS.length = 8 := rfl
      by_cases q0 : pl T t KNDS = 0
      · rw [if_pos q0] at hr; exact absurd hr (by simp)
      · rw [if_neg q0] at hr
        by_cases q4 : pl T t KNDS ≤ 4
        · rw [if_pos q4] at hr
          cases hs : lfS T (pl T t KNDS - 1) t (run b E) with
          | inl e => rw [hs] at hr; exact absurd hr (by simp)
          | inr t' =>
            rw [hs] at hr
            refine ih 1 t' _ E' hr ?_
            rw [run_snoc, shR_snoc]
            exact W.leaf (by show pl T t KNDS - 1 < 4; omega)
        · rw [if_neg q4] at hr
          cases hs : grS T (pl T t KNDS - 1) t (run b E) with
          | inl e => rw [hs] at hr; exact absurd hr (by simp)
          | inr t' =>
            rw [hs] at hr
            refine ih 0 t' _ E' hr ?_
            rw [run_snoc, shR_snoc]
            exact W.grp (by omega) (by omega)
    | succ md =>
      rw [mac] at hr
      by_cases q : t.1 = 44
      · rw [if_pos q] at hr
        exact ih 0 _ E E' hr W
      · rw [if_neg q] at hr
        cases hK : sK (run b E) with
        | nil =>
          rw [hK] at hr
          dsimp only at hr
          by_cases q2 : t.1 = 0
          · rw [if_pos q2] at hr
            injection hr with hr; injection hr with hr
            subst hr
            exact W
          · rw [if_neg q2] at hr; exact absurd hr (by simp)
        | cons f l =>
          rw [hK] at hr
          dsimp only at hr
          by_cases q2 : t.1 = 125
          · rw [if_pos q2] at hr
            by_cases q3 : isTwo T f (nxt T t) = true
            · rw [if_pos q3] at hr
              cases hs : sOpen T l.length (.inr (nxt T (nxt T t))) with
              | inl e => rw [hs] at hr; exact absurd hr (by simp)
              | inr t' =>
                rw [hs] at hr
                refine ih 0 t' _ E' hr ?_
                rw [run_snoc, shR_snoc]
                have f2 : f 2 = 0 := by
                  unfold isTwo at q3
                  simp only [Bool.and_eq_true, beq_iff_eq] at q3
                  exact q3.1
                exact W.two hK f2 (isTwo_kind q3)
            · rw [if_neg q3] at hr
              refine ih 1 _ _ E' hr ?_
              rw [run_snoc, shR_snoc]
              exact W.end hK
          · rw [if_neg q2] at hr; exact absurd hr (by simp)
theorem okF_deal {x : Ab} {v1 v2 : Int32} (K : OkF x) (h24 : (aD x).length ≤ 24) : OkF (nxDeal x v1 v2) := by
  unfold nxDeal
  split
  · rename_i n g e1 e2
    split
    · exact K
    · rename_i n24
      split
      · rename_i E hE
        have M := mac_sh _ _ _ _ _ hE ShE0
        have W := mac_wi _ _ _ _ _ hE (by rw [if_pos rfl]; exact GI0 (by omega)) W90
        intro d hd
        have hd' : d < (aD x ++ [(E, g)]).length := hd
        rw [List.length_append, List.length_singleton] at hd'
        show Fo (sD (dS (aD x ++ [(E, g)]) d)) (96 * d) (sN (dS (aD x ++ [(E, g)]) d)) 0 0
        by_cases q : d = (aD x).length
        · subst q
          rw [dS_new]
          obtain ⟨hd2, S⟩ := M
          rw [W.2.2] at S
          cases hz : (shR (96 * (aD x).length) E).1 with
          | nil => rw [hz] at S; exact S.1
          | cons a l => rw [hz] at S; exact absurd S (fun q => q)
        · rw [dS_old (by omega)]
          exact K d (by omega)
      · exact K
      · exact K
  · exact K
