/-! THE CLASS: a set is barred just if two of it, or one, are -/
/-- a statement lets two leaves, the first one before the other -/
def sFr (F : Nat → Nat) (st : Rec) (r s : Rec) : Prop := ¬ (sOf (st 0) (st 1) r = true ∧ sPair F st 0 r 1 s = true) ∧ ¬ (sOf (st 0) (st 1) s = true ∧ sPair F st 1 s 0 r = true)
def sLet (F : Nat → Nat) (st : Rec) (L : List Rec) : Prop := if st 2 = 0 then ∀ r ∈ L, ¬ sOf (st 0) (st 1) r = true else L.Pairwise (sFr F st)
theorem sPair_lt {F : Nat → Nat} {st r s : Rec} {a b : Nat} (h : a < b) : sPair F st a r b s = sPair F st 0 r 1 s := by
  rw [Bool.eq_iff_iff, sPair_iff, sPair_iff]; simp [h]
theorem sPair_gt {F : Nat → Nat} {st r s : Rec} {a b : Nat} (h : b < a) : sPair F st a r b s = sPair F st 1 r 0 s := by
  rw [Bool.eq_iff_iff, sPair_iff, sPair_iff]; simp [show ¬ a < b by omega]
theorem sPair_self {F : Nat → Nat} {st r : Rec} {a : Nat} : ¬ sPair F st a r a r = true := by
  rw [sPair_iff]
  rintro ⟨-, ⟨-, h, -⟩, -⟩
  omega
theorem getD_lt {α : Type} {l : List α} {k : Nat} {d : α} (h : k < l.length) : l.getD k d = l[k] := by
  rw [List.getD_eq_getElem?_getD, List.getElem?_eq_getElem h]; rfl
theorem let_iff {F : Nat → Nat} {S L : List Rec} : bars1 F S L = false ↔ ∀ k, k < S.length → sLet F (S.getD k rec0) L := by
  rw [Bool.eq_false_iff, ne_eq, bars1_iff]
  constructor
  · intro h k hk
    unfold sLet
    by_cases z : S.getD k rec0 2 = 0
    · rw [if_pos z]
      intro r hr y
      obtain ⟨a, ha, e⟩ := List.getElem_of_mem hr
      exact h ⟨k, hk, a, ha, by rw [getD_lt ha, e]; exact y, Or.inl z⟩
    · rw [if_neg z, List.pairwise_iff_getElem]
      intro i j hi hj hij
      refine ⟨fun y => h ⟨k, hk, i, hi, by rw [getD_lt hi]; exact y.1, Or.inr ⟨j, hj, ?_⟩⟩, fun y => h ⟨k, hk, j, hj, by rw [getD_lt hj]; exact y.1, Or.inr ⟨i, hi, ?_⟩⟩⟩
      · rw [getD_lt hi, getD_lt hj, sPair_lt hij]; exact y.2
      · rw [getD_lt hi, getD_lt hj, sPair_gt hij]; exact y.2
  · rintro h ⟨k, hk, a, ha, y, q⟩
    have hh := h k hk
    unfold sLet at hh
    rw [getD_lt ha] at y
    rcases q with q | ⟨b, hb, q⟩
    · rw [if_pos q] at hh
      exact hh _ (List.getElem_mem ha) y
    · rw [getD_lt ha, getD_lt hb] at q
      by_cases z : S.getD k rec0 2 = 0
      · rw [if_pos z] at hh
        exact hh _ (List.getElem_mem ha) y
      · rw [if_neg z, List.pairwise_iff_getElem] at hh
        rcases Nat.lt_trichotomy a b with w | w | w
        · exact (hh a b ha hb w).1 ⟨y, by rw [sPair_lt w] at q; exact q⟩
        · subst w; exact sPair_self q
        · exact (hh b a hb ha w).2 ⟨y, by rw [sPair_gt w] at q; exact q⟩
theorem sLet_app {F : Nat → Nat} {st : Rec} {L M : List Rec} : sLet F st (L ++ M) → sLet F st L ∧ sLet F st M := by
  unfold sLet
  split
  · intro h; exact ⟨fun r hr => h r (by simp [hr]), fun r hr => h r (by simp [hr])⟩
  · intro h; rw [List.pairwise_append] at h; exact ⟨h.1, h.2.1⟩
theorem sLet_lvs {F : Nat → Nat} {st : Rec} {D : List Dl} {l : List Nat} : sLet F st (lvs D l) ↔ (∀ d ∈ l, sLet F st (lvs D [d])) ∧ l.Pairwise (fun d e => sLet F st (lvs D [d, e])) := by
  have e2 : ∀ d e, lvs D [d, e] = dL D d ++ dL D e := fun d e => by simp [lvs]
  simp only [e2, lvs_one]
  constructor
  · intro h
    unfold sLet at h ⊢
    by_cases z : st 2 = 0
    · simp only [if_pos z] at h ⊢
      have a : ∀ d ∈ l, ∀ r ∈ dL D d, ¬ sOf (st 0) (st 1) r = true := fun d hd r hr => h r (by unfold lvs; rw [List.mem_flatMap]; exact ⟨d, hd, hr⟩)
      refine ⟨a, List.Pairwise.imp_of_mem (R := fun _ _ => True) (fun {d e} hd he _ r hr => ?_) (List.pairwise_of_forall (fun _ _ => trivial))⟩
      rw [List.mem_append] at hr
      rcases hr with hr | hr
      · exact a d hd r hr
      · exact a e he r hr
    · simp only [if_neg z] at h ⊢
      unfold lvs at h
      rw [List.pairwise_flatMap] at h
      refine ⟨h.1, List.Pairwise.imp_of_mem (fun {d e} hd he q => ?_) h.2⟩
      rw [List.pairwise_append]
      exact ⟨h.1 d hd, h.1 e he, q⟩
  · rintro ⟨h1, h2⟩
    unfold sLet at h1 h2 ⊢
    by_cases z : st 2 = 0
    · simp only [if_pos z] at h1 ⊢
      intro r hr
      unfold lvs at hr
      rw [List.mem_flatMap] at hr
      obtain ⟨d, hd, hr⟩ := hr
      exact h1 d hd r hr
    · simp only [if_neg z] at h1 h2 ⊢
      unfold lvs
      rw [List.pairwise_flatMap]
      exact ⟨h1, h2.imp (fun q => (List.pairwise_append.mp q).2.2)⟩
theorem let_lvs {F : Nat → Nat} {S : List Rec} {D : List Dl} {l : List Nat} : bars1 F S (lvs D l) = false ↔ (∀ d ∈ l, bars1 F S (lvs D [d]) = false) ∧ l.Pairwise (fun d e => bars1 F S (lvs D [d, e]) = false) := by
  simp only [let_iff]
  constructor
  · intro h
    refine ⟨fun d hd k hk => (sLet_lvs.mp (h k hk)).1 d hd, ?_⟩
    rw [List.pairwise_iff_getElem]
    intro i j hi hj hij k hk
    have := (sLet_lvs.mp (h k hk)).2
    rw [List.pairwise_iff_getElem] at this
    exact this i j hi hj hij
  · rintro ⟨h1, h2⟩ k hk
    exact sLet_lvs.mpr ⟨fun d hd => h1 d hd k hk, h2.imp (fun q => q k hk)⟩
/-- do two of the offered, or one, stand barred -/
def prB (x : Ab) (S : List Rec) (j i : Nat) : Bool := bars1 (aF x) S (lvs (aD x) (if (aO x).getD j 0 = (aO x).getD i 0 then [(aO x).getD j 0] else [(aO x).getD j 0, (aO x).getD i 0]))
theorem let_sub {x : Ab} {S : List Rec} {bits : Nat} (nd : (aO x).Nodup) : ∀ {n : Nat}, n ≤ (aO x).length → (bars1 (aF x) S (lvs (aD x) (subK (aO x) bits n)) = false ↔ ∀ i, i < n → bits.testBit i = true → ∀ j, j ≤ i → bits.testBit j = true → prB x S j i = false) := by
  intro n hn
  have inj : ∀ i j, i < n → j < n → ((aO x).getD j 0 = (aO x).getD i 0 ↔ j = i) := fun i j hi hj => by
    rw [getD_lt (show i < (aO x).length by omega), getD_lt (show j < (aO x).length by omega)]
    refine ⟨fun e => ?_, fun e => by subst e; rfl⟩
    have P := List.pairwise_iff_getElem.mp nd
    rcases Nat.lt_trichotomy j i with w | w | w
    · exact absurd e (P j i (by omega) (by omega) w)
    · exact w
    · exact absurd e.symm (P i j (by omega) (by omega) w)
  rw [let_lvs]
  unfold subK
  rw [List.pairwise_map, List.pairwise_filter]
  constructor
  · rintro ⟨h1, h2⟩ i hi bi j hj bj
    unfold prB
    by_cases e : j = i
    · subst e
      rw [if_pos rfl]
      exact h1 _ (List.mem_map.mpr ⟨j, List.mem_filter.mpr ⟨List.mem_range.mpr hi, bj⟩, rfl⟩)
    · rw [if_neg (fun z => e ((inj i j hi (by omega)).mp z))]
      rw [List.pairwise_iff_getElem] at h2
      have := h2 j i (by rw [List.length_range]; omega) (by rw [List.length_range]; omega) (by omega)
      rw [List.getElem_range, List.getElem_range] at this
      exact this bj bi
  · intro h
    refine ⟨fun d hd => ?_, ?_⟩
    · rw [List.mem_map] at hd
      obtain ⟨i, hi, rfl⟩ := hd
      rw [List.mem_filter, List.mem_range] at hi
      have := h i hi.1 hi.2 i (Nat.le_refl _) hi.2
      unfold prB at this
      rw [if_pos rfl] at this
      exact this
    · rw [List.pairwise_iff_getElem]
      intro j i hj hi hij
      rw [List.length_range] at hi hj
      rw [List.getElem_range, List.getElem_range]
      intro bj bi
      have := h i hi bi j (by omega) bj
      unfold prB at this
      rw [if_neg (fun z => by have := (inj i j hi hj).mp z; omega)] at this
      exact this
