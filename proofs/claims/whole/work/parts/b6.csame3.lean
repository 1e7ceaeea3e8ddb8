/-! THE CLASS: same, by keys -/
theorem own_0 (c : Nat) : own c 0 = c := by unfold own; omega
theorem amt_nz (r : Rec) : ∀ fl : List Rec, amt (nz fl) r = amt fl r
  | [] => rfl
  | q :: fl => by
    have ih := amt_nz r fl
    unfold nz at ih ⊢
    rw [List.filter_cons]
    by_cases y : q 4 = 0
    · rw [if_neg (by simp [y]), ih, amt_cons, y]; simp
    · rw [if_pos (by simp [y]), amt_cons, amt_cons, ih]
def kOk (q : Rec) : Prop := q 1 < 8 ∧ q 2 < 8 ∧ q 3 < 6
theorem key_un (q : Rec) : keyN (un q) = keyN q := rfl
theorem un_4 (q : Rec) : un q 4 = q 6 := rfl
theorem amt_un {r : Rec} (hr : kOk r) : ∀ {fs : List Rec}, (∀ q ∈ fs, kOk q) → amt (fs.map un) r = (fs.map (fun q => if keyN q = keyN r then q 6 else 0)).sum
  | [], _ => rfl
  | q :: fs, h => by
    rw [List.map_cons, amt_cons, List.map_cons, List.sum_cons, amt_un hr (fun p hp => h p (by simp [hp])), un_4]
    have e := key_same (q := un q) (r := r) (h q (by simp)) hr
    rw [key_un] at e
    by_cases y : keyN q = keyN r
    · rw [if_pos y, if_pos (e.mp y)]
    · rw [if_neg y, if_neg (fun w => y (e.mpr w))]
theorem amt_amK {L : List Rec} (hL : ∀ q ∈ cRows L, CrOk q) {r : Rec} (hr : kOk r) (c : Nat) : amt (nz (dlRows L (own c 0))) r = amK c (cRows L) (keyN r) := by
  rw [amt_nz, own_0, dl_c, amt_un hr (fun q hq => ?_)]
  · rfl
  · have := hL q (List.mem_filter.mp hq).1
    exact ⟨this.2.1, this.2.2.1, this.2.2.2.1⟩
theorem amK_pos {c ky : Nat} : ∀ {fs : List Rec}, (fs.map (fun q => if keyN q = ky then q 6 else 0)).sum ≠ 0 → ∃ q ∈ fs, keyN q = ky ∧ q 6 ≠ 0
  | [], h => absurd rfl h
  | q :: fs, h => by
    rw [List.map_cons, List.sum_cons] at h
    by_cases y : keyN q = ky ∧ q 6 ≠ 0
    · exact ⟨q, by simp, y⟩
    · have z : (if keyN q = ky then q 6 else 0) = 0 := by
        by_cases w : keyN q = ky
        · rw [if_pos w]
          exact Classical.byContradiction (fun v => y ⟨w, v⟩)
        · rw [if_neg w]
      rw [z, Nat.zero_add] at h
      obtain ⟨p, hp, hp2⟩ := amK_pos (c := c) h
      exact ⟨p, by simp [hp], hp2⟩
theorem apB_iff {x : Ab} (K : OkA x) {a b : Nat} (ha : a < (aD x).length) (hb : b < (aD x).length) (c : Nat) : apB (aD x) a b c = true ↔ ∃ ky, amK c (cRows (dL (aD x) a)) ky ≠ amK c (cRows (dL (aD x) b)) ky := by
  have oa : ∀ q ∈ cRows (dL (aD x) a), CrOk q := (cRows_ok (K.1 a ha).1.2.2.2.2.2.2.1).1
  have ob : ∀ q ∈ cRows (dL (aD x) b), CrOk q := (cRows_ok (K.1 b hb).1.2.2.2.2.2.2.1).1
  have mem : ∀ d, d < (aD x).length → ∀ r, r ∈ nz (dlRows (dL (aD x) d) (own c 0)) → kOk r := by
    intro d hd r hr
    have o := (cRows_ok (K.1 d hd).1.2.2.2.2.2.2.1).1
    unfold nz at hr
    obtain ⟨h1, -⟩ := List.mem_filter.mp hr
    rw [own_0, dl_c] at h1
    obtain ⟨q, hq, rfl⟩ := List.mem_map.mp h1
    have := o q (List.mem_filter.mp hq).1
    exact ⟨this.2.1, this.2.2.1, this.2.2.2.1⟩
  have wit : ∀ d, d < (aD x).length → ∀ ky, amK c (cRows (dL (aD x) d)) ky ≠ 0 → ∃ r, r ∈ nz (dlRows (dL (aD x) d) (own c 0)) ∧ keyN r = ky := by
    intro d hd ky h
    obtain ⟨q, hq, k1, k2⟩ := amK_pos (c := c) h
    refine ⟨un q, ?_, by rw [key_un]; exact k1⟩
    unfold nz
    refine List.mem_filter.mpr ⟨?_, by rw [un_4]; simpa using k2⟩
    rw [own_0, dl_c]
    exact List.mem_map.mpr ⟨q, hq, rfl⟩
  unfold apB
  rw [List.any_eq_true]
  constructor
  · rintro ⟨r, hr, h2⟩
    have kr : kOk r := by
      rcases List.mem_append.mp hr with y | y
      · exact mem a ha r y
      · exact mem b hb r y
    rw [amt_amK oa kr, amt_amK ob kr] at h2
    exact ⟨keyN r, by simpa using h2⟩
  · rintro ⟨ky, h⟩
    have : ∃ r, r ∈ nz (dlRows (dL (aD x) a) (own c 0)) ++ nz (dlRows (dL (aD x) b) (own c 0)) ∧ keyN r = ky := by
      by_cases y : amK c (cRows (dL (aD x) a)) ky = 0
      · obtain ⟨r, h1, h2⟩ := wit b hb ky (by omega)
        exact ⟨r, List.mem_append.mpr (Or.inr h1), h2⟩
      · obtain ⟨r, h1, h2⟩ := wit a ha ky y
        exact ⟨r, List.mem_append.mpr (Or.inl h1), h2⟩
    obtain ⟨r, hr, hk⟩ := this
    have kr : kOk r := by
      rcases List.mem_append.mp hr with y | y
      · exact mem a ha r y
      · exact mem b hb r y
    refine ⟨r, hr, ?_⟩
    rw [amt_amK oa kr, amt_amK ob kr, hk]
    simpa using h
/-- the bits that two deals name -/
def nm2 (D : List Dl) (a b : Nat) : Nat := (dE D a ||| dE D b) + 32 * (2 ^ mostC D a b - 1)
theorem amK_cut {rs : List Rec} {m : Nat} (h : ∀ q ∈ rs, q 4 &&& m = q 4) (c ky : Nat) : amK (c &&& m) rs ky = amK c rs ky := by
  unfold amK
  have : rs.filter (psB (c &&& m)) = rs.filter (psB c) := List.filter_congr (fun q hq => by
    unfold psB
    rw [Nat.and_assoc, Nat.and_comm m, h q hq])
  rw [this]
