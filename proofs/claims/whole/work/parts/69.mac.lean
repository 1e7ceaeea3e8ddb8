/-! A DEAL'S TEXT, READ STEP BY STEP -/
theorem turned_3 (f c : Rec) : turned f c 3 = f 3 := by unfold turned; split <;> rfl
theorem turned_2 (f c : Rec) : turned f c 2 = 1 := by unfold turned; split <;> rfl
theorem turned_0 {f : Rec} (c : Rec) (h : f 0 = 6 ∨ f 0 = 7) : turned f c 0 = f 0 := by
  unfold turned
  split
  · rename_i q; rw [q]; rfl
  · show 7 = f 0; omega
def isTwo (T : List Nat) (f : Rec) (t : Tk) : Bool := f 2 == 0 && (f 0 == 6 && isW T t wElse || f 0 == 7 && isW T t wOr)
/-- from a token on, by the events so far: a fault's place or all events; 0: a part comes, else a part was -/
def mac (T : List Nat) (b : Nat) : Nat → Nat → Tk → List Ev → Option (Nat ⊕ List Ev)
  | 0, _, _, _ => none
  | n + 1, 0, t, E =>
    if pl T t KNDS = 0 then some (.inl t.2.1)
    else if pl T t KNDS ≤ 4 then (match lfS T (pl T t KNDS - 1) t (run b E) with
      | .inl e => some (.inl e)
      | .inr t' => mac T b n 1 t' (E ++ [(0, lfR T (pl T t KNDS - 1) t)]))
    else (match grS T (pl T t KNDS - 1) t (run b E) with
      | .inl e => some (.inl e)
      | .inr t' => mac T b n 0 t' (E ++ [gEv T (pl T t KNDS - 1) t]))
  | n + 1, _ + 1, t, E =>
    if t.1 = 44 then mac T b n 0 (nxt T t) E
    else (match sK (run b E) with
      | [] => if t.1 = 0 then some (.inr E) else some (.inl t.2.1)
      | f :: l => if t.1 = 125 then
          (if isTwo T f (nxt T t) then (match sOpen T l.length (.inr (nxt T (nxt T t))) with
            | .inl e => some (.inl e)
            | .inr t' => mac T b n 0 t' (E ++ [(8, rec0)]))
          else mac T b n 1 (nxt T t) (E ++ [(9, rec0)]))
        else some (.inl t.2.1))
def GI (b : Nat) (s : St) (md : Nat) : Prop := GB b s md ∧ ∀ f ∈ sK s, FrOk b s f
theorem GI.leaf {b : Nat} {s : St} {r : Rec} (G : GI b s 0) (h : (sL s).length ≠ 12) : GI b (stp s (0, r)) 1 := by
  obtain ⟨⟨g0, g1, g2, g3, g4, g5, g6⟩, F⟩ := G
  rw [if_pos rfl] at g2
  rw [stp_leaf]
  refine ⟨⟨g0, ?_, ?_, ?_, g4, g5, g6⟩, fun f hf => ?_⟩
  · show b ≤ sN s + 1; omega
  · show sN s + 1 ≤ b + 7 * (sL s ++ [_]).length + _
    rw [List.length_append, List.length_singleton]
    omega
  · show (sL s ++ [_]).length ≤ 12
    rw [List.length_append, List.length_singleton]; omega
  · obtain ⟨a1, a2, a3, a4⟩ := F f hf
    refine ⟨a1, ?_, ?_, a4⟩
    · show f 3 < sN s + 1; omega
    · show leafNd (newNd s (r 0)) r (sN s) 58 (f 3) = f 0
      rw [leafNd_ne (by omega), newNd_ne (by omega)]; exact a3
theorem GI.grp {b kd : Nat} {s : St} {r : Rec} (G : GI b s 0) (h4 : 4 ≤ kd) (h7 : kd ≤ 7) (h : (sK s).length ≠ 6) (hc : ¬ (kd = 7 ∧ sC s = 3)) (h5 : kd = 6 → r 0 < 5) : GI b (stp s (kd, r)) 0 := by
  obtain ⟨⟨g0, g1, g2, g3, g4, g5, g6⟩, F⟩ := G
  rw [if_pos rfl] at g2
  rw [stp_open h4 h7]
  refine ⟨⟨g0, ?_, ?_, g3, ?_, ?_, ?_⟩, fun f hf => ?_⟩
  · show b ≤ sN s + 1; omega
  · show sN s + 1 ≤ b + 7 * (sL s).length + (if 0 = 0 then ((sK s).length + 1) else 0)
    rw [if_pos rfl]; omega
  · show (sK s).length + 1 ≤ 6; omega
  · show (if kd = 7 then sC s + 1 else sC s) ≤ 3
    split <;> omega
  · show (if kd = 6 then sE s ||| 2 ^ r 0 else sE s) < 32
    split
    · rename_i q
      have : 2 ^ r 0 ≤ 2 ^ 4 := pw_le (by have := h5 q; omega)
      exact Nat.or_lt_two_pow (n := 5) g6 (by omega)
    · exact g6
  · have hf' : f ∈ opened s kd (r 0) :: sK s := hf
    rw [List.mem_cons] at hf'
    rcases hf' with rfl | hf'
    · refine ⟨?_, ?_, ?_, ?_, ?_, ?_⟩
      · rw [opened_3]; exact g1
      · rw [opened_3]; show sN s < sN s + 1; omega
      · rw [opened_3, opened_0 h4 h7]
        show up2 (newNd s kd) 59 (sN s) (opened s kd (r 0) 1) 58 (sN s) = kd
        rw [up2_if, if_neg (by omega)]; exact (newNd_at s kd).1
      · rw [opened_0 h4 h7]; exact h4
      · rw [opened_0 h4 h7]; exact h7
      · rw [opened_2]; decide
    · obtain ⟨a1, a2, a3, a4⟩ := F f hf'
      refine ⟨a1, ?_, ?_, a4⟩
      · show f 3 < sN s + 1; omega
      · show up2 (newNd s kd) 59 (sN s) (opened s kd (r 0) 1) 58 (f 3) = f 0
        rw [up2_if, if_neg (by omega), newNd_ne (by omega)]; exact a3
theorem GI.come {b : Nat} {s : St} (G : GI b s 1) : GI b s 0 := by
  obtain ⟨⟨g0, g1, g2, g3, g4, g5, g6⟩, F⟩ := G
  rw [if_neg (by decide)] at g2
  exact ⟨⟨g0, g1, by rw [if_pos rfl]; omega, g3, g4, g5, g6⟩, F⟩
theorem stp_two {s : St} {f : Rec} {l : List Rec} {r : Rec} (h : sK s = f :: l) : stp s (8, r) = (turned f (ctx l) :: l, sL s, (sC s, sE s, sN s), up2 (up2 (sD s) 62 (f 3) (sN s)) 63 (f 3) (sN s + 1)) := by
  unfold stp
  rw [if_neg (by show ¬ 8 = 0; decide), if_neg (by show ¬ 8 < 8; decide), h]
  rfl
theorem stp_end {s : St} {f : Rec} {l : List Rec} {r : Rec} (h : sK s = f :: l) : stp s (9, r) = (l, sL s, (sC s, sE s, sN s), up2 (sD s) 62 (f 3) (sN s)) := by
  unfold stp
  rw [if_neg (by show ¬ 9 = 0; decide), if_neg (by show ¬ 9 < 8; decide), h]
  rfl
theorem GI.two {b : Nat} {s : St} {f : Rec} {l : List Rec} {r : Rec} (G : GI b s 1) (h : sK s = f :: l) (hk : f 0 = 6 ∨ f 0 = 7) : GI b (stp s (8, r)) 0 := by
  obtain ⟨⟨g0, g1, g2, g3, g4, g5, g6⟩, F⟩ := G
  rw [if_neg (by decide)] at g2
  rw [stp_two h]
  rw [h] at g4 F
  refine ⟨⟨g0, g1, ?_, g3, g4, g5, g6⟩, fun g hg => ?_⟩
  · show sN s ≤ b + 7 * (sL s).length + _; omega
  · have hg' : g ∈ turned f (ctx l) :: l := hg
    rw [List.mem_cons] at hg'
    rcases hg' with rfl | hg'
    · obtain ⟨a1, a2, a3, a4, a5, a6⟩ := F f (by simp)
      refine ⟨?_, ?_, ?_, ?_, ?_, ?_⟩
      · rw [turned_3]; exact a1
      · rw [turned_3]; exact a2
      · rw [turned_3, turned_0 _ hk]
        show up2 (up2 (sD s) 62 (f 3) (sN s)) 63 (f 3) (sN s + 1) 58 (f 3) = f 0
        rw [up2_if, if_neg (by omega), up2_if, if_neg (by omega)]; exact a3
      · rw [turned_0 _ hk]; exact a4
      · rw [turned_0 _ hk]; exact a5
      · rw [turned_2]; decide
    · obtain ⟨a1, a2, a3, a4⟩ := F g (by simp [hg'])
      refine ⟨a1, a2, ?_, a4⟩
      show up2 (up2 (sD s) 62 (f 3) (sN s)) 63 (f 3) (sN s + 1) 58 (g 3) = g 0
      rw [up2_if, if_neg (by omega), up2_if, if_neg (by omega)]; exact a3
theorem GI.end {b : Nat} {s : St} {f : Rec} {l : List Rec} {r : Rec} (G : GI b s 1) (h : sK s = f :: l) : GI b (stp s (9, r)) 1 := by
  obtain ⟨⟨g0, g1, g2, g3, g4, g5, g6⟩, F⟩ := G
  rw [stp_end h]
  rw [h] at g4 F
  refine ⟨⟨g0, g1, g2, g3, ?_, g5, g6⟩, fun g hg => ?_⟩
  · show l.length ≤ 6
    rw [List.length_cons] at g4; omega
  · obtain ⟨a1, a2, a3, a4⟩ := F g (by have hg' : g ∈ l := hg; simp [hg'])
    refine ⟨a1, a2, ?_, a4⟩
    show up2 (sD s) 62 (f 3) (sN s) 58 (g 3) = g 0
    rw [up2_if, if_neg (by omega)]; exact a3
