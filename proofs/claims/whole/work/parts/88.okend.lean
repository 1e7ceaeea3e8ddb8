/-! WHAT HOLDS OF A DEAL WHILE IT IS READ: a group's part ends -/
theorem WI.sub {b : Nat} {s s' : St} (W : WI b s) (hN : sN s' = sN s) (hL : sL s' = sL s) (e : ∀ c j, c ≠ 62 → c ≠ 63 → sD s' c j = sD s c j) (e62 : ∀ i, b ≤ i → i < sN s → i < sD s' 62 i ∧ sD s' 62 i ≤ sN s) (e63 : ∀ i, b ≤ i → i < sN s → sD s' 63 i ≤ sN s + 1)
    (w2 : ∀ f ∈ sK s', f 3 < sN s ∧ b ≤ f 3 ∧ 4 ≤ sD s 58 (f 3) ∧ f 2 < 2) (w3 : StkC (sD s) (sK s')) (w4 : StkB (sK s')) : WI b s' := by
  obtain ⟨w1, -, -, -, w5, w6, w7⟩ := W
  unfold WI
  rw [hN, hL]
  refine ⟨fun j hj => by rw [e 60 j (by decide) (by decide)]; exact w1 j hj, fun f hf => ?_, w3.mv (m := sN s) (fun c j c1 c2 _ => e c j (by omega) (by omega)) (fun f hf => (w2 f hf).1), w4, w5, fun i h1 h2 => ?_, fun i h1 h2 => ?_⟩
  · rw [e 58 _ (by decide) (by decide)]; exact w2 f hf
  · exact (w6 i h1 h2).mv (fun j hj => w1 j (by omega)) (fun c j c1 c2 _ => e c j (by omega) (by omega)) (by rw [hN]; exact e62 i h1 h2) (by rw [hN]; exact e63 i h1 h2)
  · unfold RemAt
    rw [hL, e 58 i (by decide) (by decide)]
    rcases w7 i h1 h2 with x | ⟨x1, g, x2, x3, x4⟩
    · exact Or.inl x
    · exact Or.inr ⟨x1, g, x2, x3.mv (fun j hj => w1 j (by omega)) (fun c j c1 c2 _ => e c j (by omega) (by omega)) (fun c c1 c2 => e c i (by omega) (by omega)), x4⟩
theorem WI.end {b : Nat} {s : St} {f : Rec} {l : List Rec} {r : Rec} (W : WI b s) (h : sK s = f :: l) : WI b (stp s (9, r)) := by
  have w2 := W.2.1; have w3 := W.2.2.1; have w4 := W.2.2.2.1; have w6 := W.2.2.2.2.2.1
  rw [h] at w2 w3 w4
  have hf := w2 f (by simp)
  rw [stp_end h]
  refine W.sub rfl rfl (fun c j c1 c2 => ?_) (fun i h1 h2 => ?_) (fun i h1 h2 => ?_) (fun g hg => w2 g (by simp [show g ∈ l from hg])) w3.2.2.2 w4.2
  · show up2 (sD s) 62 (f 3) (sN s) c j = sD s c j
    rw [up2_if, if_neg (by omega)]
  · show i < up2 (sD s) 62 (f 3) (sN s) 62 i ∧ up2 (sD s) 62 (f 3) (sN s) 62 i ≤ sN s
    rw [up2_if]
    have N := w6 i h1 h2
    split
    · omega
    · exact ⟨N.2.2.2.2.2.2.2.2.1, N.2.2.2.2.2.2.2.2.2.1⟩
  · show up2 (sD s) 62 (f 3) (sN s) 63 i ≤ sN s + 1
    rw [up2_if, if_neg (by omega)]
    exact (w6 i h1 h2).2.2.2.2.2.2.2.2.2.2.1
theorem WI.two {b : Nat} {s : St} {f : Rec} {l : List Rec} {r : Rec} (W : WI b s) (h : sK s = f :: l) (hk : f 0 = 6 ∨ f 0 = 7) (h58 : sD s 58 (f 3) = f 0) (h59 : sD s 59 (f 3) = f 1) : WI b (stp s (8, r)) := by
  have w2 := W.2.1; have w3 := W.2.2.1; have w4 := W.2.2.2.1; have w6 := W.2.2.2.2.2.1
  rw [h] at w2 w3 w4
  have hf := w2 f (by simp)
  have N3 := w6 (f 3) hf.2.1 hf.1
  rw [stp_two h]
  refine W.sub rfl rfl (fun c j c1 c2 => ?_) (fun i h1 h2 => ?_) (fun i h1 h2 => ?_) (fun g hg => ?_) ⟨?_, ?_, ?_, w3.2.2.2⟩ ⟨?_, w4.2⟩
  · show up2 (up2 (sD s) 62 (f 3) (sN s)) 63 (f 3) (sN s + 1) c j = sD s c j
    rw [up2_if, if_neg (by omega), up2_if, if_neg (by omega)]
  · show i < up2 (up2 (sD s) 62 (f 3) (sN s)) 63 (f 3) (sN s + 1) 62 i ∧ up2 (up2 (sD s) 62 (f 3) (sN s)) 63 (f 3) (sN s + 1) 62 i ≤ sN s
    rw [up2_if, if_neg (by omega), up2_if]
    have N := w6 i h1 h2
    split
    · omega
    · exact ⟨N.2.2.2.2.2.2.2.2.1, N.2.2.2.2.2.2.2.2.2.1⟩
  · show up2 (up2 (sD s) 62 (f 3) (sN s)) 63 (f 3) (sN s + 1) 63 i ≤ sN s + 1
    rw [up2_if]
    split
    · omega
    · rw [up2_if, if_neg (by omega)]
      exact (w6 i h1 h2).2.2.2.2.2.2.2.2.2.2.1
  · have hg' : g ∈ turned f (ctx l) :: l := hg
    rw [List.mem_cons] at hg'
    rcases hg' with rfl | hg'
    · rw [turned_3, turned_2]; exact ⟨hf.1, hf.2.1, hf.2.2.1, by decide⟩
    · exact w2 g (by simp [hg'])
  · rw [turned_3, turned_2, h58, h59]; exact turned_in hk
  · rw [turned_3]; exact w3.2.1
  · rw [turned_3]; exact w3.2.2.1
  · refine CB.eq (inside_CB (k := f 0) (n := f 1) (p := 1) w4.2.ctx (by omega) (by omega) (fun q => ?_) (fun q => ?_) (by omega) (by omega)) (turned_in hk)
    · rw [← h59]; exact N3.2.2.2.2.2.1 (by rw [h58]; exact q)
    · rw [← h59]; exact N3.2.2.2.2.2.2.1 (by rw [h58]; exact q)
