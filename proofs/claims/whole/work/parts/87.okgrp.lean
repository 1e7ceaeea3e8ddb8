/-! WHAT HOLDS OF A DEAL WHILE IT IS READ: a group -/
set_option maxHeartbeats 4000000 in
set_option maxRecDepth 100000 in
theorem WI.grp {b kd : Nat} {s : St} {r : Rec} (W : WI b s) (hK : (sK s).length < 6) (h4 : 4 ≤ kd) (h7 : kd ≤ 7) (n4 : kd = 4 → r 0 < 400) (n5 : kd = 5 → r 0 < 10) (n6 : kd = 6 → r 0 < 5) (n7 : kd = 7 → sC s < 3) (hb : b ≤ sN s) : WI b (stp s (kd, r)) := by
  obtain ⟨w1, w2, w3, w4, w5, w6, w7⟩ := W
  rw [stp_open h4 h7]
  obtain ⟨tU, tP⟩ := topUp_le (m := sN s) w2
  have o1 := opened_1 (s := s) (n := r 0) h4 h7
  have o2 := opened_2 s kd (r 0)
  have o3 := opened_3 s kd (r 0)
  have oi := opened_in (s := s) (n := r 0) h4 h7
  generalize opened s kd (r 0) = op at o1 o2 o3 oi
  have hne : ∀ c j, j ≠ sN s → up2 (newNd s kd) 59 (sN s) (op 1) c j = sD s c j := fun c j hj => by rw [up2_if, if_neg (by omega), newNd_ne hj]
  have hat : ∀ c, c ≠ 59 → up2 (newNd s kd) 59 (sN s) (op 1) c (sN s) = newNd s kd c (sN s) := fun c hc => by rw [up2_if, if_neg (by omega)]
  have h59 : up2 (newNd s kd) 59 (sN s) (op 1) 59 (sN s) = op 1 := by rw [up2_if, if_pos ⟨rfl, rfl⟩]
  obtain ⟨a1, a2, a3, a4, a5, a6⟩ := newNd_at s kd
  have m60 : ∀ j, j < sN s + 1 → up2 (newNd s kd) 59 (sN s) (op 1) 60 j ≤ j := by
    intro j hj
    by_cases q : j = sN s
    · subst q; rw [hat 60 (by decide), a3]; omega
    · rw [hne 60 j q]; exact w1 j (by omega)
  have old : ∀ c j, 58 ≤ c → c ≤ 61 → j < sN s → up2 (newNd s kd) 59 (sN s) (op 1) c j = sD s c j := fun c j _ _ hj => hne c j (by omega)
  have F3 : ∀ f ∈ sK s, f 3 < sN s := fun f hf => (w2 f hf).1
  have S' : StkC (up2 (newNd s kd) 59 (sN s) (op 1)) (sK s) := w3.mv old F3
  have dpe := dep_stk m60 (sK s) (sN s + 1) S' (fun f hf => by have := F3 f hf; omega) (by omega)
  have b4 : kd = 4 → op 1 < 400 := fun q => by rw [o1, if_neg (by omega)]; exact n4 q
  have b5 : kd = 5 → op 1 < 10 := fun q => by rw [o1, if_neg (by omega)]; exact n5 q
  have b6 : kd = 6 → op 1 < 5 := fun q => by rw [o1, if_neg (by omega)]; exact n6 q
  have b7 : kd = 7 → op 1 < 3 := fun q => by rw [o1, if_pos q]; exact n7 q
  refine ⟨m60, fun f hf => ?_, ⟨?_, ?_, ?_, S'⟩, ⟨?_, w4⟩, fun q hq => ?_, fun i h1 h2 => ?_, fun i h1 h2 => ?_⟩
  · have hf' : f ∈ op :: sK s := hf
    rw [List.mem_cons] at hf'
    rcases hf' with rfl | hf'
    · refine ⟨by rw [o3]; show sN s < sN s + 1; omega, by rw [o3]; exact hb, ?_, by rw [o2]; decide⟩
      show 4 ≤ up2 (newNd s kd) 59 (sN s) (f 1) 58 (f 3)
      rw [o3, hat 58 (by decide), a1]; exact h4
    · obtain ⟨x1, x2, x3, x4⟩ := w2 f hf'
      refine ⟨by show f 3 < sN s + 1; omega, x2, ?_, x4⟩
      show 4 ≤ up2 (newNd s kd) 59 (sN s) (op 1) 58 (f 3)
      rw [hne 58 _ (by omega)]; exact x3
  · show eq47 op (inside (up2 (newNd s kd) 59 (sN s) (op 1) 58 (op 3)) (up2 (newNd s kd) 59 (sN s) (op 1) 59 (op 3)) (op 2) (ctx (sK s)))
    rw [o3, o2, hat 58 (by decide), h59, a1]; exact oi
  · show up2 (newNd s kd) 59 (sN s) (op 1) 60 (op 3) = _
    rw [o3, hat 60 (by decide), a3]
  · show up2 (newNd s kd) 59 (sN s) (op 1) 61 (op 3) = _
    rw [o3, hat 61 (by decide), a4]
  · exact CB.eq (inside_CB w4.ctx (fun q => by have := b4 q; omega) (fun q => by have := b5 q; omega) b6 b7 h4 h7) oi
  · obtain ⟨x1, x2, x3⟩ := w5 q hq
    exact ⟨x1, x2, by show q 11 < sN s + 1; omega⟩
  · have h2' : i < sN s + 1 := h2
    by_cases q : i = sN s
    · subst q
      unfold NdOk
      show up2 (newNd s kd) 59 (sN s) (op 1) 58 (sN s) < 8 ∧ (up2 (newNd s kd) 59 (sN s) (op 1) 60 (sN s) = 0 ∨ b < up2 (newNd s kd) 59 (sN s) (op 1) 60 (sN s) ∧ up2 (newNd s kd) 59 (sN s) (op 1) 60 (sN s) ≤ sN s ∧ 4 ≤ up2 (newNd s kd) 59 (sN s) (op 1) 58 (up2 (newNd s kd) 59 (sN s) (op 1) 60 (sN s) - 1)) ∧ up2 (newNd s kd) 59 (sN s) (op 1) 61 (sN s) < 2 ∧ (up2 (newNd s kd) 59 (sN s) (op 1) 58 (sN s) = 4 → up2 (newNd s kd) 59 (sN s) (op 1) 59 (sN s) < 400) ∧ (up2 (newNd s kd) 59 (sN s) (op 1) 58 (sN s) = 5 → up2 (newNd s kd) 59 (sN s) (op 1) 59 (sN s) < 10) ∧ (up2 (newNd s kd) 59 (sN s) (op 1) 58 (sN s) = 6 → up2 (newNd s kd) 59 (sN s) (op 1) 59 (sN s) < 5) ∧ (up2 (newNd s kd) 59 (sN s) (op 1) 58 (sN s) = 7 → up2 (newNd s kd) 59 (sN s) (op 1) 59 (sN s) < 3) ∧ (up2 (newNd s kd) 59 (sN s) (op 1) 58 (sN s) < 4 → up2 (newNd s kd) 59 (sN s) (op 1) 59 (sN s) = 0) ∧ sN s < up2 (newNd s kd) 59 (sN s) (op 1) 62 (sN s) ∧ up2 (newNd s kd) 59 (sN s) (op 1) 62 (sN s) ≤ sN s + 1 ∧ up2 (newNd s kd) 59 (sN s) (op 1) 63 (sN s) ≤ sN s + 1 + 1 ∧ dep (up2 (newNd s kd) 59 (sN s) (op 1)) (sN s + 1) (up2 (newNd s kd) 59 (sN s) (op 1) 60 (sN s)) ≤ 6
      rw [hat 58 (by decide), h59, hat 60 (by decide), hat 61 (by decide), hat 62 (by decide), hat 63 (by decide), a1, a3, a4, a5, a6, dpe]
      refine ⟨by omega, ?_, tP, b4, b5, b6, b7, by omega, by omega, by omega, by omega, by omega⟩
      rcases tU with t | ⟨t1, t2, t3⟩
      · exact Or.inl t
      · refine Or.inr ⟨t1, t2, ?_⟩
        rw [hne 58 _ (by omega)]; exact t3
    · have N := w6 i h1 (by omega)
      refine N.mv (fun j hj => w1 j (by omega)) (fun c j x1 x2 x3 => hne c j (by omega)) ?_ ?_
      · show i < up2 (newNd s kd) 59 (sN s) (op 1) 62 i ∧ up2 (newNd s kd) 59 (sN s) (op 1) 62 i ≤ sN s + 1
        rw [hne 62 i q]
        have := N.2.2.2.2.2.2.2.2.1
        have := N.2.2.2.2.2.2.2.2.2.1
        omega
      · show up2 (newNd s kd) 59 (sN s) (op 1) 63 i ≤ sN s + 1 + 1
        rw [hne 63 i q]
        have := N.2.2.2.2.2.2.2.2.2.2.1
        omega
  · have h2' : i < sN s + 1 := h2
    unfold RemAt
    show (4 ≤ up2 (newNd s kd) 59 (sN s) (op 1) 58 i ∧ rem (sL s) i = rem (sL s) (i + 1)) ∨ (up2 (newNd s kd) 59 (sN s) (op 1) 58 i < 4 ∧ ∃ q, rem (sL s) i = q :: rem (sL s) (i + 1) ∧ LfAt _ q i ∧ LfOk q)
    by_cases q : i = sN s
    · subst q
      exact Or.inl ⟨by rw [hat 58 (by decide), a1]; exact h4, by rw [rem_none (fun q hq => (w5 q hq).2.2), rem_none (fun q hq => Nat.lt_succ_of_lt (w5 q hq).2.2)]⟩
    · rw [hne 58 i q]
      rcases w7 i h1 (by omega) with ⟨x1, x2⟩ | ⟨x1, g, x2, x3, x4⟩
      · exact Or.inl ⟨x1, x2⟩
      · exact Or.inr ⟨x1, g, x2, x3.mv (fun j hj => w1 j (by omega)) (fun c j y1 y2 y3 => hne c j (by omega)) (fun c y1 y2 => hne c i q), x4⟩
