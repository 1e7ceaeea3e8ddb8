/-! WHAT HOLDS OF A DEAL WHILE IT IS READ: a leaf -/
def LfIn (r : Rec) : Prop := r 0 < 4 ∧ r 1 < 8 ∧ r 2 < 8 ∧ r 1 ≠ r 2 ∧ r 3 < 6 ∧ r 4 < 10000 ∧ r 5 < 10000 ∧ r 6 < 400 ∧ r 7 < 400 ∧ (r 0 < 2 → r 5 = 0)
theorem topUp_le {b m : Nat} {s : St} (hm : ∀ f ∈ sK s, f 3 < m ∧ b ≤ f 3 ∧ 4 ≤ sD s 58 (f 3) ∧ f 2 < 2) : (topUp (sK s) = 0 ∨ b < topUp (sK s) ∧ topUp (sK s) ≤ m ∧ 4 ≤ sD s 58 (topUp (sK s) - 1)) ∧ topPart (sK s) < 2 := by
  cases hK : sK s with
  | nil => exact ⟨Or.inl rfl, by show 0 < 2; decide⟩
  | cons f l =>
    obtain ⟨h1, h2, h3, h4⟩ := hm f (by rw [hK]; simp)
    refine ⟨Or.inr ⟨?_, ?_, ?_⟩, h4⟩
    · show b < f 3 + 1; omega
    · show f 3 + 1 ≤ m; omega
    · show 4 ≤ sD s 58 (f 3 + 1 - 1); exact h3
set_option maxHeartbeats 4000000 in
set_option maxRecDepth 100000 in
theorem WI.leaf {b : Nat} {s : St} {r : Rec} (W : WI b s) (hK : (sK s).length ≤ 6) (hr : LfIn r) (hb : b ≤ sN s) : WI b (stp s (0, r)) := by
  obtain ⟨w1, w2, w3, w4, w5, w6, w7⟩ := W
  obtain ⟨i0, i1, i2, i3, i4, i5, i6, i7, i8, i9⟩ := hr
  rw [stp_leaf]
  obtain ⟨tU, tP⟩ := topUp_le (m := sN s) w2
  have hne : ∀ c j, j ≠ sN s → leafNd (newNd s (r 0)) r (sN s) c j = sD s c j := fun c j hj => by rw [leafNd_ne hj, newNd_ne hj]
  have hat : ∀ c, c < 64 → leafNd (newNd s (r 0)) r (sN s) c (sN s) = newNd s (r 0) c (sN s) := fun c hc => leafNd_lo hc
  obtain ⟨a1, a2, a3, a4, a5, a6⟩ := newNd_at s (r 0)
  have m60 : ∀ j, j < sN s + 1 → leafNd (newNd s (r 0)) r (sN s) 60 j ≤ j := by
    intro j hj
    by_cases q : j = sN s
    · subst q; rw [hat 60 (by decide), a3]; omega
    · rw [hne 60 j q]; exact w1 j (by omega)
  have old : ∀ c j, 58 ≤ c → c ≤ 61 → j < sN s → leafNd (newNd s (r 0)) r (sN s) c j = sD s c j := fun c j _ _ hj => hne c j (by omega)
  have F3 : ∀ f ∈ sK s, f 3 < sN s := fun f hf => (w2 f hf).1
  have S' : StkC (leafNd (newNd s (r 0)) r (sN s)) (sK s) := w3.mv old F3
  have cxe := ctx_cx m60 (sK s) (sN s + 1) S' (fun f hf => by have := F3 f hf; omega) (by omega)
  have dpe := dep_stk m60 (sK s) (sN s + 1) S' (fun f hf => by have := F3 f hf; omega) (by omega)
  obtain ⟨c4, c5, c6, c7⟩ := w4.ctx.six hK
  have lok : LfOk (leafRec (ctx (sK s)) r (sN s)) := by
    refine ⟨i0, i1, i2, i3, i4, i5, i6, ?_, ?_, c5, c6, c7, i9⟩
    · show r 6 + ctx (sK s) 4 < 3000; omega
    · show r 7 + ctx (sK s) 4 < 3000; omega
  refine ⟨m60, fun f hf => ?_, S', w4, fun q hq => ?_, fun i h1 h2 => ?_, fun i h1 h2 => ?_⟩
  · obtain ⟨x1, x2, x3, x4⟩ := w2 f hf
    refine ⟨by show f 3 < sN s + 1; omega, x2, ?_, x4⟩
    show 4 ≤ leafNd (newNd s (r 0)) r (sN s) 58 (f 3)
    rw [hne 58 _ (by omega)]; exact x3
  · have hq' : q ∈ sL s ++ [leafRec (ctx (sK s)) r (sN s)] := hq
    rw [List.mem_append, List.mem_singleton] at hq'
    rcases hq' with hq' | rfl
    · obtain ⟨x1, x2, x3⟩ := w5 q hq'
      exact ⟨x1, x2, by show q 11 < sN s + 1; omega⟩
    · exact ⟨lok, hb, by show sN s < sN s + 1; omega⟩
  · have h2' : i < sN s + 1 := h2
    by_cases q : i = sN s
    · subst q
      show NdOk b (sK s, _, _, leafNd (newNd s (r 0)) r (sN s)) (sN s)
      unfold NdOk
      show leafNd (newNd s (r 0)) r (sN s) 58 (sN s) < 8 ∧ (leafNd (newNd s (r 0)) r (sN s) 60 (sN s) = 0 ∨ b < leafNd (newNd s (r 0)) r (sN s) 60 (sN s) ∧ leafNd (newNd s (r 0)) r (sN s) 60 (sN s) ≤ sN s ∧ 4 ≤ leafNd (newNd s (r 0)) r (sN s) 58 (leafNd (newNd s (r 0)) r (sN s) 60 (sN s) - 1)) ∧ leafNd (newNd s (r 0)) r (sN s) 61 (sN s) < 2 ∧ (leafNd (newNd s (r 0)) r (sN s) 58 (sN s) = 4 → leafNd (newNd s (r 0)) r (sN s) 59 (sN s) < 400) ∧ (leafNd (newNd s (r 0)) r (sN s) 58 (sN s) = 5 → leafNd (newNd s (r 0)) r (sN s) 59 (sN s) < 10) ∧ (leafNd (newNd s (r 0)) r (sN s) 58 (sN s) = 6 → leafNd (newNd s (r 0)) r (sN s) 59 (sN s) < 5) ∧ (leafNd (newNd s (r 0)) r (sN s) 58 (sN s) = 7 → leafNd (newNd s (r 0)) r (sN s) 59 (sN s) < 3) ∧ (leafNd (newNd s (r 0)) r (sN s) 58 (sN s) < 4 → leafNd (newNd s (r 0)) r (sN s) 59 (sN s) = 0) ∧ sN s < leafNd (newNd s (r 0)) r (sN s) 62 (sN s) ∧ leafNd (newNd s (r 0)) r (sN s) 62 (sN s) ≤ sN s + 1 ∧ leafNd (newNd s (r 0)) r (sN s) 63 (sN s) ≤ sN s + 1 + 1 ∧ dep (leafNd (newNd s (r 0)) r (sN s)) (sN s + 1) (leafNd (newNd s (r 0)) r (sN s) 60 (sN s)) ≤ 6
      rw [hat 58 (by decide), hat 59 (by decide), hat 60 (by decide), hat 61 (by decide), hat 62 (by decide), hat 63 (by decide), a1, a2, a3, a4, a5, a6, dpe]
      refine ⟨by omega, ?_, tP, by omega, by omega, by omega, by omega, by omega, by omega, by omega, by omega, hK⟩
      rcases tU with t | ⟨t1, t2, t3⟩
      · exact Or.inl t
      · refine Or.inr ⟨t1, t2, ?_⟩
        rw [hne 58 _ (by omega)]; exact t3
    · have N := w6 i h1 (by omega)
      refine N.mv (fun j hj => w1 j (by omega)) (fun c j x1 x2 x3 => hne c j (by omega)) ?_ ?_
      · show i < leafNd (newNd s (r 0)) r (sN s) 62 i ∧ leafNd (newNd s (r 0)) r (sN s) 62 i ≤ sN s + 1
        rw [hne 62 i q]
        have := N.2.2.2.2.2.2.2.2.1
        have := N.2.2.2.2.2.2.2.2.2.1
        omega
      · show leafNd (newNd s (r 0)) r (sN s) 63 i ≤ sN s + 1 + 1
        rw [hne 63 i q]
        have := N.2.2.2.2.2.2.2.2.2.2.1
        omega
  · have h2' : i < sN s + 1 := h2
    have r11 : leafRec (ctx (sK s)) r (sN s) 11 = sN s := rfl
    unfold RemAt
    show (4 ≤ leafNd (newNd s (r 0)) r (sN s) 58 i ∧ rem (sL s ++ [leafRec (ctx (sK s)) r (sN s)]) i = rem (sL s ++ [leafRec (ctx (sK s)) r (sN s)]) (i + 1)) ∨ (leafNd (newNd s (r 0)) r (sN s) 58 i < 4 ∧ ∃ q, rem (sL s ++ [leafRec (ctx (sK s)) r (sN s)]) i = q :: rem (sL s ++ [leafRec (ctx (sK s)) r (sN s)]) (i + 1) ∧ LfAt (sK s, sL s ++ [leafRec (ctx (sK s)) r (sN s)], (sC s, sE s, sN s + 1), leafNd (newNd s (r 0)) r (sN s)) q i ∧ LfOk q)
    rw [rem_app, rem_app, r11]
    by_cases q : i = sN s
    · subst q
      refine Or.inr ⟨by rw [hat 58 (by decide), a1]; exact i0, leafRec (ctx (sK s)) r (sN s), ?_, ?_, lok⟩
      · rw [rem_none (fun q hq => (w5 q hq).2.2), rem_none (fun q hq => Nat.lt_succ_of_lt (w5 q hq).2.2), if_pos (Nat.le_refl _), if_neg (by omega)]; rfl
      · obtain ⟨b1, b2, b3, b4, b5, b6, b7⟩ := leafNd_at (newNd s (r 0)) r (sN s)
        have hcx : cxA (sK s, sL s ++ [leafRec (ctx (sK s)) r (sN s)], (sC s, sE s, sN s + 1), leafNd (newNd s (r 0)) r (sN s)) (sN s) = cx (leafNd (newNd s (r 0)) r (sN s)) (sN s + 1) (topUp (sK s)) (topPart (sK s)) := by
          show cx (leafNd (newNd s (r 0)) r (sN s)) (sN s + 1) (leafNd (newNd s (r 0)) r (sN s) 60 (sN s)) (leafNd (newNd s (r 0)) r (sN s) 61 (sN s)) = _
          rw [hat 60 (by decide), hat 61 (by decide), a3, a4]
        unfold LfAt
        rw [hcx, ← cxe.1, ← cxe.2.1, ← cxe.2.2.1, ← cxe.2.2.2]
        show sN s = sN s ∧ r 0 = leafNd (newNd s (r 0)) r (sN s) 58 (sN s) ∧ r 1 = leafNd (newNd s (r 0)) r (sN s) 64 (sN s) ∧ r 2 = leafNd (newNd s (r 0)) r (sN s) 65 (sN s) ∧ r 3 = leafNd (newNd s (r 0)) r (sN s) 66 (sN s) ∧ r 4 = leafNd (newNd s (r 0)) r (sN s) 67 (sN s) ∧ r 5 = leafNd (newNd s (r 0)) r (sN s) 68 (sN s) ∧ r 6 + ctx (sK s) 4 = leafNd (newNd s (r 0)) r (sN s) 69 (sN s) + ctx (sK s) 4 ∧ r 7 + ctx (sK s) 4 = leafNd (newNd s (r 0)) r (sN s) 70 (sN s) + ctx (sK s) 4 ∧ ctx (sK s) 5 = ctx (sK s) 5 ∧ ctx (sK s) 6 = ctx (sK s) 6 ∧ ctx (sK s) 7 = ctx (sK s) 7
        rw [hat 58 (by decide), a1, b1, b2, b3, b4, b5, b6, b7]
        exact ⟨rfl, rfl, rfl, rfl, rfl, rfl, rfl, rfl, rfl, rfl, rfl, rfl⟩
    · rw [if_pos (by omega), if_pos (by omega), hne 58 i q]
      rcases w7 i h1 (by omega) with ⟨x1, x2⟩ | ⟨x1, g, x2, x3, x4⟩
      · exact Or.inl ⟨x1, by rw [x2]⟩
      · refine Or.inr ⟨x1, g, by rw [x2]; rfl, x3.mv (fun j hj => w1 j (by omega)) (fun c j y1 y2 y3 => hne c j (by omega)) (fun c y1 y2 => hne c i q), x4⟩
