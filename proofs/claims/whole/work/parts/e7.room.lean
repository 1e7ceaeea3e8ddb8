/-! THE CLASS: the shape's cells have room -/
def WfB (d : Nat) : Nat := 20000 + 400 * (6 - d)
theorem WfB_le (d : Nat) : WfB d ≤ 22400 := by unfold WfB; omega
theorem CeB.up {m n c : Nat} (h : CeB m c) (hm : m ≤ n) : CeB n c := by unfold CeB at h ⊢; omega
theorem WfC.nil (m : Nat) : WfC m [] := ⟨fun v hv => absurd hv (by simp), Or.inl rfl⟩
theorem WfC.app {m : Nat} {c d : List Nat} (C : WfC m c) (D : WfC m d) : WfC m (c ++ d) := by
  refine ⟨fun v hv => ?_, ?_⟩
  · rw [List.mem_append] at hv
    rcases hv with hv | hv
    · exact C.1 v hv
    · exact D.1 v hv
  · rcases C.2 with e | ⟨c3, c1⟩
    · subst e; exact D.2
    · refine Or.inr ⟨by rw [List.length_append]; omega, fun z => ?_⟩
      rw [gD_l (by omega)]
      apply c1
      rw [List.getD_eq_getElem?_getD] at z ⊢
      rw [List.getElem?_append_left (by omega)] at z
      exact z
theorem WfC.up {m n : Nat} {c : List Nat} (C : WfC m c) (hm : m ≤ n) : WfC n c := ⟨fun v hv => (C.1 v hv).up hm, C.2⟩
theorem WfC.leaf {m : Nat} {r : Rec} (h : LfIn r) (hm : 20000 ≤ m) : WfC m (lfCe r) := by
  obtain ⟨a0, a1, a2, a12, a3, a4, a5, a6, a7, -⟩ := h
  refine ⟨fun v hv => ?_, Or.inr ⟨by show 3 ≤ 9; decide, fun z => absurd z (by show ¬ 0 = 4; decide)⟩⟩
  unfold lfCe at hv
  simp only [List.mem_cons, List.not_mem_nil, or_false] at hv
  unfold CeB
  omega
theorem WfC.clo {m k t : Nat} {f s : List Nat} (hk : 4 ≤ k) (hk7 : k ≤ 7) (ht : t < 10000) (h4 : k = 4 → t < 400) (F : WfC m f) (S : WfC m s) (hm : 20000 ≤ m) (hf : f.length < 1000) (hs : s.length < 1000) : WfC (m + 400) (cloC k t f s) := by
  unfold cloC
  split
  · exact WfC.nil _
  · split
    · exact F.up (by omega)
    · split
      · rename_i q
        have hq : k = 4 ∧ isJA f = true := by
          unfold cloK at q
          split at q
          · split at q
            · omega
            · split at q
              · omega
              · split at q
                · assumption
                · omega
          · split at q
            · omega
            · split at q <;> omega
        have j0 : f.getD 0 9 = 4 := by
          have := hq.2
          unfold isJA at this
          rw [Bool.and_eq_true, beq_iff_eq] at this
          exact this.1
        rcases F.2 with e | ⟨f3, f1⟩
        · subst e; exact absurd j0 (by decide)
        have n8 := f1 j0
        have b1 := F.1 _ (getD_mem (l := f) (k := 1) (d := 0) (by omega))
        refine ⟨fun v hv => ?_, Or.inr ⟨by rw [List.length_cons, List.length_cons, List.length_drop]; omega, fun _ => by show 8 ≤ f.getD 1 0 + t; omega⟩⟩
        rw [List.mem_cons, List.mem_cons] at hv
        have t4 := h4 hq.1
        rcases hv with rfl | rfl | hv
        · unfold CeB; omega
        · unfold CeB at b1 ⊢; omega
        · exact (F.1 v (List.mem_of_mem_drop hv)).up (by omega)
      · have g3 : 3 ≤ (grC k t f s).length := by
          unfold grC; split <;> rw [List.length_cons, List.length_cons, List.length_cons] <;> omega
        refine ⟨fun v hv => ?_, Or.inr ⟨g3, fun _ => ?_⟩⟩
        · unfold grC at hv
          split at hv
          · simp only [List.mem_cons] at hv
            rcases hv with rfl | rfl | rfl | hv
            · unfold CeB; omega
            · unfold CeB; omega
            · unfold CeB; omega
            · exact (F.1 v hv).up (by omega)
          · simp only [List.mem_cons, List.mem_append] at hv
            rcases hv with rfl | rfl | rfl | hv | rfl | hv
            · unfold CeB; omega
            · unfold CeB; omega
            · unfold CeB; omega
            · exact (F.1 v hv).up (by omega)
            · unfold CeB; omega
            · exact (S.1 v hv).up (by omega)
        · unfold grC; split <;> (show 8 ≤ t + 8; omega)
/-- room, at a depth: m0 leaves before, m1 in these cells -/
def RmI (d m0 m1 n0 : Nat) (c : List Nat) (L : Nat) : Prop := n0 ≤ 33 * m0 + 4 * d ∧ c.length ≤ (33 - 4 * d) * m1 ∧ m0 + m1 ≤ L ∧ WfC (WfB d) c
theorem mul_up {p q m : Nat} (h : p ≤ q) : p * m ≤ q * m := Nat.mul_le_mul_right m h
theorem RmI.room {d m0 m1 n0 L : Nat} {c : List Nat} (R : RmI d m0 m1 n0 c L) (hL : L ≤ 12) (hd : d ≤ 6) : n0 + c.length ≤ 420 := by
  obtain ⟨r1, r2, r3, -⟩ := R
  have := mul_up (m := m1) (show 33 - 4 * d ≤ 33 by omega)
  omega
theorem RmI.leaf {d m0 m1 n0 L : Nat} {c : List Nat} {r : Rec} (R : RmI d m0 m1 n0 c L) (hd : d ≤ 6) (hr : LfIn r) : RmI d m0 (m1 + 1) n0 (c ++ lfCe r) (L + 1) := by
  obtain ⟨r1, r2, r3, r4⟩ := R
  refine ⟨r1, ?_, by omega, r4.app (WfC.leaf hr (by unfold WfB; omega))⟩
  rw [List.length_append, show (lfCe r).length = 9 from rfl, Nat.mul_add, Nat.mul_one]
  omega
theorem RmI.inn {d m0 m1 n0 L : Nat} {c : List Nat} (R : RmI d m0 m1 n0 c L) (hd : d < 6) : RmI (d + 1) (m0 + m1) 0 (n0 + c.length + 3) [] L := by
  obtain ⟨r1, r2, r3, r4⟩ := R
  have := mul_up (m := m1) (show 33 - 4 * d ≤ 33 by omega)
  exact ⟨by omega, by show 0 ≤ _; omega, by omega, WfC.nil _⟩
theorem RmI.two {d m0 m1 mf n0 L L' : Nat} {c f : List Nat} (R : RmI d m0 m1 n0 c L) (F : RmI (d + 1) (m0 + m1) mf (n0 + c.length + 3) f L') : RmI (d + 1) (m0 + m1 + mf) 0 (n0 + c.length + 3 + f.length + 1) [] L' := by
  obtain ⟨r1, r2, r3, r4⟩ := R
  obtain ⟨f1, f2, f3, f4⟩ := F
  have := mul_up (m := m1) (show 33 - 4 * d ≤ 33 by omega)
  have := mul_up (m := mf) (show 33 - 4 * (d + 1) ≤ 33 by omega)
  exact ⟨by omega, by show 0 ≤ _; omega, by omega, WfC.nil _⟩
theorem clo_len {d k t mf ms : Nat} {f s : List Nat} (hd : d < 6) (hf : f.length ≤ (33 - 4 * (d + 1)) * mf) (hs : s.length ≤ (33 - 4 * (d + 1)) * ms) : (cloC k t f s).length ≤ (33 - 4 * d) * (mf + ms) := by
  have e : (33 - 4 * d) * (mf + ms) = (33 - 4 * (d + 1)) * mf + (33 - 4 * (d + 1)) * ms + 4 * (mf + ms) := by
    rw [show 33 - 4 * d = (33 - 4 * (d + 1)) + 4 by omega, Nat.add_mul, Nat.mul_add]
  rw [e]
  have pf : f ≠ [] → 1 ≤ mf := fun q => by
    rcases Nat.eq_zero_or_pos mf with z | z
    · rw [z, Nat.mul_zero] at hf
      exact absurd (List.length_eq_zero_iff.mp (by omega)) q
    · exact z
  have ps : s ≠ [] → 1 ≤ ms := fun q => by
    rcases Nat.eq_zero_or_pos ms with z | z
    · rw [z, Nat.mul_zero] at hs
      exact absurd (List.length_eq_zero_iff.mp (by omega)) q
    · exact z
  unfold cloC
  by_cases q1 : cloK k t f s = 1
  · rw [if_pos q1]; show 0 ≤ _; omega
  · rw [if_neg q1]
    by_cases q2 : cloK k t f s = 2
    · rw [if_pos q2]; omega
    · rw [if_neg q2]
      by_cases q3 : cloK k t f s = 3
      · rw [if_pos q3, List.length_cons, List.length_cons, List.length_drop]
        have hf0 : f ≠ [] := by
          intro z
          unfold cloK at q3
          rw [if_pos (Or.inl z)] at q3
          split at q3
          · omega
          · split at q3
            · omega
            · split at q3 <;> omega
        have := pf hf0
        omega
      · rw [if_neg q3]
        have hne : f ≠ [] ∨ (6 ≤ k ∧ s ≠ []) := by
          by_cases z : f = []
          · right
            unfold cloK at q1
            by_cases k6 : k < 6
            · rw [if_pos k6, if_pos (Or.inl z)] at q1; exact absurd rfl q1
            · rw [if_neg k6] at q1
              refine ⟨by omega, fun y => ?_⟩
              rw [if_pos ⟨z, y⟩] at q1; exact absurd rfl q1
          · exact Or.inl z
        unfold grC
        by_cases k6 : k < 6
        · rw [if_pos k6, List.length_cons, List.length_cons, List.length_cons]
          rcases hne with y | y
          · have := pf y; omega
          · omega
        · rw [if_neg k6, List.length_cons, List.length_cons, List.length_cons, List.length_append, List.length_cons]
          rcases hne with y | y
          · have := pf y; omega
          · have := ps y.2; omega
theorem RmI.close {d m0 m1 mf ms n0 n1 n2 k t L L' L2 : Nat} {c f s : List Nat} (R : RmI d m0 m1 n0 c L) (F : RmI (d + 1) (m0 + m1) mf n1 f L') (S : RmI (d + 1) (m0 + m1 + mf) ms n2 s L2) (hd : d < 6) (hL : L' ≤ 12) (hL2 : L2 ≤ 12) (hk : 4 ≤ k) (hk7 : k ≤ 7) (ht : t < 10000) (h4 : k = 4 → t < 400) : RmI d m0 (m1 + (mf + ms)) n0 (c ++ cloC k t f s) L2 := by
  have rf := F.room hL (by omega)
  have rs := S.room hL2 (by omega)
  obtain ⟨r1, r2, r3, r4⟩ := R
  obtain ⟨f1, f2, f3, f4⟩ := F
  obtain ⟨s1, s2, s3, s4⟩ := S
  have cl := clo_len (k := k) (t := t) hd f2 s2
  refine ⟨r1, ?_, by omega, r4.app ?_⟩
  · rw [List.length_append, Nat.mul_add]; omega
  · have := WfC.clo hk hk7 ht h4 f4 s4 (by unfold WfB; omega) (by omega) (by omega)
    rw [show WfB d = WfB (d + 1) + 400 by unfold WfB; omega]; exact this
