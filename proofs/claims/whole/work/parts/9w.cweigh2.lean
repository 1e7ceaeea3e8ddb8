/-! THE CLASS: a bundle is weighed by a code -/
theorem nE_abs (f t dd : Nat) : ∀ {C : List Rec}, (∀ e ∈ C, EnOk e) → -(10000000000 * (C.length : Int)) ≤ nE C f t dd ∧ nE C f t dd ≤ 10000000000 * C.length
  | [], _ => by simp [nE]
  | e :: C, h => by
    have ih := nE_abs f t dd (C := C) (fun q hq => h q (by simp [hq]))
    have o := (h e (by simp)).2.2.2.2.2.2.1
    have hs : -(10000000000 : Int) ≤ shE f e ∧ shE f e ≤ 10000000000 := by
      unfold shE
      constructor <;> split <;> split <;> omega
    have : e :: C = [e] ++ C := rfl
    rw [this, nE_app, nE_one]
    simp only [List.cons_append, List.nil_append, List.length_cons]
    split <;> omega
theorem sqU_sum (C : List Rec) (f : Nat) {b : Int} (hb : ∀ dd, -b ≤ nE C f 0 dd ∧ nE C f 0 dd ≤ b) : ∀ m : Nat, -(b * m) ≤ sumS (sqU C f m) ∧ sumS (sqU C f m) ≤ b * m
  | 0 => by simp [sqU, sumS]
  | m + 1 => by
    have ih := sqU_sum C f hb m
    have h1 := hb (m + 1)
    rw [sqU_succ]
    have e : b * ((m + 1 : Nat) : Int) = b * m + b := by
      rw [Int.natCast_add, Int.mul_add]; simp
    rw [e]
    by_cases q : nE C f 0 (m + 1) = 0
    · rw [if_pos q, List.append_nil]; omega
    · rw [if_neg q, sumS_app]
      show -(b * ↑m + b) ≤ sumS (sqU C f m) + nE C f 0 (m + 1) ∧ _
      constructor
      · omega
      · show sumS (sqU C f m) + nE C f 0 (m + 1) ≤ _; omega
theorem sqU_last {C : List Rec} {f : Nat} : ∀ {m : Nat}, sqU C f m ≠ [] → lastS (sqU C f m) < m
  | 0, h => absurd rfl h
  | m + 1, h => by
    rw [sqU_succ] at h ⊢
    by_cases q : nE C f 0 (m + 1) = 0
    · rw [if_pos q, List.append_nil] at h ⊢
      have := sqU_last h; omega
    · rw [if_neg q, lastS_app]; exact Nat.lt_succ_self m
theorem sqU_mem {C : List Rec} {f m : Nat} {q : Nat × Int} (h : q ∈ sqU C f m) : q.1 < m ∧ q.2 = nE C f 0 (q.1 + 1) := by
  unfold sqU at h
  obtain ⟨h1, -⟩ := List.mem_filter.mp h
  obtain ⟨d, hd, rfl⟩ := List.mem_map.mp h1
  exact ⟨List.mem_range.mp hd, rfl⟩
def SWg (a k : Nat) : Prop := a = 19 ∨ 21 ≤ a ∧ a ≤ 25 ∨ a = 14 ∧ 15 ≤ k ∧ k ≤ 19
/-- who gets coin on the first day of another's -/
def upOk (C : List Rec) (sq : Nat → List (Nat × Int)) (up : Nat → Nat) : Prop := ∀ f, f < 8 → ∀ q t, sq f = q :: t → up f < 256 ∧ ∀ b, b < 8 → (up f).testBit b = decide (0 < nE C b 0 (q.1 + 1))
/-- on the way: all entries till here that pass -/
def WgI (C : List Rec) (dv : Nat) (h : Hp) : Prop :=
  (∀ f t, f < 8 → t < 6 → t ≠ 0 → hJ h 19 (6 * f + t) = z64 (nE C f t 0)) ∧ DyA (fun f => nE C f 0 dv) h ∧ ∃ up, BkA (fun f => sqU C f (dv - 1)) up h ∧ upOk C (fun f => sqU C f (dv - 1)) up
theorem nE_off {C : List Rec} {e : Rec} {f t dd : Nat} (h : ¬ (e 3 = t ∧ (dd = 0 ∨ e 0 + 1 = dd))) : nE (C ++ [e]) f t dd = nE C f t dd := by
  rw [nE_app, nE_one, if_neg h, Int.add_zero]
/-- a day has ended: the same, with nothing of today -/
theorem upOk.day {C : List Rec} {dv m ub : Nat} {up : Nat → Nat} (U : upOk C (fun f => sqU C f (dv - 1)) up) (hub : ub < 256) (hb : ∀ b, b < 8 → ub.testBit b = decide (0 < nE C b 0 dv)) (hz : dv = 0 → ∀ f, f < 8 → nE C f 0 dv = 0) (e : ∀ f, sqU C f m = sqU C f (dv - 1) ++ (if nE C f 0 dv = 0 then [] else [(dv - 1, nE C f 0 dv)])) :
    upOk C (fun f => sqU C f m) (fun f => if sqU C f (dv - 1) = [] ∧ nE C f 0 dv ≠ 0 then ub else up f) := by
  intro f hf q t h
  dsimp only at h
  rw [e f] at h
  dsimp only
  by_cases s0 : sqU C f (dv - 1) = []
  · by_cases z : nE C f 0 dv = 0
    · rw [s0, if_pos z] at h; cases h
    · rw [s0, if_neg z, List.nil_append] at h
      injection h with h1 h2
      rw [if_pos ⟨s0, z⟩]
      have d0 : dv ≠ 0 := fun w => z (hz w f hf)
      refine ⟨hub, fun b hb2 => ?_⟩
      rw [hb b hb2, ← h1]
      show decide (0 < nE C b 0 dv) = decide (0 < nE C b 0 (dv - 1 + 1))
      rw [show dv - 1 + 1 = dv by omega]
  · rw [if_neg (fun w => s0 w.1)]
    cases hs : sqU C f (dv - 1) with
    | nil => exact absurd hs s0
    | cons q' t' =>
      rw [hs, List.cons_append] at h
      injection h with h1 h2
      subst h1
      exact U f hf q' t' hs
theorem EnB.row {E : List Rec} {h : Hp} (A : EnB E h) {pre rest : List Rec} {e : Rec} (eq : E = pre ++ e :: rest) : (∀ j, j < 6 → hI h 15 (6 * pre.length + j) = n32 (e j)) ∧ hJ h 16 pre.length = z64 (e 6 : Nat) ∧ pre.length < 216 := by
  have len : E.length = pre.length + (rest.length + 1) := by rw [eq]; simp
  have l := A.2.1
  obtain ⟨a1, a2⟩ := A.2.2 pre.length (by omega)
  rw [eq, getD_mid] at a1 a2
  exact ⟨a1, a2, by omega⟩
theorem EnB.mv {E : List Rec} {S : Nat → Nat → Prop} {h h' : Hp} (A : EnB E h) (f : fr S h h') (n1 : ¬ S 14 3) (n2 : ∀ k, ¬ S 15 k ∧ ¬ S 16 k) : EnB E h' := ⟨by rw [f.I n1]; exact A.1, A.2.1, fun k hk => ⟨fun j hj => by rw [f.I (n2 _).1]; exact (A.2.2 k hk).1 j hj, by rw [f.J (n2 _).2]; exact (A.2.2 k hk).2⟩⟩
theorem prs_lt {E : List Rec} {f : Nat} (h : f ∈ prs E) : f < 8 := List.mem_range.mp (List.mem_filter.mp h).1
theorem EnA.pr {E : List Rec} {h : Hp} (A : EnA E h) : PrA (prs E) h := ⟨A.2.2.1, Nat.le_trans (List.length_filter_le _ _) (by simp), A.2.2.2, fun f hf => prs_lt hf, List.nodup_range.filter _⟩
theorem tdB_mem : ∀ {E : List Rec} {b e1 : Nat}, (b.testBit e1 = true ∨ ∃ e ∈ E, e 1 = e1 ∨ e 2 = e1) → (E.foldl (fun b e => b ||| (2 ^ e 1 ||| 2 ^ e 2)) b).testBit e1 = true
  | [], b, e1, h => by
    rcases h with h | ⟨e, he, -⟩
    · exact h
    · exact absurd he (by simp)
  | e :: E, b, e1, h => by
    rw [List.foldl_cons]
    refine tdB_mem ?_
    rcases h with h | ⟨q, hq, hq2⟩
    · left; rw [Nat.testBit_or, h]; rfl
    · rcases List.mem_cons.mp hq with rfl | hq
      · left
        rw [Nat.testBit_or, Nat.testBit_or, Nat.testBit_two_pow, Nat.testBit_two_pow]
        rcases hq2 with y | y <;> simp [y]
      · exact Or.inr ⟨q, hq, hq2⟩
/-- a family that no entry tells of has nothing -/
theorem nE_off_prs {E C : List Rec} {f t dd : Nat} (hf : f < 8) (h : f ∉ prs E) (hc : ∀ e ∈ C, e ∈ E) : nE C f t dd = 0 := by
  have no : ∀ e ∈ C, e 1 ≠ f ∧ e 2 ≠ f := by
    intro e he
    have key : (tdB E).testBit f = false := by
      cases hh : (tdB E).testBit f with
      | false => rfl
      | true => exact absurd (List.mem_filter.mpr ⟨List.mem_range.mpr hf, hh⟩) h
    refine ⟨fun z => ?_, fun z => ?_⟩
    · have := tdB_mem (E := E) (b := 0) (e1 := f) (Or.inr ⟨e, hc e he, Or.inl z⟩)
      have k2 : (tdB E).testBit f = true := this
      rw [key] at k2; cases k2
    · have := tdB_mem (E := E) (b := 0) (e1 := f) (Or.inr ⟨e, hc e he, Or.inr z⟩)
      have k2 : (tdB E).testBit f = true := this
      rw [key] at k2; cases k2
  induction C with
  | nil => rfl
  | cons e C ih =>
    have : e :: C = [e] ++ C := rfl
    rw [this, nE_app, nE_one, ih (fun q hq => hc q (by simp [hq])) (fun q hq => no q (by simp [hq]))]
    obtain ⟨n1, n2⟩ := no e (by simp)
    split
    · unfold shE; rw [if_neg n2, if_neg n1]; rfl
    · rfl
/-- two longs of a row change, one less, one more -/
theorem two_J {h : Hp} {a p q : Nat} {m : Int} {A : Nat → Int} {n : Nat} (S : ∀ j, j < n → hJ h a j = z64 (A j)) (hp : p < n) (hq : q < n) : ∀ j, j < n → hJ (wJ (wJ h a p (z64 (A p) - z64 m)) a q (hJ (wJ h a p (z64 (A p) - z64 m)) a q + z64 m)) a j = z64 (A j + ((if j = q then m else 0) - (if j = p then m else 0))) := by
  intro j hj
  have e1 : ∀ i, i < n → hJ (wJ h a p (z64 (A p) - z64 m)) a i = z64 (A i - (if i = p then m else 0)) := by
    intro i hi
    rw [hJ_wJ]
    by_cases y : i = p
    · rw [if_pos ⟨rfl, y⟩, if_pos y, y, z64_sub]
    · rw [if_neg (fun w => y w.2), if_neg y, Int.sub_zero]; exact S i hi
  rw [hJ_wJ, e1 q hq, z64_add]
  by_cases y : j = q
  · rw [if_pos ⟨rfl, y⟩, if_pos y, y]; congr 1; omega
  · rw [if_neg (fun w => y w.2), if_neg y, e1 j hj]; congr 1; omega
