/-! THE START: what the Statement gives at the law's entry makes the picture's context -/
def R_law : String := "LoanNamesLaw"
def lw_P (b : Addr) (xs : List Int32) (args : Array Value) (s : State) : Prop := args = #[.ref b] ∧ s.IntsAt b xs ∧ xs.length ≤ 3072 ∧ (Jvm.Cond.and given_1 narrow_1).before args s = true
def lw_Q (_ : Array Value) (s : State) (o : Outcome) (t : State) : Prop := o = .returned (some (.int 1)) ∧ Framed s o t [] 600000 7302250
def lw_Z (below : List Frame) (a : Array Value) (s : State) : State → Prop := fun t => ∃ o, t.status = .running ∧ Ended t below o ∧ lw_Q a s o t
def lw_At (p : Program) (s : State) (m : MethodId) (meth : Method) (c : Code) (b L : Nat) (xs : Nat → Int32) : Prop :=
  p.tables.exec = Jvm.exec ∧ c.code = code ∧ meth.sig.returnType = ret ∧ c.maxLocals = 4 ∧ s.vm.findClass R_law = some m.cls ∧ (∀ w ∈ lw_tbl, w.before #[Value.ref b] s = true) ∧ va_X b L xs s s.heap ∧ b < s.heap.size ∧ meth.locks = false ∧ (Jvm.Cond.and given_1 narrow_1).before #[Value.ref b] s = true
theorem rm_mono {s : State} {pl : Platform} {r r' : Room} (hf : r.frames ≤ r'.frames) (hl : r.locals ≤ r'.locals) (hc : r.cells ≤ r'.cells) (hs : r.slots ≤ r'.slots) (h : s.hasRoom pl r' = true) : s.hasRoom pl r = true := by
  simp only [State.hasRoom, Bool.and_eq_true, decide_eq_true_eq] at h ⊢
  obtain ⟨⟨⟨⟨y, a, b, c, d, e⟩, f⟩, g⟩, i⟩ := h
  exact ⟨⟨⟨⟨by omega, by omega, by omega, by omega, by omega, e⟩, by omega⟩, by omega⟩, i⟩
theorem W_room {p : Program} {l : Launch} {e : Env} {R R' : Room} {s : State} {m : MethodId} {args : Array Value} {below : List Frame} {meth : Method} {c : Code} {H : Heap} {locs : List Loc} {cells slots : Nat} {Q Q' : State → Prop} {g : JFrame}
    (hf : R.frames ≤ R'.frames) (hl : R.locals ≤ R'.locals) (hc : R.cells ≤ R'.cells) (hs : R.slots ≤ R'.slots) (hq : ∀ t, Q t → Q' t) (k : W p l e R s m args below meth c H locs cells slots Q g) : W p l e R' s m args below meth c H locs cells slots Q' g := by
  intro T hT X
  obtain ⟨t, a1, b1⟩ := k T hT ⟨X.admits, X.cas, X.clock, X.frames, rm_mono hf hl hc hs X.room, X.hears, X.method, X.code, X.here, X.tail, X.warmed, X.limits, X.bytes, X.same⟩
  exact ⟨t, a1, hq t b1⟩
def h0e : Hp := (0, fun _ => (0, 0), fun _ _ => 0, fun _ _ => 0, fun _ _ => none)
abbrev tmS (i : Nat) : Term := ([.string "LoanNames$DealReader" 88, .string "LoanNames$DealReader" 135, .string "LoanNames$DealReader" 140, .string "LoanNames$DealReader" 146, .string "LoanNames$DealReader" 152, .string "LoanNames$DealReader" 154, .string "LoanNames$DealReader" 159, .string "LoanNames$DealReader" 171, .string "LoanNames$DealReader" 176, .string "LoanNames$DealReader" 185, .string "LoanNames$Rules" 32, .string "LoanNames$Rules" 60, .string "LoanNames$Rules" 66, .string "LoanNames$Rules" 41, .string "LoanNames$Rules" 70, .string "LoanNames$Rules" 75, .string "LoanNames$Rules" 68] : List Term).getD i (.int 0)
def flN : List Cond := flatC (Jvm.Cond.and given_1 narrow_1)
def wSt (i : Nat) : List Cond := [Cond.exactly (tmS i) "java/lang/String", Cond.eq (.field (tmS i) "java/lang/String" "coder" "B") (.int 0), Cond.arrayOf (.field (tmS i) "java/lang/String" "value" "[B") .byte, Cond.eq (.length (.field (tmS i) "java/lang/String" "value" "[B")) (.int (Int32.ofNat (lenS.getD i 0)))] ++ (List.range (lenS.getD i 0)).map (fun j => Cond.eq (.elem (.field (tmS i) "java/lang/String" "value" "[B") (.int (Int32.ofNat j))) (.int ((bytS.getD i []).getD j 0)))
theorem fl_s0 : (flN.drop 48).take 46 = wSt 0 := by decide +kernel
theorem fl_s1 : (flN.drop 94).take 20 = wSt 1 := by decide +kernel
theorem fl_s2 : (flN.drop 115).take 37 = wSt 2 := by decide +kernel
theorem fl_s3 : (flN.drop 154).take 8 = wSt 3 := by decide +kernel
theorem fl_s4 : (flN.drop 165).take 7 = wSt 4 := by decide +kernel
theorem fl_s5 : (flN.drop 176).take 9 = wSt 5 := by decide +kernel
theorem fl_s6 : (flN.drop 190).take 9 = wSt 6 := by decide +kernel
theorem fl_s7 : (flN.drop 205).take 29 = wSt 7 := by decide +kernel
theorem fl_s8 : (flN.drop 241).take 9 = wSt 8 := by decide +kernel
theorem fl_s9 : (flN.drop 258).take 7 = wSt 9 := by decide +kernel
theorem fl_s10 : (flN.drop 274).take 8 = wSt 10 := by decide +kernel
theorem fl_s11 : (flN.drop 292).take 28 = wSt 11 := by decide +kernel
theorem fl_s12 : (flN.drop 331).take 7 = wSt 12 := by decide +kernel
theorem fl_s13 : (flN.drop 400).take 9 = wSt 13 := by decide +kernel
theorem fl_s14 : (flN.drop 423).take 19 = wSt 14 := by decide +kernel
theorem fl_s15 : (flN.drop 457).take 11 = wSt 15 := by decide +kernel
def prL0 : List (Nat × Nat) := [(0, 1)]
theorem fl_pr0 : (flN.drop 114).take 1 = prL0.map (fun q => Cond.not (Cond.eq (tmS q.1) (tmS q.2))) := by decide +kernel
def prL1 : List (Nat × Nat) := [(0, 2), (1, 2)]
theorem fl_pr1 : (flN.drop 152).take 2 = prL1.map (fun q => Cond.not (Cond.eq (tmS q.1) (tmS q.2))) := by decide +kernel
def prL2 : List (Nat × Nat) := [(0, 3), (1, 3), (2, 3)]
theorem fl_pr2 : (flN.drop 162).take 3 = prL2.map (fun q => Cond.not (Cond.eq (tmS q.1) (tmS q.2))) := by decide +kernel
def prL3 : List (Nat × Nat) := [(0, 4), (1, 4), (2, 4), (3, 4)]
theorem fl_pr3 : (flN.drop 172).take 4 = prL3.map (fun q => Cond.not (Cond.eq (tmS q.1) (tmS q.2))) := by decide +kernel
def prL4 : List (Nat × Nat) := [(0, 5), (1, 5), (2, 5), (3, 5), (4, 5)]
theorem fl_pr4 : (flN.drop 185).take 5 = prL4.map (fun q => Cond.not (Cond.eq (tmS q.1) (tmS q.2))) := by decide +kernel
def prL5 : List (Nat × Nat) := [(0, 6), (1, 6), (2, 6), (3, 6), (4, 6), (5, 6)]
theorem fl_pr5 : (flN.drop 199).take 6 = prL5.map (fun q => Cond.not (Cond.eq (tmS q.1) (tmS q.2))) := by decide +kernel
def prL6 : List (Nat × Nat) := [(0, 7), (1, 7), (2, 7), (3, 7), (4, 7), (5, 7), (6, 7)]
theorem fl_pr6 : (flN.drop 234).take 7 = prL6.map (fun q => Cond.not (Cond.eq (tmS q.1) (tmS q.2))) := by decide +kernel
def prL7 : List (Nat × Nat) := [(0, 8), (1, 8), (2, 8), (3, 8), (4, 8), (5, 8), (6, 8), (7, 8)]
theorem fl_pr7 : (flN.drop 250).take 8 = prL7.map (fun q => Cond.not (Cond.eq (tmS q.1) (tmS q.2))) := by decide +kernel
def prL8 : List (Nat × Nat) := [(0, 9), (1, 9), (2, 9), (3, 9), (4, 9), (5, 9), (6, 9), (7, 9), (8, 9)]
theorem fl_pr8 : (flN.drop 265).take 9 = prL8.map (fun q => Cond.not (Cond.eq (tmS q.1) (tmS q.2))) := by decide +kernel
def prL9 : List (Nat × Nat) := [(0, 10), (1, 10), (2, 10), (3, 10), (4, 10), (5, 10), (6, 10), (7, 10), (8, 10), (9, 10)]
theorem fl_pr9 : (flN.drop 282).take 10 = prL9.map (fun q => Cond.not (Cond.eq (tmS q.1) (tmS q.2))) := by decide +kernel
def prL10 : List (Nat × Nat) := [(0, 11), (1, 11), (2, 11), (3, 11), (4, 11), (5, 11), (6, 11), (7, 11), (8, 11), (9, 11), (10, 11)]
theorem fl_pr10 : (flN.drop 320).take 11 = prL10.map (fun q => Cond.not (Cond.eq (tmS q.1) (tmS q.2))) := by decide +kernel
def prL11 : List (Nat × Nat) := [(0, 12), (1, 12), (2, 12), (3, 12), (4, 12), (5, 12), (6, 12), (7, 12), (8, 12), (9, 12), (10, 12), (11, 12)]
theorem fl_pr11 : (flN.drop 338).take 12 = prL11.map (fun q => Cond.not (Cond.eq (tmS q.1) (tmS q.2))) := by decide +kernel
def prL12 : List (Nat × Nat) := [(0, 16), (1, 16)]
theorem fl_pr12 : (flN.drop 387).take 2 = prL12.map (fun q => Cond.not (Cond.eq (tmS q.1) (tmS q.2))) := by decide +kernel
def prL13 : List (Nat × Nat) := [(3, 16), (4, 16), (5, 16), (6, 16), (7, 16), (8, 16), (9, 16), (10, 16), (11, 16), (12, 16)]
theorem fl_pr13 : (flN.drop 390).take 10 = prL13.map (fun q => Cond.not (Cond.eq (tmS q.1) (tmS q.2))) := by decide +kernel
def prL14 : List (Nat × Nat) := [(0, 13), (1, 13), (2, 13), (3, 13), (4, 13), (5, 13), (6, 13), (7, 13), (8, 13), (9, 13), (10, 13), (11, 13), (12, 13), (16, 13)]
theorem fl_pr14 : (flN.drop 409).take 14 = prL14.map (fun q => Cond.not (Cond.eq (tmS q.1) (tmS q.2))) := by decide +kernel
def prL15 : List (Nat × Nat) := [(0, 14), (1, 14), (2, 14), (3, 14), (4, 14), (5, 14), (6, 14), (7, 14), (8, 14), (9, 14), (10, 14), (11, 14), (12, 14), (16, 14), (13, 14)]
theorem fl_pr15 : (flN.drop 442).take 15 = prL15.map (fun q => Cond.not (Cond.eq (tmS q.1) (tmS q.2))) := by decide +kernel
def prL16 : List (Nat × Nat) := [(0, 15), (1, 15), (2, 15), (3, 15), (4, 15), (5, 15), (6, 15), (7, 15), (8, 15), (9, 15), (10, 15), (11, 15), (12, 15), (16, 15), (13, 15), (14, 15)]
theorem fl_pr16 : (flN.drop 468).take 16 = prL16.map (fun q => Cond.not (Cond.eq (tmS q.1) (tmS q.2))) := by decide +kernel
def prL : List (Nat × Nat) := prL0 ++ prL1 ++ prL2 ++ prL3 ++ prL4 ++ prL5 ++ prL6 ++ prL7 ++ prL8 ++ prL9 ++ prL10 ++ prL11 ++ prL12 ++ prL13 ++ prL14 ++ prL15 ++ prL16
theorem pr_all : ∀ i, i < 16 → ∀ j, j < 16 → i = j ∨ (i, j) ∈ prL ∨ (j, i) ∈ prL := by decide +kernel
theorem dt_mem {α : Type} {l w : List α} {a n : Nat} (h : (l.drop a).take n = w) {x : α} (hx : x ∈ w) : x ∈ l := by rw [← h] at hx; exact List.mem_of_mem_drop (List.mem_of_mem_take hx)
theorem fl_pr : ∀ q ∈ prL, Cond.not (Cond.eq (tmS q.1) (tmS q.2)) ∈ flN := by
  intro q hq
  simp only [prL, List.mem_append] at hq
  rcases hq with ((((((((((((((((hq | hq) | hq) | hq) | hq) | hq) | hq) | hq) | hq) | hq) | hq) | hq) | hq) | hq) | hq) | hq) | hq)
  · exact dt_mem fl_pr0 (List.mem_map_of_mem (f := fun q => Cond.not (Cond.eq (tmS q.1) (tmS q.2))) hq)
  · exact dt_mem fl_pr1 (List.mem_map_of_mem (f := fun q => Cond.not (Cond.eq (tmS q.1) (tmS q.2))) hq)
  · exact dt_mem fl_pr2 (List.mem_map_of_mem (f := fun q => Cond.not (Cond.eq (tmS q.1) (tmS q.2))) hq)
  · exact dt_mem fl_pr3 (List.mem_map_of_mem (f := fun q => Cond.not (Cond.eq (tmS q.1) (tmS q.2))) hq)
  · exact dt_mem fl_pr4 (List.mem_map_of_mem (f := fun q => Cond.not (Cond.eq (tmS q.1) (tmS q.2))) hq)
  · exact dt_mem fl_pr5 (List.mem_map_of_mem (f := fun q => Cond.not (Cond.eq (tmS q.1) (tmS q.2))) hq)
  · exact dt_mem fl_pr6 (List.mem_map_of_mem (f := fun q => Cond.not (Cond.eq (tmS q.1) (tmS q.2))) hq)
  · exact dt_mem fl_pr7 (List.mem_map_of_mem (f := fun q => Cond.not (Cond.eq (tmS q.1) (tmS q.2))) hq)
  · exact dt_mem fl_pr8 (List.mem_map_of_mem (f := fun q => Cond.not (Cond.eq (tmS q.1) (tmS q.2))) hq)
  · exact dt_mem fl_pr9 (List.mem_map_of_mem (f := fun q => Cond.not (Cond.eq (tmS q.1) (tmS q.2))) hq)
  · exact dt_mem fl_pr10 (List.mem_map_of_mem (f := fun q => Cond.not (Cond.eq (tmS q.1) (tmS q.2))) hq)
  · exact dt_mem fl_pr11 (List.mem_map_of_mem (f := fun q => Cond.not (Cond.eq (tmS q.1) (tmS q.2))) hq)
  · exact dt_mem fl_pr12 (List.mem_map_of_mem (f := fun q => Cond.not (Cond.eq (tmS q.1) (tmS q.2))) hq)
  · exact dt_mem fl_pr13 (List.mem_map_of_mem (f := fun q => Cond.not (Cond.eq (tmS q.1) (tmS q.2))) hq)
  · exact dt_mem fl_pr14 (List.mem_map_of_mem (f := fun q => Cond.not (Cond.eq (tmS q.1) (tmS q.2))) hq)
  · exact dt_mem fl_pr15 (List.mem_map_of_mem (f := fun q => Cond.not (Cond.eq (tmS q.1) (tmS q.2))) hq)
  · exact dt_mem fl_pr16 (List.mem_map_of_mem (f := fun q => Cond.not (Cond.eq (tmS q.1) (tmS q.2))) hq)
theorem fl_s : ∀ i, i < 16 → ∀ w ∈ wSt i, w ∈ flN := by
  intro i hi w hw
  rcases (show i = 0 ∨ i = 1 ∨ i = 2 ∨ i = 3 ∨ i = 4 ∨ i = 5 ∨ i = 6 ∨ i = 7 ∨ i = 8 ∨ i = 9 ∨ i = 10 ∨ i = 11 ∨ i = 12 ∨ i = 13 ∨ i = 14 ∨ i = 15 by omega) with rfl | rfl | rfl | rfl | rfl | rfl | rfl | rfl | rfl | rfl | rfl | rfl | rfl | rfl | rfl | rfl
  · exact dt_mem fl_s0 hw
  · exact dt_mem fl_s1 hw
  · exact dt_mem fl_s2 hw
  · exact dt_mem fl_s3 hw
  · exact dt_mem fl_s4 hw
  · exact dt_mem fl_s5 hw
  · exact dt_mem fl_s6 hw
  · exact dt_mem fl_s7 hw
  · exact dt_mem fl_s8 hw
  · exact dt_mem fl_s9 hw
  · exact dt_mem fl_s10 hw
  · exact dt_mem fl_s11 hw
  · exact dt_mem fl_s12 hw
  · exact dt_mem fl_s13 hw
  · exact dt_mem fl_s14 hw
  · exact dt_mem fl_s15 hw
theorem fl_el (i : Nat) (hi : i < 16) (j : Nat) (hj : j < lenS.getD i 0) : Cond.eq (.elem (.field (tmS i) "java/lang/String" "value" "[B") (.int (Int32.ofNat j))) (.int ((bytS.getD i []).getD j 0)) ∈ flN :=
  fl_s i hi _ (List.mem_append_right _ (List.mem_map.mpr ⟨j, List.mem_range.mpr hj, rfl⟩))
theorem fl_one : Cond.eq (tmS 2) (tmS 16) ∈ flN := List.mem_of_getElem? (i := 389) (by decide +kernel)
theorem fl_cs : Cond.eq (.static "java/lang/String" "COMPACT_STRINGS" "Z") (.int 1) ∈ flN := List.mem_of_getElem? (i := 4) (by decide +kernel)
theorem fl_sf : Cond.isRef (.static "jdk/internal/util/Preconditions" "SIOOBE_FORMATTER" "Ljava/util/function/BiFunction;") ∈ flN := List.mem_of_getElem? (i := 5) (by decide +kernel)
