/-! THE JUDGEMENT: from a place in a method, with typed locals and stack, over a picture of the heap, the method comes to its end with Q -/
abbrev Mth : Type := ByteArray × Nat × Option FieldType × String × String
abbrev rmOf (d mc ms : Nat) : Room := { frames := d, cells := mc, slots := ms, locals := 48 * d }
def lenS : List Nat := [42, 16, 33, 4, 3, 5, 5, 25, 5, 3, 4, 24, 3, 5, 15, 7]
def bytS : List (List Int32) := [[112, 97, 115, 115, 32, 103, 105, 102, 116, 32, 115, 97, 108, 101, 32, 104, 105, 114, 101, 32, 97, 102, 116, 101, 114, 32, 116, 105, 109, 101, 115, 32, 105, 102, 32, 99, 104, 111, 105, 99, 101, 32], [97, 32, 98, 32, 99, 32, 100, 32, 101, 32, 102, 32, 103, 32, 104, 32], [99, 111, 105, 110, 32, 109, 117, 108, 101, 32, 99, 108, 111, 116, 104, 32, 104, 111, 117, 115, 101, 32, 119, 111, 114, 107, 32, 103, 114, 97, 105, 110, 32], [102, 111, 114, 32], [97, 116, 32], [112, 97, 105, 100, 32], [98, 97, 99, 107, 32], [100, 105, 101, 115, 32, 114, 97, 105, 110, 32, 119, 97, 114, 32, 100, 101, 97, 114, 32, 102, 108, 111, 111, 100, 32], [101, 108, 115, 101, 32], [111, 114, 32], [98, 97, 114, 32], [112, 97, 115, 115, 32, 103, 105, 102, 116, 32, 115, 97, 108, 101, 32, 104, 105, 114, 101, 32, 97, 110, 121, 32], [111, 102, 32], [116, 104, 101, 110, 32], [98, 97, 99, 107, 32, 115, 97, 109, 101, 32, 109, 111, 114, 101, 32], [119, 105, 116, 104, 105, 110, 32]]
def strT : List (String × Nat × String × Nat) := [("LoanNames$DealReader", 88, "pass gift sale hire after times if choice ", 0), ("LoanNames$DealReader", 135, "a b c d e f g h ", 1), ("LoanNames$DealReader", 140, "coin mule cloth house work grain ", 2), ("LoanNames$DealReader", 146, "for ", 3), ("LoanNames$DealReader", 152, "at ", 4), ("LoanNames$DealReader", 154, "paid ", 5), ("LoanNames$DealReader", 159, "back ", 6), ("LoanNames$DealReader", 171, "dies rain war dear flood ", 7), ("LoanNames$DealReader", 176, "else ", 8), ("LoanNames$DealReader", 185, "or ", 9), ("LoanNames$Rules", 32, "bar ", 10), ("LoanNames$Rules", 60, "pass gift sale hire any ", 11), ("LoanNames$Rules", 66, "of ", 12), ("LoanNames$Rules", 68, "coin mule cloth house work grain ", 2), ("LoanNames$Rules", 41, "then ", 13), ("LoanNames$Rules", 70, "back same more ", 14), ("LoanNames$Rules", 75, "within ", 15)]
def nestT : List (String × Nat × MethodName × String) := [(RX11, 15, yX10_init, RX11), (RX2, 11, yX8_init, RX11), (RX11, 50, yX0_init, RX11), (RX11, 70, yX9_init, RX11), (RX7, 35, yX0_init, RX11), (RX11, 93, yX4_init, RX11), (RX4, 27, yX0_init, RX11), (RX11, 327, yX6_init, RX11)]
def overT : List String := [RX0, RX1, RX6]
abbrev tysG (G : Cx) : List (ClassId × FieldType) := [(G.2.2.1 40, .int), (G.2.2.1 41, .byte), (G.2.2.1 42, .boolean), (G.2.2.1 43, .long), (G.2.2.1 50, .object RX0), (G.2.2.1 51, .object RX1), (G.2.2.1 56, .object RX6)]
abbrev Ag (G : Cx) : Nat → Prop := fun q => G.1 ≤ q
def ZF (G : Cx) (U : State) (H : Heap) : Prop := va_Z "jdk/internal/util/Preconditions" "SIOOBE_FORMATTER" "Ljava/util/function/BiFunction;" .null (Ag G) U H ∨ va_Z "jdk/internal/util/Preconditions" "SIOOBE_FORMATTER" "Ljava/util/function/BiFunction;" (.ref (G.2.2.2.2.1 300)) (Ag G) U H
def Kx (G : Cx) (U : State) : Prop := va_K G.2.1 vwC (tysG G) U ∧ vk_S 16 lenS bytS G.2.2.2.1 G.2.2.2.2.1 (Ag G) U U.heap ∧ (∀ q ∈ strT, vk_R q.1 q.2.1 q.2.2.1 (G.2.2.2.1 q.2.2.2) U) ∧ va_Z "java/lang/String" "COMPACT_STRINGS" "Z" (.int 1) (Ag G) U U.heap ∧ ZF G U U.heap ∧ va_X (G.2.2.2.2.1 200) G.2.2.2.2.2.1 G.2.2.2.2.2.2 U U.heap ∧ G.2.2.2.2.1 200 < G.1 ∧ (∀ q ∈ nestT, va_Nw (.methodLinkNest q.1 q.2.1 q.2.2.1 q.2.2.2) U) ∧ ∀ C ∈ overT, va_AO C U
theorem ZF.mv {G : Cx} {u U : State} {H H1 : Heap} (hvm : u.vm.Alike U.vm) (hq : ∀ a : Nat, a < H.size → ¬ Ag G a → H1[a]? = H[a]?) (h : ZF G u H) : ZF G U H1 := by
  rcases h with h | h
  · exact Or.inl ((va_Z.moved hvm h).kept hq)
  · exact Or.inr ((va_Z.moved hvm h).kept hq)
theorem va_X.lt {b L : Nat} {xs : Nat → Int32} {U : State} {H : Heap} (h : va_X b L xs U H) : b < H.size := by
  obtain ⟨scr, h1, -⟩ := h
  exact (Array.getElem?_eq_some_iff.mp h1).1
theorem Kx.to {G : Cx} {s U : State} (hW : s.WarmedH U.vm) (hq : ∀ a : Nat, a < s.heap.size → ¬ Ag G a → U.heap[a]? = s.heap[a]?) (h : Kx G s) : Kx G U :=
  ⟨va_K.moved hW.alike h.1, (vk_S.moved hW.alike h.2.1).kept hq, fun q hm => vk_R.warm hW (h.2.2.1 q hm), (va_Z.moved hW.alike h.2.2.2.1).kept hq, h.2.2.2.2.1.mv hW.alike hq, (va_X.moved hW.alike h.2.2.2.2.2.1).kept (hq _ h.2.2.2.2.2.1.lt (Nat.not_le.mpr h.2.2.2.2.2.2.1)), h.2.2.2.2.2.2.1, fun q hm => va_Nw.warmM hW (h.2.2.2.2.2.2.2.1 q hm), fun C hm => va_AO.moved hW.alike (h.2.2.2.2.2.2.2.2 C hm)⟩
theorem Kx.call {G : Cx} {U : State} {g : JFrame} {mk : MethodId} {a : Array Value} (h : Kx G U) : Kx G (U.calling g mk a) :=
  ⟨va_K.moved (u := U) (U := U.calling g mk a) (Vm.Alike.refl U.vm) h.1, vk_S.moved (u := U) (U := U.calling g mk a) (Vm.Alike.refl U.vm) h.2.1, fun q hm => vk_R.same (u := U) (U := U.calling g mk a) rfl (h.2.2.1 q hm), va_Z.moved (u := U) (U := U.calling g mk a) (Vm.Alike.refl U.vm) h.2.2.2.1, ZF.mv (u := U) (U := U.calling g mk a) (Vm.Alike.refl U.vm) (fun _ _ _ => rfl) h.2.2.2.2.1, va_X.moved (u := U) (U := U.calling g mk a) (Vm.Alike.refl U.vm) h.2.2.2.2.2.1, h.2.2.2.2.2.2.1, fun q hm => va_Nw.same (u := U) (U := U.calling g mk a) rfl rfl (h.2.2.2.2.2.2.2.1 q hm), fun C hm => va_AO.moved (u := U) (U := U.calling g mk a) (Vm.Alike.refl U.vm) (h.2.2.2.2.2.2.2.2 C hm)⟩
def Cm (G : Cx) (M : Mth) (p : Program) (s : State) (m : MethodId) (args : Array Value) (meth : Method) (c : Code) : Prop :=
  p.tables.exec = Jvm.exec ∧ c.code = M.1 ∧ c.maxLocals = M.2.1 ∧ meth.sig.returnType = M.2.2.1 ∧ s.vm.findClass M.2.2.2.1 = some m.cls ∧ (∀ w ∈ GW, w.before args s = true) ∧ Kx G s ∧ meth.locks = false ∧ meth.name = M.2.2.2.2
def asc (G : Cx) : Nat → List (Option TV) → List (Nat × Value)
  | _, [] => []
  | i, none :: l => asc G (i + 1) l
  | i, some v :: l => (i, cv G v) :: asc G (i + 1) l
def PostU (G : Cx) (h0 : Hp) (Q : Option TV → Hp → Prop) : Array Value → State → Outcome → State → Prop := fun _ st oc t =>
  (∃ (r : Option TV) (h' : Hp), oc = .returned (r.map (cv G)) ∧ Q r h' ∧ ext h0 h' ∧ (∀ v, r = some v → ty1 h' v) ∧ Wd G h' t.heap) ∧ va_F (Ag G) st t
def Rn (l : Launch) (G : Cx) (d mc ms : Nat) (M : Mth) (h0 : Hp) (Q : Option TV → Hp → Prop) (pc : Nat) (L : List (Option TV)) (st : List TV) (h : Hp) (cu su : Nat) : Prop :=
  ∀ (p : Program) (e : Env) (s : State) (m : MethodId) (args : Array Value) (below : List Frame) (meth : Method) (c : Code) (H : Heap) (locs : List Loc) (ls : Array Slot),
    Cm G M p s m args meth c → Wd G h H → ext h0 h → va_S (Ag G) s.heap H locs → lv_has ls M.2.1 (asc G 0 L) → tyO h L → tyL h st →
    W p l e (rmOf d mc ms) s m args below meth c H locs cu su (MQ below (PostU G h0 Q) args s mc ms (Ag G)) (F0 m pc ls (st.map (cv G)))
theorem asc_mem {G : Cx} : ∀ {L : List (Option TV)} {i j : Nat} {v : TV}, L[i]? = some (some v) → (j + i, cv G v) ∈ asc G j L
  | [], i, j, v, h => by simp at h
  | none :: L, 0, j, v, h => by simp at h
  | some w :: L, 0, j, v, h => by
    have e : w = v := by simpa using h
    subst e
    exact List.mem_cons_self
  | none :: L, i + 1, j, v, h => by
    have e := asc_mem (G := G) (L := L) (i := i) (j := j + 1) (v := v) (by simpa using h)
    rw [show j + (i + 1) = j + 1 + i by omega]
    exact e
  | some w :: L, i + 1, j, v, h => by
    have e := asc_mem (G := G) (L := L) (i := i) (j := j + 1) (v := v) (by simpa using h)
    rw [show j + (i + 1) = j + 1 + i by omega]
    exact List.mem_cons_of_mem _ e
theorem asc_ge {G : Cx} : ∀ {L : List (Option TV)} {j : Nat} {q : Nat × Value}, q ∈ asc G j L → j ≤ q.1
  | [], j, q, h => by cases h
  | none :: L, j, q, h => Nat.le_of_succ_le (asc_ge (G := G) (L := L) (j := j + 1) h)
  | some w :: L, j, q, h => by
    rcases List.mem_cons.mp h with e | e
    · rw [e]; exact Nat.le_refl _
    · exact Nat.le_of_succ_le (asc_ge (G := G) (L := L) (j := j + 1) e)
theorem ls_at {G : Cx} {ls : Array Slot} {n : Nat} {L : List (Option TV)} {i : Nat} {v : TV} (hl : lv_has ls n (asc G 0 L)) (h : L[i]? = some (some v)) : ls[i]? = some (.val (cv G v)) := by
  have e := hl.2.2 _ (asc_mem (G := G) (j := 0) h)
  rw [Nat.zero_add] at e
  exact e
theorem tyO_at {h : Hp} : ∀ {L : List (Option TV)} {i : Nat} {v : TV}, tyO h L → L[i]? = some (some v) → ty1 h v
  | [], i, v, _, e => by simp at e
  | none :: L, 0, v, _, e => by simp at e
  | some w :: L, 0, v, t, e => by
    have e : w = v := by simpa using e
    subst e
    exact t.1
  | none :: L, i + 1, v, t, e => tyO_at (L := L) (i := i) (show tyO h L from t) (by simpa using e)
  | some w :: L, i + 1, v, t, e => tyO_at (L := L) (i := i) t.2 (by simpa using e)
def dr2 (x : Option TV) : Option TV := match x with
  | some (.inr (.inl _)) => none
  | x => x
def stL1 : List (Option TV) → Nat → TV → List (Option TV)
  | [], 0, v => [some v]
  | [], i + 1, v => none :: stL1 [] i v
  | _ :: L, 0, v => some v :: L
  | x :: L, 1, v => dr2 x :: stL1 L 0 v
  | x :: L, i + 2, v => x :: stL1 L (i + 1) v
def stL2 : List (Option TV) → Nat → TV → List (Option TV)
  | [], 0, v => [some v, none]
  | [], i + 1, v => none :: stL2 [] i v
  | [_], 0, v => [some v, none]
  | _ :: _ :: L, 0, v => some v :: none :: L
  | x :: L, 1, v => dr2 x :: stL2 L 0 v
  | x :: L, i + 2, v => x :: stL2 L (i + 1) v
theorem cv_cat2 {G : Cx} {v : TV} (h : (cv G v).category = 2) : ∃ x, v = tJ x := by
  match v, h with
  | .inl _, h => simp [cv, Value.category] at h
  | .inr (.inl x), _ => exact ⟨x, rfl⟩
  | .inr (.inr (.inl (_, none))), h => simp [cv, rb, va_rf, Value.category] at h
  | .inr (.inr (.inl (_, some _))), h => simp [cv, rb, va_rf, Value.category] at h
  | .inr (.inr (.inr i)), h => simp [cv, Value.category] at h
theorem dr2_eq {x : Option TV} {w : TV} (h : dr2 x = some w) : x = some w ∧ ∀ z, w ≠ tJ z := by
  match x, h with
  | some (.inl _), h => exact ⟨h, fun z e => by cases h; cases e⟩
  | some (.inr (.inl _)), h => simp [dr2] at h
  | some (.inr (.inr (.inl _))), h => exact ⟨h, fun z e => by cases h; cases e⟩
  | some (.inr (.inr (.inr _))), h => exact ⟨h, fun z e => by cases h; cases e⟩
  | none, h => simp [dr2] at h
theorem asc_cons {G : Cx} {x : Option TV} {L : List (Option TV)} {j : Nat} {q : Nat × Value} : q ∈ asc G j (x :: L) ↔ (∃ w, x = some w ∧ q = (j, cv G w)) ∨ q ∈ asc G (j + 1) L := by
  cases x with
  | none => simp [asc]
  | some w => simp [asc, eq_comm]
theorem asc_st1 {G : Cx} : ∀ {L : List (Option TV)} {i j : Nat} {v : TV} {q : Nat × Value}, q ∈ asc G j (stL1 L i v) → q = (j + i, cv G v) ∨ (q ∈ asc G j L ∧ q.1 ≠ j + i ∧ ¬ (q.1 + 1 = j + i ∧ q.2.category = 2))
  | [], 0, j, v, q, h => by
    rw [stL1, asc_cons] at h
    rcases h with ⟨w, hw, e⟩ | h
    · cases hw; exact Or.inl e
    · cases h
  | [], i + 1, j, v, q, h => by
    rw [stL1, asc_cons] at h
    rcases h with ⟨w, hw, e⟩ | h
    · cases hw
    · rcases asc_st1 (L := []) (i := i) (j := j + 1) h with e | ⟨e, -⟩
      · exact Or.inl (by rw [e, show j + 1 + i = j + (i + 1) by omega])
      · cases e
  | x :: L, 0, j, v, q, h => by
    rw [stL1, asc_cons] at h
    rcases h with ⟨w, hw, e⟩ | h
    · cases hw; exact Or.inl e
    · have g := asc_ge h
      exact Or.inr ⟨asc_cons.mpr (Or.inr h), by omega, by omega⟩
  | x :: L, 1, j, v, q, h => by
    rw [stL1, asc_cons] at h
    rcases h with ⟨w, hw, e⟩ | h
    · obtain ⟨h1, h2⟩ := dr2_eq hw
      refine Or.inr ⟨asc_cons.mpr (Or.inl ⟨w, h1, e⟩), by rw [e]; show j ≠ j + 1; omega, fun z => ?_⟩
      rw [e] at z
      obtain ⟨x, hx⟩ := cv_cat2 z.2
      exact h2 x hx
    · rcases asc_st1 (L := L) (i := 0) (j := j + 1) h with e | ⟨e, g1, g2⟩
      · exact Or.inl e
      · exact Or.inr ⟨asc_cons.mpr (Or.inr e), by omega, fun z => g2 ⟨by omega, z.2⟩⟩
  | x :: L, i + 2, j, v, q, h => by
    rw [stL1, asc_cons] at h
    rcases h with ⟨w, hw, e⟩ | h
    · refine Or.inr ⟨asc_cons.mpr (Or.inl ⟨w, hw, e⟩), by rw [e]; show j ≠ _; omega, by rw [e]; show ¬ (j + 1 = _ ∧ _); omega⟩
    · rcases asc_st1 (L := L) (i := i + 1) (j := j + 1) h with e | ⟨e, g1, g2⟩
      · exact Or.inl (by rw [e, show j + 1 + (i + 1) = j + (i + 2) by omega])
      · exact Or.inr ⟨asc_cons.mpr (Or.inr e), by omega, fun z => g2 ⟨by omega, z.2⟩⟩
theorem asc_st2 {G : Cx} : ∀ {L : List (Option TV)} {i j : Nat} {v : TV} {q : Nat × Value}, q ∈ asc G j (stL2 L i v) → q = (j + i, cv G v) ∨ (q ∈ asc G j L ∧ q.1 ≠ j + i ∧ q.1 ≠ j + i + 1 ∧ ¬ (q.1 + 1 = j + i ∧ q.2.category = 2))
  | [], 0, j, v, q, h => by
    rw [stL2, asc_cons, asc_cons] at h
    rcases h with ⟨w, hw, e⟩ | ⟨w, hw, e⟩ | h
    · cases hw; exact Or.inl e
    · cases hw
    · cases h
  | [], i + 1, j, v, q, h => by
    rw [stL2, asc_cons] at h
    rcases h with ⟨w, hw, e⟩ | h
    · cases hw
    · rcases asc_st2 (L := []) (i := i) (j := j + 1) h with e | ⟨e, -⟩
      · exact Or.inl (by rw [e, show j + 1 + i = j + (i + 1) by omega])
      · cases e
  | [x], 0, j, v, q, h => by
    rw [stL2, asc_cons, asc_cons] at h
    rcases h with ⟨w, hw, e⟩ | ⟨w, hw, e⟩ | h
    · cases hw; exact Or.inl e
    · cases hw
    · cases h
  | x :: y :: L, 0, j, v, q, h => by
    rw [stL2, asc_cons, asc_cons] at h
    rcases h with ⟨w, hw, e⟩ | ⟨w, hw, e⟩ | h
    · cases hw; exact Or.inl e
    · cases hw
    · have g := asc_ge h
      exact Or.inr ⟨asc_cons.mpr (Or.inr (asc_cons.mpr (Or.inr h))), by omega, by omega, by omega⟩
  | x :: L, 1, j, v, q, h => by
    rw [stL2] at h
    rw [asc_cons] at h
    rcases h with ⟨w, hw, e⟩ | h
    · obtain ⟨h1, h2⟩ := dr2_eq hw
      refine Or.inr ⟨asc_cons.mpr (Or.inl ⟨w, h1, e⟩), by rw [e]; show j ≠ j + 1; omega, by rw [e]; show j ≠ j + 1 + 1; omega, fun z => ?_⟩
      rw [e] at z
      obtain ⟨x, hx⟩ := cv_cat2 z.2
      exact h2 x hx
    · rcases asc_st2 (L := L) (i := 0) (j := j + 1) h with e | ⟨e, g1, g3, g2⟩
      · exact Or.inl e
      · exact Or.inr ⟨asc_cons.mpr (Or.inr e), by omega, by omega, fun z => g2 ⟨by omega, z.2⟩⟩
  | x :: L, i + 2, j, v, q, h => by
    rw [stL2, asc_cons] at h
    rcases h with ⟨w, hw, e⟩ | h
    · refine Or.inr ⟨asc_cons.mpr (Or.inl ⟨w, hw, e⟩), by rw [e]; show j ≠ _; omega, by rw [e]; show j ≠ _; omega, by rw [e]; show ¬ (j + 1 = _ ∧ _); omega⟩
    · rcases asc_st2 (L := L) (i := i + 1) (j := j + 1) h with e | ⟨e, g1, g3, g2⟩
      · exact Or.inl (by rw [e, show j + 1 + (i + 1) = j + (i + 2) by omega])
      · exact Or.inr ⟨asc_cons.mpr (Or.inr e), by omega, by omega, fun z => g2 ⟨by omega, z.2⟩⟩
theorem tyO_mem {h : Hp} : ∀ {L : List (Option TV)}, tyO h L ↔ ∀ v, some v ∈ L → ty1 h v
  | [] => by simp [tyO]
  | none :: L => by
    show tyO h L ↔ _
    rw [tyO_mem (L := L)]
    simp
  | some w :: L => by
    show ty1 h w ∧ tyO h L ↔ _
    rw [tyO_mem (L := L)]
    simp
theorem st1_mem : ∀ {L : List (Option TV)} {i : Nat} {v w : TV}, some w ∈ stL1 L i v → w = v ∨ some w ∈ L
  | [], 0, v, w, h => by simp [stL1] at h; exact Or.inl h
  | [], i + 1, v, w, h => by
    simp [stL1] at h
    rcases st1_mem (L := []) (i := i) h with e | e
    · exact Or.inl e
    · cases e
  | x :: L, 0, v, w, h => by
    simp [stL1] at h
    rcases h with e | e
    · exact Or.inl e
    · exact Or.inr (List.mem_cons_of_mem _ e)
  | x :: L, 1, v, w, h => by
    rw [stL1] at h
    rcases List.mem_cons.mp h with e | e
    · exact Or.inr (by rw [(dr2_eq e.symm).1]; exact List.mem_cons_self)
    · rcases st1_mem (L := L) (i := 0) e with e | e
      · exact Or.inl e
      · exact Or.inr (List.mem_cons_of_mem _ e)
  | x :: L, i + 2, v, w, h => by
    rw [stL1] at h
    rcases List.mem_cons.mp h with e | e
    · exact Or.inr (by rw [e]; exact List.mem_cons_self)
    · rcases st1_mem (L := L) (i := i + 1) e with e | e
      · exact Or.inl e
      · exact Or.inr (List.mem_cons_of_mem _ e)
theorem st2_mem : ∀ {L : List (Option TV)} {i : Nat} {v w : TV}, some w ∈ stL2 L i v → w = v ∨ some w ∈ L
  | [], 0, v, w, h => by simp [stL2] at h; exact Or.inl h
  | [], i + 1, v, w, h => by
    simp [stL2] at h
    rcases st2_mem (L := []) (i := i) h with e | e
    · exact Or.inl e
    · cases e
  | [x], 0, v, w, h => by simp [stL2] at h; exact Or.inl h
  | x :: y :: L, 0, v, w, h => by
    simp [stL2] at h
    rcases h with e | e
    · exact Or.inl e
    · exact Or.inr (List.mem_cons_of_mem _ (List.mem_cons_of_mem _ e))
  | x :: L, 1, v, w, h => by
    rw [stL2] at h
    rcases List.mem_cons.mp h with e | e
    · exact Or.inr (by rw [(dr2_eq e.symm).1]; exact List.mem_cons_self)
    · rcases st2_mem (L := L) (i := 0) e with e | e
      · exact Or.inl e
      · exact Or.inr (List.mem_cons_of_mem _ e)
  | x :: L, i + 2, v, w, h => by
    rw [stL2] at h
    rcases List.mem_cons.mp h with e | e
    · exact Or.inr (by rw [e]; exact List.mem_cons_self)
    · rcases st2_mem (L := L) (i := i + 1) e with e | e
      · exact Or.inl e
      · exact Or.inr (List.mem_cons_of_mem _ e)
/-- some of the locals are forgotten -/
def kp : List Bool → List (Option TV) → List (Option TV)
  | true :: bs, x :: L => x :: kp bs L
  | false :: bs, _ :: L => none :: kp bs L
  | _, _ => []
theorem kp_asc {G : Cx} : ∀ {bs : List Bool} {L : List (Option TV)} {j : Nat} {q : Nat × Value}, q ∈ asc G j (kp bs L) → q ∈ asc G j L
  | true :: bs, x :: L, j, q, h => by
    rw [kp, asc_cons] at h
    rw [asc_cons]
    exact h.imp id (kp_asc (bs := bs) (L := L))
  | false :: bs, x :: L, j, q, h => by
    rw [kp, asc_cons] at h
    rw [asc_cons]
    rcases h with ⟨w, hw, -⟩ | h
    · cases hw
    · exact Or.inr (kp_asc (bs := bs) (L := L) h)
  | [], L, j, q, h => by
    have e : kp [] L = [] := by cases L <;> rfl
    rw [e] at h; cases h
  | true :: bs, [], j, q, h => by cases h
  | false :: bs, [], j, q, h => by cases h
theorem kp_mem : ∀ {bs : List Bool} {L : List (Option TV)} {w : TV}, some w ∈ kp bs L → some w ∈ L
  | true :: bs, x :: L, w, h => by
    rw [kp] at h
    rcases List.mem_cons.mp h with e | e
    · rw [e]; exact List.mem_cons_self
    · exact List.mem_cons_of_mem _ (kp_mem (bs := bs) e)
  | false :: bs, x :: L, w, h => by
    rw [kp] at h
    rcases List.mem_cons.mp h with e | e
    · cases e
    · exact List.mem_cons_of_mem _ (kp_mem (bs := bs) e)
  | [], L, w, h => by
    have e : kp [] L = [] := by cases L <;> rfl
    rw [e] at h; cases h
  | true :: bs, [], w, h => by cases h
  | false :: bs, [], w, h => by cases h
section RN
variable {l : Launch} {G : Cx} {d mc ms : Nat} {M : Mth} {h0 : Hp} {Q : Option TV → Hp → Prop} {pc : Nat} {L : List (Option TV)} {st : List TV} {h : Hp} {cu su : Nat}
theorem r_keep (bs : List Bool) {L' : List (Option TV)} (hk : kp bs L = L') (k : Rn l G d mc ms M h0 Q pc L' st h cu su) : Rn l G d mc ms M h0 Q pc L st h cu su := by
  subst hk
  intro p e s m args below meth c H locs ls C hW hE hS hl hL hst
  exact k p e s m args below meth c H locs ls C hW hE hS ⟨hl.1, hl.2.1, fun q hq => hl.2.2 q (kp_asc hq)⟩ (tyO_mem.mpr fun v hv => tyO_mem.mp hL v (kp_mem hv)) hst
theorem r_iconst {n : Int} {v : Int32} (hd : decode M.1 pc = .ok (.iconst n, 1)) (hv : Int32.ofInt n = v) (k : Rn l G d mc ms M h0 Q (pc + 1) L (tI v :: st) h cu su) : Rn l G d mc ms M h0 Q pc L (st) h cu su := by
  intro p e s m args below meth c H locs ls C hW hE hS hl hL hst
  exact lv_iconst C.1 C.2.1 hd hv (k p e s m args below meth c H locs ls C hW hE hS hl hL ⟨trivial, hst⟩)
theorem r_bipush {n : Int} {v : Int32} (hd : decode M.1 pc = .ok (.bipush n, 2)) (hv : (Int8.ofInt n).toInt32 = v) (k : Rn l G d mc ms M h0 Q (pc + 2) L (tI v :: st) h cu su) : Rn l G d mc ms M h0 Q pc L (st) h cu su := by
  intro p e s m args below meth c H locs ls C hW hE hS hl hL hst
  exact lv_bipush C.1 C.2.1 hd hv (k p e s m args below meth c H locs ls C hW hE hS hl hL ⟨trivial, hst⟩)
theorem r_sipush {n : Int} {v : Int32} (hd : decode M.1 pc = .ok (.sipush n, 3)) (hv : (Int16.ofInt n).toInt32 = v) (k : Rn l G d mc ms M h0 Q (pc + 3) L (tI v :: st) h cu su) : Rn l G d mc ms M h0 Q pc L (st) h cu su := by
  intro p e s m args below meth c H locs ls C hW hE hS hl hL hst
  exact lv_sipush C.1 C.2.1 hd hv (k p e s m args below meth c H locs ls C hW hE hS hl hL ⟨trivial, hst⟩)
theorem r_lconst {n : Fin 2} {v : Int64} (hd : decode M.1 pc = .ok (.lconst n, 1)) (hv : Int64.ofNat (n : Nat) = v) (k : Rn l G d mc ms M h0 Q (pc + 1) L (tJ v :: st) h cu su) : Rn l G d mc ms M h0 Q pc L (st) h cu su := by
  intro p e s m args below meth c H locs ls C hW hE hS hl hL hst
  exact lv_lconst C.1 C.2.1 hd hv (k p e s m args below meth c H locs ls C hW hE hS hl hL ⟨trivial, hst⟩)
theorem r_iadd {x y : Int32} (hd : decode M.1 pc = .ok (.iadd, 1)) (k : Rn l G d mc ms M h0 Q (pc + 1) L (tI (x + y) :: st) h cu su) : Rn l G d mc ms M h0 Q pc L (tI y :: tI x :: st) h cu su := by
  intro p e s m args below meth c H locs ls C hW hE hS hl hL hst
  exact lv_iadd C.1 C.2.1 hd (k p e s m args below meth c H locs ls C hW hE hS hl hL ⟨trivial, hst.2.2⟩)
theorem r_isub {x y : Int32} (hd : decode M.1 pc = .ok (.isub, 1)) (k : Rn l G d mc ms M h0 Q (pc + 1) L (tI (x - y) :: st) h cu su) : Rn l G d mc ms M h0 Q pc L (tI y :: tI x :: st) h cu su := by
  intro p e s m args below meth c H locs ls C hW hE hS hl hL hst
  exact lv_isub C.1 C.2.1 hd (k p e s m args below meth c H locs ls C hW hE hS hl hL ⟨trivial, hst.2.2⟩)
theorem r_imul {x y : Int32} (hd : decode M.1 pc = .ok (.imul, 1)) (k : Rn l G d mc ms M h0 Q (pc + 1) L (tI (x * y) :: st) h cu su) : Rn l G d mc ms M h0 Q pc L (tI y :: tI x :: st) h cu su := by
  intro p e s m args below meth c H locs ls C hW hE hS hl hL hst
  exact lv_imul C.1 C.2.1 hd (k p e s m args below meth c H locs ls C hW hE hS hl hL ⟨trivial, hst.2.2⟩)
theorem r_iand {x y : Int32} (hd : decode M.1 pc = .ok (.iand, 1)) (k : Rn l G d mc ms M h0 Q (pc + 1) L (tI (x &&& y) :: st) h cu su) : Rn l G d mc ms M h0 Q pc L (tI y :: tI x :: st) h cu su := by
  intro p e s m args below meth c H locs ls C hW hE hS hl hL hst
  exact lv_iand C.1 C.2.1 hd (k p e s m args below meth c H locs ls C hW hE hS hl hL ⟨trivial, hst.2.2⟩)
theorem r_ior {x y : Int32} (hd : decode M.1 pc = .ok (.ior, 1)) (k : Rn l G d mc ms M h0 Q (pc + 1) L (tI (x ||| y) :: st) h cu su) : Rn l G d mc ms M h0 Q pc L (tI y :: tI x :: st) h cu su := by
  intro p e s m args below meth c H locs ls C hW hE hS hl hL hst
  exact lv_ior C.1 C.2.1 hd (k p e s m args below meth c H locs ls C hW hE hS hl hL ⟨trivial, hst.2.2⟩)
theorem r_ixor {x y : Int32} (hd : decode M.1 pc = .ok (.ixor, 1)) (k : Rn l G d mc ms M h0 Q (pc + 1) L (tI (x ^^^ y) :: st) h cu su) : Rn l G d mc ms M h0 Q pc L (tI y :: tI x :: st) h cu su := by
  intro p e s m args below meth c H locs ls C hW hE hS hl hL hst
  exact lv_ixor C.1 C.2.1 hd (k p e s m args below meth c H locs ls C hW hE hS hl hL ⟨trivial, hst.2.2⟩)
theorem r_ishl {x y : Int32} (hd : decode M.1 pc = .ok (.ishl, 1)) (k : Rn l G d mc ms M h0 Q (pc + 1) L (tI (x <<< (y &&& 31)) :: st) h cu su) : Rn l G d mc ms M h0 Q pc L (tI y :: tI x :: st) h cu su := by
  intro p e s m args below meth c H locs ls C hW hE hS hl hL hst
  exact lv_ishl C.1 C.2.1 hd (k p e s m args below meth c H locs ls C hW hE hS hl hL ⟨trivial, hst.2.2⟩)
theorem r_ishr {x y : Int32} (hd : decode M.1 pc = .ok (.ishr, 1)) (k : Rn l G d mc ms M h0 Q (pc + 1) L (tI (x >>> (y &&& 31)) :: st) h cu su) : Rn l G d mc ms M h0 Q pc L (tI y :: tI x :: st) h cu su := by
  intro p e s m args below meth c H locs ls C hW hE hS hl hL hst
  exact lv_ishr C.1 C.2.1 hd (k p e s m args below meth c H locs ls C hW hE hS hl hL ⟨trivial, hst.2.2⟩)
theorem r_idiv {x y : Int32} (hd : decode M.1 pc = .ok (.idiv, 1)) (hne : ¬ y = 0) (k : Rn l G d mc ms M h0 Q (pc + 1) L (tI (x / y) :: st) h cu su) : Rn l G d mc ms M h0 Q pc L (tI y :: tI x :: st) h cu su := by
  intro p e s m args below meth c H locs ls C hW hE hS hl hL hst
  exact lv_idiv C.1 C.2.1 hd hne (k p e s m args below meth c H locs ls C hW hE hS hl hL ⟨trivial, hst.2.2⟩)
theorem r_irem {x y : Int32} (hd : decode M.1 pc = .ok (.irem, 1)) (hne : ¬ y = 0) (k : Rn l G d mc ms M h0 Q (pc + 1) L (tI (x - x / y * y) :: st) h cu su) : Rn l G d mc ms M h0 Q pc L (tI y :: tI x :: st) h cu su := by
  intro p e s m args below meth c H locs ls C hW hE hS hl hL hst
  exact lv_irem C.1 C.2.1 hd hne (k p e s m args below meth c H locs ls C hW hE hS hl hL ⟨trivial, hst.2.2⟩)
theorem r_ineg {x : Int32} (hd : decode M.1 pc = .ok (.ineg, 1)) (k : Rn l G d mc ms M h0 Q (pc + 1) L (tI (-x) :: st) h cu su) : Rn l G d mc ms M h0 Q pc L (tI x :: st) h cu su := by
  intro p e s m args below meth c H locs ls C hW hE hS hl hL hst
  exact lv_ineg C.1 C.2.1 hd (k p e s m args below meth c H locs ls C hW hE hS hl hL ⟨trivial, hst.2⟩)
theorem r_ladd {x y : Int64} (hd : decode M.1 pc = .ok (.ladd, 1)) (k : Rn l G d mc ms M h0 Q (pc + 1) L (tJ (x + y) :: st) h cu su) : Rn l G d mc ms M h0 Q pc L (tJ y :: tJ x :: st) h cu su := by
  intro p e s m args below meth c H locs ls C hW hE hS hl hL hst
  exact lv_ladd C.1 C.2.1 hd (k p e s m args below meth c H locs ls C hW hE hS hl hL ⟨trivial, hst.2.2⟩)
theorem r_lsub {x y : Int64} (hd : decode M.1 pc = .ok (.lsub, 1)) (k : Rn l G d mc ms M h0 Q (pc + 1) L (tJ (x - y) :: st) h cu su) : Rn l G d mc ms M h0 Q pc L (tJ y :: tJ x :: st) h cu su := by
  intro p e s m args below meth c H locs ls C hW hE hS hl hL hst
  exact lv_lsub C.1 C.2.1 hd (k p e s m args below meth c H locs ls C hW hE hS hl hL ⟨trivial, hst.2.2⟩)
theorem r_lmul {x y : Int64} (hd : decode M.1 pc = .ok (.lmul, 1)) (k : Rn l G d mc ms M h0 Q (pc + 1) L (tJ (x * y) :: st) h cu su) : Rn l G d mc ms M h0 Q pc L (tJ y :: tJ x :: st) h cu su := by
  intro p e s m args below meth c H locs ls C hW hE hS hl hL hst
  exact lv_lmul C.1 C.2.1 hd (k p e s m args below meth c H locs ls C hW hE hS hl hL ⟨trivial, hst.2.2⟩)
theorem r_ldiv {x y : Int64} (hd : decode M.1 pc = .ok (.ldiv, 1)) (hne : ¬ y = 0) (k : Rn l G d mc ms M h0 Q (pc + 1) L (tJ (x / y) :: st) h cu su) : Rn l G d mc ms M h0 Q pc L (tJ y :: tJ x :: st) h cu su := by
  intro p e s m args below meth c H locs ls C hW hE hS hl hL hst
  exact lv_ldiv C.1 C.2.1 hd hne (k p e s m args below meth c H locs ls C hW hE hS hl hL ⟨trivial, hst.2.2⟩)
theorem r_lrem {x y : Int64} (hd : decode M.1 pc = .ok (.lrem, 1)) (hne : ¬ y = 0) (k : Rn l G d mc ms M h0 Q (pc + 1) L (tJ (x - x / y * y) :: st) h cu su) : Rn l G d mc ms M h0 Q pc L (tJ y :: tJ x :: st) h cu su := by
  intro p e s m args below meth c H locs ls C hW hE hS hl hL hst
  exact lv_lrem C.1 C.2.1 hd hne (k p e s m args below meth c H locs ls C hW hE hS hl hL ⟨trivial, hst.2.2⟩)
theorem r_iushr {x y : Int32} (hd : decode M.1 pc = .ok (.iushr, 1)) (k : Rn l G d mc ms M h0 Q (pc + 1) L (tI (x.toUInt32 >>> (y.toUInt32 &&& Int32.toUInt32 31)).toInt32 :: st) h cu su) : Rn l G d mc ms M h0 Q pc L (tI y :: tI x :: st) h cu su := by
  intro p e s m args below meth c H locs ls C hW hE hS hl hL hst
  exact lv_iushr C.1 C.2.1 hd rfl (k p e s m args below meth c H locs ls C hW hE hS hl hL ⟨trivial, hst.2.2⟩)
theorem r_i2l {x : Int32} (hd : decode M.1 pc = .ok (.i2l, 1)) (k : Rn l G d mc ms M h0 Q (pc + 1) L (tJ x.toInt64 :: st) h cu su) : Rn l G d mc ms M h0 Q pc L (tI x :: st) h cu su := by
  intro p e s m args below meth c H locs ls C hW hE hS hl hL hst
  exact lv_i2l C.1 C.2.1 hd rfl (k p e s m args below meth c H locs ls C hW hE hS hl hL ⟨trivial, hst.2⟩)
theorem r_l2i {x : Int64} (hd : decode M.1 pc = .ok (.l2i, 1)) (k : Rn l G d mc ms M h0 Q (pc + 1) L (tI x.toInt32 :: st) h cu su) : Rn l G d mc ms M h0 Q pc L (tJ x :: st) h cu su := by
  intro p e s m args below meth c H locs ls C hW hE hS hl hL hst
  exact lv_l2i C.1 C.2.1 hd rfl (k p e s m args below meth c H locs ls C hW hE hS hl hL ⟨trivial, hst.2⟩)
theorem r_i2b {x : Int32} (hd : decode M.1 pc = .ok (.i2b, 1)) (k : Rn l G d mc ms M h0 Q (pc + 1) L (tI x.toInt8.toInt32 :: st) h cu su) : Rn l G d mc ms M h0 Q pc L (tI x :: st) h cu su := by
  intro p e s m args below meth c H locs ls C hW hE hS hl hL hst
  exact lv_i2b C.1 C.2.1 hd rfl (k p e s m args below meth c H locs ls C hW hE hS hl hL ⟨trivial, hst.2⟩)
theorem r_i2c {x : Int32} (hd : decode M.1 pc = .ok (.i2c, 1)) (k : Rn l G d mc ms M h0 Q (pc + 1) L (tI (x.toUInt32 % 65536).toInt32 :: st) h cu su) : Rn l G d mc ms M h0 Q pc L (tI x :: st) h cu su := by
  intro p e s m args below meth c H locs ls C hW hE hS hl hL hst
  exact lv_i2c C.1 C.2.1 hd rfl (k p e s m args below meth c H locs ls C hW hE hS hl hL ⟨trivial, hst.2⟩)
theorem r_lcmp {x y : Int64} (hd : decode M.1 pc = .ok (.lcmp, 1)) (k : Rn l G d mc ms M h0 Q (pc + 1) L (tI (lg_cmp x y) :: st) h cu su) : Rn l G d mc ms M h0 Q pc L (tJ y :: tJ x :: st) h cu su := by
  intro p e s m args below meth c H locs ls C hW hE hS hl hL hst
  exact W.lcmp C.1 C.2.1 hd (k p e s m args below meth c H locs ls C hW hE hS hl hL ⟨trivial, hst.2.2⟩)
theorem r_if_eq {x : Int32} {off : Int} {tgt : Nat} (hd : decode M.1 pc = .ok (.ifCond .eq off, 3)) (ht : (pc : Int) + off = (tgt : Int)) (kt : x = 0 → Rn l G d mc ms M h0 Q tgt L st h cu su) (kf : ¬ x = 0 → Rn l G d mc ms M h0 Q (pc + 3) L st h cu su) : Rn l G d mc ms M h0 Q pc L (tI x :: st) h cu su := by
  intro p e s m args below meth c H locs ls C hW hE hS hl hL hst
  exact lv_if_eq C.1 C.2.1 hd ht (fun q => kt q p e s m args below meth c H locs ls C hW hE hS hl hL hst.2) (fun q => kf q p e s m args below meth c H locs ls C hW hE hS hl hL hst.2)
theorem r_icmp_eq {x y : Int32} {off : Int} {tgt : Nat} (hd : decode M.1 pc = .ok (.if_icmp .eq off, 3)) (ht : (pc : Int) + off = (tgt : Int)) (kt : x = y → Rn l G d mc ms M h0 Q tgt L st h cu su) (kf : ¬ x = y → Rn l G d mc ms M h0 Q (pc + 3) L st h cu su) : Rn l G d mc ms M h0 Q pc L (tI y :: tI x :: st) h cu su := by
  intro p e s m args below meth c H locs ls C hW hE hS hl hL hst
  exact lv_icmp_eq C.1 C.2.1 hd ht (fun q => kt q p e s m args below meth c H locs ls C hW hE hS hl hL hst.2.2) (fun q => kf q p e s m args below meth c H locs ls C hW hE hS hl hL hst.2.2)
theorem r_if_ne {x : Int32} {off : Int} {tgt : Nat} (hd : decode M.1 pc = .ok (.ifCond .ne off, 3)) (ht : (pc : Int) + off = (tgt : Int)) (kt : ¬ x = 0 → Rn l G d mc ms M h0 Q tgt L st h cu su) (kf : x = 0 → Rn l G d mc ms M h0 Q (pc + 3) L st h cu su) : Rn l G d mc ms M h0 Q pc L (tI x :: st) h cu su := by
  intro p e s m args below meth c H locs ls C hW hE hS hl hL hst
  exact lv_if_ne C.1 C.2.1 hd ht (fun q => kt q p e s m args below meth c H locs ls C hW hE hS hl hL hst.2) (fun q => kf q p e s m args below meth c H locs ls C hW hE hS hl hL hst.2)
theorem r_icmp_ne {x y : Int32} {off : Int} {tgt : Nat} (hd : decode M.1 pc = .ok (.if_icmp .ne off, 3)) (ht : (pc : Int) + off = (tgt : Int)) (kt : ¬ x = y → Rn l G d mc ms M h0 Q tgt L st h cu su) (kf : x = y → Rn l G d mc ms M h0 Q (pc + 3) L st h cu su) : Rn l G d mc ms M h0 Q pc L (tI y :: tI x :: st) h cu su := by
  intro p e s m args below meth c H locs ls C hW hE hS hl hL hst
  exact lv_icmp_ne C.1 C.2.1 hd ht (fun q => kt q p e s m args below meth c H locs ls C hW hE hS hl hL hst.2.2) (fun q => kf q p e s m args below meth c H locs ls C hW hE hS hl hL hst.2.2)
theorem r_if_lt {x : Int32} {off : Int} {tgt : Nat} (hd : decode M.1 pc = .ok (.ifCond .lt off, 3)) (ht : (pc : Int) + off = (tgt : Int)) (kt : x < 0 → Rn l G d mc ms M h0 Q tgt L st h cu su) (kf : ¬ x < 0 → Rn l G d mc ms M h0 Q (pc + 3) L st h cu su) : Rn l G d mc ms M h0 Q pc L (tI x :: st) h cu su := by
  intro p e s m args below meth c H locs ls C hW hE hS hl hL hst
  exact lv_if_lt C.1 C.2.1 hd ht (fun q => kt q p e s m args below meth c H locs ls C hW hE hS hl hL hst.2) (fun q => kf q p e s m args below meth c H locs ls C hW hE hS hl hL hst.2)
theorem r_icmp_lt {x y : Int32} {off : Int} {tgt : Nat} (hd : decode M.1 pc = .ok (.if_icmp .lt off, 3)) (ht : (pc : Int) + off = (tgt : Int)) (kt : x < y → Rn l G d mc ms M h0 Q tgt L st h cu su) (kf : ¬ x < y → Rn l G d mc ms M h0 Q (pc + 3) L st h cu su) : Rn l G d mc ms M h0 Q pc L (tI y :: tI x :: st) h cu su := by
  intro p e s m args below meth c H locs ls C hW hE hS hl hL hst
  exact lv_icmp_lt C.1 C.2.1 hd ht (fun q => kt q p e s m args below meth c H locs ls C hW hE hS hl hL hst.2.2) (fun q => kf q p e s m args below meth c H locs ls C hW hE hS hl hL hst.2.2)
theorem r_if_ge {x : Int32} {off : Int} {tgt : Nat} (hd : decode M.1 pc = .ok (.ifCond .ge off, 3)) (ht : (pc : Int) + off = (tgt : Int)) (kt : 0 ≤ x → Rn l G d mc ms M h0 Q tgt L st h cu su) (kf : ¬ 0 ≤ x → Rn l G d mc ms M h0 Q (pc + 3) L st h cu su) : Rn l G d mc ms M h0 Q pc L (tI x :: st) h cu su := by
  intro p e s m args below meth c H locs ls C hW hE hS hl hL hst
  exact lv_if_ge C.1 C.2.1 hd ht (fun q => kt q p e s m args below meth c H locs ls C hW hE hS hl hL hst.2) (fun q => kf q p e s m args below meth c H locs ls C hW hE hS hl hL hst.2)
theorem r_icmp_ge {x y : Int32} {off : Int} {tgt : Nat} (hd : decode M.1 pc = .ok (.if_icmp .ge off, 3)) (ht : (pc : Int) + off = (tgt : Int)) (kt : y ≤ x → Rn l G d mc ms M h0 Q tgt L st h cu su) (kf : ¬ y ≤ x → Rn l G d mc ms M h0 Q (pc + 3) L st h cu su) : Rn l G d mc ms M h0 Q pc L (tI y :: tI x :: st) h cu su := by
  intro p e s m args below meth c H locs ls C hW hE hS hl hL hst
  exact lv_icmp_ge C.1 C.2.1 hd ht (fun q => kt q p e s m args below meth c H locs ls C hW hE hS hl hL hst.2.2) (fun q => kf q p e s m args below meth c H locs ls C hW hE hS hl hL hst.2.2)
theorem r_if_gt {x : Int32} {off : Int} {tgt : Nat} (hd : decode M.1 pc = .ok (.ifCond .gt off, 3)) (ht : (pc : Int) + off = (tgt : Int)) (kt : 0 < x → Rn l G d mc ms M h0 Q tgt L st h cu su) (kf : ¬ 0 < x → Rn l G d mc ms M h0 Q (pc + 3) L st h cu su) : Rn l G d mc ms M h0 Q pc L (tI x :: st) h cu su := by
  intro p e s m args below meth c H locs ls C hW hE hS hl hL hst
  exact lv_if_gt C.1 C.2.1 hd ht (fun q => kt q p e s m args below meth c H locs ls C hW hE hS hl hL hst.2) (fun q => kf q p e s m args below meth c H locs ls C hW hE hS hl hL hst.2)
theorem r_icmp_gt {x y : Int32} {off : Int} {tgt : Nat} (hd : decode M.1 pc = .ok (.if_icmp .gt off, 3)) (ht : (pc : Int) + off = (tgt : Int)) (kt : y < x → Rn l G d mc ms M h0 Q tgt L st h cu su) (kf : ¬ y < x → Rn l G d mc ms M h0 Q (pc + 3) L st h cu su) : Rn l G d mc ms M h0 Q pc L (tI y :: tI x :: st) h cu su := by
  intro p e s m args below meth c H locs ls C hW hE hS hl hL hst
  exact lv_icmp_gt C.1 C.2.1 hd ht (fun q => kt q p e s m args below meth c H locs ls C hW hE hS hl hL hst.2.2) (fun q => kf q p e s m args below meth c H locs ls C hW hE hS hl hL hst.2.2)
theorem r_if_le {x : Int32} {off : Int} {tgt : Nat} (hd : decode M.1 pc = .ok (.ifCond .le off, 3)) (ht : (pc : Int) + off = (tgt : Int)) (kt : x ≤ 0 → Rn l G d mc ms M h0 Q tgt L st h cu su) (kf : ¬ x ≤ 0 → Rn l G d mc ms M h0 Q (pc + 3) L st h cu su) : Rn l G d mc ms M h0 Q pc L (tI x :: st) h cu su := by
  intro p e s m args below meth c H locs ls C hW hE hS hl hL hst
  exact lv_if_le C.1 C.2.1 hd ht (fun q => kt q p e s m args below meth c H locs ls C hW hE hS hl hL hst.2) (fun q => kf q p e s m args below meth c H locs ls C hW hE hS hl hL hst.2)
theorem r_icmp_le {x y : Int32} {off : Int} {tgt : Nat} (hd : decode M.1 pc = .ok (.if_icmp .le off, 3)) (ht : (pc : Int) + off = (tgt : Int)) (kt : x ≤ y → Rn l G d mc ms M h0 Q tgt L st h cu su) (kf : ¬ x ≤ y → Rn l G d mc ms M h0 Q (pc + 3) L st h cu su) : Rn l G d mc ms M h0 Q pc L (tI y :: tI x :: st) h cu su := by
  intro p e s m args below meth c H locs ls C hW hE hS hl hL hst
  exact lv_icmp_le C.1 C.2.1 hd ht (fun q => kt q p e s m args below meth c H locs ls C hW hE hS hl hL hst.2.2) (fun q => kf q p e s m args below meth c H locs ls C hW hE hS hl hL hst.2.2)
theorem r_goto {off : Int} {tgt : Nat} (hd : decode M.1 pc = .ok (.goto off, 3)) (ht : (pc : Int) + off = (tgt : Int)) (k : Rn l G d mc ms M h0 Q tgt L st h cu su) : Rn l G d mc ms M h0 Q pc L st h cu su := by
  intro p e s m args below meth c H locs ls C hW hE hS hl hL hst
  exact lv_goto C.1 C.2.1 hd ht (k p e s m args below meth c H locs ls C hW hE hS hl hL hst)
theorem r_tableOut {dflt lo hi : Int} {offs : Array Int} {len : Nat} {x : Int32} {tgt : Nat} (hd : decode M.1 pc = .ok (.tableswitch dflt lo hi offs, len)) (hx : x.toInt < lo ∨ hi < x.toInt) (ht : (pc : Int) + dflt = (tgt : Int)) (k : Rn l G d mc ms M h0 Q tgt L st h cu su) : Rn l G d mc ms M h0 Q pc L (tI x :: st) h cu su := by
  intro p e s m args below meth c H locs ls C hW hE hS hl hL hst
  exact lv_tableOut C.1 C.2.1 hd hx ht (k p e s m args below meth c H locs ls C hW hE hS hl hL hst.2)
theorem r_tableIn {dflt lo hi : Int} {offs : Array Int} {len : Nat} {x : Int32} {off : Int} {tgt : Nat} (hd : decode M.1 pc = .ok (.tableswitch dflt lo hi offs, len)) (h1 : ¬ x.toInt < lo) (h2 : ¬ hi < x.toInt) (ho : offs[(x.toInt - lo).toNat]? = some off) (ht : (pc : Int) + off = (tgt : Int)) (k : Rn l G d mc ms M h0 Q tgt L st h cu su) : Rn l G d mc ms M h0 Q pc L (tI x :: st) h cu su := by
  intro p e s m args below meth c H locs ls C hW hE hS hl hL hst
  exact lv_tableIn C.1 C.2.1 hd h1 h2 ho ht (k p e s m args below meth c H locs ls C hW hE hS hl hL hst.2)
theorem r_iload {i : Nat} {x : Int32} (hd : decode M.1 pc = .ok (.iload i, 2)) (hv : L[i]? = some (some (tI x))) (k : Rn l G d mc ms M h0 Q (pc + 2) L (tI x :: st) h cu su) : Rn l G d mc ms M h0 Q pc L st h cu su := by
  intro p e s m args below meth c H locs ls C hW hE hS hl hL hst
  exact lv_iload C.1 C.2.1 hd (ls_at hl hv) (k p e s m args below meth c H locs ls C hW hE hS hl hL ⟨trivial, hst⟩)
theorem r_iload_n {j : Fin 4} {i : Nat} {x : Int32} (hd : decode M.1 pc = .ok (.iload_n j, 1)) (hi : (j : Nat) = i) (hv : L[i]? = some (some (tI x))) (k : Rn l G d mc ms M h0 Q (pc + 1) L (tI x :: st) h cu su) : Rn l G d mc ms M h0 Q pc L st h cu su := by
  intro p e s m args below meth c H locs ls C hW hE hS hl hL hst
  exact lv_iload_n C.1 C.2.1 hd hi (ls_at hl hv) (k p e s m args below meth c H locs ls C hW hE hS hl hL ⟨trivial, hst⟩)
theorem r_lload {i : Nat} {x : Int64} (hd : decode M.1 pc = .ok (.lload i, 2)) (hv : L[i]? = some (some (tJ x))) (k : Rn l G d mc ms M h0 Q (pc + 2) L (tJ x :: st) h cu su) : Rn l G d mc ms M h0 Q pc L st h cu su := by
  intro p e s m args below meth c H locs ls C hW hE hS hl hL hst
  exact lv_lload C.1 C.2.1 hd (ls_at hl hv) (k p e s m args below meth c H locs ls C hW hE hS hl hL ⟨trivial, hst⟩)
theorem r_lload_n {j : Fin 4} {i : Nat} {x : Int64} (hd : decode M.1 pc = .ok (.lload_n j, 1)) (hi : (j : Nat) = i) (hv : L[i]? = some (some (tJ x))) (k : Rn l G d mc ms M h0 Q (pc + 1) L (tJ x :: st) h cu su) : Rn l G d mc ms M h0 Q pc L st h cu su := by
  intro p e s m args below meth c H locs ls C hW hE hS hl hL hst
  exact lv_lload_n C.1 C.2.1 hd hi (ls_at hl hv) (k p e s m args below meth c H locs ls C hW hE hS hl hL ⟨trivial, hst⟩)
theorem r_aload {i k n : Nat} {r : Option Nat} (hd : decode M.1 pc = .ok (.aload i, 2)) (hv : L[i]? = some (some (tR k n r))) (kk : Rn l G d mc ms M h0 Q (pc + 2) L (tR k n r :: st) h cu su) : Rn l G d mc ms M h0 Q pc L st h cu su := by
  intro p e s m args below meth c H locs ls C hW hE hS hl hL hst
  have q := kk p e s m args below meth c H locs ls C hW hE hS hl hL ⟨tyO_at hL hv, hst⟩
  have z := ls_at hl hv
  cases r with
  | none => exact lv_aloadN C.1 C.2.1 hd z q
  | some a => exact lv_aload C.1 C.2.1 hd z q
theorem r_aloadS {i k : Nat} (hd : decode M.1 pc = .ok (.aload i, 2)) (hv : L[i]? = some (some (tS k))) (kk : Rn l G d mc ms M h0 Q (pc + 2) L (tS k :: st) h cu su) : Rn l G d mc ms M h0 Q pc L st h cu su := by
  intro p e s m args below meth c H locs ls C hW hE hS hl hL hst
  exact lv_aload C.1 C.2.1 hd (ls_at hl hv) (kk p e s m args below meth c H locs ls C hW hE hS hl hL ⟨tyO_at hL hv, hst⟩)
theorem r_aload_n {i k n : Nat} {r : Option Nat} {j : Fin 4} (hd : decode M.1 pc = .ok (.aload_n j, 1)) (hi : (j : Nat) = i) (hv : L[i]? = some (some (tR k n r))) (kk : Rn l G d mc ms M h0 Q (pc + 1) L (tR k n r :: st) h cu su) : Rn l G d mc ms M h0 Q pc L st h cu su := by
  intro p e s m args below meth c H locs ls C hW hE hS hl hL hst
  have q := kk p e s m args below meth c H locs ls C hW hE hS hl hL ⟨tyO_at hL hv, hst⟩
  have z := ls_at hl hv
  cases r with
  | none => exact lv_aload_nN C.1 C.2.1 hd hi z q
  | some a => exact lv_aload_n C.1 C.2.1 hd hi z q
theorem r_aload_nS {i k : Nat} {j : Fin 4} (hd : decode M.1 pc = .ok (.aload_n j, 1)) (hi : (j : Nat) = i) (hv : L[i]? = some (some (tS k))) (kk : Rn l G d mc ms M h0 Q (pc + 1) L (tS k :: st) h cu su) : Rn l G d mc ms M h0 Q pc L st h cu su := by
  intro p e s m args below meth c H locs ls C hW hE hS hl hL hst
  exact lv_aload_n C.1 C.2.1 hd hi (ls_at hl hv) (kk p e s m args below meth c H locs ls C hW hE hS hl hL ⟨tyO_at hL hv, hst⟩)
theorem has1 {G : Cx} {ls : Array Slot} {n i : Nat} {L : List (Option TV)} {v : TV} (h : lv_has ls n ((i, cv G v) :: (asc G 0 L).filter (fun q => !(q.1 == i) && !(q.1 + 1 == i && q.2.category == 2)))) : lv_has ls n (asc G 0 (stL1 L i v)) := by
  refine ⟨h.1, h.2.1, fun q hq => h.2.2 q ?_⟩
  rcases asc_st1 hq with e | ⟨e, g1, g2⟩
  · rw [e, Nat.zero_add]; exact List.mem_cons_self
  · refine List.mem_cons_of_mem _ (List.mem_filter.mpr ⟨e, ?_⟩)
    rw [Nat.zero_add] at g1 g2
    simp only [Bool.and_eq_true, Bool.not_eq_true', beq_eq_false_iff_ne, ne_eq, Bool.and_eq_false_iff, beq_iff_eq]
    refine ⟨g1, ?_⟩
    by_cases z : q.1 + 1 = i
    · exact Or.inr (fun y => g2 ⟨z, y⟩)
    · exact Or.inl z
theorem has2 {G : Cx} {ls : Array Slot} {n i : Nat} {L : List (Option TV)} {v : TV} (h : lv_has ls n ((i, cv G v) :: (asc G 0 L).filter (fun q => !(q.1 == i) && (!(q.1 == i + 1) && !(q.1 + 1 == i && q.2.category == 2))))) : lv_has ls n (asc G 0 (stL2 L i v)) := by
  refine ⟨h.1, h.2.1, fun q hq => h.2.2 q ?_⟩
  rcases asc_st2 hq with e | ⟨e, g1, g3, g2⟩
  · rw [e, Nat.zero_add]; exact List.mem_cons_self
  · refine List.mem_cons_of_mem _ (List.mem_filter.mpr ⟨e, ?_⟩)
    rw [Nat.zero_add] at g1 g2 g3
    simp only [Bool.and_eq_true, Bool.not_eq_true', beq_eq_false_iff_ne, ne_eq, Bool.and_eq_false_iff, beq_iff_eq]
    refine ⟨g1, g3, ?_⟩
    by_cases z : q.1 + 1 = i
    · exact Or.inr (fun y => g2 ⟨z, y⟩)
    · exact Or.inl z
theorem ty_st1 {h : Hp} {L : List (Option TV)} {i : Nat} {v : TV} (hL : tyO h L) (hv : ty1 h v) : tyO h (stL1 L i v) := tyO_mem.mpr fun w hw => (st1_mem hw).elim (fun e => by rw [e]; exact hv) (tyO_mem.mp hL w)
theorem ty_st2 {h : Hp} {L : List (Option TV)} {i : Nat} {v : TV} (hL : tyO h L) (hv : ty1 h v) : tyO h (stL2 L i v) := tyO_mem.mpr fun w hw => (st2_mem hw).elim (fun e => by rw [e]; exact hv) (tyO_mem.mp hL w)
theorem r_istore {i : Nat} {x : Int32} {L' : List (Option TV)} (hd : decode M.1 pc = .ok (.istore i, 2)) (hn : i + 0 < M.2.1) (hL' : stL1 L i (tI x) = L') (k : Rn l G d mc ms M h0 Q (pc + 2) L' st h cu su) : Rn l G d mc ms M h0 Q pc L (tI x :: st) h cu su := by
  subst hL'
  intro p e s m args below meth c H locs ls C hW hE hS hl hL hst
  exact lv_istore C.1 C.2.1 hd hl hn rfl (fun ls' hl' => k p e s m args below meth c H locs ls' C hW hE hS (has1 (v := tI x) hl') (ty_st1 hL trivial) hst.2)
theorem r_istore_n {i : Nat} {x : Int32} {L' : List (Option TV)} {j : Fin 4} (hd : decode M.1 pc = .ok (.istore_n j, 1)) (hi : (j : Nat) = i) (hn : i + 0 < M.2.1) (hL' : stL1 L i (tI x) = L') (k : Rn l G d mc ms M h0 Q (pc + 1) L' st h cu su) : Rn l G d mc ms M h0 Q pc L (tI x :: st) h cu su := by
  subst hL'
  intro p e s m args below meth c H locs ls C hW hE hS hl hL hst
  exact lv_istore_n C.1 C.2.1 hd hi hl hn rfl (fun ls' hl' => k p e s m args below meth c H locs ls' C hW hE hS (has1 (v := tI x) hl') (ty_st1 hL trivial) hst.2)
theorem r_lstore {i : Nat} {x : Int64} {L' : List (Option TV)} (hd : decode M.1 pc = .ok (.lstore i, 2)) (hn : i + 1 < M.2.1) (hL' : stL2 L i (tJ x) = L') (k : Rn l G d mc ms M h0 Q (pc + 2) L' st h cu su) : Rn l G d mc ms M h0 Q pc L (tJ x :: st) h cu su := by
  subst hL'
  intro p e s m args below meth c H locs ls C hW hE hS hl hL hst
  exact lv_lstore C.1 C.2.1 hd hl hn rfl (fun ls' hl' => k p e s m args below meth c H locs ls' C hW hE hS (has2 (v := tJ x) hl') (ty_st2 hL trivial) hst.2)
theorem r_lstore_n {i : Nat} {x : Int64} {L' : List (Option TV)} {j : Fin 4} (hd : decode M.1 pc = .ok (.lstore_n j, 1)) (hi : (j : Nat) = i) (hn : i + 1 < M.2.1) (hL' : stL2 L i (tJ x) = L') (k : Rn l G d mc ms M h0 Q (pc + 1) L' st h cu su) : Rn l G d mc ms M h0 Q pc L (tJ x :: st) h cu su := by
  subst hL'
  intro p e s m args below meth c H locs ls C hW hE hS hl hL hst
  exact lv_lstore_n C.1 C.2.1 hd hi hl hn rfl (fun ls' hl' => k p e s m args below meth c H locs ls' C hW hE hS (has2 (v := tJ x) hl') (ty_st2 hL trivial) hst.2)
theorem r_astore {i k n : Nat} {r : Option Nat} {L' : List (Option TV)} (hd : decode M.1 pc = .ok (.astore i, 2)) (hn : i < M.2.1) (hL' : stL1 L i (tR k n r) = L') (kk : Rn l G d mc ms M h0 Q (pc + 2) L' st h cu su) : Rn l G d mc ms M h0 Q pc L (tR k n r :: st) h cu su := by
  subst hL'
  intro p e s m args below meth c H locs ls C hW hE hS hl hL hst
  have q := fun ls' hl' => kk p e s m args below meth c H locs ls' C hW hE hS (has1 (v := tR k n r) hl') (ty_st1 hL hst.1) hst.2
  cases r with
  | none => exact lv_astoreN C.1 C.2.1 hd hl hn rfl q
  | some a => exact lv_astore C.1 C.2.1 hd hl hn rfl q
theorem r_astoreS {i k : Nat} {L' : List (Option TV)} (hd : decode M.1 pc = .ok (.astore i, 2)) (hn : i < M.2.1) (hL' : stL1 L i (tS k) = L') (kk : Rn l G d mc ms M h0 Q (pc + 2) L' st h cu su) : Rn l G d mc ms M h0 Q pc L (tS k :: st) h cu su := by
  subst hL'
  intro p e s m args below meth c H locs ls C hW hE hS hl hL hst
  exact lv_astore C.1 C.2.1 hd hl hn rfl (fun ls' hl' => kk p e s m args below meth c H locs ls' C hW hE hS (has1 (v := tS k) hl') (ty_st1 hL hst.1) hst.2)
theorem r_astore_n {i k n : Nat} {r : Option Nat} {L' : List (Option TV)} {j : Fin 4} (hd : decode M.1 pc = .ok (.astore_n j, 1)) (hi : (j : Nat) = i) (hn : i < M.2.1) (hL' : stL1 L i (tR k n r) = L') (kk : Rn l G d mc ms M h0 Q (pc + 1) L' st h cu su) : Rn l G d mc ms M h0 Q pc L (tR k n r :: st) h cu su := by
  subst hL'
  intro p e s m args below meth c H locs ls C hW hE hS hl hL hst
  have q := fun ls' hl' => kk p e s m args below meth c H locs ls' C hW hE hS (has1 (v := tR k n r) hl') (ty_st1 hL hst.1) hst.2
  cases r with
  | none => exact lv_astore_nN C.1 C.2.1 hd hi hl hn rfl q
  | some a => exact lv_astore_n C.1 C.2.1 hd hi hl hn rfl q
theorem r_astore_nS {i k : Nat} {L' : List (Option TV)} {j : Fin 4} (hd : decode M.1 pc = .ok (.astore_n j, 1)) (hi : (j : Nat) = i) (hn : i < M.2.1) (hL' : stL1 L i (tS k) = L') (kk : Rn l G d mc ms M h0 Q (pc + 1) L' st h cu su) : Rn l G d mc ms M h0 Q pc L (tS k :: st) h cu su := by
  subst hL'
  intro p e s m args below meth c H locs ls C hW hE hS hl hL hst
  exact lv_astore_n C.1 C.2.1 hd hi hl hn rfl (fun ls' hl' => kk p e s m args below meth c H locs ls' C hW hE hS (has1 (v := tS k) hl') (ty_st1 hL hst.1) hst.2)
theorem r_iinc {i : Nat} {n : Int} {x v : Int32} {L' : List (Option TV)} (hd : decode M.1 pc = .ok (.iinc i n, 3)) (hv : L[i]? = some (some (tI x))) (hx : x + Int32.ofInt n = v) (hn : i < M.2.1) (hL' : stL1 L i (tI v) = L') (k : Rn l G d mc ms M h0 Q (pc + 3) L' st h cu su) : Rn l G d mc ms M h0 Q pc L st h cu su := by
  subst hL'
  intro p e s m args below meth c H locs ls C hW hE hS hl hL hst
  have z := asc_mem (G := G) (j := 0) hv
  rw [Nat.zero_add] at z
  obtain ⟨q, hq⟩ := List.getElem?_of_mem z
  exact lv_iinc C.1 C.2.1 hd hl hq hx hn rfl (fun ls' hl' => k p e s m args below meth c H locs ls' C hW hE hS (has1 (v := tI v) hl') (ty_st1 hL trivial) hst)
theorem cv_cat1R {G : Cx} {k n : Nat} {r : Option Nat} : (cv G (tR k n r)).category = 1 := by cases r <;> rfl
theorem r_dup {v : TV} (hd : decode M.1 pc = .ok (.dup, 1)) (hc : (cv G v).category = 1) (k : Rn l G d mc ms M h0 Q (pc + 1) L (v :: v :: st) h cu su) : Rn l G d mc ms M h0 Q pc L (v :: st) h cu su := by
  intro p e s m args below meth c H locs ls C hW hE hS hl hL hst
  exact lv_dup C.1 C.2.1 hd hc (k p e s m args below meth c H locs ls C hW hE hS hl hL ⟨hst.1, hst⟩)
theorem r_dup2 {v w : TV} (hd : decode M.1 pc = .ok (.dup2, 1)) (hc : (cv G v).category = 1) (hc2 : (cv G w).category = 1) (k : Rn l G d mc ms M h0 Q (pc + 1) L (v :: w :: v :: w :: st) h cu su) : Rn l G d mc ms M h0 Q pc L (v :: w :: st) h cu su := by
  intro p e s m args below meth c H locs ls C hW hE hS hl hL hst
  exact lv_dup2_11 C.1 C.2.1 hd hc hc2 (k p e s m args below meth c H locs ls C hW hE hS hl hL ⟨hst.1, hst.2.1, hst⟩)
theorem r_pop {v : TV} (hd : decode M.1 pc = .ok (.pop, 1)) (hc : (cv G v).category = 1) (k : Rn l G d mc ms M h0 Q (pc + 1) L st h cu su) : Rn l G d mc ms M h0 Q pc L (v :: st) h cu su := by
  intro p e s m args below meth c H locs ls C hW hE hS hl hL hst
  exact lv_pop C.1 C.2.1 hd hc (k p e s m args below meth c H locs ls C hW hE hS hl hL hst.2)
theorem r_null {k n : Nat} (hd : decode M.1 pc = .ok (.aconst_null, 1)) (kk : Rn l G d mc ms M h0 Q (pc + 1) L (tR k n none :: st) h cu su) : Rn l G d mc ms M h0 Q pc L st h cu su := by
  intro p e s m args below meth c H locs ls C hW hE hS hl hL hst
  exact lv_null C.1 C.2.1 hd (kk p e s m args below meth c H locs ls C hW hE hS hl hL ⟨fun b hb => (by cases hb), hst⟩)
theorem r_ifnull {k n : Nat} {r : Option Nat} {off : Int} {tgt : Nat} (hd : decode M.1 pc = .ok (.ifnull off, 3)) (ht : (pc : Int) + off = (tgt : Int)) (kt : r = none → Rn l G d mc ms M h0 Q tgt L st h cu su) (kf : ¬ r = none → Rn l G d mc ms M h0 Q (pc + 3) L st h cu su) : Rn l G d mc ms M h0 Q pc L (tR k n r :: st) h cu su := by
  intro p e s m args below meth c H locs ls C hW hE hS hl hL hst
  cases r with
  | none => exact lv_ifnullN C.1 C.2.1 hd ht (kt rfl p e s m args below meth c H locs ls C hW hE hS hl hL hst.2)
  | some a => exact lv_ifnull C.1 C.2.1 hd (kf (fun z => by cases z) p e s m args below meth c H locs ls C hW hE hS hl hL hst.2)
theorem r_ifnonnull {k n : Nat} {r : Option Nat} {off : Int} {tgt : Nat} (hd : decode M.1 pc = .ok (.ifnonnull off, 3)) (ht : (pc : Int) + off = (tgt : Int)) (kt : ¬ r = none → Rn l G d mc ms M h0 Q tgt L st h cu su) (kf : r = none → Rn l G d mc ms M h0 Q (pc + 3) L st h cu su) : Rn l G d mc ms M h0 Q pc L (tR k n r :: st) h cu su := by
  intro p e s m args below meth c H locs ls C hW hE hS hl hL hst
  cases r with
  | none => exact lv_ifnonnullN C.1 C.2.1 hd (kf rfl p e s m args below meth c H locs ls C hW hE hS hl hL hst.2)
  | some a => exact lv_ifnonnull C.1 C.2.1 hd ht (kt (fun z => by cases z) p e s m args below meth c H locs ls C hW hE hS hl hL hst.2)
theorem rb_inj {G : Cx} {x y : Option Nat} : x.map (fun a => G.1 + a) = y.map (fun a => G.1 + a) ↔ x = y := by
  cases x <;> cases y <;> simp
theorem r_acmp_eq {k n k' n' : Nat} {x y : Option Nat} {off : Int} {tgt : Nat} (hd : decode M.1 pc = .ok (.if_acmp .eq off, 3)) (ht : (pc : Int) + off = (tgt : Int)) (kt : x = y → Rn l G d mc ms M h0 Q tgt L st h cu su) (kf : ¬ x = y → Rn l G d mc ms M h0 Q (pc + 3) L st h cu su) : Rn l G d mc ms M h0 Q pc L (tR k n y :: tR k' n' x :: st) h cu su := by
  intro p e s m args below meth c H locs ls C hW hE hS hl hL hst
  exact lv_acmp_eq C.1 C.2.1 hd ht (fun q => kt (rb_inj.mp q) p e s m args below meth c H locs ls C hW hE hS hl hL hst.2.2) (fun q => kf (fun z => q (rb_inj.mpr z)) p e s m args below meth c H locs ls C hW hE hS hl hL hst.2.2)
theorem r_acmp_ne {k n k' n' : Nat} {x y : Option Nat} {off : Int} {tgt : Nat} (hd : decode M.1 pc = .ok (.if_acmp .ne off, 3)) (ht : (pc : Int) + off = (tgt : Int)) (kt : ¬ x = y → Rn l G d mc ms M h0 Q tgt L st h cu su) (kf : x = y → Rn l G d mc ms M h0 Q (pc + 3) L st h cu su) : Rn l G d mc ms M h0 Q pc L (tR k n y :: tR k' n' x :: st) h cu su := by
  intro p e s m args below meth c H locs ls C hW hE hS hl hL hst
  exact lv_acmp_ne C.1 C.2.1 hd ht (fun q => kt (fun z => q (rb_inj.mpr z)) p e s m args below meth c H locs ls C hW hE hS hl hL hst.2.2) (fun q => kf (rb_inj.mp q) p e s m args below meth c H locs ls C hW hE hS hl hL hst.2.2)
theorem r_ldc {v : Int32} {idx : Nat} (hd : decode M.1 pc = .ok (.ldc idx, 2)) (hc : Cond.constant M.2.2.2.1 idx v ∈ GW) (k : Rn l G d mc ms M h0 Q (pc + 2) L (tI v :: st) h cu su) : Rn l G d mc ms M h0 Q pc L st h cu su := by
  intro p e s m args below meth c H locs ls C hW hE hS hl hL hst
  exact lv_ldc C.1 C.2.1 C.2.2.2.2.1 (C.2.2.2.2.2.1 _ hc) hd (k p e s m args below meth c H locs ls C hW hE hS hl hL ⟨trivial, hst⟩)
theorem r_ldc_w {v : Int32} {idx : Nat} (hd : decode M.1 pc = .ok (.ldc_w idx, 3)) (hc : Cond.constant M.2.2.2.1 idx v ∈ GW) (k : Rn l G d mc ms M h0 Q (pc + 3) L (tI v :: st) h cu su) : Rn l G d mc ms M h0 Q pc L st h cu su := by
  intro p e s m args below meth c H locs ls C hW hE hS hl hL hst
  exact lv_ldcw C.1 C.2.1 C.2.2.2.2.1 (C.2.2.2.2.2.1 _ hc) hd (k p e s m args below meth c H locs ls C hW hE hS hl hL ⟨trivial, hst⟩)
theorem r_ldc2_w {v : Int64} {idx : Nat} (hd : decode M.1 pc = .ok (.ldc2_w idx, 3)) (hc : Cond.constantLong M.2.2.2.1 idx v ∈ GW) (k : Rn l G d mc ms M h0 Q (pc + 3) L (tJ v :: st) h cu su) : Rn l G d mc ms M h0 Q pc L st h cu su := by
  intro p e s m args below meth c H locs ls C hW hE hS hl hL hst
  exact lv_ldc2 C.1 C.2.1 C.2.2.2.2.1 (C.2.2.2.2.2.1 _ hc) hd (k p e s m args below meth c H locs ls C hW hE hS hl hL ⟨trivial, hst⟩)
theorem r_ldcS {tx : String} {idx i : Nat} (hd : decode M.1 pc = .ok (.ldc idx, 2)) (hc : (M.2.2.2.1, idx, tx, i) ∈ strT) (hi : i < 16) (k : Rn l G d mc ms M h0 Q (pc + 2) L (tS i :: st) h cu su) : Rn l G d mc ms M h0 Q pc L st h cu su := by
  intro p e s m args below meth c H locs ls C hW hE hS hl hL hst
  refine va_ldcS C.1 C.2.1 C.2.2.2.2.1 (C.2.2.2.2.2.2.1.2.2.1 _ hc) hd ?_
  have q := k p e s m args below meth c H locs ls C hW hE hS hl hL ⟨Or.inl hi, hst⟩
  have e1 : (tS i :: st).map (cv G) = Value.ref (G.2.2.2.1 i) :: st.map (cv G) := by simp [cv, show i < 100 by omega]
  rw [e1] at q
  exact q
theorem fin {p : Program} {s t : State} {H : Heap} {locs : List Loc} {r : Option TV} (args : Array Value) (hq : Q r h) (hW : Wd G h H) (hE : ext h0 h) (hS : va_S (Ag G) s.heap H locs) (hr : ∀ v, r = some v → ty1 h v) (ht : t.heap = H) : PostU G h0 Q args s (.returned (r.map (cv G))) t :=
  ⟨⟨r, h, rfl, hq, hE, hr, by rw [ht]; exact hW⟩, hS.F ht⟩
theorem r_ireturn {v : Int32} (hd : decode M.1 pc = .ok (.ireturn, 1)) (hr : M.2.2.1 = some .int) (hc : cu ≤ mc ∧ su ≤ ms) (hq : Q (some (tI v)) h) : Rn l G d mc ms M h0 Q pc L [tI v] h cu su := by
  intro p e s m args below meth c H locs ls C hW hE hS hl hL hst
  have hlk := C.2.2.2.2.2.2.2.1
  exact W.widen hc.1 hc.2 (W.iret C.1 C.2.1 (C.2.2.2.1.trans hr) (fun t ht _ => fin (p := p) (r := some (tI v)) args hq hW hE hS (fun w e => by cases e; trivial) ht) hS.2.2 hd hlk)
def bz (v : Int32) : Prop := v = 0 ∨ v = 1
theorem r_zreturn {v : Int32} {ty : FieldType} (hd : decode M.1 pc = .ok (.ireturn, 1)) (hr : M.2.2.1 = some ty) (hn : narrow ty (.int v) = .int v) (hc : cu ≤ mc ∧ su ≤ ms) (hq : Q (some (tI v)) h) : Rn l G d mc ms M h0 Q pc L [tI v] h cu su := by
  intro p e s m args below meth c H locs ls C hW hE hS hl hL hst
  have hlk := C.2.2.2.2.2.2.2.1
  exact W.widen hc.1 hc.2 (W.zret C.1 C.2.1 (C.2.2.2.1.trans hr) hn (fun t ht _ => fin (p := p) (r := some (tI v)) args hq hW hE hS (fun w e => by cases e; trivial) ht) hS.2.2 hd hlk)
theorem bz_nar {v : Int32} (h : bz v) : narrow .boolean (.int v) = .int v := by
  rcases h with rfl | rfl <;> rfl
theorem r_lreturn {v : Int64} (hd : decode M.1 pc = .ok (.lreturn, 1)) (hr : M.2.2.1 = some .long) (hc : cu ≤ mc ∧ su ≤ ms) (hq : Q (some (tJ v)) h) : Rn l G d mc ms M h0 Q pc L [tJ v] h cu su := by
  intro p e s m args below meth c H locs ls C hW hE hS hl hL hst
  have hlk := C.2.2.2.2.2.2.2.1
  exact W.widen hc.1 hc.2 (W.lret C.1 C.2.1 (C.2.2.2.1.trans hr) (fun t ht _ => fin (p := p) (r := some (tJ v)) args hq hW hE hS (fun w e => by cases e; trivial) ht) hS.2.2 hd hlk)
theorem r_return (hd : decode M.1 pc = .ok (.return_, 1)) (hr : M.2.2.1 = none) (hc : cu ≤ mc ∧ su ≤ ms) (hq : Q none h) : Rn l G d mc ms M h0 Q pc L [] h cu su := by
  intro p e s m args below meth c H locs ls C hW hE hS hl hL hst
  have hlk := C.2.2.2.2.2.2.2.1
  exact W.widen hc.1 hc.2 (W.vret C.1 C.2.1 (C.2.2.2.1.trans hr) (fun t ht _ => fin (p := p) (r := none) args hq hW hE hS (fun w e => by cases e) ht) hS.2.2 hd hlk)
theorem r_areturn {k n : Nat} {r : Option Nat} {cn : String} (hd : decode M.1 pc = .ok (.areturn, 1)) (hr : M.2.2.1 = some (.object cn)) (hc : cu ≤ mc ∧ su ≤ ms) (hq : Q (some (tR k n r)) h) : Rn l G d mc ms M h0 Q pc L [tR k n r] h cu su := by
  intro p e s m args below meth c H locs ls C hW hE hS hl hL hst
  have hlk := C.2.2.2.2.2.2.2.1
  exact W.widen hc.1 hc.2 (W.aret C.1 C.2.1 (C.2.2.2.1.trans hr) (Or.inl ⟨cn, rfl⟩) (by cases r with
    | none => exact Or.inl rfl
    | some a => exact Or.inr ⟨_, rfl⟩) (fun t ht _ => fin (p := p) (r := some (tR k n r)) args hq hW hE hS (fun w e => by cases e; exact hst.1) ht) hS.2.2 hd hlk)
end RN
