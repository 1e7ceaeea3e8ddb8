/-! the fields: 0 int, 1 long, 2 a reference, 3 boolean; the kind of what a reference field holds; where a field holds one and the same reference for good -/
def ftyL : List (List Nat) := [[2, 0], [0, 0, 0, 0, 0, 0, 0, 0, 0, 2, 2, 2, 2], [2, 2, 2, 2, 0, 0, 0, 0], [2, 2, 0, 0, 0], [2, 2, 2, 0, 2, 2, 2], [2, 2, 2, 0, 0, 2, 0, 2, 2, 2, 2, 2, 2, 2, 2, 0, 0, 0, 0, 0], [2, 0], [2, 2, 2, 0, 2, 0, 0, 2, 2, 2, 2, 0, 2, 2, 2], [0, 2, 0], [3, 0, 2, 2, 2], [2, 0, 0, 0, 0, 0, 0], [2, 2, 2, 2, 0, 2, 0, 2, 0, 0, 2, 2, 0, 2, 2, 2, 2, 2], [2, 0, 2, 2, 2, 2, 2, 2, 2, 2, 2, 2, 2, 2, 2, 2, 2, 2, 2, 2, 2, 0, 0, 0, 0, 0, 0, 0, 1, 3, 2, 2, 0, 0, 0, 0, 0, 0, 2, 2, 2, 0, 0, 0, 2, 0, 2, 0, 0, 2, 2, 2, 2, 2, 0, 0, 2, 2, 0, 0, 1, 0, 2, 2, 2, 2, 2, 0, 0, 2, 2, 2, 2, 2, 2, 2, 2, 2, 0, 0, 0, 2, 2, 0, 0, 0, 2, 2, 0, 2, 2, 2, 2]]
def frefL : List (List Nat) := [[51, 0], [0, 0, 0, 0, 0, 0, 0, 0, 0, 40, 40, 43, 40], [10, 8, 40, 1, 0, 0, 0, 0], [40, 40, 0, 0, 0], [40, 40, 43, 0, 40, 0, 40], [40, 40, 43, 0, 0, 40, 0, 40, 43, 40, 43, 43, 43, 40, 40, 0, 0, 0, 0, 0], [40, 0], [5, 3, 51, 0, 40, 0, 0, 40, 40, 40, 40, 0, 0, 43, 43], [0, 40, 0], [0, 0, 40, 43, 43], [40, 0, 0, 0, 0, 0, 0], [40, 10, 2, 51, 0, 56, 0, 56, 0, 0, 0, 50, 0, 5, 9, 3, 7, 4], [40, 0, 40, 40, 40, 40, 40, 40, 40, 40, 40, 40, 40, 40, 40, 40, 40, 40, 40, 40, 41, 0, 0, 0, 0, 0, 0, 0, 0, 0, 40, 40, 0, 0, 0, 0, 0, 0, 42, 42, 40, 0, 0, 0, 40, 0, 40, 0, 0, 40, 40, 40, 40, 43, 0, 0, 40, 40, 0, 0, 0, 0, 40, 42, 43, 40, 40, 0, 0, 40, 40, 40, 40, 40, 40, 40, 40, 42, 0, 0, 0, 40, 40, 0, 0, 0, 40, 40, 0, 40, 40, 43, 40]]
def fconL : List (List (Nat × Nat × Nat)) := [[(2, 1, 6), (0, 0, 0)], [(0, 0, 0), (0, 0, 0), (0, 0, 0), (0, 0, 0), (0, 0, 0), (0, 0, 0), (0, 0, 0), (0, 0, 0), (0, 0, 0), (2, 1, 96), (2, 2, 216), (2, 3, 36), (2, 4, 36)], [(1, 2, 0), (1, 5, 0), (1, 7, 8), (0, 0, 0), (0, 0, 0), (0, 0, 0), (0, 0, 0), (0, 0, 0)], [(1, 1, 8), (1, 31, 576), (0, 0, 0), (0, 0, 0), (0, 0, 0)], [(1, 44, 72), (1, 45, 72), (1, 46, 72), (0, 0, 0), (1, 47, 24), (1, 48, 0), (1, 50, 24)], [(1, 1, 8), (1, 15, 1296), (1, 16, 216), (0, 0, 0), (0, 0, 0), (1, 17, 8), (0, 0, 0), (1, 18, 6), (1, 19, 48), (1, 20, 8), (1, 21, 8), (1, 22, 8), (1, 23, 8), (1, 24, 8), (1, 25, 8), (0, 0, 0), (0, 0, 0), (0, 0, 0), (0, 0, 0), (0, 0, 0)], [(2, 1, 96), (0, 0, 0)], [(1, 14, 0), (1, 30, 0), (1, 33, 10), (0, 0, 0), (1, 34, 1024), (0, 0, 0), (0, 0, 0), (1, 35, 1024), (1, 36, 10), (1, 37, 120), (1, 38, 1024), (0, 0, 0), (1, 39, 0), (1, 41, 480), (1, 42, 336)], [(0, 0, 0), (1, 6, 512), (0, 0, 0)], [(0, 0, 0), (0, 0, 0), (1, 27, 64), (1, 28, 256), (1, 29, 8)], [(1, 3, 600), (0, 0, 0), (0, 0, 0), (0, 0, 0), (0, 0, 0), (0, 0, 0), (0, 0, 0)], [(1, 1, 8), (1, 2, 0), (1, 4, 0), (1, 8, 24), (0, 0, 0), (1, 9, 6), (0, 0, 0), (1, 10, 12), (0, 0, 0), (0, 0, 0), (1, 11, 0), (1, 13, 6), (0, 0, 0), (1, 14, 0), (1, 26, 0), (1, 30, 0), (1, 32, 0), (1, 43, 0)], [(1, 52, 8), (0, 0, 0), (1, 53, 24), (1, 54, 24), (1, 55, 24), (1, 56, 24), (1, 57, 24), (1, 58, 2304), (1, 59, 2304), (1, 60, 2304), (1, 61, 2304), (1, 62, 2304), (1, 63, 2304), (1, 64, 2304), (1, 65, 2304), (1, 66, 2304), (1, 67, 2304), (1, 68, 2304), (1, 69, 2304), (1, 70, 2304), (1, 71, 600), (0, 0, 0), (0, 0, 0), (0, 0, 0), (0, 0, 0), (0, 0, 0), (0, 0, 0), (0, 0, 0), (0, 0, 0), (0, 0, 0), (1, 72, 6), (1, 73, 6), (0, 0, 0), (0, 0, 0), (0, 0, 0), (0, 0, 0), (0, 0, 0), (0, 0, 0), (1, 74, 96), (1, 75, 96), (1, 76, 96), (0, 0, 0), (0, 0, 0), (0, 0, 0), (1, 77, 1600), (0, 0, 0), (1, 78, 8), (0, 0, 0), (0, 0, 0), (1, 79, 256), (1, 80, 256), (1, 81, 256), (1, 82, 256), (1, 83, 256), (0, 0, 0), (0, 0, 0), (1, 84, 6), (1, 85, 6), (0, 0, 0), (0, 0, 0), (0, 0, 0), (0, 0, 0), (1, 86, 256), (1, 87, 8), (1, 88, 8), (1, 89, 8), (1, 90, 8), (0, 0, 0), (0, 0, 0), (1, 91, 6), (1, 92, 12), (1, 93, 240), (1, 94, 240), (1, 95, 240), (1, 96, 240), (1, 97, 240), (1, 98, 240), (1, 99, 240), (0, 0, 0), (0, 0, 0), (0, 0, 0), (1, 100, 72), (1, 101, 72), (0, 0, 0), (0, 0, 0), (0, 0, 0), (1, 102, 10), (1, 103, 1024), (0, 0, 0), (1, 104, 6), (1, 105, 36), (1, 106, 48), (1, 107, 24)]]
def fty (ci k : Nat) : Nat := (ftyL.getD ci []).getD k 9
def fref (ci k : Nat) : Nat := (frefL.getD ci []).getD k 0
def fnum (ci : Nat) : Nat := (ftyL.getD ci []).length
def fconT (q : Nat × Nat × Nat) (a : Nat) : Option (Nat × Nat) := match q with
  | (0, _, _) => none
  | (1, b, n) => some (b, n)
  | (_, b, n) => some (a + b, n)
def fcon (ci k a : Nat) : Option (Nat × Nat) := fconT ((fconL.getD ci []).getD k (0, 0, 0)) a
abbrev vwC : List vw_C := [(RX0, TX0, 2), (RX1, TX1, 13), (RX2, TX2, 8), (RX3, TX3, 5), (RX4, TX4, 7), (RX5, TX5, 20), (RX6, TX6, 2), (RX7, TX7, 15), (RX8, TX8, 3), (RX9, TX9, 5), (RX10, TX10, 7), (RX11, TX11, 18), (RX12, TX12, 93)]
def GW : List Cond := lw_tbl.filter goodWord
theorem GW_good : ∀ w ∈ GW, (w.onTables && w.keeps) = true ∨ ∃ ty, w = .arrayClass ty := fun w h => good_of_word (List.mem_filter.mp h).2
theorem GWi (i : Nat) {w : Cond} (h : tables_1[i]? = some w) (hg : goodWord w = true) : w ∈ GW := List.mem_filter.mpr ⟨List.mem_append_right _ (List.mem_of_getElem? h), hg⟩
theorem GWs (i : Nat) {w : Cond} (h : (k2_sels lw_privs)[i]? = some w) (hg : goodWord w = true) : w ∈ GW := List.mem_filter.mpr ⟨List.mem_append_left _ (List.mem_of_getElem? h), hg⟩
theorem cw_0 : ∀ w ∈ u_ws RX0 TX0 2, w ∈ GW := by
  intro w h
  refine List.mem_filter.mpr ⟨List.mem_append_right _ ?_, ?_⟩
  · exact (List.all_eq_true.mp (show (u_ws RX0 TX0 2).all (fun w => decide (w ∈ tables_1)) = true by decide +kernel) w h |> of_decide_eq_true)
  · exact List.all_eq_true.mp (show (u_ws RX0 TX0 2).all goodWord = true by decide +kernel) w h
theorem cw_1 : ∀ w ∈ u_ws RX1 TX1 13, w ∈ GW := by
  intro w h
  refine List.mem_filter.mpr ⟨List.mem_append_right _ ?_, ?_⟩
  · exact (List.all_eq_true.mp (show (u_ws RX1 TX1 13).all (fun w => decide (w ∈ tables_1)) = true by decide +kernel) w h |> of_decide_eq_true)
  · exact List.all_eq_true.mp (show (u_ws RX1 TX1 13).all goodWord = true by decide +kernel) w h
theorem cw_2 : ∀ w ∈ u_ws RX2 TX2 8, w ∈ GW := by
  intro w h
  refine List.mem_filter.mpr ⟨List.mem_append_right _ ?_, ?_⟩
  · exact (List.all_eq_true.mp (show (u_ws RX2 TX2 8).all (fun w => decide (w ∈ tables_1)) = true by decide +kernel) w h |> of_decide_eq_true)
  · exact List.all_eq_true.mp (show (u_ws RX2 TX2 8).all goodWord = true by decide +kernel) w h
theorem cw_3 : ∀ w ∈ u_ws RX3 TX3 5, w ∈ GW := by
  intro w h
  refine List.mem_filter.mpr ⟨List.mem_append_right _ ?_, ?_⟩
  · exact (List.all_eq_true.mp (show (u_ws RX3 TX3 5).all (fun w => decide (w ∈ tables_1)) = true by decide +kernel) w h |> of_decide_eq_true)
  · exact List.all_eq_true.mp (show (u_ws RX3 TX3 5).all goodWord = true by decide +kernel) w h
theorem cw_4 : ∀ w ∈ u_ws RX4 TX4 7, w ∈ GW := by
  intro w h
  refine List.mem_filter.mpr ⟨List.mem_append_right _ ?_, ?_⟩
  · exact (List.all_eq_true.mp (show (u_ws RX4 TX4 7).all (fun w => decide (w ∈ tables_1)) = true by decide +kernel) w h |> of_decide_eq_true)
  · exact List.all_eq_true.mp (show (u_ws RX4 TX4 7).all goodWord = true by decide +kernel) w h
theorem cw_5 : ∀ w ∈ u_ws RX5 TX5 20, w ∈ GW := by
  intro w h
  refine List.mem_filter.mpr ⟨List.mem_append_right _ ?_, ?_⟩
  · exact (List.all_eq_true.mp (show (u_ws RX5 TX5 20).all (fun w => decide (w ∈ tables_1)) = true by decide +kernel) w h |> of_decide_eq_true)
  · exact List.all_eq_true.mp (show (u_ws RX5 TX5 20).all goodWord = true by decide +kernel) w h
theorem cw_6 : ∀ w ∈ u_ws RX6 TX6 2, w ∈ GW := by
  intro w h
  refine List.mem_filter.mpr ⟨List.mem_append_right _ ?_, ?_⟩
  · exact (List.all_eq_true.mp (show (u_ws RX6 TX6 2).all (fun w => decide (w ∈ tables_1)) = true by decide +kernel) w h |> of_decide_eq_true)
  · exact List.all_eq_true.mp (show (u_ws RX6 TX6 2).all goodWord = true by decide +kernel) w h
theorem cw_7 : ∀ w ∈ u_ws RX7 TX7 15, w ∈ GW := by
  intro w h
  refine List.mem_filter.mpr ⟨List.mem_append_right _ ?_, ?_⟩
  · exact (List.all_eq_true.mp (show (u_ws RX7 TX7 15).all (fun w => decide (w ∈ tables_1)) = true by decide +kernel) w h |> of_decide_eq_true)
  · exact List.all_eq_true.mp (show (u_ws RX7 TX7 15).all goodWord = true by decide +kernel) w h
theorem cw_8 : ∀ w ∈ u_ws RX8 TX8 3, w ∈ GW := by
  intro w h
  refine List.mem_filter.mpr ⟨List.mem_append_right _ ?_, ?_⟩
  · exact (List.all_eq_true.mp (show (u_ws RX8 TX8 3).all (fun w => decide (w ∈ tables_1)) = true by decide +kernel) w h |> of_decide_eq_true)
  · exact List.all_eq_true.mp (show (u_ws RX8 TX8 3).all goodWord = true by decide +kernel) w h
theorem cw_9 : ∀ w ∈ u_ws RX9 TX9 5, w ∈ GW := by
  intro w h
  refine List.mem_filter.mpr ⟨List.mem_append_right _ ?_, ?_⟩
  · exact (List.all_eq_true.mp (show (u_ws RX9 TX9 5).all (fun w => decide (w ∈ tables_1)) = true by decide +kernel) w h |> of_decide_eq_true)
  · exact List.all_eq_true.mp (show (u_ws RX9 TX9 5).all goodWord = true by decide +kernel) w h
theorem cw_10 : ∀ w ∈ u_ws RX10 TX10 7, w ∈ GW := by
  intro w h
  refine List.mem_filter.mpr ⟨List.mem_append_right _ ?_, ?_⟩
  · exact (List.all_eq_true.mp (show (u_ws RX10 TX10 7).all (fun w => decide (w ∈ tables_1)) = true by decide +kernel) w h |> of_decide_eq_true)
  · exact List.all_eq_true.mp (show (u_ws RX10 TX10 7).all goodWord = true by decide +kernel) w h
theorem cw_11 : ∀ w ∈ u_ws RX11 TX11 18, w ∈ GW := by
  intro w h
  refine List.mem_filter.mpr ⟨List.mem_append_right _ ?_, ?_⟩
  · exact (List.all_eq_true.mp (show (u_ws RX11 TX11 18).all (fun w => decide (w ∈ tables_1)) = true by decide +kernel) w h |> of_decide_eq_true)
  · exact List.all_eq_true.mp (show (u_ws RX11 TX11 18).all goodWord = true by decide +kernel) w h
theorem cw_12 : ∀ w ∈ u_ws RX12 TX12 93, w ∈ GW := by
  intro w h
  refine List.mem_filter.mpr ⟨List.mem_append_right _ ?_, ?_⟩
  · exact (List.all_eq_true.mp (show (u_ws RX12 TX12 93).all (fun w => decide (w ∈ tables_1)) = true by decide +kernel) w h |> of_decide_eq_true)
  · exact List.all_eq_true.mp (show (u_ws RX12 TX12 93).all goodWord = true by decide +kernel) w h
