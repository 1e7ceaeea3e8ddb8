theorem ae_v {s : State} {args : Array Value} {t u : Term} {a : Nat} (h : (Cond.eq t u).before args s = true) (ht : t.eval args s none [] s = some (.ref a)) : u.eval args s none [] s = some (.ref a) := by
  cases hu : u.eval args s none [] s with
  | none => simp [Cond.before, Cond.holds, Cond.value, ht, hu] at h
  | some v =>
    simp only [Cond.before, Cond.holds, Cond.value, ht, hu] at h
    cases v with
    | ref y => simp at h; rw [h]
    | _ => simp at h
set_option maxHeartbeats 4000000 in
set_option maxRecDepth 100000 in
theorem start_of (hlaw : ∀ G : Cx, G.2.2.2.2.2.1 ≤ 3072 → m_L_law G h0e (fun r _ => r = 1)) {p : Program} {e : Env} {s : State} {m : MethodId} {below : List Frame} {meth : Method} {c : Code} (l : Launch) {b L : Nat} {xs : Nat → Int32} (hL : L ≤ 3072) (C0 : lw_At p s m meth c b L xs) : W p l e room_1 s m #[Value.ref b] below meth c s.heap [] 0 0 (lw_Z below #[Value.ref b] s) (entryFrame m ([Value.ref b] : List Value).toArray 4) := by
  obtain ⟨hx, hb, hr, hml, hown, hts, hX, hbl, hlocks, hgv⟩ := C0
  have hA : ∀ a : Nat, a < s.heap.size → ¬ (fun q : Nat => s.heap.size ≤ q) a := fun _ h => Nat.not_le.mpr h
  have hfl : ∀ w ∈ flN, w.before #[Value.ref b] s = true := flat_of_before _ hgv
  have htb : ∀ {w : Cond} (i : Nat), tables_1[i]? = some w → w.before #[Value.ref b] s = true := fun i h => hts _ (List.mem_append_right _ (List.mem_of_getElem? h))
  -- the classes
  obtain ⟨dC, dI, hKc⟩ : ∃ (dC : Nat → ClassId) (dI : Nat → Nat → Nat), ∀ (k : Nat) (q : vw_C), vwC[k]? = some q → u_Kn s q.1 q.2.1 q.2.2 (dC k) (dI k) := by
    obtain ⟨c0, i0, k0⟩ := u_known (C := RX0) (T := TX0) (N := 2) (n := 2) hts (fun w hw => (List.mem_filter.mp (cw_0 w hw)).1) (htb 115 (by decide +kernel))
    obtain ⟨c1, i1, k1⟩ := u_known (C := RX1) (T := TX1) (N := 13) (n := 13) hts (fun w hw => (List.mem_filter.mp (cw_1 w hw)).1) (htb 431 (by decide +kernel))
    obtain ⟨c2, i2, k2⟩ := u_known (C := RX2) (T := TX2) (N := 8) (n := 8) hts (fun w hw => (List.mem_filter.mp (cw_2 w hw)).1) (htb 63 (by decide +kernel))
    obtain ⟨c3, i3, k3⟩ := u_known (C := RX3) (T := TX3) (N := 5) (n := 5) hts (fun w hw => (List.mem_filter.mp (cw_3 w hw)).1) (htb 235 (by decide +kernel))
    obtain ⟨c4, i4, k4⟩ := u_known (C := RX4) (T := TX4) (N := 7) (n := 7) hts (fun w hw => (List.mem_filter.mp (cw_4 w hw)).1) (htb 315 (by decide +kernel))
    obtain ⟨c5, i5, k5⟩ := u_known (C := RX5) (T := TX5) (N := 20) (n := 20) hts (fun w hw => (List.mem_filter.mp (cw_5 w hw)).1) (htb 138 (by decide +kernel))
    obtain ⟨c6, i6, k6⟩ := u_known (C := RX6) (T := TX6) (N := 2) (n := 2) hts (fun w hw => (List.mem_filter.mp (cw_6 w hw)).1) (htb 767 (by decide +kernel))
    obtain ⟨c7, i7, k7⟩ := u_known (C := RX7) (T := TX7) (N := 15) (n := 15) hts (fun w hw => (List.mem_filter.mp (cw_7 w hw)).1) (htb 259 (by decide +kernel))
    obtain ⟨c8, i8, k8⟩ := u_known (C := RX8) (T := TX8) (N := 3) (n := 3) hts (fun w hw => (List.mem_filter.mp (cw_8 w hw)).1) (htb 69 (by decide +kernel))
    obtain ⟨c9, i9, k9⟩ := u_known (C := RX9) (T := TX9) (N := 5) (n := 5) hts (fun w hw => (List.mem_filter.mp (cw_9 w hw)).1) (htb 208 (by decide +kernel))
    obtain ⟨c10, i10, k10⟩ := u_known (C := RX10) (T := TX10) (N := 7) (n := 7) hts (fun w hw => (List.mem_filter.mp (cw_10 w hw)).1) (htb 32 (by decide +kernel))
    obtain ⟨c11, i11, k11⟩ := u_known (C := RX11) (T := TX11) (N := 18) (n := 18) hts (fun w hw => (List.mem_filter.mp (cw_11 w hw)).1) (htb 24 (by decide +kernel))
    obtain ⟨c12, i12, k12⟩ := u_known (C := RX12) (T := TX12) (N := 93) (n := 93) hts (fun w hw => (List.mem_filter.mp (cw_12 w hw)).1) (htb 1267 (by decide +kernel))
    refine ⟨fun k => if k = 0 then c0 else if k = 1 then c1 else if k = 2 then c2 else if k = 3 then c3 else if k = 4 then c4 else if k = 5 then c5 else if k = 6 then c6 else if k = 7 then c7 else if k = 8 then c8 else if k = 9 then c9 else if k = 10 then c10 else if k = 11 then c11 else c12, fun k => if k = 0 then i0 else if k = 1 then i1 else if k = 2 then i2 else if k = 3 then i3 else if k = 4 then i4 else if k = 5 then i5 else if k = 6 then i6 else if k = 7 then i7 else if k = 8 then i8 else if k = 9 then i9 else if k = 10 then i10 else if k = 11 then i11 else i12, ?_⟩
    intro k q hq
    match k, hq with
    | 0, hq => cases hq; exact k0
    | 1, hq => cases hq; exact k1
    | 2, hq => cases hq; exact k2
    | 3, hq => cases hq; exact k3
    | 4, hq => cases hq; exact k4
    | 5, hq => cases hq; exact k5
    | 6, hq => cases hq; exact k6
    | 7, hq => cases hq; exact k7
    | 8, hq => cases hq; exact k8
    | 9, hq => cases hq; exact k9
    | 10, hq => cases hq; exact k10
    | 11, hq => cases hq; exact k11
    | 12, hq => cases hq; exact k12
    | k + 13, hq => simp at hq
  -- the array classes
  have hprim : ∀ ty : FieldType, (∀ C, ty ≠ .object C) → (Cond.arrayClass ty).before #[Value.ref b] s = true → ∃ cA : ClassId, ArrOfT s cA ty ∧ va_RA s cA ty := by
    intro ty hno h
    obtain ⟨cA, kA, comp, h1, h2, h3⟩ := Cond.arrayClass_spec h
    refine ⟨cA, fun n z => ⟨fun k h => (by cases h), kA, h2, comp, h3⟩, ?_⟩
    unfold va_RA
    split
    · rename_i C
      exact absurd rfl (hno C)
    · exact h1
  have hobj : ∀ C : String, (Cond.arrayOver (.object C)).before #[Value.ref b] s = true → ∃ cA : ClassId, ArrOfT s cA (.object C) ∧ va_RA s cA (.object C) := by
    intro C h
    obtain ⟨comp, cA, kA, h1, h2, h3, h4, h5⟩ := Cond.arrayOver_spec h
    exact ⟨cA, fun n z => ⟨fun k h => (by cases h), kA, h3, comp, h4⟩, kA, comp, h3, h4, h1, h5⟩
  obtain ⟨a40, g40⟩ := hprim .int (fun _ h => by cases h) (htb 61 (by decide +kernel))
  obtain ⟨a41, g41⟩ := hprim .byte (fun _ h => by cases h) (htb 758 (by decide +kernel))
  obtain ⟨a42, g42⟩ := hprim .boolean (fun _ h => by cases h) (htb 1552 (by decide +kernel))
  obtain ⟨a43, g43⟩ := hprim .long (fun _ h => by cases h) (htb 206 (by decide +kernel))
  obtain ⟨a50, g50⟩ := hobj RX0 (htb 136 (by decide +kernel))
  obtain ⟨a51, g51⟩ := hobj RX1 (htb 111 (by decide +kernel))
  obtain ⟨a56, g56⟩ := hobj RX6 (htb 113 (by decide +kernel))
  -- the String constants
  obtain ⟨adK, adV, hSt, hev⟩ := vk_Sof (args := #[Value.ref b]) (s := s) (N := 16) (tm := tmS) (len := lenS) (byt := bytS) (A := fun q : Nat => s.heap.size ≤ q) (by decide)
    (fun i hi => hfl _ (fl_s i hi _ (List.mem_append_left _ (by simp)))) (fun i hi => hfl _ (fl_s i hi _ (List.mem_append_left _ (by simp)))) (fun i hi => hfl _ (fl_s i hi _ (List.mem_append_left _ (by simp)))) (fun i hi => hfl _ (fl_s i hi _ (List.mem_append_left _ (by simp)))) (fun i hi j hj => hfl _ (fl_el i hi j hj))
    (fun i j hi hj hij => by
      rcases pr_all i hi j hj with h | h | h
      · exact absurd h hij
      · exact Or.inl (hfl _ (fl_pr _ h))
      · exact Or.inr (hfl _ (fl_pr _ h))) hA
  -- the formatter
  have hcs := va_Zof (A := fun q : Nat => s.heap.size ≤ q) (htb 553 (by decide +kernel)) (htb 15 (by decide +kernel)) (va_eqt (hfl _ fl_cs)) hA
  have hsf := va_Zqof (A := fun q : Nat => s.heap.size ≤ q) (htb 569 (by decide +kernel)) (htb 17 (by decide +kernel)) (hfl _ fl_sf) hA
  obtain ⟨tf, hsf⟩ : ∃ tf : Nat, va_Z "jdk/internal/util/Preconditions" "SIOOBE_FORMATTER" "Ljava/util/function/BiFunction;" .null (fun q : Nat => s.heap.size ≤ q) s s.heap ∨ va_Z "jdk/internal/util/Preconditions" "SIOOBE_FORMATTER" "Ljava/util/function/BiFunction;" (.ref tf) (fun q : Nat => s.heap.size ≤ q) s s.heap := by
    rcases hsf with h | ⟨t, h⟩
    · exact ⟨0, Or.inl h⟩
    · exact ⟨t, Or.inr h⟩
  obtain ⟨G, hG⟩ : ∃ G : Cx, G = (s.heap.size, (dC, dI), (fun k => if k = 40 then a40 else if k = 41 then a41 else if k = 42 then a42 else if k = 43 then a43 else if k = 50 then a50 else if k = 51 then a51 else a56), adK, (fun i => if i = 200 then b else if i = 300 then tf else adV i), L, xs) := ⟨_, rfl⟩
  have hK : Kx G s := by
    subst hG
    refine ⟨⟨hKc, ?_⟩, ⟨fun i hi => ?_, hSt.2⟩, ?_, hcs, hsf, hX, hbl, ?_, ?_⟩
    · intro k q hq
      match k, hq with
      | 0, hq => cases hq; exact g40
      | 1, hq => cases hq; exact g41
      | 2, hq => cases hq; exact g42
      | 3, hq => cases hq; exact g43
      | 4, hq => cases hq; exact g50
      | 5, hq => cases hq; exact g51
      | 6, hq => cases hq; exact g56
      | k + 7, hq => simp at hq
    · have h1 := hSt.1 i hi
      simp only [show ¬ i = 200 by omega, show ¬ i = 300 by omega, if_false]
      exact h1
    · intro q hq
      simp only [strT, List.mem_cons, List.not_mem_nil, or_false] at hq
      rcases hq with rfl | rfl | rfl | rfl | rfl | rfl | rfl | rfl | rfl | rfl | rfl | rfl | rfl | rfl | rfl | rfl | rfl
      · exact vk_R.of (htb 539 (by decide +kernel)) (hev 0 (by decide))
      · exact vk_R.of (htb 605 (by decide +kernel)) (hev 1 (by decide))
      · exact vk_R.of (htb 616 (by decide +kernel)) (hev 2 (by decide))
      · exact vk_R.of (htb 625 (by decide +kernel)) (hev 3 (by decide))
      · exact vk_R.of (htb 638 (by decide +kernel)) (hev 4 (by decide))
      · exact vk_R.of (htb 639 (by decide +kernel)) (hev 5 (by decide))
      · exact vk_R.of (htb 641 (by decide +kernel)) (hev 6 (by decide))
      · exact vk_R.of (htb 710 (by decide +kernel)) (hev 7 (by decide))
      · exact vk_R.of (htb 711 (by decide +kernel)) (hev 8 (by decide))
      · exact vk_R.of (htb 736 (by decide +kernel)) (hev 9 (by decide))
      · exact vk_R.of (htb 791 (by decide +kernel)) (hev 10 (by decide))
      · exact vk_R.of (htb 797 (by decide +kernel)) (hev 11 (by decide))
      · exact vk_R.of (htb 799 (by decide +kernel)) (hev 12 (by decide))
      · exact vk_R.of (htb 802 (by decide +kernel)) (ae_v (hfl _ fl_one) (hev 2 (by decide)))
      · exact vk_R.of (htb 803 (by decide +kernel)) (hev 13 (by decide))
      · exact vk_R.of (htb 808 (by decide +kernel)) (hev 14 (by decide))
      · exact vk_R.of (htb 814 (by decide +kernel)) (hev 15 (by decide))
    · intro q hq
      simp only [nestT, List.mem_cons, List.not_mem_nil, or_false] at hq
      rcases hq with rfl | rfl | rfl | rfl | rfl | rfl | rfl | rfl
      · exact va_Nw.of rfl (htb 33 (by decide +kernel))
      · exact va_Nw.of rfl (htb 70 (by decide +kernel))
      · exact va_Nw.of rfl (htb 116 (by decide +kernel))
      · exact va_Nw.of rfl (htb 209 (by decide +kernel))
      · exact va_Nw.of rfl (htb 266 (by decide +kernel))
      · exact va_Nw.of rfl (htb 316 (by decide +kernel))
      · exact va_Nw.of rfl (htb 321 (by decide +kernel))
      · exact va_Nw.of rfl (htb 768 (by decide +kernel))
    · intro C hC
      simp only [overT, List.mem_cons, List.not_mem_nil, or_false] at hC
      rcases hC with rfl | rfl | rfl
      · exact va_AO.of (htb 136 (by decide +kernel))
      · exact va_AO.of (htb 111 (by decide +kernel))
      · exact va_AO.of (htb 113 (by decide +kernel))
  have hGl : G.2.2.2.2.2.1 ≤ 3072 := by subst hG; exact hL
  have key := s_L_law (l := l) (nm := meth.name) (d := 182) (by decide) (hlaw G hGl)
  have hl := lv_entry ([.ref b]) (n := 4) (Nat.le_of_ble_eq_true rfl)
  rw [lg_entry_eq]
  generalize (lg_sl ([.ref b]) ++ List.replicate (4 - (lg_sl ([.ref b])).length) Slot.unset).toArray = ls at hl ⊢
  have hW0 : Wd G h0e s.heap := ⟨by subst hG; rfl, fun a ha => absurd ha (Nat.not_lt_zero a), fun a ha => absurd ha (Nat.not_lt_zero a)⟩
  have hls : lv_has ls 4 (asc G 0 [some (tS 300)]) := by subst hG; exact hl
  have w := key p e s m #[Value.ref b] below meth c s.heap [] ls ⟨hx, hb, hml, hr, hown, fun w hw => hts w ((List.mem_filter.mp hw).1), hK, hlocks, rfl⟩ hW0 (ext.rf _) va_S.rf hls ⟨Or.inr (Or.inr (Or.inl rfl)), trivial⟩ trivial
  refine W_room (by decide) (by decide) (by decide) (by decide) ?_ w
  intro t ht
  obtain ⟨o, h1, h2, h3, Lf, h4, h5⟩ := ht
  obtain ⟨⟨r, h', e1, hq, -⟩, -⟩ := h3
  obtain ⟨z, ez, hz⟩ := hq
  refine ⟨o, h1, h2, ?_, h4.1, h4.2.1, h4.2.2.weaken (fun y hy hlt => ?_) (Nat.le_refl _) (Nat.le_refl _)⟩
  · rw [e1, ez, hz]; rfl
  · exact absurd hlt (Nat.not_lt.mpr (by have := h5 y hy; subst hG; exact this))
