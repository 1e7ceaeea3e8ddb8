section RJ
variable {l : Launch} {G : Cx} {d mc ms : Nat} {M : Mth} {h0 : Hp} {Q : Option TV → Hp → Prop} {pc : Nat} {L : List (Option TV)} {st : List TV} {h : Hp} {cu su : Nat}
theorem toInt_cl {z : Int32} (hz : ¬ z < 0) : z.toInt = (z.toNatClampNeg : Int) := by
  have hz0 : (0 : Int) ≤ z.toInt := by
    have := Int32.not_lt.mp hz
    simpa using Int32.le_iff_toInt_le.mp this
  show z.toInt = ((z.toInt.toNat : Nat) : Int)
  omega
theorem r_copy {idx a b n0 n1 : Nat} {sp dp n : Int32} (hd : decode M.1 pc = .ok (.invokestatic idx, 3)) (hlk : Cond.methodLink M.2.2.2.1 idx arraycopyName ∈ GW) (hnat : Cond.native arraycopyName ∈ GW) (hstt : Cond.static arraycopyName ∈ GW) (hini : Cond.initialized "java/lang/System" ∈ GW)
    (h1 : ¬ sp < 0) (h2 : ¬ dp < 0) (h3 : ¬ n < 0) (h4 : sp.toNatClampNeg + n.toNatClampNeg ≤ n0) (h5 : dp.toNatClampNeg + n.toNatClampNeg ≤ n1) (hdd : 1 ≤ d) (hr : cats st ≤ 8)
    (kk : Rn l G d mc ms M h0 Q (pc + 3) L st (cpI h a sp.toNatClampNeg b dp.toNatClampNeg n.toNatClampNeg) cu su) : Rn l G d mc ms M h0 Q pc L (tI n :: tI dp :: tR 40 n1 (some b) :: tI sp :: tR 40 n0 (some a) :: st) h cu su := by
  intro p e s m args below meth c H locs ls C0 hW hE hS hl0 hL hst
  obtain ⟨ha, hta⟩ := hst.2.2.2.2.1 a rfl
  obtain ⟨hb, htb⟩ := hst.2.2.1 b rfl
  have hata : atA G h 40 n0 a H := (atc_A hta (by decide)).mp (hW.2.1 a ha)
  have hatb : atA G h 40 n1 b H := (atc_A htb (by decide)).mp (hW.2.1 b hb)
  have hK := C0.2.2.2.2.2.2.1.1
  have hts := C0.2.2.2.2.2.1
  have hfr := rest_ok (G := G) (pc := pc) (m := m) (ls := ls) (s0 := []) (st := st) (by rw [cats_eq]; exact hr)
  have eva : ∀ q, ev G h 40 q = fun j => .int (hI h q j) := fun q => rfl
  unfold atA at hata hatb
  rw [eva] at hata hatb
  intro T hT' X
  obtain ⟨-, k0, hk0, cm0, hkk0⟩ := (hK.2 0 _ rfl).1 n0 (fun j => .int (hI h a j))
  obtain ⟨-, k1, hk1, cm1, hkk1⟩ := (hK.2 0 _ rfl).1 n1 (fun j => .int (hI h b j))
  obtain ⟨vm', X', step⟩ := X.arraycopy C0.1 C0.2.2.2.2.1 (hts _ hlk) (hts _ hnat) (hts _ hstt) (hts _ hini) (src := G.1 + a) (dst := G.1 + b) (srcPos := sp) (destPos := dp) (n := n) (by rw [hT']; exact hata) (by rw [hT']; exact hatb)
    (fun _ z => by cases z) (fun _ z => by cases z) (fun z => by cases z) (fun z => by cases z) hk0 hk1 hkk0 hkk1 rfl h1 h2 h3
    (by rw [toInt_cl h1, toInt_cl h3, arrV_size]; omega) (by rw [toInt_cl h2, toInt_cl h3, arrV_size]; omega)
    (fun vm₁ _ i hi => by
      have e1 : (arrV (G.2.2.1 40) n0 (fun j => .int (hI h a j))).slots.getD (sp.toNatClampNeg + i) .null = .int (hI h a (sp.toNatClampNeg + i)) := by
        rw [Array.getD_eq_getD_getElem?, arrV_read _ _ (by omega)]
        rfl
      rw [e1]
      exact ⟨rfl, trivial⟩)
    (g := F0 m pc ls ((tI n :: tI dp :: tR 40 n1 (some b) :: tI sp :: tR 40 n0 (some a) :: st).map (cv G))) rfl (hl0.1.trans C0.2.2.1.symm) (rest := st.map (cv G)) rfl (by rw [C0.2.1]; exact hd) hdd (by
      have e2 : nativeFrameWords "java/lang/System" "arraycopy" 5 + 11 ≤ 40 := by decide +kernel
      show 2 * 0 + _ + _ ≤ 48 * d
      have e3 : 2 * 0 + ((st.map (cv G)).map fun v => v.category).sum ≤ 8 := hfr
      omega)
  have e1 : copied (arrV (G.2.2.1 40) n0 (fun j => .int (hI h a j))) (arrV (G.2.2.1 40) n1 (fun j => .int (hI h b j))) sp dp n = vp_cell (G.2.2.1 40) (n1, .inl (va_cpy (hI h a) (hI h b) sp.toNatClampNeg dp.toNatClampNeg n.toNatClampNeg)) := va_copied (fun z => .int z) (G.2.2.1 40) (G.2.2.1 40) (hI h a) (hI h b) h4
  rw [e1, vp_cell_i] at X' step
  generalize hX : arrV (G.2.2.1 40) n1 (fun j => .int (va_cpy (hI h a) (hI h b) sp.toNatClampNeg dp.toNatClampNeg n.toNatClampNeg j)) = X1 at X' step
  have hheap : ((T.setVm vm').setCell (G.1 + b) X1).heap = H.setIfInBounds (G.1 + b) X1 := by rw [← hT']; rfl
  have oq : ∀ q : Nat, q ≠ G.1 + b → (H.setIfInBounds (G.1 + b) X1)[q]? = H[q]? := fun q hq => by simp [Array.getElem?_setIfInBounds, Ne.symm hq]
  have hl : G.1 + b < H.size := (Array.getElem?_eq_some_iff.mp hatb).1
  have hee : ext h (cpI h a sp.toNatClampNeg b dp.toNatClampNeg n.toNatClampNeg) := ext_of rfl rfl
  obtain ⟨t, a1, b1⟩ := kk p e s m args below meth c (H.setIfInBounds (G.1 + b) X1) _ ls C0 (wd_set (a := b) hW (by simp) oq rfl rfl (fun q hq => ⟨va_up_ne _ _ hq, rfl, rfl⟩) (WF_of hW.2.2 rfl rfl rfl) (fun _ => by
      refine (atc_A (kind := 40) (n := n1) (show hT (cpI h a sp.toNatClampNeg b dp.toNatClampNeg n.toNatClampNeg) b = _ from htb) (by decide)).mpr ?_
      unfold atA
      have e4 : ev G (cpI h a sp.toNatClampNeg b dp.toNatClampNeg n.toNatClampNeg) 40 b = fun j => .int (va_cpy (hI h a) (hI h b) sp.toNatClampNeg dp.toNatClampNeg n.toNatClampNeg j) := by
        funext j
        show Value.int (va_up (hI h) b _ b j) = _
        rw [va_up_self]
      rw [e4, hX]
      simp [Array.getElem?_setIfInBounds, hl])) (hE.trans hee) ⟨by simp; exact hS.1, fun q g1 g2 => by
      rw [oq q (fun e => g2 (by rw [e]; exact Nat.le_add_right _ _))]
      exact hS.2.1 q g1 g2, fun q hq => by
      rcases List.mem_append.mp hq with z | z
      · exact hS.2.2 q z
      · obtain ⟨w, -, hw⟩ := List.mem_map.mp z
        rw [← hw]
        exact Nat.le_add_right _ _⟩ hl0 (hL.ext hee) (hst.2.2.2.2.2.ext hee) _ hheap X'
  exact ⟨t, step t a1, b1⟩
theorem cvS {i : Nat} (hi : i < 16) : cv G (tS i) = .ref (G.2.2.2.1 i) := by simp [cv, show i < 100 by omega]
theorem cvV {i : Nat} : cv G (tS (100 + i)) = .ref (G.2.2.2.2.1 i) := by simp [cv, show ¬ 100 + i < 100 by omega]
theorem r_strVal {i idx : Nat} (hi : i < 16) (hd : decode M.1 pc = .ok (.getfield idx, 3)) (hlk : Cond.fieldLink M.2.2.2.1 idx "java/lang/String" "value" "[B" ∈ GW) (kk : Rn l G d mc ms M h0 Q (pc + 3) L (tS (100 + i) :: st) h cu su) : Rn l G d mc ms M h0 Q pc L (tS i :: st) h cu su := by
  intro p e s m args below meth c H locs ls C0 hW hE hS hl0 hL hst
  have q := kk p e s m args below meth c H locs ls C0 hW hE hS hl0 hL ⟨Or.inr (Or.inl ⟨by omega, by omega⟩), hst.2⟩
  rw [List.map_cons, cvV] at q
  rw [List.map_cons, cvS hi]
  exact vk_getf C0.1 C0.2.1 (C0.2.2.2.2.2.2.1.2.1.1 i hi).2.2.1 hS C0.2.2.2.2.1 (C0.2.2.2.2.2.1 _ hlk) (fun _ z => z) hd q
theorem r_strCoder {i idx : Nat} (hi : i < 16) (hd : decode M.1 pc = .ok (.getfield idx, 3)) (hlk : Cond.fieldLink M.2.2.2.1 idx "java/lang/String" "coder" "B" ∈ GW) (kk : Rn l G d mc ms M h0 Q (pc + 3) L (tI 0 :: st) h cu su) : Rn l G d mc ms M h0 Q pc L (tS i :: st) h cu su := by
  intro p e s m args below meth c H locs ls C0 hW hE hS hl0 hL hst
  rw [List.map_cons, cvS hi]
  exact vk_getf C0.1 C0.2.1 (C0.2.2.2.2.2.2.1.2.1.1 i hi).2.1 hS C0.2.2.2.2.1 (C0.2.2.2.2.2.1 _ hlk) (fun _ z => z) hd (kk p e s m args below meth c H locs ls C0 hW hE hS hl0 hL ⟨trivial, hst.2⟩)
theorem r_strLen {i : Nat} {v : Int32} (hi : i < 16) (hd : decode M.1 pc = .ok (.arraylength, 1)) (hv : Int32.ofNat (lenS.getD i 0) = v) (kk : Rn l G d mc ms M h0 Q (pc + 1) L (tI v :: st) h cu su) : Rn l G d mc ms M h0 Q pc L (tS (100 + i) :: st) h cu su := by
  intro p e s m args below meth c H locs ls C0 hW hE hS hl0 hL hst
  rw [List.map_cons, cvV]
  exact va_tlen C0.1 C0.2.1 (C0.2.2.2.2.2.2.1.2.1.1 i hi).2.2.2 hS hv hd (kk p e s m args below meth c H locs ls C0 hW hE hS hl0 hL ⟨trivial, hst.2⟩)
theorem r_strLd {i : Nat} {j : Int32} (hi : i < 16) (hd : decode M.1 pc = .ok (.baload, 1)) (hin : vp_in j (lenS.getD i 0)) (kk : Rn l G d mc ms M h0 Q (pc + 1) L (tI ((bytS.getD i []).getD j.toNatClampNeg 0) :: st) h cu su) : Rn l G d mc ms M h0 Q pc L (tI j :: tS (100 + i) :: st) h cu su := by
  intro p e s m args below meth c H locs ls C0 hW hE hS hl0 hL hst
  rw [List.map_cons, List.map_cons, cvV]
  exact va_tb C0.1 C0.2.1 (C0.2.2.2.2.2.2.1.2.1.1 i hi).2.2.2 hS hin rfl hd (kk p e s m args below meth c H locs ls C0 hW hE hS hl0 hL ⟨trivial, hst.2.2⟩)
theorem r_getsC {idx : Nat} (hd : decode M.1 pc = .ok (.getstatic idx, 3)) (hlk : Cond.fieldLink M.2.2.2.1 idx "java/lang/String" "COMPACT_STRINGS" "Z" ∈ GW) (kk : Rn l G d mc ms M h0 Q (pc + 3) L (tI 1 :: st) h cu su) : Rn l G d mc ms M h0 Q pc L st h cu su := by
  intro p e s m args below meth c H locs ls C0 hW hE hS hl0 hL hst
  exact va_gets C0.1 C0.2.1 C0.2.2.2.2.2.2.1.2.2.2.1 hS C0.2.2.2.2.1 (C0.2.2.2.2.2.1 _ hlk) (fun _ z => z) hd (kk p e s m args below meth c H locs ls C0 hW hE hS hl0 hL ⟨trivial, hst⟩)
theorem r_getsF {idx : Nat} (hd : decode M.1 pc = .ok (.getstatic idx, 3)) (hlk : Cond.fieldLink M.2.2.2.1 idx "jdk/internal/util/Preconditions" "SIOOBE_FORMATTER" "Ljava/util/function/BiFunction;" ∈ GW) (k1 : Rn l G d mc ms M h0 Q (pc + 3) L (tR 0 0 none :: st) h cu su) (k2 : Rn l G d mc ms M h0 Q (pc + 3) L (tS 400 :: st) h cu su) : Rn l G d mc ms M h0 Q pc L st h cu su := by
  intro p e s m args below meth c H locs ls C0 hW hE hS hl0 hL hst
  rcases C0.2.2.2.2.2.2.1.2.2.2.2.1 with hZ | hZ
  · exact va_gets C0.1 C0.2.1 hZ hS C0.2.2.2.2.1 (C0.2.2.2.2.2.1 _ hlk) (fun _ z => z) hd (k1 p e s m args below meth c H locs ls C0 hW hE hS hl0 hL ⟨fun b hb => (by cases hb), hst⟩)
  · exact va_gets C0.1 C0.2.1 hZ hS C0.2.2.2.2.1 (C0.2.2.2.2.2.1 _ hlk) (fun _ z => z) hd (k2 p e s m args below meth c H locs ls C0 hW hE hS hl0 hL ⟨Or.inr (Or.inr (Or.inr rfl)), hst⟩)
theorem cvX : cv G (tS 300) = .ref (G.2.2.2.2.1 200) := rfl
theorem Sx {s : State} {H : Heap} {locs : List Loc} (hK : Kx G s) (hS : va_S (Ag G) s.heap H locs) : ∃ scr : Cell, H[G.2.2.2.2.1 200]? = some scr ∧ s.isArrayOf scr .int ∧ scr.vm ≠ .unknown ∧ scr.slots.size = G.2.2.2.2.2.1 ∧ ∀ j : Nat, j < G.2.2.2.2.2.1 → scr.slots[j]? = some (.int (G.2.2.2.2.2.2 j)) :=
  hK.2.2.2.2.2.1.kept (hS.2.1 _ hK.2.2.2.2.2.1.lt (Nat.not_le.mpr hK.2.2.2.2.2.2.1))
theorem r_sld {i : Int32} (hd : decode M.1 pc = .ok (.iaload, 1)) (hin : vp_in i G.2.2.2.2.2.1) (kk : Rn l G d mc ms M h0 Q (pc + 1) L (tI (G.2.2.2.2.2.2 i.toNatClampNeg) :: st) h cu su) : Rn l G d mc ms M h0 Q pc L (tI i :: tS 300 :: st) h cu su := by
  intro p e s m args below meth c H locs ls C0 hW hE hS hl0 hL hst
  obtain ⟨scr, g1, g2, g3, g4, g5⟩ := Sx C0.2.2.2.2.2.2.1 hS
  have hlt : i.toNatClampNeg < G.2.2.2.2.2.1 := Nat.not_le.mp fun q => hin (Or.inr q)
  rw [List.map_cons, List.map_cons, cvX]
  exact W.iald (v := .int (G.2.2.2.2.2.2 i.toNatClampNeg)) C0.1 C0.2.1 g1 g2 g3 (by rw [g4]; exact hin) (g5 _ hlt) rfl rfl hd (kk p e s m args below meth c H locs ls C0 hW hE hS hl0 hL ⟨trivial, hst.2.2⟩)
theorem r_slen (hd : decode M.1 pc = .ok (.arraylength, 1)) (kk : Rn l G d mc ms M h0 Q (pc + 1) L (tI (Int32.ofNat G.2.2.2.2.2.1) :: st) h cu su) : Rn l G d mc ms M h0 Q pc L (tS 300 :: st) h cu su := by
  intro p e s m args below meth c H locs ls C0 hW hE hS hl0 hL hst
  obtain ⟨scr, g1, g2, g3, g4, g5⟩ := Sx C0.2.2.2.2.2.2.1 hS
  rw [List.map_cons, cvX]
  exact W.alen C0.1 C0.2.1 g1 g2 (by rw [g4]) rfl rfl hd (kk p e s m args below meth c H locs ls C0 hW hE hS hl0 hL ⟨trivial, hst.2⟩)
/-- a method of String's on a String constant -/
theorem r_callStr {d' mc' ms' idx n i : Nat} {y : MethodName} {My : Mth} {as : List TV} {s0 : List TV} {Q' : Option TV → Hp → Prop} (hi : i < 16) (hd : decode M.1 pc = .ok (.invokevirtual idx, 3)) (mi : MI y My n) (hlk : Cond.methodLink M.2.2.2.1 idx y ∈ GW) (hin : Cond.instanceMethod y ∈ GW) (hsel : Cond.selects "java/lang/String" y y ∈ GW)
    (hn : as.length = n) (hs0 : s0 = as.reverse ++ tS i :: st) (hr : cats st ≤ 8) (hdd : d' + 1 ≤ d) (hc : cu + mc' ≤ mc ∧ su + ms' ≤ ms) (hct : Ct l G d' mc' ms' y My (tS i :: as) h Q') (kk : ∀ r h', Q' r h' → ext h h' → Rn l G d mc ms M h0 Q (pc + 3) L (r.toList ++ st) h' (cu + mc') (su + ms')) : Rn l G d mc ms M h0 Q pc L s0 h cu su := by
  subst hs0
  intro p e s m args below meth c H locs ls C0 hW hE hS hl0 hL hst
  have q0 := tyL_app.mp hst
  have hts := C0.2.2.2.2.2.1
  have hK := C0.2.2.2.2.2.2.1
  have cb : CallB (rmOf d mc ms) s args M.2.2.2.1 idx y My.1 My.2.1 My.2.2.1 (Cond.code y My.1 My.2.1 My.2.2.1 :: GW) (rmOf d' mc' ms') mc' ms' n :=
    callB_of n hts (goodC mi) rfl rfl rfl (hts _ mi.2.1) (hts _ hlk) ⟨mi.2.2.1, mi.2.2.2.1, mi.2.2.2.2.1⟩ ⟨hdd, by show 8 + (My.2.1 + 11) + 48 * d' ≤ 48 * d; have := mi.2.2.2.2.2; omega⟩
  refine r_go (st0 := (as.reverse ++ tS i :: st).map (cv G)) C0 hE hS hl0 hL q0.2.2 (va_runV (As := as.map (cv G)) (b := G.2.2.2.1 i) (C := "java/lang/String") ⟨C0.1, C0.2.1, C0.2.2.1, C0.2.2.2.2.1, hts⟩ hct ⟨cb, hts _ hin, hts _ hsel⟩ ⟨blindC, vk_recv hK.2.1 hi hS, fun U hU hWm => ⟨by rw [List.map_cons, cvS hi], by rw [hU]; exact hW, hK.to hWm (fun a ha hna => by rw [hU]; exact hS.2.1 a ha hna), q0.2.1, tyL_rev q0.1⟩⟩ rfl (by rw [List.length_map]; exact hn) hl0.1 ?_ (rest_ok (by rw [cats_eq]; exact hr)) hd hc) kk
  show List.map (cv G) (as.reverse ++ tS i :: st) = _
  rw [List.map_append, List.map_reverse, List.map_cons, cvS hi]
end RJ
