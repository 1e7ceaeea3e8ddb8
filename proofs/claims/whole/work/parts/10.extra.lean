section RX
variable {l : Launch} {G : Cx} {d mc ms : Nat} {M : Mth} {h0 : Hp} {Q : Option TV → Hp → Prop} {pc : Nat} {L : List (Option TV)} {st : List TV} {h : Hp} {cu su : Nat}
theorem r_wide {cu' su' : Nat} (h1 : cu ≤ cu') (h2 : su ≤ su') (k : Rn l G d mc ms M h0 Q pc L st h cu' su') : Rn l G d mc ms M h0 Q pc L st h cu su := by
  intro p e s m args below meth c H locs ls C hW hE hS hl hL hst
  exact W.widen h1 h2 (k p e s m args below meth c H locs ls C hW hE hS hl hL hst)
theorem r_nmA {k n : Nat} {t : Nat × Nat} (kk : ∀ a, a = hN h → ∀ h', h' = nw h t → Rn l G d mc ms M h0 Q pc L (tR k n (some a) :: st) h' cu su) : Rn l G d mc ms M h0 Q pc L (tR k n (some (hN h)) :: st) (nw h t) cu su := kk _ rfl _ rfl
theorem r_nmH (kk : ∀ h', h' = h → Rn l G d mc ms M h0 Q pc L st h' cu su) : Rn l G d mc ms M h0 Q pc L st h cu su := kk _ rfl
theorem r_mmax {idx : Nat} {x y : Int32} (hd : decode M.1 pc = .ok (.invokestatic idx, 3)) (hlk : Cond.methodLink M.2.2.2.1 idx Lib.Math.max.name ∈ GW) (hst' : Cond.static Lib.Math.max.name ∈ GW) (hini : Cond.initialized "java/lang/Math" ∈ GW) (hco : Cond.code Lib.Math.max.name Lib.Math.max.code 2 (some .int) ∈ GW) (hdd : 1 ≤ d) (hc : cu ≤ mc ∧ su ≤ ms) (hr : cats st ≤ 8) (kk : Rn l G d mc ms M h0 Q (pc + 3) L (tI (if x < y then y else x) :: st) h cu su) : Rn l G d mc ms M h0 Q pc L (tI y :: tI x :: st) h cu su := by
  intro p e s m args below meth c H locs ls C hW hE hS hl hL hst
  have hts := C.2.2.2.2.2.1
  have hfr : ((st.map (cv G)).map fun v => v.category).sum ≤ 8 := by rw [List.map_map]; rw [← cats_eq (G := G)] at hr; exact hr
  exact va_mmax C.1 C.2.1 (C.2.2.1.trans hl.1.symm) C.2.2.2.2.1 (hts _ hlk) (hts _ hst') (hts _ hini) (hts _ hco) hdd (by show _ ≤ 48 * d; omega) hc.1 hc.2 hd (kk p e s m args below meth c H locs ls C hW hE hS hl hL ⟨trivial, hst.2.2⟩)
theorem r_mmin {idx : Nat} {x y : Int32} (hd : decode M.1 pc = .ok (.invokestatic idx, 3)) (hlk : Cond.methodLink M.2.2.2.1 idx Lib.Math.min.name ∈ GW) (hst' : Cond.static Lib.Math.min.name ∈ GW) (hini : Cond.initialized "java/lang/Math" ∈ GW) (hco : Cond.code Lib.Math.min.name Lib.Math.min.code 2 (some .int) ∈ GW) (hdd : 1 ≤ d) (hc : cu ≤ mc ∧ su ≤ ms) (hr : cats st ≤ 8) (kk : Rn l G d mc ms M h0 Q (pc + 3) L (tI (if y < x then y else x) :: st) h cu su) : Rn l G d mc ms M h0 Q pc L (tI y :: tI x :: st) h cu su := by
  intro p e s m args below meth c H locs ls C hW hE hS hl hL hst
  have hts := C.2.2.2.2.2.1
  have hfr : ((st.map (cv G)).map fun v => v.category).sum ≤ 8 := by rw [List.map_map]; rw [← cats_eq (G := G)] at hr; exact hr
  exact va_mmin C.1 C.2.1 (C.2.2.1.trans hl.1.symm) C.2.2.2.2.1 (hts _ hlk) (hts _ hst') (hts _ hini) (hts _ hco) hdd (by show _ ≤ 48 * d; omega) hc.1 hc.2 hd (kk p e s m args below meth c H locs ls C hW hE hS hl hL ⟨trivial, hst.2.2⟩)
theorem r_mabs {idx : Nat} {x : Int32} (hd : decode M.1 pc = .ok (.invokestatic idx, 3)) (hlk : Cond.methodLink M.2.2.2.1 idx Lib.Math.abs.name ∈ GW) (hst' : Cond.static Lib.Math.abs.name ∈ GW) (hini : Cond.initialized "java/lang/Math" ∈ GW) (hco : Cond.code Lib.Math.abs.name Lib.Math.abs.code 1 (some .int) ∈ GW) (hdd : 1 ≤ d) (hc : cu ≤ mc ∧ su ≤ ms) (hr : cats st ≤ 8) (kk : Rn l G d mc ms M h0 Q (pc + 3) L (tI (if 0 ≤ x then x else 0 - x) :: st) h cu su) : Rn l G d mc ms M h0 Q pc L (tI x :: st) h cu su := by
  intro p e s m args below meth c H locs ls C hW hE hS hl hL hst
  have hts := C.2.2.2.2.2.1
  have hfr : ((st.map (cv G)).map fun v => v.category).sum ≤ 8 := by rw [List.map_map]; rw [← cats_eq (G := G)] at hr; exact hr
  exact va_mabs C.1 C.2.1 (C.2.2.1.trans hl.1.symm) C.2.2.2.2.1 (hts _ hlk) (hts _ hst') (hts _ hini) (hts _ hco) hdd (by show _ ≤ 48 * d; omega) hc.1 hc.2 hd (kk p e s m args below meth c H locs ls C hW hE hS hl hL ⟨trivial, hst.2⟩)
theorem r_mminL {idx : Nat} {x y : Int64} (hd : decode M.1 pc = .ok (.invokestatic idx, 3)) (hlk : Cond.methodLink M.2.2.2.1 idx Lib.MathLoose.min_long.x ∈ GW) (hst' : Cond.static Lib.MathLoose.min_long.x ∈ GW) (hini : Cond.initialized "java/lang/Math" ∈ GW) (hco : Cond.code Lib.MathLoose.min_long.x Lib.MathLoose.min_long.code 4 (some .long) ∈ GW) (hdd : 1 ≤ d) (hc : cu ≤ mc ∧ su ≤ ms) (hr : cats st ≤ 8) (kk : Rn l G d mc ms M h0 Q (pc + 3) L (tJ (if y < x then y else x) :: st) h cu su) : Rn l G d mc ms M h0 Q pc L (tJ y :: tJ x :: st) h cu su := by
  intro p e s m args below meth c H locs ls C hW hE hS hl hL hst
  have hts := C.2.2.2.2.2.1
  have hfr : ((st.map (cv G)).map fun v => v.category).sum ≤ 8 := by rw [List.map_map]; rw [← cats_eq (G := G)] at hr; exact hr
  exact va_mmin_long C.1 C.2.1 (C.2.2.1.trans hl.1.symm) C.2.2.2.2.1 (hts _ hlk) (hts _ hst') (hts _ hini) (hts _ hco) hdd (by show _ ≤ 48 * d; omega) hc.1 hc.2 hd (kk p e s m args below meth c H locs ls C hW hE hS hl hL ⟨trivial, hst.2.2⟩)
end RX
theorem sw_out {x : Int32} {n : Nat} {lo hi : Int} (h : ∀ k, k < n → ¬ x = Int32.ofNat k) (hlo : lo = 0 := by decide) (hhi : hi = (n : Int) - 1 := by decide) (hn : n < 1000 := by decide) : x.toInt < lo ∨ hi < x.toInt := by
  subst hlo; subst hhi
  rcases Int.lt_or_le x.toInt 0 with q | q
  · exact Or.inl q
  · rcases Int.lt_or_le ((n : Int) - 1) x.toInt with q2 | q2
    · exact Or.inr q2
    · exfalso
      obtain ⟨k, hk⟩ := Int.eq_ofNat_of_zero_le q
      refine h k (by omega) (Int32.toInt_inj.mp ?_)
      rw [hk]
      have e := nI_toInt (n := k) (by omega)
      exact e.symm
