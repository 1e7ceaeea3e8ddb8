section RX
variable {l : Launch} {G : Cx} {d mc ms : Nat} {M : Mth} {h0 : Hp} {Q : Option TV → Hp → Prop} {pc : Nat} {L : List (Option TV)} {st : List TV} {h : Hp} {cu su : Nat}
theorem r_wide {cu' su' : Nat} (h1 : cu ≤ cu') (h2 : su ≤ su') (k : Rn l G d mc ms M h0 Q pc L st h cu' su') : Rn l G d mc ms M h0 Q pc L st h cu su := by
  intro p e s m args below meth c H locs ls C hW hE hS hl hL hst
  exact W.widen h1 h2 (k p e s m args below meth c H locs ls C hW hE hS hl hL hst)
theorem r_nmA {k n : Nat} {t : Nat × Nat} (kk : ∀ a, a = hN h → ∀ h', h' = nw h t → Rn l G d mc ms M h0 Q pc L (tR k n (some a) :: st) h' cu su) : Rn l G d mc ms M h0 Q pc L (tR k n (some (hN h)) :: st) (nw h t) cu su := kk _ rfl _ rfl
theorem r_nmH (kk : ∀ h', h' = h → Rn l G d mc ms M h0 Q pc L st h' cu su) : Rn l G d mc ms M h0 Q pc L st h cu su := kk _ rfl
end RX
theorem sw_out {x : Int32} {n : Nat} {lo hi : Int} (h : ∀ k, k < n → ¬ x = Int32.ofNat k) (hlo : lo = 0 := by decide) (hhi : hi = (n : Int) - 1 := by decide) (hn : n < 1000 := by decide) : x.toInt < lo ∨ hi < x.toInt := by
  subst hlo; subst hhi
  rcases Int.lt_or_le x.toInt 0 with q | q
  · exact Or.inl q
  · rcases Int.lt_or_le ((n : Int) - 1) x.toInt with q2 | q2
    · exact Or.inr q2
    · exfalso
      obtain ⟨k, hk⟩ := Int.eq_ofNat_of_zero_le q
      refine h k (by omega) (Int32.toInt_inj.mp ?_)
      rw [hk]
      have e := nI_toInt (n := k) (by omega)
      exact e.symm
