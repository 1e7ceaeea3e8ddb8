/-! THE CLASS: the search, a pair is heard -/
theorem KdA.inj {x : Ab} {da : Nat → Nat} {h : Hp} (D : KdA x da h) (N24 : (aD x).length ≤ 24) {i j : Nat} (hi : i < (aD x).length) (hj : j < (aD x).length) (e : da i = da j) : i = j := by
  have a1 := (D i hi).2.1
  have a2 := (D j hj).2.1
  rw [e, a2, n32_eq (by omega) (by omega)] at a1
  exact a1.symm
theorem c_hearPair {x : Ab} {da : Nat → Nat} {i j : Nat} {h : Hp} {Q : Hp → Prop} (V : CVw x da h) (D : KdA x da h) (K : OkA x) (hi : i < (aD x).length) (hj : j < (aD x).length) (k : ∀ h', fr SJg h h' → HrA (lvs (aD x) (if i = j then [i] else [i, j])) h' → Q h') : m_X3_hearPair (da i) (da j) h Q := by
  unfold m_X3_hearPair
  have li := K.l12 hi
  have lj := K.l12 hj
  have f0 : fr SJg h (wI h 30 2 0) := fr_wI (fr.rf _ _) _ (Or.inl rfl)
  have A0 : HrA [] (wI h 30 2 0) := ⟨by rw [hI_wI, if_pos ⟨rfl, rfl⟩]; rfl, by simp, fun k hk => absurd hk (by simp), fun r hr => absurd hr (by simp)⟩
  generalize wI h 30 2 0 = h1 at f0 A0
  have V1 := V.mv f0 (by unfold SJg; omega)
  refine c_hearAlso V1 K hi A0 (by rw [List.length_nil]; omega) (fun h2 f2 A2 => ⟨fun z => ?_, fun z => ?_⟩)
  · injection z with z
    have e := D.inj V.2.1 hj hi z
    rw [if_pos e.symm, lvs_one] at k
    rw [List.nil_append] at A2
    exact k h2 (f0.trans f2) A2
  · have ne : ¬ i = j := fun w => z (by rw [w])
    rw [if_neg ne, show [i, j] = [i] ++ [j] from rfl, lvs_app, lvs_one, lvs_one] at k
    rw [List.nil_append] at A2
    have V2 := V1.mv f2 (by unfold SJg; omega)
    exact c_hearAlso V2 K hj A2 (by omega) (fun h3 f3 A3 => k h3 ((f0.trans f2).trans f3) A3)
