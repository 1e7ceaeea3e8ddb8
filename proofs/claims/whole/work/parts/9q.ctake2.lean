/-! THE CLASS: the rows of a bundle by days, merged -/
def OrA (x : Ab) (da : Nat → Nat) (P : Nat → List Nat) (h : Hp) : Prop := ∀ d, d < (aD x).length → byD (dL (aD x) d) (P d) ∧ ∀ k, k < (cRows (dL (aD x) d)).length → hI h (da d + 4) k = n32 ((P d).getD k 0)
theorem CVw.ord {x : Ab} {da : Nat → Nat} {h : Hp} (V : CVw x da h) : ∃ P, OrA x da P h := by
  have ex : ∀ d, ∃ p, d < (aD x).length → byD (dL (aD x) d) p ∧ ∀ k, k < (cRows (dL (aD x) d)).length → hI h (da d + 4) k = n32 (p.getD k 0) := by
    intro d
    by_cases q : d < (aD x).length
    · obtain ⟨p, h1, h2⟩ := (V.2.2 d q).1.2.2.2.2.2.2.2.2
      exact ⟨p, fun _ => ⟨h1, h2⟩⟩
    · exact ⟨[], fun z => absurd z q⟩
  exact ⟨fun d => Classical.choose (ex d), fun d hd => Classical.choose_spec (ex d) hd⟩
theorem OrA.mv {x : Ab} {da : Nat → Nat} {P : Nat → List Nat} {h h' : Hp} {S : Nat → Nat → Prop} (A : OrA x da P h) (V : CVw x da h) (f : fr S h h') (n : ∀ a k, S a k → a < 108) : OrA x da P h' :=
  fun d hd => ⟨(A d hd).1, fun k hk => by rw [f.I (fun z => by have := n _ _ z; have := (V.2.2 d hd).2; omega)]; exact (A d hd).2 k hk⟩
/-- a deal's rows by days -/
def Ro (x : Ab) (P : Nat → List Nat) (d : Nat) : List Rec := (P d).map (fun j => (cRows (dL (aD x) d)).getD j rec0)
theorem range_getD {α : Type} (L : List α) (d : α) : (List.range L.length).map (fun j => L.getD j d) = L := by
  apply List.ext_getElem
  · simp
  · intro i h1 h2
    rw [List.getElem_map, List.getElem_range, List.getD_eq_getElem?_getD, List.getElem?_eq_getElem h2]; rfl
theorem Ro_perm {x : Ab} {da : Nat → Nat} {P : Nat → List Nat} {h : Hp} (A : OrA x da P h) {d : Nat} (hd : d < (aD x).length) : (Ro x P d).Perm (cRows (dL (aD x) d)) := by
  have := (A d hd).1.1.map (fun j => (cRows (dL (aD x) d)).getD j rec0)
  rw [range_getD] at this
  exact this
theorem Ro_len {x : Ab} {da : Nat → Nat} {P : Nat → List Nat} {h : Hp} (A : OrA x da P h) {d : Nat} (hd : d < (aD x).length) : (Ro x P d).length = (cRows (dL (aD x) d)).length := (Ro_perm A hd).length_eq
theorem Ro_sorted {x : Ab} {da : Nat → Nat} {P : Nat → List Nat} {h : Hp} (A : OrA x da P h) {d : Nat} (hd : d < (aD x).length) : (Ro x P d).Pairwise (fun a b => a 0 ≤ b 0) := by
  unfold Ro
  rw [List.pairwise_map]
  exact (A d hd).1.2
theorem Ro_row {x : Ab} {da : Nat → Nat} {P : Nat → List Nat} {h : Hp} (A : OrA x da P h) (V : CVw x da h) (K : OkA x) {d m : Nat} (hd : d < (aD x).length) (hm : m < (cRows (dL (aD x) d)).length) : hI h (da d + 4) m = n32 ((P d).getD m 0) ∧ (P d).getD m 0 < 36 ∧ RwA h (da d) ((P d).getD m 0) ((Ro x P d).getD m rec0) ∧ CrOk ((Ro x P d).getD m rec0) := by
  obtain ⟨⟨pp, -⟩, e⟩ := A d hd
  have pl : (P d).length = (cRows (dL (aD x) d)).length := by rw [pp.length_eq, List.length_range]
  have r36 := rows_le K hd
  have jm : (P d).getD m 0 ∈ P d := by
    rw [List.getD_eq_getElem?_getD, List.getElem?_eq_getElem (by omega)]
    exact List.getElem_mem (by omega)
  have jl : (P d).getD m 0 < (cRows (dL (aD x) d)).length := List.mem_range.mp (pp.mem_iff.mp jm)
  have er : (Ro x P d).getD m rec0 = (cRows (dL (aD x) d)).getD ((P d).getD m 0) rec0 := by
    unfold Ro
    rw [List.getD_eq_getElem?_getD, List.getElem?_map, List.getD_eq_getElem?_getD (l := P d), List.getElem?_eq_getElem (show m < (P d).length by omega)]
    rfl
  have e' := e m hm
  generalize (P d).getD m 0 = j at jl er jm e'
  have ej : cRows (dL (aD x) d) = (cRows (dL (aD x) d)).take j ++ (cRows (dL (aD x) d)).getD j rec0 :: (cRows (dL (aD x) d)).drop (j + 1) := by
    rw [List.getD_eq_getElem?_getD, List.getElem?_eq_getElem jl]
    show _ = _ ++ (cRows (dL (aD x) d))[j] :: _
    rw [← List.drop_eq_getElem_cons jl, List.take_append_drop]
  obtain ⟨R, O, -⟩ := V.row K hd ej
  rw [List.length_take, show min j (cRows (dL (aD x) d)).length = j by omega] at R
  rw [er]
  exact ⟨e', by omega, R, O⟩
theorem drop_mem {L : List Rec} {m : Nat} {d : Rec} (h : m < L.length) : L.drop m = L.getD m d :: L.drop (m + 1) := by
  rw [List.getD_eq_getElem?_getD, List.getElem?_eq_getElem h]
  exact List.drop_eq_getElem_cons h
theorem take_snoc {L : List Rec} {m : Nat} {d : Rec} (h : m < L.length) : L.take (m + 1) = L.take m ++ [L.getD m d] := by
  rw [List.getD_eq_getElem?_getD, List.getElem?_eq_getElem h, List.take_succ, List.getElem?_eq_getElem h]; rfl
set_option maxHeartbeats 4000000 in
set_option maxRecDepth 100000 in
theorem c_earliest {x : Ab} {da : Nat → Nat} {P : Nat → List Nat} {a : Nat} {l : List Nat} {hd : Nat → Nat} {h : Hp} {Q : Int32 → Hp → Prop} (V : CVw x da h) (K : OkA x) (A : OrA x da P h) (B : CBd x da a l h) (H : ∀ i, i < l.length → hI h 18 i = n32 (hd i) ∧ hd i ≤ (Ro x P (l.getD i 0)).length)
    (k0 : (∀ i, i < l.length → hd i = (Ro x P (l.getD i 0)).length) → Q (-1) h)
    (k1 : ∀ e, e < l.length → hd e < (Ro x P (l.getD e 0)).length → (∀ i, i < l.length → hd i < (Ro x P (l.getD i 0)).length → (Ro x P (l.getD e 0)).getD (hd e) rec0 0 ≤ (Ro x P (l.getD i 0)).getD (hd i) rec0 0) → Q (n32 e) h) : m_X5_earliestHead a h Q := by
  have hl := B.2.1
  have main : ∀ (r i b least : Nat), r + i = l.length → b ≤ i → (b = 0 → ∀ j, j < i → hd j = (Ro x P (l.getD j 0)).length) → (b ≠ 0 → hd (b - 1) < (Ro x P (l.getD (b - 1) 0)).length ∧ least = (Ro x P (l.getD (b - 1) 0)).getD (hd (b - 1)) rec0 0 ∧ ∀ j, j < i → hd j < (Ro x P (l.getD j 0)).length → least ≤ (Ro x P (l.getD j 0)).getD (hd j) rec0 0) → least < 3000 → m_X5_earliestHead_7 (r + 1) Q a (pm b) (n32 least) (n32 i) h := by
    intro r
    induction r with
    | zero =>
      intro i b least hr hb c0 c1 hle
      obtain rfl : i = l.length := by omega
      rw [m_X5_earliestHead_7, B.1, n32_le (by omega) (by omega)]
      refine ⟨fun _ => ?_, fun z => absurd (Nat.le_refl _) z⟩
      by_cases q : b = 0
      · rw [q]; exact k0 (c0 q)
      · obtain ⟨y1, y2, y3⟩ := c1 q
        rw [pm_n32 (by omega)]
        exact k1 (b - 1) (by omega) y1 (fun j hj hj2 => by rw [← y2]; exact y3 j hj hj2)
    | succ r ih =>
      intro i b least hr hb c0 c1 hle
      have hi : i < l.length := by omega
      have dm : l.getD i 0 ∈ l := by
        rw [List.getD_eq_getElem?_getD, List.getElem?_eq_getElem hi]; exact List.getElem_mem hi
      have dl := B.2.2.2 _ dm
      have rr := B.2.2.1 i hi
      obtain ⟨H1, H2⟩ := H i hi
      have rl := Ro_len A dl
      have r36 := rows_le K dl
      rw [m_X5_earliestHead_7, B.1, n32_le (by omega) (by omega), n32_ix (by omega)]
      refine ⟨fun z => absurd z (by omega), fun _ => ⟨vpI (by omega) (by decide), da (l.getD i 0), rr, vpI (by omega) (by decide), ?_⟩⟩
      rw [(V.2.2 _ dl).1.r, H1, n32_le (by omega) (by omega), n32_ix (by omega)]
      refine ⟨fun z => ?_, fun z => ⟨vpI (by omega) (by decide), vpI (by omega) (by decide), ?_⟩⟩
      · unfold m_X5_earliestHead_77
        intro x1 e1
        rw [e1, show n32 i + 1 = n32 (i + 1) from n32_add _ 1]
        refine ih (i + 1) b least (by omega) (by omega) (fun q j hj => ?_) (fun q => ?_) hle
        · rcases Nat.lt_or_ge j i with y | y
          · exact c0 q j y
          · rw [show j = i by omega]; omega
        · obtain ⟨y1, y2, y3⟩ := c1 q
          refine ⟨y1, y2, fun j hj hj2 => ?_⟩
          rcases Nat.lt_or_ge j i with y | y
          · exact y3 j y hj2
          · rw [show j = i by omega] at hj2; omega
      · obtain ⟨g1, g2, g3, g4⟩ := Ro_row A V K dl (m := hd i) (by omega)
        rw [g1]
        unfold m_X1_dayOf
        rw [show (6 : Int32) = n32 6 from rfl, n32_mul, show (0 : Int32) = n32 0 from rfl, n32_add, n32_ix (by omega), Nat.mul_comm _ 6, Nat.add_zero, g3.1]
        have g0 := g4.1
        refine ⟨vpI (by omega) (by decide), ?_⟩
        have take : (b = 0 ∨ (Ro x P (l.getD i 0)).getD (hd i) rec0 0 < least) → m_X5_earliestHead_71 (fun (v1 : Nat) (v2 : Int32) (v3 : Int32) (v4 : Int32) hh => m_X5_earliestHead_7 (r + 1) Q v1 v2 v3 v4 hh) Q a (n32 i) (n32 ((Ro x P (l.getD i 0)).getD (hd i) rec0 0)) h := by
          intro q
          unfold m_X5_earliestHead_71 m_X5_earliestHead_77
          intro x1 e1
          rw [e1, show n32 i + 1 = n32 (i + 1) from n32_add _ 1]
          refine ih (i + 1) (i + 1) _ (by omega) (by omega) (fun z => by omega) (fun _ => ⟨by show hd (i + 1 - 1) < _; rw [show i + 1 - 1 = i from rfl]; omega, rfl, fun j hj hj2 => ?_⟩) g0
          rcases Nat.lt_or_ge j i with y | y
          · rcases q with q | q
            · have := c0 q j y; omega
            · by_cases q0 : b = 0
              · have := c0 q0 j y; omega
              · have := (c1 q0).2.2 j y hj2; omega
          · rw [show j = i by omega]; exact Nat.le_refl _
        refine ⟨fun q => take (Or.inl ?_), fun q => ?_⟩
        · rw [show (-1 : Int32) = pm 0 from rfl, pm_inj (by omega) (by decide)] at q; exact q
        · rw [show (-1 : Int32) = pm 0 from rfl, pm_inj (by omega) (by decide)] at q
          rw [n32_le (by omega) (by omega)]
          refine ⟨fun q2 => ?_, fun q2 => take (Or.inr (by omega))⟩
          unfold m_X5_earliestHead_77
          intro x1 e1
          rw [e1, show n32 i + 1 = n32 (i + 1) from n32_add _ 1]
          obtain ⟨y1, y2, y3⟩ := c1 q
          refine ih (i + 1) b least (by omega) (by omega) (fun z => absurd z q) (fun _ => ⟨y1, y2, fun j hj hj2 => ?_⟩) hle
          rcases Nat.lt_or_ge j i with y | y
          · exact y3 j y hj2
          · rw [show j = i by omega]; exact q2
  exact ⟨_, main l.length 0 0 0 (by omega) (Nat.le_refl _) (fun _ j hj => by omega) (fun z => absurd rfl z) (by decide)⟩
