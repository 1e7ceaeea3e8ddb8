/-! THE MODEL: plain; one group is made plain -/
def SSi (a k : Nat) : Prop := a = 74 ∨ a = 75 ∨ a = 76 ∨ SLy a k ∨ SPl a k ∨ a = 51 ∧ k = 41
def upB (f : Nat → Bool) (i : Nat) (v : Bool) : Nat → Bool := fun j => if j = i then v else f j
def upN (f : Nat → Nat) (i v : Nat) : Nat → Nat := fun j => if j = i then v else f j
theorem FgM.no {b i : Nat} {s : St} {X : Fg} {h : Hp} (F : FgM b s X h) (hi : b ≤ i) (v : Bool) : FgM b s (upB X.1 i v, X.2.1, X.2.2) (wI h 74 (i - b) (fgb v)) := by
  intro j h1 h2
  obtain ⟨a1, a2, a3⟩ := F j h1 h2
  refine ⟨?_, by rw [hI_wI, if_neg (by omega)]; exact a2, by rw [hI_wI, if_neg (by omega)]; exact a3⟩
  rw [hI_wI]
  show _ = fgb (if j = i then v else X.1 j)
  by_cases q : j = i
  · rw [if_pos (by omega), if_pos q]
  · rw [if_neg (by omega), if_neg q]; exact a1
theorem FgM.th {b i : Nat} {s : St} {X : Fg} {h : Hp} (F : FgM b s X h) (hi : b ≤ i) (v : Bool) : FgM b s (X.1, upB X.2.1 i v, X.2.2) (wI h 75 (i - b) (fgb v)) := by
  intro j h1 h2
  obtain ⟨a1, a2, a3⟩ := F j h1 h2
  refine ⟨by rw [hI_wI, if_neg (by omega)]; exact a1, ?_, by rw [hI_wI, if_neg (by omega)]; exact a3⟩
  rw [hI_wI]
  show _ = fgb (if j = i then v else X.2.1 j)
  by_cases q : j = i
  · rw [if_pos (by omega), if_pos q]
  · rw [if_neg (by omega), if_neg q]; exact a2
theorem FgM.dy {b i v : Nat} {s : St} {X : Fg} {h : Hp} (F : FgM b s X h) (hi : b ≤ i) : FgM b s (X.1, X.2.1, upN X.2.2 i v) (wI h 76 (i - b) (n32 v)) := by
  intro j h1 h2
  obtain ⟨a1, a2, a3⟩ := F j h1 h2
  refine ⟨by rw [hI_wI, if_neg (by omega)]; exact a1, by rw [hI_wI, if_neg (by omega)]; exact a2, ?_⟩
  rw [hI_wI]
  show _ = n32 (if j = i then v else X.2.2 j)
  by_cases q : j = i
  · rw [if_pos (by omega), if_pos q]
  · rw [if_neg (by omega), if_neg q]; exact a3
/-- all nodes from a on to e become nothing -/
def upR (f : Nat → Bool) (a e : Nat) : Nat → Bool := fun j => if a ≤ j ∧ j < e then true else f j
theorem i11 : (1 &&& 1 : Int32) = fgb true := by decide
theorem i01 : (0 &&& 1 : Int32) = fgb false := by decide
set_option maxHeartbeats 4000000 in
set_option maxRecDepth 100000 in
theorem q_simp253 {d i : Nat} {s : St} {k283 : Hp → Prop} {Q : Hp → Prop} (hi : 96 * d ≤ i) (hi2 : i < sN s) : ∀ (r j : Nat) (X : Fg) (h : Hp), r + j = sD s 62 i → 96 * d ≤ j → RD (96 * d) s h → FgM (96 * d) s X h → (∀ h', fr (fun a _ => a = 74) h h' → FgM (96 * d) s (upR X.1 j (sD s 62 i), X.2.1, X.2.2) h' → k283 h') → m_X12_simplifies_253 (r + 1) k283 Q (n32 d) (n32 i) (n32 j) h := by
  intro r
  induction r with
  | zero =>
    intro j X h hr hj R F k
    have hl := R.lt
    have n62 := (R.1.2.2.2.2.2.2.2.1 i hi hi2).2.2.2.2.2.2.2.2.2.1
    rw [m_X12_simplifies_253, n32_ix (by omega), (R.tb hi hi2).2.2.2.2.1, n32_le (by omega) (by omega)]
    refine ⟨vpI (by omega) (by decide), fun _ => k h (fr.rf _ _) ?_, fun z => absurd (by omega) z⟩
    intro z h1 h2
    obtain ⟨a1, a2, a3⟩ := F z h1 h2
    refine ⟨?_, a2, a3⟩
    show _ = fgb (if j ≤ z ∧ z < sD s 62 i then true else X.1 z)
    rw [if_neg (by omega)]; exact a1
  | succ r ih =>
    intro j X h hr hj R F k
    have hl := R.lt
    have hN := R.1.2.2.1
    have n62 := (R.1.2.2.2.2.2.2.2.1 i hi hi2).2.2.2.2.2.2.2.2.2.1
    rw [m_X12_simplifies_253, n32_ix (by omega), (R.tb hi hi2).2.2.2.2.1, n32_le (by omega) (by omega)]
    have ek : n32 j - (96 * n32 d) = n32 (j - 96 * d) := by rw [show (96 : Int32) = n32 96 from rfl, n32_mul, n32_sub (by omega)]
    rw [ek, n32_ix (by omega), i11]
    refine ⟨vpI (by omega) (by decide), fun z => absurd z (by omega), fun _ => ⟨vpI (by omega) (by decide), fun x1 e1 => ?_⟩⟩
    rw [e1, show n32 j + 1 = n32 (j + 1) from n32_add _ 1]
    have f1 : fr (fun a _ => a = 74) h (wI h 74 (j - 96 * d) (fgb true)) := fr_wI (fr.rf _ _) _ rfl
    refine ih (j + 1) _ _ (by omega) (by omega) (R.mv f1 (by omega)) (F.no hj true) (fun h' f' F' => k h' (f1.trans f') ?_)
    intro z h1 h2
    obtain ⟨a1, a2, a3⟩ := F' z h1 h2
    refine ⟨?_, a2, a3⟩
    rw [a1]
    show fgb (if j + 1 ≤ z ∧ z < sD s 62 i then true else if z = j then true else X.1 z) = fgb (if j ≤ z ∧ z < sD s 62 i then true else X.1 z)
    by_cases q : z = j
    · rw [if_neg (by omega), if_pos q, if_pos (by omega)]
    · by_cases q2 : j + 1 ≤ z ∧ z < sD s 62 i
      · rw [if_pos q2, if_pos (by omega)]
      · rw [if_neg q2, if_neg q, if_neg (by omega)]
/-- a group's nodes on their own -/
def outS' (X X' : Fg) (a e : Nat) : Prop := ∀ j, j < a ∨ e ≤ j → X'.1 j = X.1 j ∧ X'.2.1 j = X.2.1 j ∧ X'.2.2 j = X.2.2 j
set_option maxHeartbeats 4000000 in
set_option maxRecDepth 100000 in
theorem q_simplifies {d i c : Nat} {s : St} {X : Fg} {hd : Nat → Nat} {h : Hp} {Q : Hp → Prop} (R : RD (96 * d) s h) (F : FgM (96 * d) s X h) (hi : 96 * d ≤ i) (g : Gd (sD s) i (sN s)) (k4 : 4 ≤ sD s 58 i) (h63 : sD s 58 i < 6 → sD s 63 i = 0) (F1 : Fo (sD s) (i + 1) (md (sD s) i) (i + 1) 0) (F2 : Fo (sD s) (md (sD s) i) (sD s 62 i) (i + 1) 1) (n1 : X.1 i = false) (n2 : X.2.1 i = false) (D : DyB (sD s) X (i + 1) (sD s 62 i)) (e41 : hI h 51 41 = n32 c)
    (k : ∀ h' X', fr SSi h h' → FgM (96 * d) s X' h' → outS' X X' i (sD s 62 i) → (∀ j, sD s 58 j < 4 → X'.2.1 j = X.2.1 j) → SA (sD s) hd X' i (sD s 62 i) = cloC (sD s 58 i) (tl (sD s) hd i) (SA (sD s) hd X (i + 1) (md (sD s) i)) (SA (sD s) hd X (md (sD s) i) (sD s 62 i)) → DyB (sD s) X' i (sD s 62 i) → hI h' 51 41 = n32 (c + cloS (sD s 58 i) (tl (sD s) hd i) (SA (sD s) hd X (i + 1) (md (sD s) i)) (SA (sD s) hd X (md (sD s) i) (sD s 62 i))) → Q h') : m_X12_simplifies (n32 d) (n32 i) h Q := by
  obtain ⟨g1, g2, g3, g4⟩ := id g
  have hl := R.lt
  have hN := R.1.2.2.1
  have no := R.1.2.2.2.2.2.2.2.1 i hi g1
  obtain ⟨o1, -, -, o4, o5, o6, o7, -⟩ := no
  have i96 : i - 96 * d < 96 := by omega
  have gE : Gd (sD s) i (sD s 62 i) := ⟨by omega, g2, g3, Nat.le_refl _⟩
  have em : sD s 58 i < 6 → md (sD s) i = sD s 62 i := fun q => by unfold md; rw [if_pos (h63 q)]
  have vi : vp_in (n32 i) 2304 := vpI (by omega) (by decide)
  have v96 : vp_in (n32 (i - 96 * d)) 96 := vpI i96 (by decide)
  unfold m_X12_simplifies
  intro x5 e5
  have ek : n32 i - (96 * n32 d) = n32 (i - 96 * d) := by rw [show (96 : Int32) = n32 96 from rfl, n32_mul, n32_sub (by omega)]
  rw [ek] at e5
  subst e5
  rw [n32_ix (by omega), n32_ix (by omega), (R.tb hi g1).2.1]
  -- the days as they stand
  have Fa := F.dy (v := sD s 59 i) hi
  have fa : fr SSi h (wI h 76 (i - 96 * d) (n32 (sD s 59 i))) := fr_wI (fr.rf _ _) _ (by unfold SSi; omega)
  have a41 : hI (wI h 76 (i - 96 * d) (n32 (sD s 59 i))) 51 41 = n32 c := by rw [hI_wI, if_neg (by omega)]; exact e41
  generalize wI h 76 (i - 96 * d) (n32 (sD s 59 i)) = ha at Fa fa a41
  have Ra := R.mv fa (by unfold SSi SLy SPl; omega)
  have sD' : ∀ j, j ≠ i → upN X.2.2 i (sD s 59 i) j = X.2.2 j := fun j hj => by unfold upN; rw [if_neg hj]
  have sDi : upN X.2.2 i (sD s 59 i) i = sD s 59 i := by unfold upN; rw [if_pos rfl]
  generalize hdy : upN X.2.2 i (sD s 59 i) = Y at Fa sD' sDi
  have same : ∀ a e, i < a → sameOn X (X.1, X.2.1, Y) a e := fun a e ha j j1 j2 => ⟨rfl, rfl, sD' j (by omega)⟩
  have s1 := SA_same (hd := hd) _ _ _ _ F1 (same _ _ (by omega))
  have s2 := SA_same (hd := hd) _ _ _ _ F2 (same (md (sD s) i) (sD s 62 i) (by omega))
  rw [← s1, ← s2] at k
  have Da : DyB (sD s) (X.1, X.2.1, Y) (i + 1) (sD s 62 i) := fun j j1 j2 q => by
    show Y j ≤ _
    rw [sD' j (by omega)]; exact D j j1 j2 q
  have outA : outS' X (X.1, X.2.1, Y) i (sD s 62 i) := fun j hj => ⟨rfl, rfl, sD' j (by omega)⟩
  have dyi : sD s 58 i = 4 → sD s 59 i ≤ 400 * (sD s 62 i - i) := fun q => by have := o4 q; omega
  have DyA : ∀ X' : Fg, X'.2.2 = Y → DyB (sD s) X' i (sD s 62 i) := by
    intro X' e j j1 j2 q
    rw [e]
    by_cases z : j = i
    · rw [z, sDi]; exact dyi (by rw [← z]; exact q)
    · exact Da j (by omega) j2 q
  refine ⟨vi, v96, vi, ?_⟩
  rw [(Ra.tb hi g1).2.2.2.2.1, show n32 i + 1 = n32 (i + 1) from n32_add _ 1]
  refine q_partsLeft Ra Fa hi g F1 F2 (fun hb fb ob => ?_)
  have fB : fr SSi h hb := fa.trans (fb.mono (by unfold SSi SLy SPl; omega))
  have Rb := R.mv fB (by unfold SSi SLy SPl; omega)
  have Fb := Fa.mv fb (by unfold SPl; omega)
  have b41 : hI hb 51 41 = n32 c := by rw [fb.I (by unfold SPl; omega)]; exact a41
  have v1 := SA_vp (hd := hd) (X := (X.1, X.2.1, Y)) _ _ _ _ F1
  have v2 := SA_vp (hd := hd) (X := (X.1, X.2.1, Y)) _ _ _ _ F2
  generalize hf : SA (sD s) hd (X.1, X.2.1, Y) (i + 1) (md (sD s) i) = f at k v1
  generalize hs : SA (sD s) hd (X.1, X.2.1, Y) (md (sD s) i) (sD s 62 i) = t at k v2
  have t6 : sD s 58 i < 6 → t = [] := fun q => by rw [← hs, em q, SA_nil]
  have z0 : (VP (sD s) (X.1, X.2.1, Y) (i + 1) (md (sD s) i)).length + (VP (sD s) (X.1, X.2.1, Y) (md (sD s) i) (sD s 62 i)).length = 0 ↔ f = [] ∧ t = [] := by
    rw [v1, v2, fm_nil, fm_nil, ← List.length_eq_zero_iff, ← List.length_eq_zero_iff]; omega
  have vl : ∀ a e u q, Fo (sD s) a e u q → (VP (sD s) (X.1, X.2.1, Y) a e).length ≤ e - a := by
    refine Fo_ind (fun a u q => ?_) (fun a e u q g f1 f2 f3 f4 f5 f6 f7 f8 i1 i2 i3 => ?_)
    · rw [VP_nil]; exact Nat.zero_le _
    · obtain ⟨y1, y2, y3, y4⟩ := id g
      rw [VP_cons g, List.length_append]
      split
      · simp only [List.length_nil]; omega
      · split
        · rw [List.length_append]; omega
        · simp only [List.length_singleton]; omega
  have vl1 := vl _ _ _ _ F1
  have vl2 := vl _ _ _ _ F2
  intro x8 e8
  -- it becomes nothing
  have toNo : cloK (sD s 58 i) (tl (sD s) hd i) f t = 1 → m_X12_simplifies_65 Q (n32 (i - 96 * d)) hb := by
    intro ck
    unfold m_X12_simplifies_65
    rw [n32_ix (by omega), i11]
    have Fc := Fb.no hi true
    have fc : fr SSi hb (wI hb 74 (i - 96 * d) (fgb true)) := fr_wI (fr.rf _ _) _ (by unfold SSi; omega)
    have c41 : hI (wI hb 74 (i - 96 * d) (fgb true)) 51 41 = n32 c := by rw [hI_wI, if_neg (by omega)]; exact b41
    generalize wI hb 74 (i - 96 * d) (fgb true) = hc at Fc fc c41
    have fd : fr SSi hc (wI hc 51 41 (n32 (c + 1))) := fr_wI (fr.rf _ _) _ (by unfold SSi; omega)
    rw [c41, show n32 c + 1 = n32 (c + 1) from n32_add _ 1]
    refine ⟨v96, k _ _ ((fB.trans fc).trans fd) (Fc.mv (fr_wI (S := fun a _ => a = 51) (fr.rf _ _) _ rfl) (by omega)) (fun j hj => ⟨?_, rfl, sD' j (by omega)⟩) (fun j hj => rfl) ?_ (DyA _ rfl) ?_⟩
    · show (if j = i then true else X.1 j) = X.1 j
      rw [if_neg (by omega)]
    · rw [SA_cons gE, SA_nil, List.append_nil]
      rw [if_pos (show upB X.1 i true i = true by unfold upB; rw [if_pos rfl])]
      unfold cloC
      rw [if_pos ck]
    · rw [hI_wI, if_pos ⟨rfl, rfl⟩]
      unfold cloS
      rw [if_neg (by omega)]
  -- it becomes through
  have toTh : cloK (sD s 58 i) (tl (sD s) hd i) f t = 2 → sD s 58 i < 6 → m_X12_simplifies_124 Q (n32 (i - 96 * d)) hb := by
    intro ck k6
    unfold m_X12_simplifies_124
    rw [n32_ix (by omega), i11]
    have Fc := Fb.th hi true
    have fc : fr SSi hb (wI hb 75 (i - 96 * d) (fgb true)) := fr_wI (fr.rf _ _) _ (by unfold SSi; omega)
    have c41 : hI (wI hb 75 (i - 96 * d) (fgb true)) 51 41 = n32 c := by rw [hI_wI, if_neg (by omega)]; exact b41
    generalize wI hb 75 (i - 96 * d) (fgb true) = hc at Fc fc c41
    have fd : fr SSi hc (wI hc 51 41 (n32 (c + 1))) := fr_wI (fr.rf _ _) _ (by unfold SSi; omega)
    rw [c41, show n32 c + 1 = n32 (c + 1) from n32_add _ 1]
    refine ⟨v96, k _ _ ((fB.trans fc).trans fd) (Fc.mv (fr_wI (S := fun a _ => a = 51) (fr.rf _ _) _ rfl) (by omega)) (fun j hj => ⟨rfl, ?_, sD' j (by omega)⟩) (fun j hj => by show (if j = i then true else X.2.1 j) = X.2.1 j; rw [if_neg (fun z => by rw [z] at hj; omega)]) ?_ (DyA _ rfl) ?_⟩
    · show (if j = i then true else X.2.1 j) = X.2.1 j
      rw [if_neg (by omega)]
    · have sm : ∀ a e, i < a → sameOn (X.1, X.2.1, Y) (X.1, upB X.2.1 i true, Y) a e := fun a e ha j j1 j2 => ⟨rfl, by show (if j = i then true else X.2.1 j) = X.2.1 j; rw [if_neg (by omega)], rfl⟩
      rw [SA_cons gE, SA_nil, List.append_nil]
      rw [if_neg (by rw [n1]; simp), if_pos (show upB X.2.1 i true i = true by unfold upB; rw [if_pos rfl])]
      rw [SA_same _ _ _ _ F1 (sm _ _ (by omega)), SA_same _ _ _ _ F2 (sm _ _ (by omega)), hf, hs, t6 k6, List.append_nil]
      unfold cloC
      rw [t6 k6] at ck
      rw [if_neg (by omega), if_pos ck]
    · rw [hI_wI, if_pos ⟨rfl, rfl⟩]
      unfold cloS
      rw [if_neg (by omega)]
  -- it stays
  have stay : cloK (sD s 58 i) (tl (sD s) hd i) f t = 0 → ∀ hc, fr SSi hb hc → hI hc 51 41 = n32 c → FgM (96 * d) s (X.1, X.2.1, Y) hc → Q hc := by
    intro ck hc fc c41 Fc
    refine k hc _ (fB.trans fc) Fc outA (fun j hj => rfl) ?_ (DyA _ rfl) ?_
    · rw [SA_cons gE, SA_nil, List.append_nil]
      rw [if_neg (by rw [n1]; simp), if_neg (by rw [n2]; simp)]
      unfold vsC cloC
      rw [if_neg (by omega), hf, hs, if_neg (by omega), if_neg (by omega), if_neg (by omega)]
      congr 1
      unfold gt tl
      by_cases q4 : sD s 58 i = 4
      · rw [if_pos q4, if_neg (by omega)]; exact sDi
      · rw [if_neg q4]
    · rw [c41]
      unfold cloS
      rw [if_pos ck]; rfl
  have tl59 : sD s 58 i ≠ 7 → tl (sD s) hd i = sD s 59 i := fun q => by unfold tl; rw [if_neg q]
  obtain ⟨rb1, rb2, rb3, rb4, rb5, rb6⟩ := Rb.tb hi g1
  have tabs : ∀ {A B : Prop}, (A ↔ B) → (A ↔ B) := fun z => z
  rw [rb1, rb2, show (5 : Int32) = n32 5 from rfl, n32_eq (by omega) (by decide), show (0 : Int32) = n32 0 from rfl, n32_eq (by omega) (by decide)]
  have b59 : sD s 58 i < 7 → sD s 59 i < 400 := by omega
  refine ⟨fun z => toNo ?_, fun z => ⟨vi, ?_⟩⟩
  · have z' := z0.mp z
    unfold cloK
    by_cases q6 : sD s 58 i < 6
    · rw [if_pos q6, if_pos (Or.inl z'.1)]
    · rw [if_neg q6, if_pos z']
  have zn : ¬ (f = [] ∧ t = []) := fun y => z (z0.mpr y)
  have f6 : sD s 58 i < 6 → f ≠ [] := fun q y => zn ⟨y, t6 q⟩
  -- the last question
  have last : (6 ≤ sD s 58 i ∨ cloK (sD s 58 i) (tl (sD s) hd i) f t = 0) → m_X12_simplifies_218 Q (n32 d) (n32 i) (n32 (i - 96 * d)) hb := by
    intro ck
    unfold m_X12_simplifies_218
    rw [n32_ix (by omega), rb1, show (6 : Int32) = n32 6 from rfl, n32_lt (by omega) (by decide)]
    refine ⟨vi, fun q => ?_, fun q => ?_⟩
    · exact stay (by omega) hb (fr.rf _ _) b41 Fb
    · have ckk : cloK (sD s 58 i) (tl (sD s) hd i) f t = if f = t ∧ 7 ∉ f then 2 else 0 := by
        unfold cloK
        rw [if_neg q, if_neg zn]
      refine q_areAlike (hd := hd) Rb Fb hi g F1 F2 Da (by rw [hf, hs]; exact zn) (fun y hc fc => ?_) (fun y y63 hc fc => ?_)
      · rw [hf, hs] at y
        refine ⟨fun _ => stay (by rw [ckk, if_neg y]) hc (fc.mono (by unfold SSi SLy SPl; omega)) (by rw [fc.I (by unfold SLy; omega)]; exact b41) (Fb.mv fc (by unfold SLy; omega)), fun w => absurd rfl w⟩
      · rw [hf, hs] at y
        refine ⟨fun w => absurd w (by decide), fun _ => ⟨v96, vi, fun x4 e4 => ?_⟩⟩
        have Fc := Fb.mv fc (by unfold SLy; omega)
        have fC : fr SSi h hc := fB.trans (fc.mono (by unfold SSi SLy SPl; omega))
        have c41 : hI hc 51 41 = n32 c := by rw [fc.I (by unfold SLy; omega)]; exact b41
        have Fd := Fc.th hi true
        rw [n32_ix (by omega), i11] at e4 ⊢
        have fd : fr SSi hc (wI hc 75 (i - 96 * d) (fgb true)) := fr_wI (fr.rf _ _) _ (by unfold SSi; omega)
        have d41 : hI (wI hc 75 (i - 96 * d) (fgb true)) 51 41 = n32 c := by rw [hI_wI, if_neg (by omega)]; exact c41
        generalize wI hc 75 (i - 96 * d) (fgb true) = hd' at Fd fd d41 e4
        have fD := fC.trans fd
        have Rd := R.mv fD (by unfold SSi SLy SPl; omega)
        have em' : md (sD s) i = sD s 63 i - 1 := by unfold md; rw [if_neg y63]
        rw [(Rd.tb hi g1).2.2.2.2.2, pm_n32 (by omega), ← em'] at e4
        rw [e4]
        refine ⟨sD s 62 i - md (sD s) i + 1, q_simp253 hi g1 _ _ _ hd' (by omega) (by omega) Rd Fd (fun he fe Fe => ?_)⟩
        unfold m_X12_simplifies_283
        have e41' : hI he 51 41 = n32 c := by rw [fe.I (by omega)]; exact d41
        rw [e41', show n32 c + 1 = n32 (c + 1) from n32_add _ 1]
        have ff : fr SSi he (wI he 51 41 (n32 (c + 1))) := fr_wI (fr.rf _ _) _ (by unfold SSi; omega)
        refine k _ _ ((fD.trans (fe.mono (by unfold SSi SLy SPl; omega))).trans ff) (Fe.mv (fr_wI (S := fun a _ => a = 51) (fr.rf _ _) _ rfl) (by omega)) (fun j hj => ⟨?_, ?_, sD' j (by omega)⟩) (fun j hj => by show (if j = i then true else X.2.1 j) = X.2.1 j; rw [if_neg (fun z => by rw [z] at hj; omega)]) ?_ (DyA _ rfl) ?_
        · show (if md (sD s) i ≤ j ∧ j < sD s 62 i then true else X.1 j) = X.1 j
          rw [if_neg (by omega)]
        · show (if j = i then true else X.2.1 j) = X.2.1 j
          rw [if_neg (by omega)]
        · rw [SA_cons gE, SA_nil, List.append_nil]
          rw [if_neg (show ¬ upR X.1 (md (sD s) i) (sD s 62 i) i = true by unfold upR; rw [if_neg (by omega), n1]; simp), if_pos (show upB X.2.1 i true i = true by unfold upB; rw [if_pos rfl])]
          rw [SA_no (hd := hd) (X := (upR X.1 (md (sD s) i) (sD s 62 i), upB X.2.1 i true, Y)) _ _ _ _ F2 (fun j j1 j2 => by show (if md (sD s) i ≤ j ∧ j < sD s 62 i then true else X.1 j) = true; rw [if_pos ⟨j1, j2⟩]), List.append_nil]
          have sm : sameOn (X.1, X.2.1, Y) (upR X.1 (md (sD s) i) (sD s 62 i), upB X.2.1 i true, Y) (i + 1) (md (sD s) i) := fun j j1 j2 => ⟨by show (if md (sD s) i ≤ j ∧ j < sD s 62 i then true else X.1 j) = X.1 j; rw [if_neg (by omega)], by show (if j = i then true else X.2.1 j) = X.2.1 j; rw [if_neg (by omega)], rfl⟩
          rw [SA_same _ _ _ _ F1 sm, hf]
          unfold cloC
          rw [ckk, if_pos y, if_neg (by decide), if_pos rfl]
        · rw [hI_wI, if_pos ⟨rfl, rfl⟩]
          unfold cloS
          rw [ckk, if_pos y, if_neg (by decide)]
  -- the third question
  have third : (sD s 58 i < 6 → ¬ (sD s 58 i = 5 ∧ sD s 59 i = 0) ∧ ¬ (sD s 58 i = 4 ∧ sD s 59 i = 0 ∨ sD s 58 i = 5 ∧ sD s 59 i = 1)) → m_X12_simplifies_144 Q (n32 d) (n32 i) (n32 (i - 96 * d)) (n32 ((VP (sD s) (X.1, X.2.1, Y) (i + 1) (md (sD s) i)).length + (VP (sD s) (X.1, X.2.1, Y) (md (sD s) i) (sD s 62 i)).length)) x8 hb := by
    intro hq
    have ck6 : sD s 58 i < 6 → cloK (sD s 58 i) (tl (sD s) hd i) f t = if sD s 58 i = 4 ∧ isJA f = true then 3 else 0 := by
      intro q
      unfold cloK
      rw [if_pos q, tl59 (by omega), if_neg (fun y => y.elim (f6 q) (hq q).1), if_neg (hq q).2]
    unfold m_X12_simplifies_144
    rw [n32_ix (by omega), rb1, show (4 : Int32) = n32 4 from rfl, n32_eq (by omega) (by decide), show (1 : Int32) = n32 1 from rfl, n32_eq (by omega) (by decide)]
    refine ⟨vi, fun q => last ?_, fun q => ⟨fun y => last (Or.inr ?_), fun y => ?_⟩⟩
    · by_cases q6 : sD s 58 i < 6
      · exact Or.inr (by rw [ck6 q6, if_neg (fun w => q w.1)])
      · exact Or.inl (by omega)
    · rw [ck6 (by omega), if_neg]
      rintro ⟨-, w⟩
      rw [← hf, isJA_iff F1] at w
      obtain ⟨x, w1, w2⟩ := w
      have : VP (sD s) (X.1, X.2.1, Y) (md (sD s) i) (sD s 62 i) = [] := by rw [em (by omega), VP_nil]
      rw [w1, this] at y
      exact y rfl
    · have e2 : VP (sD s) (X.1, X.2.1, Y) (md (sD s) i) (sD s 62 i) = [] := by rw [em (by omega), VP_nil]
      rw [e2, List.length_nil, Nat.add_zero] at y
      obtain ⟨x, ex⟩ := List.length_eq_one_iff.mp y
      have hx8 : x8 = n32 x := by
        rw [e8, ob, e2, ex]; rfl
      obtain ⟨y1, y2, y3, y4, e', u', q', y5, y6, y7⟩ := VP_in _ _ _ _ F1 x (by rw [ex]; simp)
      have yle := Fo_le y6
      obtain ⟨gx, -, -, x3, x4, x5, x6, x7, -⟩ := Fo_cons y6 y5
      obtain ⟨gx1, gx2, gx3, gx4⟩ := id gx
      rw [hx8, n32_ix (by omega), (Rb.tb (i := x) (by omega) (by omega)).1, n32_eq (by omega) (by decide)]
      have xk : n32 x - (96 * n32 d) = n32 (x - 96 * d) := by rw [show (96 : Int32) = n32 96 from rfl, n32_mul, n32_sub (by omega)]
      have vx : vp_in (n32 (x - 96 * d)) 96 := vpI (by omega) (by decide)
      refine ⟨vpI (by omega) (by decide), fun w => last (Or.inr ?_), fun w => ?_⟩
      · rw [ck6 (by omega), if_neg]
        rintro ⟨-, ww⟩
        rw [← hf, isJA_iff F1] at ww
        obtain ⟨x', w1, w2⟩ := ww
        rw [ex] at w1
        injection w1 with w1 _
        subst w1
        exact w w2
      · rw [xk]
        refine ⟨v96, vx, v96, vx, ?_⟩
        rw [n32_ix (by omega), n32_ix (by omega), (Fb i hi g1).2.2, (Fb x (by omega) (by omega)).2.2]
        have ydef : ∀ z, (X.1, X.2.1, Y).2.2 z = Y z := fun _ => rfl
        rw [ydef, ydef, sDi, n32_add, show (n32 1 &&& n32 1 : Int32) = fgb true from by decide]
        have Fc := (Fb.dy (v := sD s 59 i + Y x) hi).th (i := x) (by omega) true
        have fc : fr SSi hb (wI (wI hb 76 (i - 96 * d) (n32 (sD s 59 i + Y x))) 75 (x - 96 * d) (fgb true)) := fr_wI (fr_wI (fr.rf _ _) _ (by unfold SSi; omega)) _ (by unfold SSi; omega)
        have c41 : hI (wI (wI hb 76 (i - 96 * d) (n32 (sD s 59 i + Y x))) 75 (x - 96 * d) (fgb true)) 51 41 = n32 c := by rw [hI_wI, if_neg (by omega), hI_wI, if_neg (by omega)]; exact b41
        generalize wI (wI hb 76 (i - 96 * d) (n32 (sD s 59 i + Y x))) 75 (x - 96 * d) (fgb true) = hc at Fc fc c41
        dsimp only at Fc
        rw [c41, show n32 c + n32 1 = n32 (c + 1) from n32_add _ 1]
        have ff : fr SSi hc (wI hc 51 41 (n32 (c + 1))) := fr_wI (fr.rf _ _) _ (by unfold SSi; omega)
        have ja : isJA f = true := by rw [← hf, isJA_iff F1]; exact ⟨x, ex, w⟩
        have ck3 : cloK (sD s 58 i) (tl (sD s) hd i) f t = 3 := by rw [ck6 (by omega), if_pos ⟨q, ja⟩]
        have xdy := Da x (by omega) (by omega) w
        have mx : md (sD s) x = sD s 62 x := by unfold md; rw [if_pos (x5 (by omega))]
        refine k _ _ ((fB.trans fc).trans ff) (Fc.mv (fr_wI (S := fun a _ => a = 51) (fr.rf _ _) _ rfl) (by omega)) (fun j hj => ⟨rfl, ?_, ?_⟩) (fun j hj => by show (if j = x then true else X.2.1 j) = X.2.1 j; rw [if_neg (fun z => by rw [z] at hj; omega)]) ?_ (fun j j1 j2 jq => ?_) ?_
        · show (if j = x then true else X.2.1 j) = X.2.1 j
          rw [if_neg (by omega)]
        · show (if j = i then sD s 59 i + Y x else Y j) = X.2.2 j
          rw [if_neg (by omega)]; exact sD' j (by omega)
        · rw [SA_cons gE, SA_nil, List.append_nil]
          rw [if_neg (show ¬ X.1 i = true by rw [n1]; simp), if_neg (show ¬ upB X.2.1 x true i = true by unfold upB; rw [if_neg (by omega), n2]; simp)]
          unfold vsC
          rw [if_neg (by omega), em (by omega), SA_nil, ← em (by omega)]
          have so := SA_one (nd := sD s) (hd := hd) (X := (X.1, X.2.1, Y)) (X' := (X.1, upB X.2.1 x true, upN Y i (sD s 59 i + Y x))) (x := x) (fun j => rfl) (fun j => rfl) (fun j hj => by show (if j = i then _ else Y j) = Y j; rw [if_neg (by omega)]) _ _ _ _ F1 (fun j hj => by show (if j = i then _ else Y j) = Y j; rw [if_neg (by omega)]) ex
          rw [so, mx, SA_nil, List.append_nil]
          have ef : f = 4 :: (Y x + 8) :: ((SA (sD s) hd (X.1, X.2.1, Y) (x + 1) (sD s 62 x)).length + 8) :: SA (sD s) hd (X.1, X.2.1, Y) (x + 1) (sD s 62 x) := by
            rw [v1, ex, List.flatMap_cons, List.flatMap_nil, List.append_nil]
            unfold vsC grC gt
            rw [if_neg (by omega), if_pos (by omega), if_pos w, mx, w]
          unfold cloC
          rw [ck3, if_neg (by decide), if_neg (by decide), if_pos rfl, ef]
          unfold grC gt
          rw [if_pos (by omega), if_pos q, q]
          show 4 :: ((if i = i then sD s 59 i + Y x else Y i) + 8) :: _ = 4 :: (Y x + 8 + tl (sD s) hd i) :: _
          rw [if_pos rfl, tl59 (by omega)]
          congr 2
          omega
        · show (if j = i then sD s 59 i + Y x else Y j) ≤ _
          by_cases z : j = i
          · rw [if_pos z, z]
            have := o4 q
            have : Y x ≤ 400 * (sD s 62 x - x) := xdy
            omega
          · rw [if_neg z]; exact Da j (by omega) j2 jq
        · rw [hI_wI, if_pos ⟨rfl, rfl⟩]
          unfold cloS
          rw [ck3, if_neg (by decide)]
  -- the second question
  have second : (sD s 58 i < 6 → ¬ (sD s 58 i = 5 ∧ sD s 59 i = 0)) → m_X12_simplifies_85 Q (n32 d) (n32 i) (n32 (i - 96 * d)) (n32 ((VP (sD s) (X.1, X.2.1, Y) (i + 1) (md (sD s) i)).length + (VP (sD s) (X.1, X.2.1, Y) (md (sD s) i) (sD s 62 i)).length)) x8 hb := by
    intro hq
    have ck2 : sD s 58 i = 4 ∧ sD s 59 i = 0 ∨ sD s 58 i = 5 ∧ sD s 59 i = 1 → cloK (sD s 58 i) (tl (sD s) hd i) f t = 2 := by
      intro q
      unfold cloK
      rw [if_pos (by omega), tl59 (by omega), if_neg (fun y => y.elim (f6 (by omega)) (hq (by omega))), if_pos q]
    have m104 : ¬ (sD s 58 i = 4 ∧ sD s 59 i = 0) → m_X12_simplifies_104 Q (n32 d) (n32 i) (n32 (i - 96 * d)) (n32 ((VP (sD s) (X.1, X.2.1, Y) (i + 1) (md (sD s) i)).length + (VP (sD s) (X.1, X.2.1, Y) (md (sD s) i) (sD s 62 i)).length)) x8 hb := by
      intro hq4
      unfold m_X12_simplifies_104
      rw [n32_ix (by omega), rb1, rb2, show (5 : Int32) = n32 5 from rfl, n32_eq (by omega) (by decide)]
      refine ⟨vi, fun q => third (fun q6 => ⟨hq q6, fun y => y.elim hq4 (fun w => q w.1)⟩), fun q => ⟨vi, ?_⟩⟩
      have := b59 (by omega)
      rw [show (1 : Int32) = n32 1 from rfl, n32_eq (by omega) (by decide)]
      exact ⟨fun w => third (fun q6 => ⟨hq q6, fun y => y.elim hq4 (fun v => w v.2)⟩), fun w => toTh (ck2 (Or.inr ⟨q, w⟩)) (by omega)⟩
    unfold m_X12_simplifies_85
    rw [n32_ix (by omega), rb1, rb2, show (4 : Int32) = n32 4 from rfl, n32_eq (by omega) (by decide)]
    refine ⟨vi, fun q => m104 (fun w => q w.1), fun q => ⟨vi, ?_⟩⟩
    have := b59 (by omega)
    rw [show (0 : Int32) = n32 0 from rfl, n32_eq (by omega) (by decide)]
    exact ⟨fun w => toTh (ck2 (Or.inl ⟨q, w⟩)) (by omega), fun w => m104 (fun v => w v.2)⟩
  refine ⟨fun q => second (fun _ w => q w.1), fun q => ⟨vi, ?_⟩⟩
  have := b59 (by omega)
  rw [n32_eq (by omega) (by decide)]
  refine ⟨fun w => second (fun _ v => w v.2), fun w => toNo ?_⟩
  unfold cloK
  rw [if_pos (by omega), tl59 (by omega), if_pos (Or.inr ⟨q, w⟩)]
