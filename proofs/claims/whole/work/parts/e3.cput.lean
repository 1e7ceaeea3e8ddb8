/-! THE CLASS: a leaf is put to a deal, and its rows -/
def LvC (a : Nat) (L : List Rec) (h : Hp) : Prop := hI h a 2 = n32 L.length ∧ hI h a 5 = n32 (thBits L) ∧ ∀ k, k < L.length → ∀ w, w < 8 → hI h (a + 1) (8 * k + w) = n32 ((L.getD k rec0) w)
def RwP (a : Nat) (R : List Rec) (h : Hp) : Prop := hI h a 6 = n32 R.length ∧ ∀ k, k < R.length → (∀ j, j < 6 → hI h (a + 2) (6 * k + j) = n32 ((R.getD k rec0) j)) ∧ hJ h (a + 3) k = z64 ((R.getD k rec0) 6 : Nat)
theorem LvC.mv {a : Nat} {L : List Rec} {h h' : Hp} {S : Nat → Nat → Prop} (V : LvC a L h) (f : fr S h h') (n2 : ¬ S a 2) (n5 : ¬ S a 5) (n : ∀ k, ¬ S (a + 1) k) : LvC a L h' :=
  ⟨by rw [f.I n2]; exact V.1, by rw [f.I n5]; exact V.2.1, fun k hk w hw => by rw [f.I (n _)]; exact V.2.2 k hk w hw⟩
theorem RwP.mv {a : Nat} {R : List Rec} {h h' : Hp} {S : Nat → Nat → Prop} (V : RwP a R h) (f : fr S h h') (n6 : ¬ S a 6) (n2 : ∀ k, ¬ S (a + 2) k) (n3 : ∀ k, ¬ S (a + 3) k) : RwP a R h' :=
  ⟨by rw [f.I n6]; exact V.1, fun k hk => ⟨fun j hj => by rw [f.I (n2 _)]; exact (V.2 k hk).1 j hj, by rw [f.J (n3 _)]; exact (V.2 k hk).2⟩⟩
theorem thBits_app (L : List Rec) (r : Rec) : thBits (L ++ [r]) = thBits L ||| 2 ^ r 3 := by unfold thBits; rw [List.foldl_append]; rfl
def SPv (a q j : Nat) : Prop := q = a ∧ (j = 2 ∨ j = 5) ∨ q = a + 1
set_option maxHeartbeats 4000000 in
set_option maxRecDepth 100000 in
theorem c_putLeafD {a l : Nat} {L : List Rec} {r r' : Rec} {h : Hp} {Q : Hp → Prop} (ha : 108 ≤ a) (hL : L.length < 12) (V : LvC a L h) (s : ∀ j, j < 8 → hI h 7 j = n32 (r j)) (r3 : r 3 < 6) (tb : thBits L < 256) (er : ∀ j, j < 6 → r' j = r j) (e6 : r' 6 = r 6 + l) (e7 : r' 7 = r 7 + l) (k : ∀ h', fr (SPv a) h h' → LvC a (L ++ [r']) h' → Q h') : m_X1_putLeaf a 7 8 (n32 l) h Q := by
  unfold m_X1_putLeaf
  obtain ⟨v1, v2, v3⟩ := V
  rw [v1, show (12 : Int32) = n32 12 from rfl, n32_lt (by omega) (by omega)]
  refine ⟨fun _ => ?_, fun z => absurd hL z⟩
  intro x1 e1
  rw [show (8 : Int32) = n32 8 from rfl, n32_mul, Nat.mul_comm] at e1
  subst e1
  rw [show n32 (8 * L.length) + 6 = n32 (8 * L.length + 6) from n32_add _ 6, show n32 (8 * L.length) + 7 = n32 (8 * L.length + 7) from n32_add _ 7, show (0 : Int32) = n32 0 from rfl, show (8 : Int32) = n32 8 from rfl, show (3 : Int32) = n32 3 from rfl, n32_ix (by omega), n32_ix (by omega), n32_ix (by omega), n32_ix (by omega), n32_ix (by omega), n32_ix (by omega), n32_lt (by omega) (by omega), n32_lt (by omega) (by omega), n32_lt (by omega) (by omega)]
  refine ⟨by omega, by omega, by omega, by omega, by omega, vpI (by omega) (by decide), vpI (by omega) (by decide), vpI (by omega) (by decide), vpI (by omega) (by decide), vpI (by omega) (by decide), ?_⟩
  have f1 : fr (fun q j => q = a + 1 ∧ 8 * L.length ≤ j) h (cpI h 7 0 (a + 1) (8 * L.length) 8) := fr_cpI (fr.rf _ _) _ _ _ _ _ (fun j h1 _ => ⟨rfl, h1⟩)
  have c1 : ∀ j, j < 8 → hI (cpI h 7 0 (a + 1) (8 * L.length) 8) (a + 1) (8 * L.length + j) = n32 (r j) := fun j hj => by
    rw [hI_cpI, if_pos (by omega), show 0 + (8 * L.length + j - 8 * L.length) = j by omega]; exact s j hj
  generalize cpI h 7 0 (a + 1) (8 * L.length) 8 = h1 at f1 c1
  rw [c1 6 (by decide), n32_add]
  have f2 : fr (fun q j => q = a + 1 ∧ j = 8 * L.length + 6) h1 (wI h1 (a + 1) (8 * L.length + 6) (n32 (r 6 + l))) := fr_wI (fr.rf _ _) _ ⟨rfl, rfl⟩
  have c2 : hI (wI h1 (a + 1) (8 * L.length + 6) (n32 (r 6 + l))) (a + 1) (8 * L.length + 6) = n32 (r 6 + l) := by rw [hI_wI, if_pos ⟨rfl, rfl⟩]
  generalize wI h1 (a + 1) (8 * L.length + 6) (n32 (r 6 + l)) = h2 at f2 c2
  have y7 : hI h2 (a + 1) (8 * L.length + 7) = n32 (r 7) := by rw [f2.I (by omega)]; exact c1 7 (by decide)
  rw [y7, n32_add]
  have f3 : fr (fun q j => q = a + 1 ∧ j = 8 * L.length + 7) h2 (wI h2 (a + 1) (8 * L.length + 7) (n32 (r 7 + l))) := fr_wI (fr.rf _ _) _ ⟨rfl, rfl⟩
  have c3 : hI (wI h2 (a + 1) (8 * L.length + 7) (n32 (r 7 + l))) (a + 1) (8 * L.length + 7) = n32 (r 7 + l) := by rw [hI_wI, if_pos ⟨rfl, rfl⟩]
  generalize wI h2 (a + 1) (8 * L.length + 7) (n32 (r 7 + l)) = h3 at f3 c3
  have y5 : hI h3 a 5 = n32 (thBits L) := by rw [f3.I (by omega), f2.I (by omega), f1.I (by omega)]; exact v2
  have y3 : hI h3 7 3 = n32 (r 3) := by rw [f3.I (by omega), f2.I (by omega), f1.I (by omega)]; exact s 3 (by decide)
  have p : 2 ^ r 3 ≤ 2 ^ 5 := pw_le (by omega)
  rw [y5, y3, show (1 : Int32) = n32 1 from rfl, show (31 : Int32) = n32 31 from rfl, shl1 (by omega), n32_or (by omega) (by omega)]
  have f4 : fr (fun q j => q = a ∧ j = 5) h3 (wI h3 a 5 (n32 (thBits L ||| 2 ^ r 3))) := fr_wI (fr.rf _ _) _ ⟨rfl, rfl⟩
  have c4 : hI (wI h3 a 5 (n32 (thBits L ||| 2 ^ r 3))) a 5 = n32 (thBits L ||| 2 ^ r 3) := by rw [hI_wI, if_pos ⟨rfl, rfl⟩]
  generalize wI h3 a 5 (n32 (thBits L ||| 2 ^ r 3)) = h4 at f4 c4
  have y2 : hI h4 a 2 = n32 L.length := by rw [f4.I (by omega), f3.I (by omega), f2.I (by omega), f1.I (by omega)]; exact v1
  rw [y2, n32_add]
  have f5 : fr (fun q j => q = a ∧ j = 2) h4 (wI h4 a 2 (n32 (L.length + 1))) := fr_wI (fr.rf _ _) _ ⟨rfl, rfl⟩
  have c5 : hI (wI h4 a 2 (n32 (L.length + 1))) a 2 = n32 (L.length + 1) := by rw [hI_wI, if_pos ⟨rfl, rfl⟩]
  generalize wI h4 a 2 (n32 (L.length + 1)) = h5 at f5 c5
  refine k h5 ((((f1.mono (by unfold SPv; omega)).trans (f2.mono (by unfold SPv; omega))).trans (f3.mono (by unfold SPv; omega))).trans (f4.mono (by unfold SPv; omega)) |>.trans (f5.mono (by unfold SPv; omega))) ⟨?_, ?_, fun j hj w hw => ?_⟩
  · rw [c5, List.length_append]; rfl
  · rw [f5.I (by omega), c4, thBits_app, er 3 (by decide)]
  · rw [List.length_append, List.length_singleton] at hj
    rw [f5.I (by omega), f4.I (by omega)]
    by_cases qj : j = L.length
    · subst qj
      rw [getD_rec_at]
      by_cases w7 : w = 7
      · subst w7; rw [c3, e7]
      · rw [f3.I (by omega)]
        by_cases w6 : w = 6
        · subst w6; rw [c2, e6]
        · rw [f2.I (by omega), c1 w hw, er w (by omega)]
    · rw [getD_rec_lt (by omega), f3.I (by omega), f2.I (by omega), f1.I (by omega)]
      exact v3 j (by omega) w hw
def SPw (a q j : Nat) : Prop := q = a ∧ j = 6 ∨ q = a + 2 ∨ q = a + 3
set_option maxHeartbeats 4000000 in
set_option maxRecDepth 100000 in
theorem c_putRow93 {a kk w g md vl th : Nat} {q : Rec} {R : List Rec} {h0 h : Hp} {Q : Hp → Prop} (ha : 108 ≤ a) (hR : R.length < 36) (V : RwP a R h0) (f0 : fr (fun b j => b = a + 2 ∧ 6 * R.length ≤ j) h0 h) (x0 : hI h (a + 2) (6 * R.length) = n32 (q 0)) (x1 : hI h (a + 2) (6 * R.length + 1) = n32 (q 1)) (hk : kk + w < 96) (x2 : hI h (a + 1) (kk + w) = n32 (q 2)) (q3 : q 3 = th) (q4 : q 4 = md) (q5 : q 5 = vl) (q6 : q 6 = g) (k : ∀ h', fr (SPw a) h0 h' → RwP a (R ++ [q]) h' → Q h') :
    m_X1_putRow_93 Q a (n32 th) (z64 (g : Nat)) (n32 md) (n32 vl) (n32 (6 * R.length)) (a + 2) (n32 (6 * R.length) + 2) (a + 1) (n32 kk) (n32 w) h := by
  unfold m_X1_putRow_93
  obtain ⟨v1, v2⟩ := V
  rw [n32_add, show n32 (6 * R.length) + 2 = n32 (6 * R.length + 2) from n32_add _ 2, show n32 (6 * R.length) + 3 = n32 (6 * R.length + 3) from n32_add _ 3, show n32 (6 * R.length) + 4 = n32 (6 * R.length + 4) from n32_add _ 4, show n32 (6 * R.length) + 5 = n32 (6 * R.length + 5) from n32_add _ 5, n32_ix (by omega), n32_ix (by omega), n32_ix (by omega), n32_ix (by omega), n32_ix (by omega), x2]
  refine ⟨vpI hk (by decide), vpI (by omega) (by decide), vpI (by omega) (by decide), vpI (by omega) (by decide), vpI (by omega) (by decide), ?_⟩
  have f1 : fr (fun b j => b = a + 2 ∧ 6 * R.length + 2 ≤ j) h (wI (wI (wI (wI h (a + 2) (6 * R.length + 2) (n32 (q 2))) (a + 2) (6 * R.length + 3) (n32 th)) (a + 2) (6 * R.length + 4) (n32 md)) (a + 2) (6 * R.length + 5) (n32 vl)) := fr_wI (fr_wI (fr_wI (fr_wI (fr.rf _ _) _ (by omega)) _ (by omega)) _ (by omega)) _ (by omega)
  have c2 : hI (wI (wI (wI (wI h (a + 2) (6 * R.length + 2) (n32 (q 2))) (a + 2) (6 * R.length + 3) (n32 th)) (a + 2) (6 * R.length + 4) (n32 md)) (a + 2) (6 * R.length + 5) (n32 vl)) (a + 2) (6 * R.length + 2) = n32 (q 2) := by rw [hI_wI, if_neg (by omega), hI_wI, if_neg (by omega), hI_wI, if_neg (by omega), hI_wI, if_pos ⟨rfl, rfl⟩]
  have c3 : hI (wI (wI (wI (wI h (a + 2) (6 * R.length + 2) (n32 (q 2))) (a + 2) (6 * R.length + 3) (n32 th)) (a + 2) (6 * R.length + 4) (n32 md)) (a + 2) (6 * R.length + 5) (n32 vl)) (a + 2) (6 * R.length + 3) = n32 th := by rw [hI_wI, if_neg (by omega), hI_wI, if_neg (by omega), hI_wI, if_pos ⟨rfl, rfl⟩]
  have c4 : hI (wI (wI (wI (wI h (a + 2) (6 * R.length + 2) (n32 (q 2))) (a + 2) (6 * R.length + 3) (n32 th)) (a + 2) (6 * R.length + 4) (n32 md)) (a + 2) (6 * R.length + 5) (n32 vl)) (a + 2) (6 * R.length + 4) = n32 md := by rw [hI_wI, if_neg (by omega), hI_wI, if_pos ⟨rfl, rfl⟩]
  have c5 : hI (wI (wI (wI (wI h (a + 2) (6 * R.length + 2) (n32 (q 2))) (a + 2) (6 * R.length + 3) (n32 th)) (a + 2) (6 * R.length + 4) (n32 md)) (a + 2) (6 * R.length + 5) (n32 vl)) (a + 2) (6 * R.length + 5) = n32 vl := by rw [hI_wI, if_pos ⟨rfl, rfl⟩]
  generalize wI (wI (wI (wI h (a + 2) (6 * R.length + 2) (n32 (q 2))) (a + 2) (6 * R.length + 3) (n32 th)) (a + 2) (6 * R.length + 4) (n32 md)) (a + 2) (6 * R.length + 5) (n32 vl) = h1 at f1 c2 c3 c4 c5
  have y6 : hI h1 a 6 = n32 R.length := by rw [f1.I (by omega), f0.I (by omega)]; exact v1
  rw [y6, n32_ix (by omega), hI_wJ, y6, show n32 R.length + 1 = n32 (R.length + 1) from n32_add _ 1]
  refine ⟨vpI (by omega) (by decide), ?_⟩
  have f2 : fr (fun b j => b = a + 3 ∧ j = R.length ∨ b = a ∧ j = 6) h1 (wI (wJ h1 (a + 3) R.length (z64 (g : Nat))) a 6 (n32 (R.length + 1))) := fr_wI (fr_wJ (fr.rf _ _) _ (by omega)) _ (by omega)
  have d6 : hI (wI (wJ h1 (a + 3) R.length (z64 (g : Nat))) a 6 (n32 (R.length + 1))) a 6 = n32 (R.length + 1) := by rw [hI_wI, if_pos ⟨rfl, rfl⟩]
  have dJ : hJ (wI (wJ h1 (a + 3) R.length (z64 (g : Nat))) a 6 (n32 (R.length + 1))) (a + 3) R.length = z64 (g : Nat) := by rw [hJ_wI, hJ_wJ, if_pos ⟨rfl, rfl⟩]
  generalize wI (wJ h1 (a + 3) R.length (z64 (g : Nat))) a 6 (n32 (R.length + 1)) = h2 at f2 d6 dJ
  refine k h2 (((f0.mono (by unfold SPw; omega)).trans (f1.mono (by unfold SPw; omega))).trans (f2.mono (by unfold SPw; omega))) ⟨?_, fun j hj => ?_⟩
  · rw [d6, List.length_append]; rfl
  · rw [List.length_append, List.length_singleton] at hj
    by_cases qj : j = R.length
    · subst qj
      rw [getD_rec_at]
      refine ⟨fun i hi => ?_, by rw [dJ, q6]⟩
      rw [f2.I (by omega)]
      have hi6 : i = 0 ∨ i = 1 ∨ i = 2 ∨ i = 3 ∨ i = 4 ∨ i = 5 := by omega
      rcases hi6 with rfl | rfl | rfl | rfl | rfl | rfl
      · rw [f1.I (by omega), Nat.add_zero]; exact x0
      · rw [f1.I (by omega)]; exact x1
      · exact c2
      · rw [c3, q3]
      · rw [c4, q4]
      · rw [c5, q5]
    · rw [getD_rec_lt (by omega)]
      obtain ⟨w1, w2⟩ := v2 j (by omega)
      exact ⟨fun i hi => by rw [f2.I (by omega), f1.I (by omega), f0.I (by omega)]; exact w1 i hi, by rw [f2.J (by omega), f1.J (by omega), f0.J (by omega)]; exact w2⟩
set_option maxHeartbeats 4000000 in
set_option maxRecDepth 100000 in
theorem c_putRow {a kk g md vl th : Nat} {bk : Bool} {q : Rec} {R : List Rec} {h : Hp} {Q : Hp → Prop} (ha : 108 ≤ a) (hR : R.length < 36) (V : RwP a R h) (hk : kk + 7 < 96) (x0 : hI h (a + 1) (kk + (if bk then 7 else 6)) = n32 (q 0)) (x1 : hI h (a + 1) (kk + (if bk then 2 else 1)) = n32 (q 1)) (x2 : hI h (a + 1) (kk + (if bk then 1 else 2)) = n32 (q 2)) (q3 : q 3 = th) (q4 : q 4 = md) (q5 : q 5 = vl) (q6 : q 6 = g) (k : ∀ h', fr (SPw a) h h' → RwP a (R ++ [q]) h' → Q h') : m_X1_putRow a (n32 kk) (bI bk) (n32 th) (z64 (g : Nat)) (n32 md) (n32 vl) h Q := by
  unfold m_X1_putRow
  rw [V.1, show (36 : Int32) = n32 36 from rfl, n32_lt (by omega) (by omega)]
  refine ⟨fun _ => ?_, fun z => absurd hR z⟩
  intro y1 e1
  rw [show (6 : Int32) = n32 6 from rfl, n32_mul, Nat.mul_comm] at e1
  subst e1
  have go : ∀ w0 w1 w2 : Nat, w0 ≤ 7 → w1 ≤ 7 → w2 ≤ 7 → hI h (a + 1) (kk + w0) = n32 (q 0) → hI h (a + 1) (kk + w1) = n32 (q 1) → hI h (a + 1) (kk + w2) = n32 (q 2) →
      vp_in (n32 kk + n32 w0) 96 ∧ vp_in (n32 (6 * R.length) + 0) 216 ∧ (vp_in (n32 kk + n32 w1) 96 ∧ (vp_in (n32 (6 * R.length) + 1) 216 ∧ m_X1_putRow_93 Q a (n32 th) (z64 (g : Nat)) (n32 md) (n32 vl) (n32 (6 * R.length)) (a + 2) (n32 (6 * R.length) + 2) (a + 1) (n32 kk) (n32 w2) (wI (wI h (a + 2) (ix (n32 (6 * R.length) + 0)) (hI h (a + 1) (ix (n32 kk + n32 w0)))) (a + 2) (ix (n32 (6 * R.length) + 1)) (hI (wI h (a + 2) (ix (n32 (6 * R.length) + 0)) (hI h (a + 1) (ix (n32 kk + n32 w0)))) (a + 1) (ix (n32 kk + n32 w1)))))) := by
    intro w0 w1 w2 h0 h1 h2 z0 z1 z2
    rw [n32_add, n32_add, show n32 (6 * R.length) + 0 = n32 (6 * R.length) from n32_add _ 0, show n32 (6 * R.length) + 1 = n32 (6 * R.length + 1) from n32_add _ 1, n32_ix (by omega), n32_ix (by omega), n32_ix (by omega), n32_ix (by omega), z0]
    refine ⟨vpI (by omega) (by decide), vpI (by omega) (by decide), vpI (by omega) (by decide), vpI (by omega) (by decide), ?_⟩
    rw [hI_wI, if_neg (by omega), z1]
    have f1 : fr (fun b j => b = a + 2 ∧ 6 * R.length ≤ j) h (wI (wI h (a + 2) (6 * R.length) (n32 (q 0))) (a + 2) (6 * R.length + 1) (n32 (q 1))) := fr_wI (fr_wI (fr.rf _ _) _ (by omega)) _ (by omega)
    have c0 : hI (wI (wI h (a + 2) (6 * R.length) (n32 (q 0))) (a + 2) (6 * R.length + 1) (n32 (q 1))) (a + 2) (6 * R.length) = n32 (q 0) := by rw [hI_wI, if_neg (by omega), hI_wI, if_pos ⟨rfl, rfl⟩]
    have c1 : hI (wI (wI h (a + 2) (6 * R.length) (n32 (q 0))) (a + 2) (6 * R.length + 1) (n32 (q 1))) (a + 2) (6 * R.length + 1) = n32 (q 1) := by rw [hI_wI, if_pos ⟨rfl, rfl⟩]
    generalize wI (wI h (a + 2) (6 * R.length) (n32 (q 0))) (a + 2) (6 * R.length + 1) (n32 (q 1)) = h3 at f1 c0 c1
    exact c_putRow93 ha hR V f1 c0 c1 (by omega) (by rw [f1.I (by omega)]; exact z2) q3 q4 q5 q6 k
  cases bk with
  | false =>
    obtain ⟨g1, g2, g3, g4, g5⟩ := go 6 1 2 (by omega) (by omega) (by omega) x0 x1 x2
    refine ⟨fun _ => ?_, fun z => absurd rfl z⟩
    unfold m_X1_putRow_43
    refine ⟨g1, g2, fun _ => ?_, fun z => absurd rfl z⟩
    unfold m_X1_putRow_68
    exact ⟨g3, g4, fun _ => g5, fun z => absurd rfl z⟩
  | true =>
    obtain ⟨g1, g2, g3, g4, g5⟩ := go 7 2 1 (by omega) (by omega) (by omega) x0 x1 x2
    refine ⟨fun z => absurd z (by decide), fun _ => ?_⟩
    unfold m_X1_putRow_43
    refine ⟨g1, g2, fun z => absurd z (by decide), fun _ => ?_⟩
    unfold m_X1_putRow_68
    exact ⟨g3, g4, fun z => absurd z (by decide), fun _ => g5⟩
theorem cRows_app (L : List Rec) (r : Rec) : cRows (L ++ [r]) = cRows L ++ (if r 8 = 0 then [] else (lfRows (r 8) r).map (fun q => cRow q r)) := by
  unfold cRows
  rw [List.flatMap_append, List.flatMap_cons, List.flatMap_nil, List.append_nil]
set_option maxHeartbeats 4000000 in
set_option maxRecDepth 100000 in
theorem c_putRows {a : Nat} {L : List Rec} {r : Rec} {h : Hp} {Q : Hp → Prop} (ha : 108 ≤ a) (hL : L.length < 12) (V : LvC a (L ++ [r]) h) (W : RwP a (cRows L) h) (hR : (cRows L).length ≤ 3 * L.length) (o : LfOk r) (k : ∀ h', fr (SPw a) h h' → RwP a (cRows (L ++ [r])) h' → Q h') : m_X1_putRows a (n32 (r 8)) (n32 (r 9)) (n32 (r 10)) h Q := by
  unfold m_X1_putRows
  obtain ⟨o0, o1, o2, o12, o3, o4, o5, o6, o7, o8, o9, o10, o11⟩ := o
  intro x3 e3
  rw [V.1, List.length_append, List.length_singleton, show n32 (L.length + 1) - 1 = n32 L.length by rw [show (1 : Int32) = n32 1 from rfl, n32_sub (by omega)]; rfl, show (8 : Int32) = n32 8 from rfl, n32_mul, Nat.mul_comm] at e3
  subst e3
  have lv : ∀ w, w < 8 → hI h (a + 1) (8 * L.length + w) = n32 (r w) := fun w hw => by
    have := V.2.2 L.length (by rw [List.length_append, List.length_singleton]; omega) w hw
    rw [getD_rec_at] at this; exact this
  rw [cRows_app] at k
  rw [show (0 : Int32) = n32 0 from rfl, n32_lt (by omega) (by omega), n32_eq (by omega) (by omega)]
  refine ⟨fun z => absurd z (by omega), fun _ => ⟨fun z => ?_, fun z => ?_⟩⟩
  · rw [if_neg z] at k
    have l0 : hI h (a + 1) (8 * L.length) = n32 (r 0) := lv 0 (by decide)
    rw [show n32 (8 * L.length) + n32 0 = n32 (8 * L.length) from n32_add _ 0, show n32 (8 * L.length) + 3 = n32 (8 * L.length + 3) from n32_add _ 3, show n32 (8 * L.length) + 4 = n32 (8 * L.length + 4) from n32_add _ 4, n32_ix (by omega), n32_ix (by omega), n32_ix (by omega), l0, lv 3 (by decide), lv 4 (by decide)]
    refine ⟨vpI (by omega) (by decide), fun x4 e4 => ⟨vpI (by omega) (by decide), fun x5 e5 => ⟨vpI (by omega) (by decide), fun x6 e6 => ?_⟩⟩⟩
    subst e4; subst e5
    rw [n32_long (by omega), n32_long (by omega), z64_mul, show ((r 4 : Nat) : Int) * ((r 8 : Nat) : Int) = ((r 8 * r 4 : Nat) : Int) by rw [Int.natCast_mul]; exact Int.mul_comm _ _] at e6
    subst e6
    have q1 : ∀ (h1 : Hp) (R : List Rec) (Q1 : Hp → Prop), fr (SPw a) h h1 → RwP a R h1 → R.length < 36 → (∀ h', fr (SPw a) h h' → RwP a (R ++ [cRow (mkRow (r 7) (r 2) (r 1) 0 (r 8 * r 5)) r]) h' → Q1 h') → m_X1_putRows_102 Q1 a (n32 (r 8)) (n32 (r 9)) (n32 (r 10)) (n32 (8 * L.length)) h1 := by
      intro h1 R Q1 f1 W1 hR1 k1
      unfold m_X1_putRows_102
      have l' : ∀ w, w < 8 → hI h1 (a + 1) (8 * L.length + w) = n32 (r w) := fun w hw => by rw [f1.I (by unfold SPw; omega)]; exact lv w hw
      rw [show n32 (8 * L.length) + 5 = n32 (8 * L.length + 5) from n32_add _ 5, n32_ix (by omega), l' 5 (by decide), n32_long (by omega), n32_long (by omega), z64_mul, show ((r 5 : Nat) : Int) * ((r 8 : Nat) : Int) = ((r 8 * r 5 : Nat) : Int) by rw [Int.natCast_mul]; exact Int.mul_comm _ _]
      refine ⟨vpI (by omega) (by decide), ?_⟩
      exact c_putRow (bk := true) (q := cRow (mkRow (r 7) (r 2) (r 1) 0 (r 8 * r 5)) r) (th := 0) ha hR1 W1 (by omega) (l' 7 (by decide)) (l' 2 (by decide)) (l' 1 (by decide)) rfl rfl rfl rfl (fun h' f' W' => k1 h' (f1.trans f') W')
    refine c_putRow (bk := false) (q := cRow (mkRow (r 6) (r 1) (r 2) (r 3) (r 8 * r 4)) r) ha (by omega) W (by omega) (lv 6 (by decide)) (lv 1 (by decide)) (lv 2 (by decide)) rfl rfl rfl rfl (fun h1 f1 W1 => ?_)
    have len1 : (cRows L ++ [cRow (mkRow (r 6) (r 1) (r 2) (r 3) (r 8 * r 4)) r]).length < 36 := by rw [List.length_append, List.length_singleton]; omega
    unfold m_X1_putRows_90
    rw [show (3 : Int32) = n32 3 from rfl, show (2 : Int32) = n32 2 from rfl, n32_eq (by omega) (by omega), n32_eq (by omega) (by omega)]
    unfold lfRows at k
    refine ⟨fun z3 => ⟨fun z2 => ?_, fun z2 => ⟨fun _ => ?_, fun y => absurd y z3⟩⟩, fun z3 => ?_⟩
    · rw [if_neg (by omega), if_pos z2] at k
      refine q1 h1 _ Q f1 W1 len1 (fun h2 f2 W2 => k h2 f2 ?_)
      rw [List.append_assoc] at W2; exact W2
    · rw [if_pos (by omega)] at k
      exact k h1 f1 W1
    · rw [if_neg (by omega), if_neg (by omega)] at k
      have l' : ∀ w, w < 8 → hI h1 (a + 1) (8 * L.length + w) = n32 (r w) := fun w hw => by rw [f1.I (by unfold SPw; omega)]; exact lv w hw
      refine c_putRow (bk := true) (q := cRow (mkRow (r 7) (r 2) (r 1) (r 3) (r 8 * r 4)) r) ha len1 W1 (by omega) (l' 7 (by decide)) (l' 2 (by decide)) (l' 1 (by decide)) rfl rfl rfl rfl (fun h2 f2 W2 => ?_)
      refine ⟨fun y => absurd y (by omega), fun _ => ⟨fun y => absurd z3 y, fun _ => ?_⟩⟩
      refine q1 h2 _ Q (f1.trans f2) W2 (by rw [List.length_append, List.length_append, List.length_singleton, List.length_singleton]; omega) (fun h3 f3 W3 => k h3 f3 ?_)
      rw [List.append_assoc, List.append_assoc] at W3; exact W3
  · rw [if_pos z, List.append_nil] at k
    exact k h (fr.rf _ _) W
