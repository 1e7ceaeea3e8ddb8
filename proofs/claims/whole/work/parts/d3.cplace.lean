/-! THE CLASS: which word of a row -/
def rowW (v : Nat) : List (List Nat) := [KNDS, HNDS, THGS, [wFor], [wAt], [wPaid], [wBack], EVTS, [wElse], [wOr], [wBar], FRMS, [wOf], [wThen], TIES, [wWithin]].getD v []
def rwS (v : Nat) : List Nat := (rowW v).flatMap (fun u => u ++ [32])
set_option maxRecDepth 100000 in
theorem rw_len : ∀ v : Fin 16, Int32.ofNat (lenS.getD v.val 0) >>> ((0 : Int32) &&& 31) = n32 (rwS v.val).length ∧ Int32.ofNat (lenS.getD v.val 0) = n32 (rwS v.val).length ∧ lenS.getD v.val 0 = (rwS v.val).length ∧ (rwS v.val).length ≤ 42 := by decide
set_option maxRecDepth 100000 in
theorem rw_at : ∀ v : Fin 16, ∀ j : Fin 42, j.val < (rwS v.val).length → ((((bytS.getD v.val []).getD j.val 0) &&& 255).toUInt32 % 65536).toInt32 = n32 ((rwS v.val).getD j.val 0) ∧ (rwS v.val).getD j.val 0 < 256 := by decide
theorem c_len {v : Nat} {h : Hp} {Q : Int32 → Hp → Prop} (hv : v < 16) (k : Q (n32 (rwS v).length) h) : m_J0_length_8abf5 v h Q := by
  unfold m_J0_length_8abf5 m_J0_coder_7d493
  have e := (rw_len ⟨v, hv⟩).1
  dsimp only at e
  exact ⟨fun z => absurd z (by decide), fun _ => ⟨rfl, by dsimp only; rw [e]; exact k⟩⟩
theorem c_charAt {v j : Nat} {h : Hp} {Q : Int32 → Hp → Prop} (hv : v < 16) (hj : j < (rwS v).length) (k : Q (n32 ((rwS v).getD j 0)) h) : m_J0_charAt_5068e v (n32 j) h Q := by
  obtain ⟨-, e1, e2, l42⟩ := rw_len ⟨v, hv⟩
  dsimp only at e1 e2 l42
  obtain ⟨e3, e4⟩ := rw_at ⟨v, hv⟩ ⟨j, by omega⟩ hj
  dsimp only at e3 e4
  unfold m_J0_charAt_5068e m_J0_isLatin1_aae02 m_J1_charAt_3b067 m_J0_checkIndex_df160 m_J3_checkIndex_8e157
  rw [e1, n32_ix (by omega), n32_lt (by omega) (by omega), show (0 : Int32) = n32 0 from rfl, n32_lt (by omega) (by decide), e2]
  refine ⟨fun z => absurd z (by decide), fun _ => ⟨fun z => absurd rfl z, fun _ => ⟨fun z => absurd z (by decide), fun _ => ⟨fun z => absurd z (by omega), fun _ => ⟨fun _ => ⟨vpI hj (by omega), pk_nc _, pk_nc _, ?_⟩, fun z => absurd hj z⟩⟩⟩⟩⟩
  rw [show n32 0 = (0 : Int32) from rfl, e3]
  exact k
def scn (w : List Nat) : List Nat → Nat → Nat → Nat
  | [], _, _ => 0
  | c :: cs, p, g => if c = 32 then (if g = w.length + 1 then p + 1 else scn w cs (p + 1) 1) else scn w cs p (if g = 0 then 0 else if g - 1 < w.length ∧ w.getD (g - 1) 0 = c then g + 1 else 0)
theorem scn_no (w : List Nat) : ∀ (u cs : List Nat) (p : Nat), (∀ c ∈ u, c ≠ 32) → scn w (u ++ 32 :: cs) p 0 = scn w cs (p + 1) 1
  | [], cs, p, _ => by
    show scn w (32 :: cs) p 0 = _
    rw [scn, if_pos rfl, if_neg (by omega)]
  | c :: u, cs, p, h => by
    show scn w (c :: (u ++ 32 :: cs)) p 0 = _
    rw [scn, if_neg (h c (by simp)), if_pos rfl]
    exact scn_no w u cs p (fun d hd => h d (by simp [hd]))
theorem scn_wd (w : List Nat) : ∀ (u cs : List Nat) (p g : Nat), (∀ c ∈ u, c ≠ 32) → g ≤ w.length → scn w (u ++ 32 :: cs) p (g + 1) = if w.drop g = u then p + 1 else scn w cs (p + 1) 1
  | [], cs, p, g, _, hg => by
    show scn w (32 :: cs) p (g + 1) = _
    rw [scn, if_pos rfl]
    by_cases q : g = w.length
    · rw [if_pos (by omega), if_pos (by rw [q]; simp)]
    · rw [if_neg (by omega), if_neg (fun z => by have := congrArg List.length z; rw [List.length_drop] at this; simp at this; omega)]
  | c :: u, cs, p, g, h, hg => by
    show scn w (c :: (u ++ 32 :: cs)) p (g + 1) = _
    rw [scn, if_neg (h c (by simp)), if_neg (by omega), show g + 1 - 1 = g by omega]
    by_cases q : g < w.length
    · have e : w.drop g = w.getD g 0 :: w.drop (g + 1) := drop_at q
      rw [e]
      by_cases qc : w.getD g 0 = c
      · rw [if_pos ⟨q, qc⟩, scn_wd w u cs p (g + 1) (fun d hd => h d (by simp [hd])) (by omega), qc]
        by_cases y : w.drop (g + 1) = u
        · rw [if_pos y, if_pos (by rw [y])]
        · rw [if_neg y, if_neg (fun z => y (List.cons.inj z).2)]
      · rw [if_neg (fun z => qc z.2), scn_no w u cs p (fun d hd => h d (by simp [hd])), if_neg (fun z => qc (List.cons.inj z).1)]
    · rw [if_neg (fun z => q z.1), scn_no w u cs p (fun d hd => h d (by simp [hd])), if_neg]
      rw [List.drop_of_length_le (by omega)]
      intro z; cases z
theorem scn_row (w : List Nat) : ∀ (row : List (List Nat)) (p : Nat), (∀ u ∈ row, ∀ c ∈ u, c ≠ 32) → scn w (row.flatMap (fun u => u ++ [32])) p 1 = plA w row p
  | [], _, _ => rfl
  | u :: row, p, h => by
    rw [List.flatMap_cons, List.append_assoc, show [32] ++ row.flatMap (fun u => u ++ [32]) = 32 :: row.flatMap (fun u => u ++ [32]) from rfl, scn_wd w u _ p 0 (h u (by simp)) (Nat.zero_le _), scn_row w row (p + 1) (fun q hq => h q (by simp [hq])), plA, List.drop_zero]
set_option maxRecDepth 100000 in
theorem row_ok : ∀ v : Fin 16, ∀ u ∈ rowW v.val, ∀ c ∈ u, c ≠ 32 := by decide
theorem slc_at {T : List Nat} {a b g : Nat} (h : a + g < b) (hb : b ≤ T.length) : (slc T a b).getD g 0 = T.getD (a + g) 0 := by
  unfold slc
  rw [List.getD_eq_getElem?_getD, List.getD_eq_getElem?_getD, List.getElem?_take, if_pos (by omega), List.getElem?_drop]
set_option maxHeartbeats 4000000 in
set_option maxRecDepth 100000 in
theorem c_placeIn {T : List Nat} {t : Tk} {v : Nat} {h : Hp} {Q : Int32 → Hp → Prop} (hv : v < 16) (R : CTt T h) (M : CTk T t h) (O : OkT T t) (k : Q (pm (pl T t (rowW v))) h) : m_X10_placeIn v h Q := by
  have h6 := R.2.1
  obtain ⟨p, hp, et⟩ := id O
  have kd := (tokA_kd T (skp isB T p)).2.1
  have ta := (tokA_at T (skp isB T p)).1
  have k1 : t.1 = 1 ↔ cKd T t.2.1 = 1 := by rw [et]; show (tokA T (skp isB T p)).1 = 1 ↔ cKd T (tokA T (skp isB T p)).2.1 = 1; rw [ta]; exact kd
  have kl : cKd T t.2.1 ≤ 3 := by unfold cKd; repeat (first | omega | split)
  obtain ⟨o1, o2, -, -⟩ := O.le
  obtain ⟨m4, m5, m6⟩ := M
  have wl : (tkW T t).length = t.2.2 - t.2.1 := slc_len o1 o2
  have l42 := (rw_len ⟨v, hv⟩).2.2.2
  dsimp only at l42
  unfold m_X10_placeIn
  rw [m4, show (1 : Int32) = n32 1 from rfl, n32_eq (by omega) (by decide)]
  unfold pl at k
  refine ⟨fun z => ?_, fun z => by rw [if_neg (fun y => z (k1.mp y))] at k; exact k⟩
  rw [if_pos (k1.mpr z), ← scn_row _ _ _ (row_ok ⟨v, hv⟩)] at k
  have main : ∀ (rest pre : List Nat) (q g : Nat), rwS v = pre ++ rest → g ≤ (tkW T t).length + 1 → q ≤ pre.length → Q (pm (scn (tkW T t) rest q g)) h → m_X10_placeIn_17 v (rest.length + 1) Q (n32 q) (pm g) (n32 pre.length) h := by
    intro rest
    induction rest with
    | nil =>
      intro pre q g e hg hq kk
      rw [List.append_nil] at e
      rw [m_X10_placeIn_17]
      refine c_len hv ?_
      rw [e, n32_le (by rw [← e]; omega) (by rw [← e]; omega)]
      exact ⟨fun _ => kk, fun z => absurd (Nat.le_refl _) z⟩
    | cons c rest ih =>
      intro pre q g e hg hq kk
      have el : (rwS v).length = pre.length + (rest.length + 1) := by rw [e]; simp
      have ec : (rwS v).getD pre.length 0 = c := by rw [e, getD_mid]
      have c256 := (rw_at ⟨v, hv⟩ ⟨pre.length, by omega⟩ (by show pre.length < (rwS v).length; omega)).2
      dsimp only at c256
      rw [ec] at c256
      rw [scn] at kk
      have nx : ∀ q' g', g' ≤ (tkW T t).length + 1 → q' ≤ pre.length + 1 → Q (pm (scn (tkW T t) rest q' g')) h → ∀ x1 : Int32, x1 = n32 pre.length + 1 → m_X10_placeIn_17 v (rest.length + 1) Q (n32 q') (pm g') x1 h := by
        intro q' g' hg' hq' kk' x1 e1
        have := ih (pre ++ [c]) q' g' (by rw [e]; simp) hg' (by rw [List.length_append]; exact hq') kk'
        rw [List.length_append] at this
        rw [e1, show n32 pre.length + 1 = n32 (pre.length + 1) from n32_add _ 1]
        exact this
      rw [m_X10_placeIn_17]
      refine c_len hv ?_
      rw [n32_le (by omega) (by omega)]
      refine ⟨fun z => absurd z (by omega), fun _ => c_charAt hv (by omega) ?_⟩
      rw [ec, show (32 : Int32) = n32 32 from rfl, n32_eq (by omega) (by decide), show (-1 : Int32) = pm 0 from rfl, pm_inj (by omega) (by decide), m5, m6, n32_sub o1, pm_eqn (by omega) (by omega)]
      unfold m_X10_placeIn_104 m_X10_placeIn_105 m_X10_placeIn_106
      refine ⟨fun z => ?_, fun z => ?_⟩
      · rw [if_neg z] at kk
        refine ⟨fun g0 => ?_, fun g0 => ?_⟩
        · rw [if_pos g0] at kk
          rw [g0]
          exact nx q 0 (by omega) (by omega) kk
        · rw [if_neg g0] at kk
          rw [pm_n32 (by omega), n32_add, n32_le (by omega) (by omega), n32_ix (by omega)]
          refine ⟨fun y => ?_, fun y => ?_⟩
          · rw [if_neg (fun w => by omega)] at kk
            exact nx q 0 (by omega) (by omega) kk
          · have es : (tkW T t).getD (g - 1) 0 = T.getD (t.2.1 + (g - 1)) 0 := slc_at (by omega) o2
            obtain ⟨b1, b2⟩ := R.2.2 (t.2.1 + (g - 1)) (by omega)
            rw [b1, n32_eq (by omega) (by omega)]
            refine ⟨vpI (by omega) (by decide), fun y2 => ?_, fun y2 => ?_⟩
            · rw [if_neg (fun w => y2 (es.symm.trans w.2))] at kk
              exact nx q 0 (by omega) (by omega) kk
            · rw [if_pos ⟨by omega, es.trans y2⟩] at kk
              have := nx q (g + 1) (by omega) (by omega) kk
              rw [pmS] at this
              rw [show n32 (g - 1) + 1 = n32 (g - 1 + 1) from n32_add _ 1, show g - 1 + 1 = g by omega]
              exact this
      · rw [if_pos z] at kk
        refine ⟨fun y x6 e6 => ?_, fun y => ?_⟩
        · rw [if_neg (fun w => y (by omega))] at kk
          have := nx (q + 1) 1 (by omega) (by omega) kk
          rw [e6, show n32 q + 1 = n32 (q + 1) from n32_add _ 1]
          exact this
        · rw [if_pos (by omega), pmS] at kk
          exact kk
  exact ⟨_, main (rwS v) [] 0 1 rfl (by omega) (Nat.le_refl _) k⟩
