/-! THE MODEL: passed -/
theorem getD_ap_l {α : Type} {l m : List α} {k : Nat} {d : α} (h : k < l.length) : (l ++ m).getD k d = l.getD k d := by
  rw [List.getD_eq_getElem?_getD, List.getD_eq_getElem?_getD, List.getElem?_append_left h]
theorem getD_ap_r {α : Type} {l m : List α} {k : Nat} {d : α} (h : l.length ≤ k) : (l ++ m).getD k d = m.getD (k - l.length) d := by
  rw [List.getD_eq_getElem?_getD, List.getD_eq_getElem?_getD, List.getElem?_append_right h]
set_option maxHeartbeats 4000000 in
set_option maxRecDepth 100000 in
theorem q_passed52 {x : Ab} {c w q : Nat} {l : List Nat} {h : Hp} {Q : Int64 → Hp → Prop} (I : InvR x h) (K : OkA x) (hin : inD x l) (L : LstIs l h) (hc : c < 2147483648) (hw : w < 5) (hq : q ≤ 2147483648) :
    ∀ (rest pre : List Nat) (acc : Nat), l = pre ++ rest → acc ≤ 36 * pre.length → (q = 0 → ∀ h', fr SRw h h' → Q (z64 (acc + (bRows (aD x) rest c (bChs (aD x) pre)).length : Nat)) h') → (0 < q → acc < q) → (0 < q → q - 1 < acc + (bRows (aD x) rest c (bChs (aD x) pre)).length → ∀ h', fr SRw h h' → Q (z64 (((bRows (aD x) rest c (bChs (aD x) pre)).getD (q - 1 - acc) rec0) w : Nat)) h') → (0 < q → ¬ q - 1 < acc + (bRows (aD x) rest c (bChs (aD x) pre)).length → ∀ h', fr SRw h h' → Q (-1) h') →
    m_X12_passed_52 (rest.length + 1) (m_X12_passed_90 Q) (m_X12_passed_144 Q) Q (n32 c) (pm q) (n32 w) (n32 acc) (n32 (5 + bChs (aD x) pre)) (n32 pre.length) h := by
  intro rest
  have e55 := L.1; have l6 := L.2.1
  induction rest with
  | nil =>
    intro pre acc e ha k0 kq k1 k2
    rw [List.append_nil] at e
    subst e
    rw [List.length_nil, m_X12_passed_52]
    unfold m_X12_passed_144
    simp (disch := omega) only [↓m1_pm, lit32, n32_add, n32_mul, n32_ix, n32_lt, n32_le, n32_eq, n32_in, pm_ix, pm_in, pm_eqn, n_eqpm, pm_ltn, n_ltpm, pm_len, n_lepm, pm_inj, forall_eq, e55]
    refine ⟨fun _ => ⟨fun z => k2 (by omega) (by simp [bRows]; have := kq (by omega); omega) h (fr.rf _ _), fun z => ?_⟩, fun z => absurd (Nat.le_refl _) z⟩
    rw [n32_long (by omega)]
    have := k0 (by omega) h (fr.rf _ _)
    simpa [bRows] using this
  | cons d rest ih =>
    intro pre acc e ha k0 kq k1 k2
    have e85 : hI h 85 pre.length = n32 d := by have := L.2.2; rw [e] at this; exact this.mid
    have hlen : l.length = pre.length + (rest.length + 1) := by rw [e]; simp
    have hd : d < (aD x).length := hin d (by rw [e]; simp)
    have hpre : inD x pre := fun q hq => hin q (by rw [e]; simp [hq])
    have hch := bChs_le K hpre
    have hnd := I.2.1.2.1
    have c3 := K.c3 hd
    have l12 := K.l12 hd
    have e56 := (I.2.1.2.2 d hd).2.2.2.1
    have dl := dlRows_len (own c (bChs (aD x) pre)) (dL (aD x) d)
    have e3 : bChs (aD x) (pre ++ [d]) = bChs (aD x) pre + dC (aD x) d := by rw [bChs_app]; simp [bChs]
    have eB : bRows (aD x) (d :: rest) c (bChs (aD x) pre) = dlRows (dL (aD x) d) (own c (bChs (aD x) pre)) ++ bRows (aD x) rest c (bChs (aD x) pre + dC (aD x) d) := rfl
    rw [eB, List.length_append] at k0 k1 k2
    rw [List.length_cons, m_X12_passed_52]
    simp (disch := omega) only [↓m1_pm, lit32, n32_add, n32_mul, n32_ix, n32_lt, n32_le, n32_eq, n32_in, pm_ix, pm_in, pm_eqn, n_eqpm, pm_ltn, n_ltpm, pm_len, n_lepm, pm_inj, forall_eq, e55, e85]
    refine ⟨fun z => absurd z (by omega), fun _ => ⟨by omega, ?_⟩⟩
    refine q_rowsOfDeal I K hd hc (by omega) ?_
    generalize hX : dlRows (dL (aD x) d) (own c (bChs (aD x) pre)) = X at k0 k1 k2 dl
    have next : (0 < q → acc + X.length < q) → m_X12_passed_52 (rest.length + 1) (m_X12_passed_90 Q) (m_X12_passed_144 Q) Q (n32 c) (pm q) (n32 w) (n32 (acc + X.length)) (n32 (5 + bChs (aD x) pre + dC (aD x) d)) (n32 (pre.length + 1)) h := by
      intro hx
      have := ih (pre ++ [d]) (acc + X.length) (by rw [e]; simp) (by rw [List.length_append, List.length_singleton]; omega)
        (fun z h' f => by rw [e3, Nat.add_assoc]; exact k0 z h' f) hx
        (fun z z2 h' f => by
          rw [e3] at z2 ⊢
          have := k1 z (by omega) h' f
          rw [getD_ap_r (by have := hx z; omega)] at this
          rw [show q - 1 - (acc + X.length) = q - 1 - acc - X.length by omega]
          exact this)
        (fun z z2 h' f => by rw [e3] at z2; exact k2 z (by omega) h' f)
      rw [e3, List.length_append, List.length_singleton, ← Nat.add_assoc] at this
      exact this
    unfold m_X12_passed_114
    simp (disch := omega) only [↓m1_pm, lit32, n32_add, n32_mul, n32_ix, n32_lt, n32_le, n32_eq, n32_in, pm_ix, pm_in, pm_eqn, n_eqpm, pm_ltn, n_ltpm, pm_len, n_lepm, pm_inj, forall_eq, e85, e56]
    refine ⟨fun z => ⟨by omega, by omega, next (fun _ => by omega)⟩, fun z => ⟨fun z2 => ⟨by omega, by omega, next (fun _ => by omega)⟩, fun z2 => ?_⟩⟩
    unfold m_X12_passed_90
    have hq0 := kq (by omega)
    have esub : pm q - n32 acc = n32 (q - 1 - acc) := by rw [pm_n32 (by omega), n32_sub (by omega)]
    simp (disch := omega) only [↓m1_pm, lit32, n32_add, n32_mul, n32_ix, n32_lt, n32_le, n32_eq, n32_in, pm_ix, pm_in, pm_eqn, n_eqpm, pm_ltn, n_ltpm, pm_len, n_lepm, pm_inj, forall_eq, e85, esub]
    refine ⟨by omega, ?_⟩
    refine q_findRow I K hd hc (by omega) (by rw [hX]; omega) (fun j r p g1 g2 g3 g4 g5 g6 g7 => ?_)
    have f : fr SRw h (wJ (wI (wI h 51 58 (n32 j)) 51 59 (n32 p)) 51 60 (z64 (lfTimes r (own c (bChs (aD x) pre)) : Nat))) := fr_wJ (fr_wI (fr_wI (fr.rf _ _) _ (by unfold SRw; omega)) _ (by unfold SRw; omega)) _ (by unfold SRw; omega)
    refine q_rowTold (I.fr (f.mono SRw_Scr)) K hd g1 g2 g3 g4 g5 g6 ?_ ?_ ?_ hw ?_
    · simp (disch := omega) only [hI_wI, hI_wJ, hI_wR, hJ_wJ, hJ_wI, hJ_wR, hR_wR, hR_wI, hR_wJ, Nat.reduceEqDiff, false_and, and_false, if_false, if_true, ite_true, ite_false, reduceIte]; simp
    · simp (disch := omega) only [hI_wI, hI_wJ, hI_wR, hJ_wJ, hJ_wI, hJ_wR, hR_wR, hR_wI, hR_wJ, Nat.reduceEqDiff, false_and, and_false, if_false, if_true, ite_true, ite_false, reduceIte]; simp
    · simp (disch := omega) only [hI_wI, hI_wJ, hI_wR, hJ_wJ, hJ_wI, hJ_wR, hR_wR, hR_wI, hR_wJ, Nat.reduceEqDiff, false_and, and_false, if_false, if_true, ite_true, ite_false, reduceIte]; simp
    · rw [hX] at g7
      have := k1 (by omega) (by omega) _ f
      rw [getD_ap_l (by omega), g7] at this
      exact this
set_option maxHeartbeats 4000000 in
set_option maxRecDepth 100000 in
theorem R_passed {x : Ab} {v1 v2 v3 : Int32} {h : Hp} {Q : Int64 → Hp → Prop} (I : InvR x h) (K : OkA x) (k : ∀ h', fr Scr h h' → Q (ansPassed x v1 v2 v3) h') : m_X12_passed v1 v2 v3 h Q := by
  unfold m_X12_passed
  unfold ansPassed at k
  refine q_bundle I (fun h1 f1 L => ?_)
  have I1 := I.fr (f1.mono SLs_Scr)
  replace k := fun h' (f : fr Scr h1 h') => k h' ((f1.mono SLs_Scr).trans f)
  have hN := nCod_le K I.inB I.b6
  obtain ⟨-, hbl⟩ := bRows_ok K (l := aB x) (bf := 0) I.inB (c := 0)
  refine q_code2 I1 K I.inB L (fun e => ?_) (fun c hc e1 e2 => ?_)
  · rw [e] at k; exact k h1 (fr.rf _ _)
  · rw [e2] at k
    subst e1
    dsimp only at k
    have b6 := I.b6
    have hbl := (bRows_ok K (l := aB x) (bf := 0) I.inB (c := c)).2
    have run : ∀ (q w : Nat), w < 5 → q ≤ 2147483648 → v2 = pm q → v3 = n32 w → (q = 0 → w = 0) → ∃ n, m_X12_passed_52 n (m_X12_passed_90 Q) (m_X12_passed_144 Q) Q (n32 c) v2 v3 0 5 0 h1 := by
      rintro q w hw hq rfl rfl h0
      refine ⟨_, q_passed52 I1 K I.inB L (by omega) hw hq (aB x) [] 0 rfl (by omega) (fun z h' f => ?_) (fun z => z) (fun z z2 h' f => ?_) (fun z z2 h' f => ?_)⟩
      · subst z
        have hw0 := h0 rfl
        subst hw0
        have := k h' (f.mono SRw_Scr)
        rw [if_pos (show pm 0 = -1 from rfl), if_pos (show n32 0 = 0 from rfl)] at this
        rw [Nat.zero_add]
        exact this
      · have := k h' (f.mono SRw_Scr)
        obtain ⟨q', rfl⟩ : ∃ q', q = q' + 1 := ⟨q - 1, by omega⟩
        rw [if_neg (by rw [pmS, n32_m1 (by omega)]; exact id), pmS] at this
        rw [Nat.zero_add] at z2
        have z3 : q' < (bR x c).length := z2
        rw [argN_n z3 (by omega), argN_n hw (by omega)] at this
        exact this
      · have := k h' (f.mono SRw_Scr)
        obtain ⟨q', rfl⟩ : ∃ q', q = q' + 1 := ⟨q - 1, by omega⟩
        rw [if_neg (by rw [pmS, n32_m1 (by omega)]; exact id), pmS] at this
        rw [Nat.zero_add] at z2
        have z3 : ¬ q' < (bR x c).length := z2
        rw [argN_no (by omega) (by omega)] at this
        exact this
    have here := k h1 (fr.rf _ _)
    refine ⟨fun z => ?_, fun z => ⟨fun z2 => ?_, fun z2 => ?_⟩⟩
    · rw [if_neg (fun e => by rw [e] at z; exact absurd z (by decide)), argN_neg (Int32.lt_trans z (by decide))] at here
      exact here
    · unfold m_X12_passed_33
      have hv2 : ∃ q', q' < 2147483648 ∧ v2 = n32 q' := by
        rcases i_cases v2 with g | g
        · exfalso
          rw [Int32.lt_iff_toInt_lt] at z g
          rw [← Int32.toInt_inj] at z2
          have a1 : (-1 : Int32).toInt = -1 := rfl
          have a2 : (0 : Int32).toInt = 0 := rfl
          omega
        · exact g
      obtain ⟨q', hq', rfl⟩ := hv2
      rw [if_neg z2] at here
      refine q_upto (hi := 4) (by decide) (fun e => ?_) (fun w hw e3 e4 => ?_)
      · refine ⟨fun z => absurd rfl z, fun _ => ?_⟩
        rw [e] at here
        cases hz : argN (n32 q') (bR x c).length <;> rw [hz] at here <;> exact here
      · refine ⟨fun _ => ?_, fun z => absurd z (by decide)⟩
        exact run (q' + 1) w (by omega) (by omega) rfl e3 (by omega)
    · unfold m_X12_passed_33
      subst z2
      rw [if_pos rfl] at here
      refine q_upto (hi := 0) (by decide) (fun e => ?_) (fun w hw e3 e4 => ?_)
      · refine ⟨fun z => absurd rfl z, fun _ => ?_⟩
        rw [if_neg (fun z => by subst z; exact absurd e (by decide))] at here
        exact here
      · exact ⟨fun _ => run 0 w (by omega) (by omega) rfl e3 (by omega), fun z => absurd z (by decide)⟩
