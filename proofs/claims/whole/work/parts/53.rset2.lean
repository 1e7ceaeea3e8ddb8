/-! THE MODEL: offer, honest, count, feed -/
def nxOffer (x : Ab) (v : Int32) : Ab := match argN v (aD x).length with
  | some d => if (aO x).length = 10 ∨ d ∈ aO x then x else stO x (aO x ++ [d])
  | none => x
def ansOffer (x : Ab) (v : Int32) : Int32 := match argN v (aD x).length with
  | some d => if (aO x).length = 10 ∨ d ∈ aO x then -1 else n32 ((aO x).length + 1)
  | none => -1
set_option maxHeartbeats 4000000 in
set_option maxRecDepth 100000 in
theorem R_offer {x : Ab} {v : Int32} {h : Hp} {Q : Int32 → Hp → Prop} (I : InvR x h) (k : ∀ h', fr RefC h h' → InvR (nxOffer x v) h' → Q (ansOffer x v) h') : m_X12_offer v h Q := by
  unfold m_X12_offer
  unfold ansOffer nxOffer at k
  have hnd := I.2.1.2.1
  refine q_isDeal I.2.1 (fun e => ?_) (fun d hd e1 e2 => ?_)
  · rw [e] at k; exact ⟨fun _ => k h (fr.rf _ _) I, fun z => absurd rfl z⟩
  · rw [e2] at k
    subst e1
    dsimp only at k
    refine ⟨fun z => absurd z (by decide), fun _ => ?_⟩
    obtain ⟨b1, b2, b3, b4, b5⟩ := id I.2.2.2.2.2.2.2.2.1
    have main : ∀ (rest pre : List Nat), aO x = pre ++ rest → d ∉ pre → (aO x).length ≠ 10 → m_X12_offer_21 (rest.length + 1) (m_X12_offer_47 Q) Q (n32 d) (n32 pre.length) h := by
      intro rest
      induction rest with
      | nil =>
        intro pre e hp h6
        rw [List.append_nil] at e
        rw [List.length_nil, m_X12_offer_21]
        have hl : pre.length = (aO x).length := by rw [e]
        refine ⟨fun _ => ?_, fun z => ?_⟩
        · unfold m_X12_offer_47
          rw [if_neg (by rintro (q | q); exact h6 q; exact hp (e ▸ q)), if_neg (by rintro (q | q); exact h6 q; exact hp (e ▸ q))] at k
          simp (disch := omega) only [↓m1_pm, lit32, n32_add, n32_mul, n32_ix, n32_lt, n32_le, n32_eq, n32_in, pm_ix, pm_in, pm_eqn, n_eqpm, pm_ltn, n_ltpm, pm_len, n_lepm, pm_inj, forall_eq, b1, hI_wI, hI_wJ, hI_wR, hJ_wJ, hJ_wI, hJ_wR, hR_wR, hR_wI, hR_wJ, Nat.reduceEqDiff, false_and, and_false, if_false, if_true, ite_true, ite_false, reduceIte, and_self]
          refine ⟨by omega, k _ (fr_wI (fr_wI (fr.rf _ _) _ (by unfold RefC; omega)) _ (by unfold RefC; omega)) ?_⟩
          obtain ⟨r1, r2, r3, r4, r4', r5, r6, r7, r8, r9⟩ := I
          have o : ∀ b j, b ≠ 102 → ¬ (b = 51 ∧ j = 83) → hI (wI (wI h 102 (aO x).length (n32 d)) 51 83 (n32 ((aO x).length + 1))) b j = hI h b j := fun b j h1 h2 => by rw [hI_wI, if_neg h2, hI_wI, if_neg (fun z => h1 z.1)]
          refine ⟨r1.mv (fun j => o _ _ (by decide) (by omega)), r2.mv (o _ _ (by decide) (by omega)) (fun b j h1 h2 => o b j (by omega) (by omega)), r3.mv (o _ _ (by decide) (by omega)) (fun j => o _ _ (by decide) (by omega)), by rw [o _ _ (by decide) (by omega)]; exact r4, r4', r5.mv (o _ _ (by decide) (by omega)) (fun j => o _ _ (by decide) (by omega)) (fun b j h1 h2 => o b j (by omega) (by omega)), r6.mv (o _ _ (by decide) (by omega)) (fun j => o _ _ (by decide) (by omega)) (fun b j h1 h2 => o b j (by omega) (by omega)), r7.mv (o _ _ (by decide) (by omega)) (fun j => o _ _ (by decide) (by omega)), ⟨?_, ?_, ?_, in_snoc b4 hd, nd_snoc b5 (fun q => hp (e ▸ q))⟩, r9.mv (o _ _ (by decide) (by omega)) (fun j => o _ _ (by decide) (by omega)) (fun j => o _ _ (by decide) (by omega))⟩
          · rw [hI_wI, if_pos ⟨rfl, rfl⟩]
            show _ = n32 (aO x ++ [d]).length
            simp
          · show (aO x ++ [d]).length ≤ 10
            simp; omega
          · show RRow 102 (aO x ++ [d]) _
            refine b3.app (fun j => ?_)
            rw [hI_wI, if_neg (by omega), hI_wI]
            simp
        · rw [b1, n32_le (by omega) (by omega)] at z; omega
      | cons c rest ih =>
        intro pre e hp h6
        have hlen : (aO x).length = pre.length + (rest.length + 1) := by rw [e]; simp
        have e84 : hI h 102 pre.length = n32 c := by rw [e] at b3; exact b3.mid
        have hc := b4 c (by rw [e]; simp)
        rw [List.length_cons, m_X12_offer_21]
        simp (disch := omega) only [↓m1_pm, lit32, n32_add, n32_mul, n32_ix, n32_lt, n32_le, n32_eq, n32_in, pm_ix, pm_in, pm_eqn, n_eqpm, pm_ltn, n_ltpm, pm_len, n_lepm, pm_inj, forall_eq, b1, e84]
        refine ⟨fun z => absurd z (by omega), fun _ => ⟨by omega, fun q => ?_, fun q => ?_⟩⟩
        · have := ih (pre ++ [c]) (by rw [e]; simp) (by
            rw [List.mem_append, List.mem_singleton]
            rintro (z | z)
            · exact hp z
            · exact q z.symm) h6
          rw [List.length_append, List.length_singleton] at this
          exact this
        · have hin : d ∈ aO x := by rw [e, ← q]; simp
          rw [if_pos (Or.inr hin), if_pos (Or.inr hin)] at k
          exact k h (fr.rf _ _) I
    refine ⟨fun q => ⟨_, main (aO x) [] rfl (by simp) ?_⟩, fun q => ?_⟩
    · intro z
      rw [b1, z] at q
      exact q rfl
    · have h6 : (aO x).length = 10 := by
        rw [b1, show (10 : Int32) = n32 10 from rfl, n32_eq (by omega) (by decide)] at q
        exact q
      rw [if_pos (Or.inl h6), if_pos (Or.inl h6)] at k
      exact k h (fr.rf _ _) I
def nxHonest (x : Ab) : Ab := if (aH x).length = 6 ∨ (aB x).length = 0 then x else stH x (aH x ++ [aB x])
def ansHonest (x : Ab) : Int32 := if (aH x).length = 6 ∨ (aB x).length = 0 then -1 else n32 (aH x).length
set_option maxHeartbeats 4000000 in
set_option maxRecDepth 100000 in
theorem R_honest {x : Ab} {h : Hp} {Q : Int32 → Hp → Prop} (I : InvR x h) (k : ∀ h', fr RefC h h' → InvR (nxHonest x) h' → Q (ansHonest x) h') : m_X12_honest h Q := by
  unfold m_X12_honest
  unfold ansHonest nxHonest at k
  obtain ⟨b1, b2, b3, b4, b5⟩ := id I.2.2.2.2.2.2.2.1
  obtain ⟨e88, l6, hH⟩ := id I.2.2.2.2.2.2.2.2.2
  rw [b1, e88]
  simp (disch := omega) only [↓m1_pm, lit32, n32_add, n32_mul, n32_ix, n32_lt, n32_le, n32_eq, n32_in, pm_ix, pm_in, pm_eqn, n_eqpm, pm_ltn, n_ltpm, pm_len, n_lepm, pm_inj, forall_eq]
  refine ⟨fun q => ?_, fun q => ⟨fun q2 => ⟨by omega, ?_⟩, fun q2 => ?_⟩⟩
  · rw [if_pos (Or.inl q), if_pos (Or.inl q)] at k; exact k h (fr.rf _ _) I
  · rw [if_neg (by omega), if_neg (by omega)] at k
    have main : ∀ (r j : Nat) (h1 : Hp), r + j = (aB x).length → fr (fun a k => a = 104 ∧ k = (aH x).length ∨ a = 105 ∧ 6 * (aH x).length ≤ k) h h1 → hI h1 104 (aH x).length = n32 (aB x).length → (∀ m, m < j → hI h1 105 (6 * (aH x).length + m) = n32 ((aB x).getD m 0)) → m_X12_honest_33 (r + 1) (m_X12_honest_67 Q) Q (n32 j) h1 := by
      intro r
      induction r with
      | zero =>
        intro j h1 hr f e1 e2
        have e54 : hI h1 51 54 = n32 (aB x).length := by rw [f.I (by omega)]; exact b1
        have e88' : hI h1 51 88 = n32 (aH x).length := by rw [f.I (by omega)]; exact e88
        rw [m_X12_honest_33]
        unfold m_X12_honest_67
        have es : n32 ((aH x).length + 1) - n32 1 = n32 (aH x).length := by rw [n32_sub (by omega)]; rfl
        simp (disch := omega) only [↓m1_pm, lit32, n32_add, n32_mul, n32_ix, n32_lt, n32_le, n32_eq, n32_in, pm_ix, pm_in, pm_eqn, n_eqpm, pm_ltn, n_ltpm, pm_len, n_lepm, pm_inj, forall_eq, e54, e88', hI_wI, hI_wJ, hI_wR, hJ_wJ, hJ_wI, hJ_wR, hR_wR, hR_wI, hR_wJ, Nat.reduceEqDiff, false_and, and_false, if_false, if_true, ite_true, ite_false, reduceIte, and_self, es]
        refine ⟨fun _ => k _ (fr_wI (f.mono (by unfold RefC; intro a k h; omega)) _ (by unfold RefC; omega)) ?_, fun z => absurd z (by omega)⟩
        obtain ⟨r1, r2, r3, r4, r4', r5, r6, r7, r8, r9⟩ := I
        have o : ∀ b j, b ≠ 104 → b ≠ 105 → ¬ (b = 51 ∧ j = 88) → hI (wI h1 51 88 (n32 ((aH x).length + 1))) b j = hI h b j := fun b j h1 h2 h3 => by rw [hI_wI, if_neg h3, f.I (by omega)]
        refine ⟨r1.mv (fun j => o _ _ (by decide) (by decide) (by omega)), r2.mv (o _ _ (by decide) (by decide) (by omega)) (fun b j h1 h2 => o b j (by omega) (by omega) (by omega)), r3.mv (o _ _ (by decide) (by decide) (by omega)) (fun j => o _ _ (by decide) (by decide) (by omega)), by rw [o _ _ (by decide) (by decide) (by omega)]; exact r4, r4', r5.mv (o _ _ (by decide) (by decide) (by omega)) (fun j => o _ _ (by decide) (by decide) (by omega)) (fun b j h1 h2 => o b j (by omega) (by omega) (by omega)), r6.mv (o _ _ (by decide) (by decide) (by omega)) (fun j => o _ _ (by decide) (by decide) (by omega)) (fun b j h1 h2 => o b j (by omega) (by omega) (by omega)), r7.mv (o _ _ (by decide) (by decide) (by omega)) (fun j => o _ _ (by decide) (by decide) (by omega)), r8.mv (o _ _ (by decide) (by decide) (by omega)) (fun j => o _ _ (by decide) (by decide) (by omega)), ⟨?_, ?_, fun i hi => ?_⟩⟩
        · show _ = n32 (aH x ++ [aB x]).length
          rw [hI_wI, if_pos ⟨rfl, rfl⟩]; simp
        · show (aH x ++ [aB x]).length ≤ 6
          simp; omega
        · have hi' : i < (aH x).length + 1 := by
            have : i < (aH x ++ [aB x]).length := hi
            simpa using this
          show hI _ 104 i = n32 ((aH x ++ [aB x]).getD i []).length ∧ ((aH x ++ [aB x]).getD i []).length ≤ 6 ∧ (∀ k, k < ((aH x ++ [aB x]).getD i []).length → hI _ 105 (6 * i + k) = n32 (((aH x ++ [aB x]).getD i []).getD k 0)) ∧ inD x ((aH x ++ [aB x]).getD i []) ∧ ((aH x ++ [aB x]).getD i []).Nodup
          by_cases q3 : i = (aH x).length
          · subst q3
            rw [getD_app_at]
            refine ⟨by rw [hI_wI, if_neg (by omega)]; exact e1, b2, fun m hm => ?_, b4, b5⟩
            rw [hI_wI, if_neg (by omega)]
            exact e2 m (by omega)
          · rw [getD_app_lt (by omega)]
            obtain ⟨g1, g2, g3, g4⟩ := hH i (by omega)
            refine ⟨by rw [hI_wI, if_neg (by omega), f.I (by omega)]; exact g1, g2, fun m hm => ?_, g4⟩
            rw [hI_wI, if_neg (by omega), f.I (by omega)]
            exact g3 m hm
      | succ r ih =>
        intro j h1 hr f e1 e2
        have e54 : hI h1 51 54 = n32 (aB x).length := by rw [f.I (by omega)]; exact b1
        have e88' : hI h1 51 88 = n32 (aH x).length := by rw [f.I (by omega)]; exact e88
        have e84 : hI h1 84 j = n32 ((aB x).getD j 0) := by rw [f.I (by omega)]; exact b3 j (by omega)
        rw [m_X12_honest_33]
        simp (disch := omega) only [↓m1_pm, lit32, n32_add, n32_mul, n32_ix, n32_lt, n32_le, n32_eq, n32_in, pm_ix, pm_in, pm_eqn, n_eqpm, pm_ltn, n_ltpm, pm_len, n_lepm, pm_inj, forall_eq, e54, e88', e84]
        refine ⟨fun z => absurd z (by omega), fun _ => ⟨by omega, by omega, ?_⟩⟩
        refine ih (j + 1) _ (by omega) (fr_wI f _ (Or.inr ⟨rfl, by omega⟩)) (by rw [hI_wI, if_neg (by omega)]; exact e1) (fun m hm => ?_)
        rw [hI_wI]
        by_cases q3 : m = j
        · subst q3; simp
        · rw [if_neg (by omega)]; exact e2 m (by omega)
    exact ⟨_, main (aB x).length 0 _ (by omega) (fr_wI (fr.rf _ _) _ (Or.inl ⟨rfl, rfl⟩)) (by rw [hI_wI, if_pos ⟨rfl, rfl⟩]) (fun m hm => by omega)⟩
  · rw [if_pos (Or.inr q2), if_pos (Or.inr q2)] at k; exact k h (fr.rf _ _) I
def countN (x : Ab) (w : Nat) : Nat :=
  if w = 0 then (aD x).length else if w = 1 then (aL x).length else if w = 2 then (lawS x).length else if w = 3 then (aW x).length else if w = 4 then (aB x).length else if w = 5 then (aO x).length else if w = 6 then (aH x).length else if w = 7 then bLvs (aD x) (aB x) else if w = 8 then bChs (aD x) (aB x) else (aT x).length
def ansCount (x : Ab) (v : Int32) : Int32 := match argN v 10 with | some w => n32 (countN x w) | none => -1
theorem bLvs_app (D : List Dl) (l m : List Nat) : bLvs D (l ++ m) = bLvs D l + bLvs D m := by simp [bLvs]
set_option maxHeartbeats 4000000 in
set_option maxRecDepth 100000 in
theorem q_leavesT {x : Ab} {h : Hp} {Q : Int32 → Hp → Prop} (I : InvR x h) (k : Q (n32 (bLvs (aD x) (aB x))) h) : m_X12_leavesTold h Q := by
  obtain ⟨b1, b2, b3, b4, b5⟩ := id I.2.2.2.2.2.2.2.1
  have main : ∀ (rest pre : List Nat), aB x = pre ++ rest → m_X12_leavesTold_4 (rest.length + 1) Q (n32 (bLvs (aD x) pre)) (n32 pre.length) h := by
    intro rest
    induction rest with
    | nil =>
      intro pre e
      rw [List.append_nil] at e
      have hl : (aB x).length = pre.length := by rw [e]
      rw [List.length_nil, m_X12_leavesTold_4, ← e]
      simp (disch := omega) only [↓m1_pm, lit32, n32_add, n32_mul, n32_ix, n32_lt, n32_le, n32_eq, n32_in, pm_ix, pm_in, pm_eqn, n_eqpm, pm_ltn, n_ltpm, pm_len, n_lepm, pm_inj, forall_eq, b1]
      exact ⟨fun _ => k, fun z => absurd (by omega) z⟩
    | cons d rest ih =>
      intro pre e
      have hlen : (aB x).length = pre.length + (rest.length + 1) := by rw [e]; simp
      have e84 : hI h 84 pre.length = n32 d := by rw [e] at b3; exact b3.mid
      have hd := b4 d (by rw [e]; simp)
      have hnd := I.2.1.2.1
      have e55 := (I.2.1.2.2 d hd).2.2.1
      rw [List.length_cons, m_X12_leavesTold_4]
      simp (disch := omega) only [↓m1_pm, lit32, n32_add, n32_mul, n32_ix, n32_lt, n32_le, n32_eq, n32_in, pm_ix, pm_in, pm_eqn, n_eqpm, pm_ltn, n_ltpm, pm_len, n_lepm, pm_inj, forall_eq, b1, e84, e55]
      refine ⟨fun z => absurd z (by omega), fun _ => ⟨by omega, by omega, ?_⟩⟩
      have := ih (pre ++ [d]) (by rw [e]; simp)
      rw [bLvs_app, show bLvs (aD x) [d] = (dL (aD x) d).length by simp [bLvs], List.length_append, List.length_singleton] at this
      exact this
  exact ⟨_, main (aB x) [] rfl⟩
set_option maxHeartbeats 4000000 in
set_option maxRecDepth 100000 in
theorem q_choicesT {x : Ab} {h : Hp} {Q : Int32 → Hp → Prop} (I : InvR x h) (k : Q (n32 (bChs (aD x) (aB x))) h) : m_X12_choicesTold h Q := by
  obtain ⟨b1, b2, b3, b4, b5⟩ := id I.2.2.2.2.2.2.2.1
  have main : ∀ (rest pre : List Nat), aB x = pre ++ rest → m_X12_choicesTold_4 (rest.length + 1) Q (n32 (bChs (aD x) pre)) (n32 pre.length) h := by
    intro rest
    induction rest with
    | nil =>
      intro pre e
      rw [List.append_nil] at e
      have hl : (aB x).length = pre.length := by rw [e]
      rw [List.length_nil, m_X12_choicesTold_4, ← e]
      simp (disch := omega) only [↓m1_pm, lit32, n32_add, n32_mul, n32_ix, n32_lt, n32_le, n32_eq, n32_in, pm_ix, pm_in, pm_eqn, n_eqpm, pm_ltn, n_ltpm, pm_len, n_lepm, pm_inj, forall_eq, b1]
      exact ⟨fun _ => k, fun z => absurd (by omega) z⟩
    | cons d rest ih =>
      intro pre e
      have hlen : (aB x).length = pre.length + (rest.length + 1) := by rw [e]; simp
      have e84 : hI h 84 pre.length = n32 d := by rw [e] at b3; exact b3.mid
      have hd := b4 d (by rw [e]; simp)
      have hnd := I.2.1.2.1
      have e56 := (I.2.1.2.2 d hd).2.2.2.1
      rw [List.length_cons, m_X12_choicesTold_4]
      simp (disch := omega) only [↓m1_pm, lit32, n32_add, n32_mul, n32_ix, n32_lt, n32_le, n32_eq, n32_in, pm_ix, pm_in, pm_eqn, n_eqpm, pm_ltn, n_ltpm, pm_len, n_lepm, pm_inj, forall_eq, b1, e84, e56]
      refine ⟨fun z => absurd z (by omega), fun _ => ⟨by omega, by omega, ?_⟩⟩
      have := ih (pre ++ [d]) (by rw [e]; simp)
      rw [bChs_app, show bChs (aD x) [d] = dC (aD x) d by simp [bChs], List.length_append, List.length_singleton] at this
      exact this
  exact ⟨_, main (aB x) [] rfl⟩
set_option maxHeartbeats 4000000 in
set_option maxRecDepth 100000 in
theorem R_count {x : Ab} {v : Int32} {h : Hp} {Q : Int32 → Hp → Prop} (I : InvR x h) (k : Q (ansCount x v) h) : m_X12_count v h Q := by
  unfold m_X12_count
  unfold ansCount at k
  obtain ⟨r1, r2, r3, r4, r4', r5, r6, r7, r8, r9⟩ := id I
  have lawE : (¬ hI h 51 67 = 0 → vp_in (hI h 51 67 - 1) 6 ∧ Q (hI h 91 (ix (hI h 51 67 - 1))) h) ∧ (hI h 51 67 = 0 → Q 0 h) ↔ Q (n32 (lawS x).length) h := by
    obtain ⟨e67, l6, hL⟩ := r5
    by_cases h0 : (aL x).length = 0
    · have e0 : lawS x = [] := by
        unfold lawS
        rw [h0, List.getD_eq_getElem?_getD, List.getElem?_eq_none (by omega)]
        rfl
      rw [e67, h0, e0]
      exact ⟨fun z => z.2 rfl, fun z => ⟨fun w => absurd rfl w, fun _ => z⟩⟩
    · obtain ⟨g1, -, -⟩ := hL ((aL x).length - 1) (by omega)
      have es : n32 (aL x).length - 1 = n32 ((aL x).length - 1) := by rw [show (1 : Int32) = n32 1 from rfl, n32_sub (by omega)]
      rw [e67, es, n32_ix (by omega), g1]
      have hne : ¬ n32 (aL x).length = 0 := by rw [show (0 : Int32) = n32 0 from rfl, n32_eq (by omega) (by decide)]; exact h0
      exact ⟨fun z => (z.1 hne).2, fun z => ⟨fun _ => ⟨vpI (by omega) (by decide), z⟩, fun w => absurd w hne⟩⟩
  rw [lawE, r2.1, r5.1, r6.1, r7.1, r8.1, r9.1, r3.1]
  have ans : ∀ w, w < 10 → v = n32 w → Q (n32 (countN x w)) h := by
    rintro w hw rfl
    rw [argN_n hw (by omega)] at k
    exact k
  refine ⟨fun c => ans 0 (by decide) c, fun c0 => ⟨fun c => ans 1 (by decide) c, fun c1 => ⟨fun c => ans 2 (by decide) c, fun c2 => ⟨fun c => ans 3 (by decide) c, fun c3 => ⟨fun c => ans 4 (by decide) c, fun c4 => ⟨fun c => ans 5 (by decide) c, fun c5 => ⟨fun c => ans 6 (by decide) c, fun c6 => ⟨fun c => q_leavesT I (ans 7 (by decide) c), fun c7 => ⟨fun c => q_choicesT I (ans 8 (by decide) c), fun c8 => ⟨fun c => ans 9 (by decide) c, fun c9 => ?_⟩⟩⟩⟩⟩⟩⟩⟩⟩⟩
  cases ha : argN v 10 with
  | none => rw [ha] at k; exact k
  | some w =>
    obtain ⟨hw, rfl, -⟩ := argN_some ha
    exfalso
    rcases (show w = 0 ∨ w = 1 ∨ w = 2 ∨ w = 3 ∨ w = 4 ∨ w = 5 ∨ w = 6 ∨ w = 7 ∨ w = 8 ∨ w = 9 by omega) with rfl | rfl | rfl | rfl | rfl | rfl | rfl | rfl | rfl | rfl
    · exact c0 rfl
    · exact c1 rfl
    · exact c2 rfl
    · exact c3 rfl
    · exact c4 rfl
    · exact c5 rfl
    · exact c6 rfl
    · exact c7 rfl
    · exact c8 rfl
    · exact c9 rfl
/-- a byte of a number, the highest first -/
def btN (v : Int32) (j : Nat) : Nat := (v.toBitVec.toNat >>> (24 - 8 * j)) % 256
def fdL (a b c d e : Int32) : List Nat := [a, b, c, d, e].flatMap (fun v => [btN v 0, btN v 1, btN v 2, btN v 3])
def fdV (a b c d e : Int32) (k : Nat) : Int32 := if k < 4 then a else if k < 8 then b else if k < 12 then c else if k < 16 then d else e
theorem fd_get (a b c d e : Int32) {k : Nat} (h : k < 20) : (fdL a b c d e).getD k 0 = btN (fdV a b c d e k) (k % 4) := by
  rcases (show k = 0 ∨ k = 1 ∨ k = 2 ∨ k = 3 ∨ k = 4 ∨ k = 5 ∨ k = 6 ∨ k = 7 ∨ k = 8 ∨ k = 9 ∨ k = 10 ∨ k = 11 ∨ k = 12 ∨ k = 13 ∨ k = 14 ∨ k = 15 ∨ k = 16 ∨ k = 17 ∨ k = 18 ∨ k = 19 by omega) with rfl | rfl | rfl | rfl | rfl | rfl | rfl | rfl | rfl | rfl | rfl | rfl | rfl | rfl | rfl | rfl | rfl | rfl | rfl | rfl <;> rfl
theorem bt_lt (v : Int32) (j : Nat) : btN v j < 256 := Nat.mod_lt _ (by decide)
theorem fd_lt (a b c d e : Int32) {k : Nat} (h : k < 20) : (fdL a b c d e).getD k 0 < 256 := by rw [fd_get a b c d e h]; exact bt_lt _ _
theorem bt_ref (v : Int32) {j : Nat} (hj : j < 4) : ((v >>> (n32 (24 - 8 * j) &&& n32 31)).toInt8.toInt32).toInt8.toInt32 = byteOf (btN v j) := by
  have e1 : n32 (24 - 8 * j) &&& n32 31 = n32 (24 - 8 * j) := by
    rw [n32_and (by omega) (by omega), show (31 : Nat) = 2 ^ 5 - 1 from rfl, Nat.and_two_pow_sub_one_eq_mod, Nat.mod_eq_of_lt (by omega)]
  rw [e1, Int8.toInt8_toInt32]
  unfold byteOf
  congr 1
  apply Int8.toBitVec_inj.mp
  rw [Int32.toBitVec_toInt8, Int32.toBitVec_toInt8, Int32.toBitVec_shiftRight, n32_bv, n32_bv]
  have hsm : ((BitVec.ofNat 32 (24 - 8 * j)).smod 32) = BitVec.ofNat 32 (24 - 8 * j) := by
    have key : ∀ t : Fin 32, (BitVec.ofNat 32 t.val).smod 32 = BitVec.ofNat 32 t.val := by decide
    exact key ⟨24 - 8 * j, by omega⟩
  rw [hsm, BitVec.sshiftRight_eq']
  apply BitVec.eq_of_getLsbD_eq
  intro i hi
  rw [BitVec.getLsbD_signExtend, BitVec.getLsbD_signExtend, if_pos (by omega), if_pos (by omega), BitVec.getLsbD_sshiftRight, BitVec.toNat_ofNat, Nat.mod_eq_of_lt (show 24 - 8 * j < 2 ^ 32 by omega), BitVec.getLsbD_ofNat]
  unfold btN
  rw [show (256 : Nat) = 2 ^ 8 from rfl, Nat.testBit_mod_two_pow, Nat.testBit_shiftRight]
  simp only [hi, decide_true, Bool.true_and, show i < 32 by omega, show ¬ (32 ≤ i) by omega, decide_false, Bool.not_false]
  rw [if_pos (by omega)]
  rfl
