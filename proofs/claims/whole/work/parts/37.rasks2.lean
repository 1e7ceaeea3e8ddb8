/-! THE MODEL: cost, passed -/
set_option maxHeartbeats 4000000 in
set_option maxRecDepth 100000 in
theorem q_cost42 {x : Ab} {l b w : Nat} {h : Hp} {Q : Int64 → Hp → Prop} (K : OkA x) (I : InvR x h) (F : FlA (nz (bR x 0)) h) (hl : l < 8) (hb : b < 8) (hw : w < 2) : ∀ (r f : Nat) (s : Int × Int × Nat), r + f = 8 → 0 ≤ s.1 → s.1 ≤ 3000000000000 * (f : Int) → 0 ≤ s.2.1 → s.2.1 ≤ 3000000000000 → s.2.2 ≤ 8 →
    Q (if w = 0 then z64 ((List.range' f r).foldl (costS (aF x) (bR x 0) l b) s).1 else (pm ((List.range' f r).foldl (costS (aF x) (bR x 0) l b) s).2.2).toInt64) h → m_X12_cost_42 (r + 1) (m_X12_cost_117 Q) Q (n32 l) (n32 b) (n32 w) (z64 s.1) (z64 s.2.1) (pm s.2.2) (n32 f) h := by
  intro r
  induction r with
  | zero =>
    intro f s hr h1 h2 h3 h4 h5 k
    rw [m_X12_cost_42]
    unfold m_X12_cost_117
    obtain rfl : f = 8 := by omega
    simp (disch := omega) only [↓m1_pm, lit32, n32_add, n32_mul, n32_ix, n32_lt, n32_le, n32_eq, n32_in, pm_ix, pm_in, pm_eqn, n_eqpm, pm_ltn, n_ltpm, pm_len, n_lepm, pm_inj, forall_eq]
    refine ⟨fun _ => ⟨fun q => ?_, fun q => ?_⟩, fun z => absurd (Nat.le_refl _) z⟩
    · rw [if_neg q] at k; exact k
    · rw [if_pos q] at k; exact k
  | succ r ih =>
    intro f s hr h1 h2 h3 h4 h5 k
    rw [List.range'_succ, List.foldl_cons] at k
    have hab := bR_abs K I.inB I.b6 0 0 f 0 0
    have e0 : netG (aF x) (bRows (aD x) (aB x) 0 0) f 0 0 = net (aF x) (bR x 0) f 0 := netG0 _ _ _ _
    rw [e0] at hab
    have skip : costS (aF x) (bR x 0) l b s f = s → m_X12_cost_42 (r + 1) (m_X12_cost_117 Q) Q (n32 l) (n32 b) (n32 w) (z64 s.1) (z64 s.2.1) (pm s.2.2) (n32 (f + 1)) h := fun e => ih (f + 1) s (by omega) h1 (by omega) h3 h4 h5 (by rw [e] at k; exact k)
    rw [m_X12_cost_42]
    unfold m_X12_cost_61 m_X12_cost_73 m_X12_cost_111
    have z0 : (0 : Int64) = z64 0 := rfl
    simp (disch := omega) only [↓m1_pm, lit32, n32_add, n32_mul, n32_ix, n32_lt, n32_le, n32_eq, n32_in, pm_ix, pm_in, pm_eqn, n_eqpm, pm_ltn, n_ltpm, pm_len, n_lepm, pm_inj, forall_eq]
    refine ⟨fun z => absurd z (by omega), fun _ => ⟨fun q => ?_, fun q => ⟨fun q2 => ?_, fun q2 => ?_⟩⟩⟩
    · refine ⟨fun z => absurd z (by decide), fun _ => skip ?_⟩
      unfold costS; rw [if_pos (Or.inl q)]
    · refine q_netOf (t := 0) (dd := 0) I.1 F (bRows_ok K I.inB).1 (by omega) (by omega) (by omega) ?_
      rw [netG0]
      generalize hv : net (aF x) (bR x 0) f 0 = v at hab
      have l1 : lg_cmp (z64 v) 0 > n32 0 ↔ 0 < v := by rw [z0]; exact lgc_gt (by omega) (by omega) (by omega) (by omega)
      have l2 : lg_cmp (z64 v) (z64 s.2.1) > n32 0 ↔ s.2.1 < v := lgc_gt (by omega) (by omega) (by omega) (by omega)
      refine ⟨fun z => ?_, fun z => skip ?_⟩
      · have hv0 : 0 < v := l1.mp z
        have ec : costS (aF x) (bR x 0) l b s f = (s.1 + v, if s.2.1 < v then v else s.2.1, if s.2.1 < v then f + 1 else s.2.2) := by
          unfold costS; rw [if_neg (by rw [hv]; omega), hv]
        rw [ec] at k
        rw [z64_add]
        refine ⟨fun z2 => ?_, fun z2 => ?_⟩
        · have c2 : s.2.1 < v := l2.mp z2
          rw [if_pos c2, if_pos c2] at k
          exact ih (f + 1) (s.1 + v, v, f + 1) (by omega) (by show 0 ≤ s.1 + v; omega) (by show s.1 + v ≤ _; omega) (by show 0 ≤ v; omega) (by show v ≤ _; omega) (by show f + 1 ≤ 8; omega) k
        · have c2 : ¬ s.2.1 < v := fun q => z2 (l2.mpr q)
          rw [if_neg c2, if_neg c2] at k
          exact ih (f + 1) (s.1 + v, s.2.1, s.2.2) (by omega) (by show 0 ≤ s.1 + v; omega) (by show s.1 + v ≤ _; omega) h3 h4 h5 k
      · unfold costS; rw [if_pos]
        have : ¬ 0 < v := fun q => z (l1.mpr q)
        rw [hv]; omega
    · refine ⟨fun z => absurd z (by decide), fun _ => skip ?_⟩
      unfold costS; rw [if_pos (Or.inr (Or.inl q2))]
set_option maxHeartbeats 4000000 in
set_option maxRecDepth 100000 in
theorem R_cost {x : Ab} {v1 v2 v3 : Int32} {h : Hp} {Q : Int64 → Hp → Prop} (I : InvR x h) (K : OkA x) (k : ∀ h', fr Scr h h' → Q (ansCost x v1 v2 v3) h') : m_X12_cost v1 v2 v3 h Q := by
  unfold m_X12_cost
  unfold ansCost at k
  refine q_bundle I (fun h1 f1 L => ?_)
  have I1 := I.fr (f1.mono SLs_Scr)
  replace k := fun h' (f : fr Scr h1 h') => k h' ((f1.mono SLs_Scr).trans f)
  refine q_two (fun q => ?_) (fun l b hl hb hlb e1 e2 e3 e4 => ?_)
  · refine ⟨fun _ => ?_, fun z => absurd rfl z⟩
    have := k h1 (fr.rf _ _)
    cases g1 : argN v1 8 with
    | none => rw [g1] at this; exact this
    | some l => cases g2 : argN v2 8 with
      | none => rw [g1, g2] at this; exact this
      | some b => cases g3 : argN v3 2 with
        | none => rw [g1, g2, g3] at this; exact this
        | some w => rw [g1, g2, g3] at this; dsimp only at this; rw [if_pos (q l b g1 g2)] at this; exact this
  · rw [e3, e4] at k
    refine ⟨fun z => absurd z (by decide), fun _ => ?_⟩
    refine q_upto (hi := 1) (by decide) (fun e => ?_) (fun w hw e5 e6 => ?_)
    · rw [e] at k; exact ⟨fun z => absurd rfl z, fun _ => k h1 (fr.rf _ _)⟩
    · rw [e6] at k
      dsimp only at k
      rw [if_neg hlb] at k
      subst e1; subst e2; subst e5
      refine ⟨fun _ => ?_, fun z => absurd z (by decide)⟩
      refine q_rows (c := 0) I1 K I.inB L (by omega) (fun h2 f2 I2 L2 F2 => ?_)
      refine ⟨_, q_cost42 K I2 F2 hl hb (by omega) 8 0 (0, 0, 0) rfl (by decide) (by decide) (by decide) (by decide) (by decide) ?_⟩
      rw [← List.range_eq_range']
      exact k h2 (f2.mono SFl_Scr)
/-- how many rows a leaf makes -/
theorem q_rowsOf {b : Nat} {s : St} {h : Hp} {i n : Nat} {r : Rec} {Q : Int32 → Hp → Prop} (R : RD b s h) (h1 : b ≤ i) (h2 : i < sN s) (hl : LfAt s r i) (ho : LfOk r) (k : Q (n32 (lfRows n r).length) h) : m_X12_rowsOf (n32 i) h Q := by
  unfold m_X12_rowsOf
  have e := (R.2.2 i h1 h2).1
  have hlt := R.lt
  rw [← hl.2.1] at e
  have o := ho.1
  simp (disch := omega) only [↓m1_pm, lit32, n32_add, n32_mul, n32_ix, n32_lt, n32_le, n32_eq, n32_in, pm_ix, pm_in, pm_eqn, n_eqpm, pm_ltn, n_ltpm, pm_len, n_lepm, pm_inj, forall_eq, e]
  unfold lfRows at k
  refine ⟨by omega, fun c => ⟨by omega, ?_⟩, fun c => ?_⟩
  · rw [if_neg (by omega)] at k
    by_cases q : r 0 = 2
    · rw [if_pos q] at k; rw [q]; exact k
    · rw [if_neg q] at k; rw [show r 0 = 3 by omega]; exact k
  · rw [if_pos (by omega)] at k; exact k
set_option maxHeartbeats 4000000 in
set_option maxRecDepth 100000 in
theorem q_rowsOfDeal9 {x : Ab} {d c bf : Nat} {h : Hp} {Q : Int32 → Hp → Prop} (I : InvR x h) (K : OkA x) (hd : d < (aD x).length) (hc : c < 2147483648) (hbf : bf ≤ 20) : ∀ (n i acc : Nat), 96 * d ≤ i → i ≤ sN (dS (aD x) d) → sN (dS (aD x) d) - i < n → acc + 3 * (rem (dL (aD x) d) i).length < 1000 →
    Q (n32 (acc + (dlRows (rem (dL (aD x) d) i) (own c bf)).length)) h → m_X12_rowsOfDeal_9 n Q (n32 d) (n32 c) (n32 (5 + bf)) (n32 acc) (n32 i) h := by
  intro n
  have R := I.rd K hd
  have hlt := R.lt
  have hl := I.2.1.2.1
  have e53 := (I.2.1.2.2 d hd).1
  have hb := R.1.2.1
  have ee : 96 * d + (sN (dS (aD x) d) - 96 * d) = sN (dS (aD x) d) := by omega
  induction n with
  | zero => intro i acc _ _ h3; omega
  | succ n ih =>
    intro i acc h1 h2 h3 ha k
    rw [m_X12_rowsOfDeal_9]
    simp (disch := omega) only [↓m1_pm, lit32, n32_add, n32_mul, n32_ix, n32_lt, n32_le, n32_eq, n32_in, pm_ix, pm_in, pm_eqn, n_eqpm, pm_ltn, n_ltpm, pm_len, n_lepm, pm_inj, forall_eq, e53, ee]
    refine ⟨by omega, fun cz => ?_, fun cz => ?_⟩
    · obtain rfl : i = sN (dS (aD x) d) := by omega
      rw [R.fin] at k
      exact k
    · have hi : i < sN (dS (aD x) d) := by omega
      have hr := R.at h1 hi
      refine q_isLeaf R h1 hi (fun q => ?_) (fun q => ?_)
      · rcases hr with ⟨-, hr⟩ | ⟨g, -⟩
        · rw [hr] at k ha
          unfold m_X12_rowsOfDeal_58
          simp (disch := omega) only [↓m1_pm, lit32, n32_add, n32_mul, n32_ix, n32_lt, n32_le, n32_eq, n32_in, pm_ix, pm_in, pm_eqn, n_eqpm, pm_ltn, n_ltpm, pm_len, n_lepm, pm_inj, forall_eq]
          exact ⟨fun _ => ih (i + 1) acc (by omega) (by omega) (by omega) ha k, fun z => absurd trivial z⟩
        · omega
      · rcases hr with ⟨g, -⟩ | ⟨-, r, hr, la, lo⟩
        · omega
        · rw [hr] at k ha
          rw [List.length_cons] at ha
          refine ⟨fun z => absurd z (by decide), fun _ => ?_⟩
          refine q_times R h1 hi la hc (by omega) ?_
          have ht := lfTimes_le (c := own c bf) lo
          have ek : (dlRows (r :: rem (dL (aD x) d) (i + 1)) (own c bf)).length = (if lfTimes r (own c bf) = 0 then [] else lfRows (lfTimes r (own c bf)) r : List Rec).length + (dlRows (rem (dL (aD x) d) (i + 1)) (own c bf)).length := by simp [dlRows]
          rw [ek] at k
          generalize hT : lfTimes r (own c bf) = T at ht k
          have z0 : (0 : Int64) = z64 ((0 : Nat) : Int) := rfl
          rw [z0]
          simp (disch := omega) only [↓m1_pm, lit32, n32_add, n32_mul, n32_ix, n32_lt, n32_le, n32_eq, n32_in, pm_ix, pm_in, pm_eqn, n_eqpm, pm_ltn, n_ltpm, pm_len, n_lepm, pm_inj, forall_eq, lgc_le]
          refine ⟨fun z => ?_, fun z => ?_⟩
          · unfold m_X12_rowsOfDeal_58
            simp (disch := omega) only [↓m1_pm, lit32, n32_add, n32_mul, n32_ix, n32_lt, n32_le, n32_eq, n32_in, pm_ix, pm_in, pm_eqn, n_eqpm, pm_ltn, n_ltpm, pm_len, n_lepm, pm_inj, forall_eq]
            refine ih (i + 1) acc (by omega) (by omega) (by omega) (by omega) ?_
            rw [if_pos (by omega)] at k
            simpa using k
          · rw [if_neg (by omega)] at k
            refine q_rowsOf (n := T) R h1 hi la lo ?_
            unfold m_X12_rowsOfDeal_58
            simp (disch := omega) only [↓m1_pm, lit32, n32_add, n32_mul, n32_ix, n32_lt, n32_le, n32_eq, n32_in, pm_ix, pm_in, pm_eqn, n_eqpm, pm_ltn, n_ltpm, pm_len, n_lepm, pm_inj, forall_eq]
            refine ih (i + 1) _ (by omega) (by omega) (by omega) (by have := lfRows_len T r; omega) (by rw [Nat.add_assoc]; exact k)
theorem q_rowsOfDeal {x : Ab} {d c bf : Nat} {h : Hp} {Q : Int32 → Hp → Prop} (I : InvR x h) (K : OkA x) (hd : d < (aD x).length) (hc : c < 2147483648) (hbf : bf ≤ 20) (k : Q (n32 (dlRows (dL (aD x) d) (own c bf)).length) h) : m_X12_rowsOfDeal (n32 d) (n32 c) (n32 (5 + bf)) h Q := by
  unfold m_X12_rowsOfDeal
  have R := I.rd K hd
  have l12 := K.l12 hd
  simp (disch := omega) only [lit32, n32_mul, forall_eq]
  refine ⟨_, q_rowsOfDeal9 I K hd hc hbf (sN (dS (aD x) d) - 96 * d + 1) (96 * d) 0 (Nat.le_refl _) R.1.2.1 (by omega) ?_ ?_⟩
  · rw [R.beg]; omega
  · rw [R.beg, Nat.zero_add]; exact k
/-- a row by its place among its leaf's -/
def lfRow (T p : Nat) (r : Rec) : Rec := if p = 0 then mkRow (r 6) (r 1) (r 2) (r 3) (T * r 4) else if r 0 = 2 ∨ p = 2 then mkRow (r 7) (r 2) (r 1) 0 (T * r 5) else mkRow (r 7) (r 2) (r 1) (r 3) (T * r 4)
theorem lfRow_get {T p : Nat} {r : Rec} (h : p < (lfRows T r).length) : (lfRows T r).getD p rec0 = lfRow T p r := by
  unfold lfRows at h ⊢
  unfold lfRow
  split at h
  · rename_i q
    rw [if_pos q]
    simp at h
    subst h
    rfl
  · rename_i q
    rw [if_neg q]
    split at h
    · rename_i q2
      rw [if_pos q2]
      simp at h
      rcases (show p = 0 ∨ p = 1 by omega) with rfl | rfl
      · rfl
      · rw [if_neg (by decide), if_pos (Or.inl q2)]; rfl
    · rename_i q2
      rw [if_neg q2]
      simp at h
      rcases (show p = 0 ∨ p = 1 ∨ p = 2 by omega) with rfl | rfl | rfl
      · rfl
      · rw [if_neg (by decide), if_neg (by omega)]; rfl
      · rw [if_neg (by decide), if_pos (by omega)]; rfl
def SRw (a k : Nat) : Prop := a = 51 ∧ (k = 58 ∨ k = 59 ∨ k = 60)
theorem SRw_Scr : ∀ a k, SRw a k → Scr a k := by unfold SRw Scr Last; omega
set_option maxHeartbeats 4000000 in
set_option maxRecDepth 100000 in
theorem q_findRow9 {x : Ab} {d c bf : Nat} {h : Hp} {Q : Hp → Prop} (I : InvR x h) (K : OkA x) (hd : d < (aD x).length) (hc : c < 2147483648) (hbf : bf ≤ 20) : ∀ (n i lf : Nat), 96 * d ≤ i → i ≤ sN (dS (aD x) d) → sN (dS (aD x) d) - i < n → lf < (dlRows (rem (dL (aD x) d) i) (own c bf)).length → lf < 1000 →
    (∀ j r p, 96 * d ≤ j → j < sN (dS (aD x) d) → sD (dS (aD x) d) 58 j < 4 → LfAt (dS (aD x) d) r j → LfOk r → p < (lfRows (lfTimes r (own c bf)) r).length → (dlRows (rem (dL (aD x) d) i) (own c bf)).getD lf rec0 = lfRow (lfTimes r (own c bf)) p r → Q (wJ (wI (wI h 51 58 (n32 j)) 51 59 (n32 p)) 51 60 (z64 (lfTimes r (own c bf) : Nat)))) → m_X12_findRow_9 n (m_X12_findRow_51 Q) Q (n32 c) (n32 (5 + bf)) (n32 lf) (n32 i) h := by
  intro n
  have R := I.rd K hd
  have hlt := R.lt
  induction n with
  | zero => intro i lf _ _ h3; omega
  | succ n ih =>
    intro i lf h1 h2 h3 ha hb k
    rw [m_X12_findRow_9]
    have hi : i < sN (dS (aD x) d) := by
      rcases Nat.lt_or_ge i (sN (dS (aD x) d)) with q | q
      · exact q
      · obtain rfl : i = sN (dS (aD x) d) := by omega
        rw [R.fin] at ha
        simp [dlRows] at ha
    have hr := R.at h1 hi
    have z0 : (0 : Int64) = z64 ((0 : Nat) : Int) := rfl
    refine q_isLeaf R h1 hi (fun q => ?_) (fun q => ?_)
    · rcases hr with ⟨-, hr⟩ | ⟨g, -⟩
      · rw [hr] at k ha
        refine ⟨fun _ => ?_, fun z => absurd rfl z⟩
        unfold m_X12_findRow_31 m_X12_findRow_70 m_X12_findRow_89
        rw [z0]
        have sub0 : n32 lf - n32 0 = n32 lf := n32_sub (by omega)
        simp (disch := omega) only [↓m1_pm, lit32, n32_add, n32_mul, n32_ix, n32_lt, n32_le, n32_eq, n32_in, pm_ix, pm_in, pm_eqn, n_eqpm, pm_ltn, n_ltpm, pm_len, n_lepm, pm_inj, forall_eq, lgc_le, sub0]
        exact ⟨fun _ => ⟨fun _ => ih (i + 1) lf (by omega) (by omega) (by omega) ha hb k, fun z => absurd (Int.le_refl _) z⟩, fun z => absurd (Int.le_refl _) z⟩
      · omega
    · rcases hr with ⟨g, -⟩ | ⟨-, r, hr, la, lo⟩
      · omega
      · rw [hr] at k ha
        refine ⟨fun z => absurd z (by decide), fun _ => ?_⟩
        refine q_times R h1 hi la hc (by omega) ?_
        have ht := lfTimes_le (c := own c bf) lo
        have hT : lfTimes r (own c bf) = lfTimes r (own c bf) := rfl
        have ek : dlRows (r :: rem (dL (aD x) d) (i + 1)) (own c bf) = (if lfTimes r (own c bf) = 0 then [] else lfRows (lfTimes r (own c bf)) r : List Rec) ++ dlRows (rem (dL (aD x) d) (i + 1)) (own c bf) := by simp [dlRows]
        rw [ek] at k ha
        unfold m_X12_findRow_31 m_X12_findRow_70 m_X12_findRow_89
        rw [z0]
        by_cases hT0 : lfTimes r (own c bf) = 0
        · rw [if_pos hT0, List.nil_append] at k ha
          rw [hT0]
          have sub0 : n32 lf - n32 0 = n32 lf := n32_sub (by omega)
          simp (disch := omega) only [↓m1_pm, lit32, n32_add, n32_mul, n32_ix, n32_lt, n32_le, n32_eq, n32_in, pm_ix, pm_in, pm_eqn, n_eqpm, pm_ltn, n_ltpm, pm_len, n_lepm, pm_inj, forall_eq, lgc_le, sub0]
          exact ⟨fun _ => ⟨fun _ => ih (i + 1) lf (by omega) (by omega) (by omega) ha hb k, fun z => absurd (Int.le_refl _) z⟩, fun z => absurd (Int.le_refl _) z⟩
        · rw [if_neg hT0] at k ha
          have l3 := lfRows_len (lfTimes r (own c bf)) r
          simp (disch := omega) only [↓m1_pm, lit32, n32_add, n32_mul, n32_ix, n32_lt, n32_le, n32_eq, n32_in, pm_ix, pm_in, pm_eqn, n_eqpm, pm_ltn, n_ltpm, pm_len, n_lepm, pm_inj, forall_eq, lgc_le]
          refine ⟨fun z => absurd z (by omega), fun _ => ?_⟩
          refine q_rowsOf (n := lfTimes r (own c bf)) R h1 hi la lo ?_
          simp (disch := omega) only [↓m1_pm, lit32, n32_add, n32_mul, n32_ix, n32_lt, n32_le, n32_eq, n32_in, pm_ix, pm_in, pm_eqn, n_eqpm, pm_ltn, n_ltpm, pm_len, n_lepm, pm_inj, forall_eq]
          refine ⟨fun z => ⟨fun z2 => absurd z2 (by omega), fun _ => ?_⟩, fun z => ?_⟩
          · refine q_rowsOf (n := lfTimes r (own c bf)) R h1 hi la lo ?_
            have sub : n32 lf - n32 (lfRows (lfTimes r (own c bf)) r).length = n32 (lf - (lfRows (lfTimes r (own c bf)) r).length) := n32_sub z
            simp (disch := omega) only [↓m1_pm, lit32, n32_add, n32_mul, n32_ix, n32_lt, n32_le, n32_eq, n32_in, pm_ix, pm_in, pm_eqn, n_eqpm, pm_ltn, n_ltpm, pm_len, n_lepm, pm_inj, forall_eq, sub]
            rw [List.length_append] at ha
            refine ih (i + 1) _ (by omega) (by omega) (by omega) (by omega) (by omega) (fun j r' p g1 g2 g3 g4 g5 g6 g7 => k j r' p g1 g2 g3 g4 g5 g6 ?_)
            rw [← g7, List.getD_eq_getElem?_getD, List.getElem?_append_right z, ← List.getD_eq_getElem?_getD]
          · unfold m_X12_findRow_51
            refine k i r lf h1 hi q la lo (by omega) ?_
            rw [← lfRow_get (by omega), List.getD_eq_getElem?_getD, List.getElem?_append_left (by omega), ← List.getD_eq_getElem?_getD]
theorem q_findRow {x : Ab} {d c bf lf : Nat} {h : Hp} {Q : Hp → Prop} (I : InvR x h) (K : OkA x) (hd : d < (aD x).length) (hc : c < 2147483648) (hbf : bf ≤ 20) (hlf : lf < (dlRows (dL (aD x) d) (own c bf)).length)
    (k : ∀ j r p, 96 * d ≤ j → j < sN (dS (aD x) d) → sD (dS (aD x) d) 58 j < 4 → LfAt (dS (aD x) d) r j → LfOk r → p < (lfRows (lfTimes r (own c bf)) r).length → (dlRows (dL (aD x) d) (own c bf)).getD lf rec0 = lfRow (lfTimes r (own c bf)) p r → Q (wJ (wI (wI h 51 58 (n32 j)) 51 59 (n32 p)) 51 60 (z64 (lfTimes r (own c bf) : Nat)))) : m_X12_findRow (n32 d) (n32 lf) (n32 c) (n32 (5 + bf)) h Q := by
  unfold m_X12_findRow
  have R := I.rd K hd
  have l12 := K.l12 hd
  have := dlRows_len (own c bf) (dL (aD x) d)
  simp (disch := omega) only [lit32, n32_mul, forall_eq]
  refine ⟨_, q_findRow9 I K hd hc hbf (sN (dS (aD x) d) - 96 * d + 1) (96 * d) lf (Nat.le_refl _) R.1.2.1 (by omega) ?_ (by omega) ?_⟩
  · rw [R.beg]; exact hlf
  · rw [R.beg]; exact k
set_option maxHeartbeats 4000000 in
set_option maxRecDepth 100000 in
theorem q_rowTold {x : Ab} {d j p w T : Nat} {r : Rec} {h : Hp} {Q : Int64 → Hp → Prop} (I : InvR x h) (K : OkA x) (hd : d < (aD x).length) (h1 : 96 * d ≤ j) (h2 : j < sN (dS (aD x) d)) (hk : sD (dS (aD x) d) 58 j < 4) (la : LfAt (dS (aD x) d) r j) (lo : LfOk r) (hp : p < (lfRows T r).length) (e58 : hI h 51 58 = n32 j) (e59 : hI h 51 59 = n32 p) (e60 : hJ h 51 60 = z64 (T : Nat)) (hw : w < 5)
    (k : Q (z64 (lfRow T p r w : Nat)) h) : m_X12_rowTold (n32 w) h Q := by
  have R := I.rd K hd
  have hlt := R.lt
  obtain ⟨n0, -, -, -, -, -, n7⟩ := R.2.2 j h1 h2
  obtain ⟨n1, n2, n3, n4, n5, n6, n8⟩ := n7 hk
  have la' := la
  obtain ⟨l11, l0, l1, l2, l3, l4, l5, l6, l7, -⟩ := la
  obtain ⟨o0, o1, o2, -, o3, o4, o5, o6, o7, -⟩ := lo
  rw [← l0] at n0; rw [← l1] at n1; rw [← l2] at n2; rw [← l3] at n3; rw [← l4] at n4; rw [← l5] at n5
  have hp3 := lfRows_len T r
  have hp1 : r 0 < 2 → p = 0 := by
    intro q
    unfold lfRows at hp
    rw [if_pos q] at hp
    simpa using hp
  have hp2 : r 0 = 2 → p < 2 := by
    intro q
    unfold lfRows at hp
    rw [if_neg (by omega), if_pos q] at hp
    simpa using hp
  -- the last stretch, by what is asked
  have fin : ∀ back coin : Nat, back < 2 → coin < 2 → (back = 0 ↔ p = 0) → (coin = 1 ↔ (¬ p = 0 ∧ (r 0 = 2 ∨ p = 2))) → m_X12_rowTold_49 Q (n32 w) (n32 j) (n32 back) (n32 coin) h := by
    intro back coin hb hc eb ec
    unfold m_X12_rowTold_49
    have z0 : (0 : Int64) = z64 ((0 : Nat) : Int) := rfl
    rw [z0]
    simp (disch := omega) only [↓m1_pm, lit32, n32_add, n32_mul, n32_ix, n32_lt, n32_le, n32_eq, n32_in, pm_ix, pm_in, pm_eqn, n_eqpm, pm_ltn, n_ltpm, pm_len, n_lepm, pm_inj, forall_eq, litJ, z64_add, z64_sub, z64_mul, n32_long, lgc_eq, lgc_le, lgc_lt, lgc_ge, lgc_gt, n1, n2, n3, n4, n5, e60, ← Int.natCast_mul]
    unfold lfRow at k
    have f1 := mkRow_f (r 6) (r 1) (r 2) (r 3) (T * r 4)
    have f2 := mkRow_f (r 7) (r 2) (r 1) 0 (T * r 5)
    have f3 := mkRow_f (r 7) (r 2) (r 1) (r 3) (T * r 4)
    refine ⟨fun c0 => ?_, fun c0 => ⟨fun c1 => ⟨fun q => ⟨by omega, ?_⟩, fun q => ⟨by omega, ?_⟩⟩, fun c1 => ⟨fun c2 => ⟨fun q => ⟨by omega, ?_⟩, fun q => ⟨by omega, ?_⟩⟩, fun c2 => ⟨fun c3 => ⟨fun q => ⟨by omega, ?_⟩, fun q => ?_⟩, fun c3 => ⟨fun q => ⟨by omega, ?_⟩, fun q => ⟨by omega, ?_⟩⟩⟩⟩⟩⟩
    · subst c0
      refine q_later R h1 h2 ?_
      simp (disch := omega) only [↓m1_pm, lit32, n32_add, n32_mul, n32_ix, n32_lt, n32_le, n32_eq, n32_in, pm_ix, pm_in, pm_eqn, n_eqpm, pm_ltn, n_ltpm, pm_len, n_lepm, pm_inj, forall_eq, n6, n8]
      refine ⟨fun q => ⟨by omega, ?_⟩, fun q => ⟨by omega, ?_⟩⟩
      · rw [if_pos (eb.mp q), f1.1] at k
        rw [Nat.add_comm, ← l6, n32_long (by omega)]; exact k
      · rw [if_neg (fun z => q (eb.mpr z))] at k
        rw [Nat.add_comm, ← l7, n32_long (by omega)]
        split at k
        · rw [f2.1] at k; exact k
        · rw [f3.1] at k; exact k
    · subst c1; rw [if_pos (eb.mp q), f1.2.1] at k; exact k
    · subst c1; rw [if_neg (fun z => q (eb.mpr z))] at k
      split at k
      · rw [f2.2.1] at k; exact k
      · rw [f3.2.1] at k; exact k
    · subst c2; rw [if_pos (eb.mp q), f1.2.2.1] at k; exact k
    · subst c2; rw [if_neg (fun z => q (eb.mpr z))] at k
      split at k
      · rw [f2.2.2.1] at k; exact k
      · rw [f3.2.2.1] at k; exact k
    · subst c3
      by_cases p0 : p = 0
      · rw [if_pos p0, f1.2.2.2.1] at k; exact k
      · rw [if_neg p0, if_neg (fun z => by have := ec.mpr ⟨p0, z⟩; omega), f3.2.2.2.1] at k; exact k
    · subst c3
      have := ec.mp (by omega)
      rw [if_neg this.1, if_pos this.2, f2.2.2.2.1] at k
      exact k
    · obtain rfl : w = 4 := by omega
      by_cases p0 : p = 0
      · rw [if_pos p0, f1.2.2.2.2] at k; exact k
      · rw [if_neg p0, if_neg (fun z => by have := ec.mpr ⟨p0, z⟩; omega), f3.2.2.2.2] at k; exact k
    · obtain rfl : w = 4 := by omega
      have := ec.mp (by omega)
      rw [if_neg this.1, if_pos this.2, f2.2.2.2.2] at k
      exact k
  have mid : ∀ back : Nat, back < 2 → (back = 0 ↔ p = 0) → m_X12_rowTold_17 Q (n32 w) (n32 j) (n32 back) h := by
    intro back hb eb
    unfold m_X12_rowTold_17 m_X12_rowTold_36 m_X12_rowTold_44
    simp (disch := omega) only [↓m1_pm, lit32, n32_add, n32_mul, n32_ix, n32_lt, n32_le, n32_eq, n32_in, pm_ix, pm_in, pm_eqn, n_eqpm, pm_ltn, n_ltpm, pm_len, n_lepm, pm_inj, forall_eq, n0, e59]
    refine ⟨by omega, fun q => ⟨fun q2 => ?_, fun q2 => ?_⟩, fun q => ⟨fun q2 => ?_, fun q2 => ⟨fun q3 => ?_, fun q3 => ?_⟩⟩⟩
    · exact fin back 0 hb (by omega) eb (by omega)
    · exact fin back 1 hb (by omega) eb (by omega)
    · exact fin back 1 hb (by omega) eb (by omega)
    · exact fin back 0 hb (by omega) eb (by have := hp2 q; omega)
    · exact fin back 1 hb (by omega) eb (by omega)
  unfold m_X12_rowTold
  simp (disch := omega) only [↓m1_pm, lit32, n32_add, n32_mul, n32_ix, n32_lt, n32_le, n32_eq, n32_in, pm_ix, pm_in, pm_eqn, n_eqpm, pm_ltn, n_ltpm, pm_len, n_lepm, pm_inj, forall_eq, e58, e59]
  exact ⟨fun q => mid 0 (by omega) (by omega), fun q => mid 1 (by omega) (by omega)⟩
def ansPassed (x : Ab) (v1 v2 v3 : Int32) : Int64 := match argN v1 (nCod (aD x) (aB x)) with
  | none => -1
  | some c => if v2 = -1 then (if v3 = 0 then z64 ((bR x c).length : Nat) else -1) else (match argN v2 (bR x c).length, argN v3 5 with | some k, some w => z64 (((bR x c).getD k rec0) w : Nat) | _, _ => -1)
