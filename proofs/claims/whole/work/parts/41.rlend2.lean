/-! THE MODEL: the day on which a family lends; who lends to whom -/
def sqD (F : Nat → Nat) (fl : List Rec) (l : Nat) (ds : List Nat) : List (Nat × Int) := (ds.map (fun d => (d, netD F fl l 0 d))).filter (fun q => q.2 != 0)
theorem sqD_z {F : Nat → Nat} {fl : List Rec} {l d : Nat} {ds : List Nat} (h : netD F fl l 0 d = 0) : sqD F fl l (d :: ds) = sqD F fl l ds := by simp [sqD, h]
theorem sqD_n {F : Nat → Nat} {fl : List Rec} {l d : Nat} {ds : List Nat} (h : netD F fl l 0 d ≠ 0) : sqD F fl l (d :: ds) = (d, netD F fl l 0 d) :: sqD F fl l ds := by simp [sqD, h]
def opN : Option Nat → Nat
  | none => 0
  | some d => d + 1
/-- what a look at the rows of one code stands on -/
def Look (F : Nat → Nat) (fl : List Rec) (h : Hp) : Prop := (∀ k, k < 8 → hI h 52 k = n32 (F k) ∧ F k < 8) ∧ FlA (nz fl) h ∧ (∀ q ∈ fl, RowOk q) ∧ (∀ f t dd, -3000000000000 ≤ netG F fl f t dd ∧ netG F fl f t dd ≤ 3000000000000) ∧ DaysA (daysOf (nz fl)) h ∧ (nz fl).length ≤ 250
theorem Look.mv {F : Nat → Nat} {fl : List Rec} {S : Nat → Nat → Prop} {h h' : Hp} (L : Look F fl h) (f : fr S h h') (h1 : ¬ S 51 48) (h2 : ∀ a k, 79 ≤ a → a ≤ 83 → ¬ S a k) (h3 : ∀ k, ¬ S 52 k) (h4 : ¬ S 51 61) (h5 : ∀ k, ¬ S 86 k) : Look F fl h' :=
  ⟨fun k hk => by rw [f.I (h3 k)]; exact L.1 k hk, L.2.1.fr f h1 h2, L.2.2.1, L.2.2.2.1, ⟨by rw [f.I h4]; exact L.2.2.2.2.1.1, L.2.2.2.2.1.2.1, fun k hk => by rw [f.I (h5 k)]; exact L.2.2.2.2.1.2.2 k hk⟩, L.2.2.2.2.2⟩
theorem Look.day {F : Nat → Nat} {fl : List Rec} {h : Hp} (L : Look F fl h) {pre rest : List Nat} {d : Nat} (e : daysOf (nz fl) = pre ++ d :: rest) : hI h 86 pre.length = n32 d ∧ d < 3000 := by
  have := L.2.2.2.2.1.2.2 pre.length (by rw [e]; simp)
  rw [e, getD_mid] at this
  refine ⟨this, ?_⟩
  obtain ⟨r, hr, -, e2⟩ := (days_mem (nz fl) d).mp (by rw [e]; simp)
  have := (L.2.2.1 r (List.mem_filter.mp hr).1).1
  omega
set_option maxHeartbeats 4000000 in
set_option maxRecDepth 100000 in
theorem q_ldB {F : Nat → Nat} {fl : List Rec} {l d0 : Nat} {h : Hp} {Q : Int32 → Hp → Prop} (L : Look F fl h) (hl : l < 8) (hd0 : d0 < 3000) : ∀ (rest pre : List Nat) (a : Bool), daysOf (nz fl) = pre ++ rest → Q (pm (if noFall a (sqD F fl l rest) then d0 + 1 else 0)) h → m_X12_lendingDay_7 (rest.length + 1) Q (n32 l) (n32 d0) (n32 (if a then 1 else 0)) (n32 pre.length) h := by
  intro rest
  obtain ⟨hF, A, ok, ab, D, l250⟩ := id L
  have e61 := D.1; have d256 := D.2.1
  induction rest with
  | nil =>
    intro pre a e k
    rw [List.append_nil] at e
    rw [List.length_nil, m_X12_lendingDay_7]
    rw [e] at e61
    have : pre.length ≤ 256 := by rw [← e]; exact d256
    simp (disch := omega) only [↓m1_pm, lit32, n32_add, n32_mul, n32_ix, n32_lt, n32_le, n32_eq, n32_in, pm_ix, pm_in, pm_eqn, n_eqpm, pm_ltn, n_ltpm, pm_len, n_lepm, pm_inj, forall_eq, e61]
    exact ⟨fun _ => k, fun z => absurd (Nat.le_refl _) z⟩
  | cons d rest ih =>
    intro pre a e k
    have hlen : (daysOf (nz fl)).length = pre.length + (rest.length + 1) := by rw [e]; simp
    obtain ⟨ed, hd⟩ := L.day e
    rw [List.length_cons, m_X12_lendingDay_7]
    simp (disch := omega) only [↓m1_pm, lit32, n32_add, n32_mul, n32_ix, n32_lt, n32_le, n32_eq, n32_in, pm_ix, pm_in, pm_eqn, n_eqpm, pm_ltn, n_ltpm, pm_len, n_lepm, pm_inj, forall_eq, e61, ed]
    refine ⟨fun z => absurd z (by omega), fun _ => ⟨by omega, ?_⟩⟩
    refine q_netOf (t := 0) (dd := d + 1) hF A ok (by omega) (by omega) (by omega) ?_
    have hab := ab l 0 (d + 1)
    rw [netGD] at hab ⊢
    have next : ∀ a' : Bool, Q (pm (if noFall a' (sqD F fl l rest) then d0 + 1 else 0)) h → m_X12_lendingDay_7 (rest.length + 1) Q (n32 l) (n32 d0) (n32 (if a' then 1 else 0)) (n32 (pre.length + 1)) h := by
      intro a' q
      have := ih (pre ++ [d]) a' (by rw [e]; simp) q
      rw [List.length_append, List.length_singleton] at this
      exact this
    generalize hv : netD F fl l 0 d = v at hab
    unfold m_X12_lendingDay_52 m_X12_lendingDay_65 m_X12_lendingDay_77 m_X12_lendingDay_88 m_X12_lendingDay_93 m_X12_lendingDay_94
    have z0 : (0 : Int64) = z64 0 := rfl
    rw [z0]
    simp (disch := omega) only [↓m1_pm, lit32, n32_add, n32_mul, n32_ix, n32_lt, n32_le, n32_eq, n32_in, pm_ix, pm_in, pm_eqn, n_eqpm, pm_ltn, n_ltpm, pm_len, n_lepm, pm_inj, forall_eq, lgc_eq, lgc_le, lgc_ge, lgc_gt]
    refine ⟨fun q => ⟨fun _ => ?_, fun z => absurd (Nat.zero_le _) z⟩, fun q => ?_⟩
    · rw [sqD_n (by rw [hv]; exact q), hv] at k
      unfold noFall at k
      cases a with
      | false =>
        simp only [Bool.false_and, Bool.not_false, Bool.true_and, Bool.false_or] at k
        simp (disch := omega) only [↓m1_pm, lit32, n32_add, n32_mul, n32_ix, n32_lt, n32_le, n32_eq, n32_in, pm_ix, pm_in, pm_eqn, n_eqpm, pm_ltn, n_ltpm, pm_len, n_lepm, pm_inj, forall_eq, if_false, Bool.false_eq_true]
        refine ⟨fun _ => ⟨fun _ => ⟨fun z => absurd trivial z, fun _ => ⟨fun z => ?_, fun z => ?_⟩⟩, fun z => absurd (Nat.zero_le _) z⟩, fun z => absurd trivial z⟩
        · rw [show decide (v > 0) = false by simp; omega] at k
          exact next false k
        · rw [show decide (v > 0) = true by simp; omega] at k
          exact next true k
      | true =>
        simp only [Bool.true_and, Bool.true_or] at k
        simp (disch := omega) only [↓m1_pm, lit32, n32_add, n32_mul, n32_ix, n32_lt, n32_le, n32_eq, n32_in, pm_ix, pm_in, pm_eqn, n_eqpm, pm_ltn, n_ltpm, pm_len, n_lepm, pm_inj, forall_eq, if_true]
        refine ⟨fun z => absurd z (by decide), fun _ => ⟨fun z => ⟨fun _ => ⟨fun _ => ?_, fun z => absurd z (by decide)⟩, fun z => absurd (Nat.zero_le _) z⟩, fun z => ?_⟩⟩
        · rw [show decide (v < 0) = false by simp; omega] at k
          exact next true (by simpa using k)
        · rw [show decide (v < 0) = true by simp; omega] at k
          simpa using k
    · rw [sqD_z (by rw [hv]; exact q)] at k
      exact next a k
set_option maxHeartbeats 4000000 in
set_option maxRecDepth 100000 in
theorem q_ldA {F : Nat → Nat} {fl : List Rec} {l : Nat} {h : Hp} {Q : Int32 → Hp → Prop} (L : Look F fl h) (hl : l < 8) : ∀ (rest pre : List Nat), daysOf (nz fl) = pre ++ rest → Q (pm (opN (lendDay (sqD F fl l rest)))) h → m_X12_lendingDay_7 (rest.length + 1) Q (n32 l) (pm 0) (n32 0) (n32 pre.length) h := by
  intro rest
  obtain ⟨hF, A, ok, ab, D, l250⟩ := id L
  have e61 := D.1; have d256 := D.2.1
  induction rest with
  | nil =>
    intro pre e k
    rw [List.append_nil] at e
    rw [List.length_nil, m_X12_lendingDay_7]
    rw [e] at e61
    have : pre.length ≤ 256 := by rw [← e]; exact d256
    simp (disch := omega) only [↓m1_pm, lit32, n32_add, n32_mul, n32_ix, n32_lt, n32_le, n32_eq, n32_in, pm_ix, pm_in, pm_eqn, n_eqpm, pm_ltn, n_ltpm, pm_len, n_lepm, pm_inj, forall_eq, e61]
    exact ⟨fun _ => k, fun z => absurd (Nat.le_refl _) z⟩
  | cons d rest ih =>
    intro pre e k
    have hlen : (daysOf (nz fl)).length = pre.length + (rest.length + 1) := by rw [e]; simp
    obtain ⟨ed, hd⟩ := L.day e
    rw [List.length_cons, m_X12_lendingDay_7]
    simp (disch := omega) only [↓m1_pm, lit32, n32_add, n32_mul, n32_ix, n32_lt, n32_le, n32_eq, n32_in, pm_ix, pm_in, pm_eqn, n_eqpm, pm_ltn, n_ltpm, pm_len, n_lepm, pm_inj, forall_eq, e61, ed]
    refine ⟨fun z => absurd z (by omega), fun _ => ⟨by omega, ?_⟩⟩
    refine q_netOf (t := 0) (dd := d + 1) hF A ok (by omega) (by omega) (by omega) ?_
    have hab := ab l 0 (d + 1)
    rw [netGD] at hab ⊢
    generalize hv : netD F fl l 0 d = v at hab
    unfold m_X12_lendingDay_52 m_X12_lendingDay_65 m_X12_lendingDay_77 m_X12_lendingDay_88 m_X12_lendingDay_93 m_X12_lendingDay_94
    have z0 : (0 : Int64) = z64 0 := rfl
    rw [z0]
    simp (disch := omega) only [↓m1_pm, lit32, n32_add, n32_mul, n32_ix, n32_lt, n32_le, n32_eq, n32_in, pm_ix, pm_in, pm_eqn, n_eqpm, pm_ltn, n_ltpm, pm_len, n_lepm, pm_inj, forall_eq, lgc_eq, lgc_le, lgc_ge, lgc_gt, ed]
    refine ⟨fun q => ⟨fun z => absurd z (by omega), fun _ => ⟨fun z => ?_, fun z => ?_⟩⟩, fun q => ?_⟩
    · rw [sqD_n (by rw [hv]; exact q), hv] at k
      unfold lendDay at k
      dsimp only at k
      rw [if_pos z] at k
      exact k
    · rw [sqD_n (by rw [hv]; exact q), hv] at k
      unfold lendDay at k
      dsimp only at k
      rw [if_neg z] at k
      refine ⟨fun _ => ⟨fun z => absurd z (by omega), fun _ => ⟨by omega, fun z => absurd trivial z, fun _ => ⟨fun _ => ?_, fun z => absurd (by omega) z⟩⟩⟩, fun z => absurd trivial z⟩
      have := q_ldB (Q := Q) L hl hd rest (pre ++ [d]) false (by rw [e]; simp) (by
        have e2 : opN (if noFall false (sqD F fl l rest) = true then some d else none) = if noFall false (sqD F fl l rest) = true then d + 1 else 0 := by split <;> rfl
        rw [← e2]; exact k)
      rw [List.length_append, List.length_singleton] at this
      exact this
    · rw [sqD_z (by rw [hv]; exact q)] at k
      have := ih (pre ++ [d]) (by rw [e]; simp) k
      rw [List.length_append, List.length_singleton] at this
      exact this
theorem q_lendDay {F : Nat → Nat} {fl : List Rec} {l : Nat} {h : Hp} {Q : Int32 → Hp → Prop} (L : Look F fl h) (hl : l < 8) (k : Q (pm (opN (lendDay (seqN F fl l)))) h) : m_X12_lendingDay (n32 l) h Q := by
  unfold m_X12_lendingDay
  refine ⟨_, q_ldA L hl (daysOf (nz fl)) [] rfl ?_⟩
  rw [show sqD F fl l (daysOf (nz fl)) = seqN F fl l from seq_days L.2.2.1]
  exact k
/-- the families to which l lends, as bits -/
def lnB (F : Nat → Nat) (fl : List Rec) (l j : Nat) : Nat := (List.range j).foldl (fun b i => if lendsB F fl l i then b ||| 2 ^ i else b) 0
theorem lnB_succ (F : Nat → Nat) (fl : List Rec) (l j : Nat) : lnB F fl l (j + 1) = if lendsB F fl l j then lnB F fl l j ||| 2 ^ j else lnB F fl l j := by simp [lnB, List.range_succ]
theorem lnB_lt (F : Nat → Nat) (fl : List Rec) (l : Nat) : ∀ j, lnB F fl l j < 2 ^ j
  | 0 => by simp [lnB]
  | j + 1 => by
    rw [lnB_succ]
    have := lnB_lt F fl l j
    have hp : 2 ^ (j + 1) = 2 * 2 ^ j := by rw [Nat.pow_succ]; omega
    split
    · exact Nat.or_lt_two_pow (by omega) (by omega)
    · omega
theorem lnB_bit (F : Nat → Nat) (fl : List Rec) (l : Nat) : ∀ j i, (lnB F fl l j).testBit i = (decide (i < j) && lendsB F fl l i)
  | 0, i => by simp [lnB]
  | j + 1, i => by
    rw [lnB_succ]
    have ih := lnB_bit F fl l j i
    by_cases hij : i = j
    · subst hij
      split
      · rename_i q; rw [Nat.testBit_or, Nat.testBit_two_pow]; simp [q]
      · rename_i q
        rw [ih]
        simp at q
        simp [q]
    · split
      · rw [Nat.testBit_or, ih, Nat.testBit_two_pow]
        rw [show decide (j = i) = false by simp; omega, Bool.or_false]
        congr 1
        simp; omega
      · rw [ih]
        congr 1
        simp; omega
def SLn (a k : Nat) : Prop := 87 ≤ a ∧ a ≤ 89
theorem SLn_Scr : ∀ a k, SLn a k → Scr a k := by unfold SLn Scr Last; omega
theorem Look.frL {F : Nat → Nat} {fl : List Rec} {h h' : Hp} (L : Look F fl h) (f : fr SLn h h') : Look F fl h'   := L.mv f (by unfold SLn; omega) (by unfold SLn; omega) (by unfold SLn; omega) (by unfold SLn; omega) (by unfold SLn; omega)
def clK (F : Nat → Nat) (fl : List Rec) (f t : Nat) : Bool := (List.range t).all (fun t => net F fl f (t + 1) == 0)
theorem clK_succ (F : Nat → Nat) (fl : List Rec) (f t : Nat) : clK F fl f (t + 1) = (clK F fl f t && (net F fl f (t + 1) == 0)) := by simp [clK, List.range_succ, List.all_append]
set_option maxHeartbeats 4000000 in
set_option maxRecDepth 100000 in
theorem q_fl46 {F : Nat → Nat} {fl : List Rec} {f : Nat} {Q : Hp → Prop} {k90 : Int32 → Hp → Prop} (h0 : Hp) (hf : f < 8) (k : ∀ h', Look F fl h' → fr (fun a k => a = 87 ∧ k = f) h0 h' → hI h' 87 f = n32 (if clean F fl f then 1 else 0) → k90 (n32 f) h') :
    ∀ (r t : Nat) (h : Hp), r + t = 5 → Look F fl h → fr (fun a k => a = 87 ∧ k = f) h0 h → hI h 87 f = n32 (if clK F fl f t then 1 else 0) → m_X12_findLending_46 (r + 1) k90 Q (n32 f) (n32 (t + 1)) h := by
  intro r
  induction r with
  | zero =>
    intro t h hr L fr0 e
    obtain rfl : t = 5 := by omega
    rw [m_X12_findLending_46]
    simp (disch := omega) only [↓m1_pm, lit32, n32_add, n32_mul, n32_ix, n32_lt, n32_le, n32_eq, n32_in, pm_ix, pm_in, pm_eqn, n_eqpm, pm_ltn, n_ltpm, pm_len, n_lepm, pm_inj, forall_eq]
    exact ⟨fun _ => k h L fr0 e, fun z => absurd (Nat.le_refl _) z⟩
  | succ r ih =>
    intro t h hr L fr0 e
    rw [m_X12_findLending_46]
    have wr : ∀ v : Nat, v < 2 → v = (if clK F fl f (t + 1) then 1 else 0) → m_X12_findLending_83 (fun v2 v3 hh => m_X12_findLending_46 (r + 1) k90 Q v2 v3 hh) k90 Q (n32 f) (n32 (t + 1)) (n32 f) (n32 v) h := by
      intro v hv ev
      unfold m_X12_findLending_83
      have e1 : n32 v &&& n32 1 = n32 v := by
        rw [n32_and (by omega) (by omega), Nat.and_one_is_mod, Nat.mod_eq_of_lt hv]
      simp (disch := omega) only [↓m1_pm, lit32, n32_add, n32_mul, n32_ix, n32_lt, n32_le, n32_eq, n32_in, pm_ix, pm_in, pm_eqn, n_eqpm, pm_ltn, n_ltpm, pm_len, n_lepm, pm_inj, forall_eq, e1]
      refine ⟨by omega, ih (t + 1) _ (by omega) (L.frL (fr_wI (fr.rf _ _) _ (by unfold SLn; omega))) (fr_wI fr0 _ ⟨rfl, rfl⟩) ?_⟩
      rw [hI_wI, if_pos ⟨rfl, rfl⟩, ev]
    simp (disch := omega) only [↓m1_pm, lit32, n32_add, n32_mul, n32_ix, n32_lt, n32_le, n32_eq, n32_in, pm_ix, pm_in, pm_eqn, n_eqpm, pm_ltn, n_ltpm, pm_len, n_lepm, pm_inj, forall_eq, e]
    refine ⟨fun z => absurd z (by omega), fun _ => ⟨by omega, fun z => ?_, fun z => ?_⟩⟩
    · refine wr 0 (by omega) ?_
      rw [clK_succ]
      cases hc : clK F fl f t with
      | false => simp
      | true => rw [hc] at z; exact absurd z (by decide)
    · have hc : clK F fl f t = true := by
        cases hc : clK F fl f t with
        | true => rfl
        | false => rw [hc] at z; exact absurd (by decide) z
      obtain ⟨hF, A, ok, ab, D, l250⟩ := id L
      refine q_netOf (t := t + 1) (dd := 0) hF A ok (by omega) (by omega) (by omega) ?_
      have hab := ab f (t + 1) 0
      rw [netG0] at hab ⊢
      have z0 : (0 : Int64) = z64 0 := rfl
      rw [z0]
      unfold m_X12_findLending_82
      simp (disch := omega) only [↓m1_pm, lit32, n32_add, n32_mul, n32_ix, n32_lt, n32_le, n32_eq, n32_in, pm_ix, pm_in, pm_eqn, n_eqpm, pm_ltn, n_ltpm, pm_len, n_lepm, pm_inj, forall_eq, lgc_eq]
      refine ⟨fun q => wr 0 (by omega) ?_, fun q => wr 1 (by omega) ?_⟩
      · rw [clK_succ, hc]; simp [q]
      · rw [clK_succ, hc]; simp [q]
/-- the first half: who is even, how much coin -/
def LnOne (F : Nat → Nat) (fl : List Rec) (h : Hp) (f : Nat) : Prop := hI h 89 f = n32 0 ∧ hI h 87 f = n32 (if clean F fl f then 1 else 0) ∧ hJ h 88 f = z64 (net F fl f 0)
set_option maxHeartbeats 4000000 in
set_option maxRecDepth 100000 in
theorem q_fl11 {F : Nat → Nat} {fl : List Rec} {Q : Hp → Prop} {k96 : Hp → Prop} (h0 : Hp) (k : ∀ h', Look F fl h' → fr SLn h0 h' → (∀ f, f < 8 → LnOne F fl h' f) → k96 h') :
    ∀ (r f : Nat) (h : Hp), r + f = 8 → Look F fl h → fr SLn h0 h → (∀ g, g < f → LnOne F fl h g) → m_X12_findLending_11 (r + 1) k96 Q (n32 f) h := by
  intro r
  induction r with
  | zero =>
    intro f h hr L fr0 e
    obtain rfl : f = 8 := by omega
    rw [m_X12_findLending_11]
    simp (disch := omega) only [↓m1_pm, lit32, n32_add, n32_mul, n32_ix, n32_lt, n32_le, n32_eq, n32_in, pm_ix, pm_in, pm_eqn, n_eqpm, pm_ltn, n_ltpm, pm_len, n_lepm, pm_inj, forall_eq]
    exact ⟨fun _ => k h L fr0 e, fun z => absurd (Nat.le_refl _) z⟩
  | succ r ih =>
    intro f h hr L fr0 e
    rw [m_X12_findLending_11]
    have e11 : n32 1 &&& n32 1 = n32 1 := rfl
    simp (disch := omega) only [↓m1_pm, lit32, n32_add, n32_mul, n32_ix, n32_lt, n32_le, n32_eq, n32_in, pm_ix, pm_in, pm_eqn, n_eqpm, pm_ltn, n_ltpm, pm_len, n_lepm, pm_inj, forall_eq, e11]
    refine ⟨fun z => absurd z (by omega), fun _ => ⟨by omega, by omega, ?_⟩⟩
    have f1 : fr SLn h (wI (wI h 89 f (n32 0)) 87 f (n32 1)) := fr_wI (fr_wI (fr.rf _ _) _ (by unfold SLn; omega)) _ (by unfold SLn; omega)
    generalize hh1 : wI (wI h 89 f (n32 0)) 87 f (n32 1) = h1 at f1
    have L1 := L.frL f1
    obtain ⟨hF, A, ok, ab, D, l250⟩ := id L1
    refine q_netOf (t := 0) (dd := 0) hF A ok (by omega) (by omega) (by omega) ?_
    rw [netG0]
    refine ⟨by omega, _, q_fl46 (wJ h1 88 f (z64 (net F fl f 0))) (by omega) (fun h2 L2 f2 e2 => ?_) 5 0 _ rfl (L1.frL (fr_wJ (fr.rf _ _) _ (by unfold SLn; omega))) (fr.rf _ _) ?_⟩
    · unfold m_X12_findLending_90
      simp (disch := omega) only [↓m1_pm, lit32, n32_add, n32_mul, n32_ix, n32_lt, n32_le, n32_eq, n32_in, pm_ix, pm_in, pm_eqn, n_eqpm, pm_ltn, n_ltpm, pm_len, n_lepm, pm_inj, forall_eq]
      have f3 : fr SLn h h2 := (f1.trans (fr_wJ (fr.rf _ _) _ (by unfold SLn; omega))).trans (f2.mono (by unfold SLn; intro q k h; omega))
      refine ih (f + 1) h2 (by omega) L2 (fr0.trans f3) (fun g hg => ?_)
      by_cases q : g = f
      · subst q
        refine ⟨?_, e2, ?_⟩
        · rw [f2.I (by omega), hI_wJ, ← hh1, hI_wI, if_neg (by omega), hI_wI, if_pos ⟨rfl, rfl⟩]
        · rw [f2.J (by omega), hJ_wJ, if_pos ⟨rfl, rfl⟩]
      · obtain ⟨a1, a2, a3⟩ := e g (by omega)
        refine ⟨?_, ?_, ?_⟩
        · rw [f2.I (by omega), hI_wJ, ← hh1, hI_wI, if_neg (by omega), hI_wI, if_neg (by omega)]; exact a1
        · rw [f2.I (by omega), hI_wJ, ← hh1, hI_wI, if_neg (by omega), hI_wI, if_neg (by omega)]; exact a2
        · rw [f2.J (by omega), hJ_wJ, if_neg (by omega), ← hh1, hJ_wI, hJ_wI]; exact a3
    · rw [hI_wJ, ← hh1, hI_wI, if_pos ⟨rfl, rfl⟩]
      rfl
