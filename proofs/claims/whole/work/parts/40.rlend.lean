/-! THE MODEL: days of coin, who lends -/
def DaysA (ds : List Nat) (h : Hp) : Prop := hI h 51 61 = n32 ds.length ∧ ds.length ≤ 256 ∧ ∀ k, k < ds.length → hI h 86 k = n32 (ds.getD k 0)
def SDy (a k : Nat) : Prop := a = 86 ∨ a = 51 ∧ k = 61
theorem SDy_Scr : ∀ a k, SDy a k → Scr a k := by unfold SDy Scr Last; omega
theorem FlA.fr {fl : List Rec} {S : Nat → Nat → Prop} {h h' : Hp} (A : FlA fl h) (f : fr S h h') (h1 : ¬ S 51 48) (h2 : ∀ a k, 79 ≤ a → a ≤ 83 → ¬ S a k) : FlA fl h' := by
  refine ⟨by rw [f.I h1]; exact A.1, A.2.1, fun k hk => ?_⟩
  rw [f.I (h2 79 k (by omega) (by omega)), f.I (h2 80 k (by omega) (by omega)), f.I (h2 81 k (by omega) (by omega)), f.I (h2 82 k (by omega) (by omega)), f.J (h2 83 k (by omega) (by omega))]
  exact A.2.2 k hk
set_option maxHeartbeats 4000000 in
set_option maxRecDepth 100000 in
theorem q_shift {ds : List Nat} {i : Nat} {Q : Hp → Prop} {k1 : Int32 → Int32 → Hp → Prop} {w : Int32} (hl : ds.length < 256) (h0 : Hp) (D : DaysA ds h0) (k : ∀ h', fr SDy h0 h' → hI h' 51 61 = n32 ds.length → (∀ m, m < i → hI h' 86 m = n32 (ds.getD m 0)) → (∀ m, i < m → m ≤ ds.length → hI h' 86 m = n32 (ds.getD (m - 1) 0)) → k1 w (n32 i) h') :
    ∀ (r j : Nat) (h : Hp), r + i = j → j ≤ ds.length → fr SDy h0 h → hI h 51 61 = n32 ds.length → (∀ m, m ≤ j → m < ds.length → hI h 86 m = n32 (ds.getD m 0)) → (∀ m, j < m → m ≤ ds.length → hI h 86 m = n32 (ds.getD (m - 1) 0)) → m_X12_findDays_89 (r + 1) k1 Q w (n32 i) (n32 j) h := by
  intro r
  induction r with
  | zero =>
    intro j h hr hj f e61 g1 g2
    obtain rfl : j = i := by omega
    rw [m_X12_findDays_89]
    refine ⟨fun _ => k h f e61 (fun m hm => g1 m (by omega) (by omega)) g2, fun z => ?_⟩
    rw [n32_le (by omega) (by omega)] at z; omega
  | succ r ih =>
    intro j h hr hj f e61 g1 g2
    rw [m_X12_findDays_89]
    have s1 : n32 j - n32 1 = n32 (j - 1) := n32_sub (by omega)
    have s2 := n32_dec (a := j) (by omega)
    have e := g1 (j - 1) (by omega) (by omega)
    simp (disch := omega) only [↓m1_pm, lit32, n32_add, n32_mul, n32_ix, n32_lt, n32_le, n32_eq, n32_in, pm_ix, pm_in, pm_eqn, n_eqpm, pm_ltn, n_ltpm, pm_len, n_lepm, pm_inj, forall_eq, s1, s2, e]
    refine ⟨fun z => absurd z (by omega), fun _ => ⟨by omega, by omega, ?_⟩⟩
    refine ih (j - 1) _ (by omega) (by omega) (fr_wI f _ (by unfold SDy; omega)) ?_ (fun m h1 h2 => ?_) (fun m h1 h2 => ?_)
    · rw [hI_wI, if_neg (by omega)]; exact e61
    · rw [hI_wI, if_neg (by omega)]; exact g1 m (by omega) h2
    · rw [hI_wI]
      by_cases q : m = j
      · subst q; rw [if_pos ⟨rfl, rfl⟩]
      · rw [if_neg (by omega)]; exact g2 m (by omega) h2
theorem getD_pre {pre post : List Nat} {k d : Nat} (h : k < pre.length) : (pre ++ post).getD k d = pre.getD k d := getD_ap_l h
set_option maxHeartbeats 4000000 in
set_option maxRecDepth 100000 in
theorem q_findDays7 {fl : List Rec} {Q : Hp → Prop} (ok : ∀ q ∈ fl, RowOk q) (hl : fl.length ≤ 250) : ∀ (rest pre : List Rec) (ds : List Nat) (h : Hp), fl = pre ++ rest → FlA fl h → DaysA ds h → ds.Pairwise (· < ·) → (∀ d ∈ ds, d < 3000) → ds.length ≤ pre.length →
    (∀ h', fr SDy h h' → DaysA (rest.foldl (fun ds r => if r 3 = 0 then insD (r 0) ds else ds) ds) h' → Q h') → m_X12_findDays_7 (rest.length + 1) Q (n32 pre.length) h := by
  intro rest
  induction rest with
  | nil =>
    intro pre ds h e A D pw hb hds k
    rw [List.append_nil] at e
    subst e
    have e48 := A.1
    rw [List.length_nil, m_X12_findDays_7]
    simp (disch := omega) only [↓m1_pm, lit32, n32_add, n32_mul, n32_ix, n32_lt, n32_le, n32_eq, n32_in, pm_ix, pm_in, pm_eqn, n_eqpm, pm_ltn, n_ltpm, pm_len, n_lepm, pm_inj, forall_eq, e48]
    exact ⟨fun _ => k h (fr.rf _ _) D, fun z => absurd (Nat.le_refl _) z⟩
  | cons r rest ih =>
    intro pre ds h e A D pw hb hds k
    have hm := A
    rw [e] at hm
    obtain ⟨g0, g1, g2, g3, g4⟩ := hm.mid
    have hlen : fl.length = pre.length + (rest.length + 1) := by rw [e]; simp
    obtain ⟨o0, o1, o2, -, o3, o4⟩ := ok r (by rw [e]; simp)
    have e48 := A.1; have e61 := D.1
    rw [List.foldl_cons] at k
    have next : ∀ (ds' : List Nat) (h' : Hp), fr SDy h h' → DaysA ds' h' → ds' = (if r 3 = 0 then insD (r 0) ds else ds) → m_X12_findDays_136 (fun v1 hh => m_X12_findDays_7 (rest.length + 1) Q v1 hh) Q (n32 pre.length) h' := by
      rintro ds' h' f D' rfl
      unfold m_X12_findDays_136
      simp (disch := omega) only [↓m1_pm, lit32, n32_add, n32_mul, n32_ix, n32_lt, n32_le, n32_eq, n32_in, pm_ix, pm_in, pm_eqn, n_eqpm, pm_ltn, n_ltpm, pm_len, n_lepm, pm_inj, forall_eq]
      have := ih (pre ++ [r]) _ h' (by rw [e]; simp) (A.fr f (by unfold SDy; omega) (by unfold SDy; omega)) D' (by split; exact insD_pw _ pw; exact pw) (by
        split
        · intro d hd
          rw [insD_mem] at hd
          rcases hd with rfl | hd
          · exact o0
          · exact hb d hd
        · exact hb) (by
        rw [List.length_append, List.length_singleton]
        split
        · have := insD_len (r 0) ds; omega
        · omega) (fun h2 f2 D2 => k h2 (f.trans f2) D2)
      rw [List.length_append, List.length_singleton] at this
      exact this
    rw [List.length_cons, m_X12_findDays_7]
    simp (disch := omega) only [↓m1_pm, lit32, n32_add, n32_mul, n32_ix, n32_lt, n32_le, n32_eq, n32_in, pm_ix, pm_in, pm_eqn, n_eqpm, pm_ltn, n_ltpm, pm_len, n_lepm, pm_inj, forall_eq, e48, g3]
    refine ⟨fun z => absurd z (by omega), fun _ => ⟨by omega, fun q => ?_, fun q => next ds h (fr.rf _ _) D (by rw [if_neg q])⟩⟩
    -- the place is looked for
    have look : ∀ (post p : List Nat), ds = p ++ post → (∀ d ∈ p, d < r 0) → m_X12_findDays_29 (post.length + 1) (m_X12_findDays_58 (fun v1 hh => m_X12_findDays_7 (rest.length + 1) Q v1 hh) Q) Q (n32 pre.length) (n32 p.length) h := by
      intro post
      induction post with
      | nil =>
        intro p ep hp
        rw [List.append_nil] at ep
        subst ep
        rw [List.length_nil, m_X12_findDays_29]
        unfold m_X12_findDays_58 m_X12_findDays_84
        simp (disch := omega) only [↓m1_pm, lit32, n32_add, n32_mul, n32_ix, n32_lt, n32_le, n32_eq, n32_in, pm_ix, pm_in, pm_eqn, n_eqpm, pm_ltn, n_ltpm, pm_len, n_lepm, pm_inj, forall_eq, e61]
        refine ⟨fun _ => ⟨fun _ => ⟨0 + 1, q_shift (by omega) h D (fun h' f e1 e2 e3 => ?_) 0 ds.length h (by omega) (Nat.le_refl _) (fr.rf _ _) e61 (fun m h1 h2 => D.2.2 m h2) (fun m h1 h2 => by omega)⟩, fun z => absurd (Nat.le_refl _) z⟩, fun z => absurd (Nat.le_refl _) z⟩
        unfold m_X12_findDays_114
        have g0' : hI h' 79 pre.length = n32 (r 0) := by rw [f.I (by unfold SDy; omega)]; exact g0
        simp (disch := omega) only [↓m1_pm, lit32, n32_add, n32_mul, n32_ix, n32_lt, n32_le, n32_eq, n32_in, pm_ix, pm_in, pm_eqn, n_eqpm, pm_ltn, n_ltpm, pm_len, n_lepm, pm_inj, forall_eq, g0', hI_wI, hI_wJ, hI_wR, hJ_wJ, hJ_wI, hJ_wR, hR_wR, hR_wI, hR_wJ, Nat.reduceEqDiff, false_and, and_false, if_false, if_true, ite_true, ite_false, reduceIte, e1]
        refine ⟨by omega, by omega, next (ds ++ [r 0]) _ (fr_wI (fr_wI f _ (by unfold SDy; omega)) _ (by unfold SDy; omega)) ?_ ?_⟩
        · refine ⟨by rw [hI_wI]; simp, by simp; omega, fun m hm => ?_⟩
          rw [List.length_append, List.length_singleton] at hm
          rw [hI_wI, if_neg (by omega), hI_wI]
          by_cases qm : m = ds.length
          · subst qm; rw [if_pos ⟨rfl, rfl⟩, getD_app_at]
          · rw [if_neg (by omega), getD_app_lt (by omega)]; exact e2 m (by omega)
        · rw [if_pos q]
          have := insD_new (d := r 0) (pre := ds) (post := []) hp (fun e t h => by cases h)
          rw [List.append_nil] at this
          exact this.symm
      | cons d post ih2 =>
        intro p ep hp
        have hpl : ds.length = p.length + (post.length + 1) := by rw [ep]; simp
        have ed : hI h 86 p.length = n32 d := by
          have := D.2.2 p.length (by omega)
          rw [ep, getD_mid] at this
          exact this
        have hd : d < 3000 := hb d (by rw [ep]; simp)
        rw [List.length_cons, m_X12_findDays_29]
        simp (disch := omega) only [↓m1_pm, lit32, n32_add, n32_mul, n32_ix, n32_lt, n32_le, n32_eq, n32_in, pm_ix, pm_in, pm_eqn, n_eqpm, pm_ltn, n_ltpm, pm_len, n_lepm, pm_inj, forall_eq, e61, ed, g0]
        refine ⟨fun z => absurd z (by omega), fun _ => ⟨by omega, by omega, fun z => ?_, fun z => ?_⟩⟩
        · unfold m_X12_findDays_58 m_X12_findDays_84
          simp (disch := omega) only [↓m1_pm, lit32, n32_add, n32_mul, n32_ix, n32_lt, n32_le, n32_eq, n32_in, pm_ix, pm_in, pm_eqn, n_eqpm, pm_ltn, n_ltpm, pm_len, n_lepm, pm_inj, forall_eq, e61, ed, g0]
          refine ⟨fun z => absurd z (by omega), fun _ => ⟨by omega, by omega, fun z2 => ?_, fun z2 => ?_⟩⟩
          · refine ⟨(post.length + 1) + 1, q_shift (by omega) h D (fun h' f e1 e2 e3 => ?_) (post.length + 1) ds.length h (by omega) (Nat.le_refl _) (fr.rf _ _) e61 (fun m h1 h2 => D.2.2 m h2) (fun m h1 h2 => by omega)⟩
            unfold m_X12_findDays_114
            have g0' : hI h' 79 pre.length = n32 (r 0) := by rw [f.I (by unfold SDy; omega)]; exact g0
            simp (disch := omega) only [↓m1_pm, lit32, n32_add, n32_mul, n32_ix, n32_lt, n32_le, n32_eq, n32_in, pm_ix, pm_in, pm_eqn, n_eqpm, pm_ltn, n_ltpm, pm_len, n_lepm, pm_inj, forall_eq, g0', hI_wI, hI_wJ, hI_wR, hJ_wJ, hJ_wI, hJ_wR, hR_wR, hR_wI, hR_wJ, Nat.reduceEqDiff, false_and, and_false, if_false, if_true, ite_true, ite_false, reduceIte, e1]
            refine ⟨by omega, by omega, next (p ++ r 0 :: d :: post) _ (fr_wI (fr_wI f _ (by unfold SDy; omega)) _ (by unfold SDy; omega)) ?_ ?_⟩
            · have hlm : (p ++ r 0 :: d :: post).length = p.length + (post.length + 2) := by simp
              refine ⟨by rw [hI_wI, if_pos ⟨rfl, rfl⟩]; exact congrArg n32 (by omega), by omega, fun m hm => ?_⟩
              rw [hI_wI, if_neg (by omega), hI_wI]
              rcases Nat.lt_trichotomy m p.length with qm | qm | qm
              · rw [if_neg (by omega), e2 m qm, getD_ap_l qm, ep, getD_ap_l qm]
              · subst qm; rw [if_pos ⟨rfl, rfl⟩, getD_mid]
              · rw [if_neg (by omega), e3 m qm (by omega), getD_ap_r (by omega), ep, getD_ap_r (by omega)]
                obtain ⟨u, hu⟩ : ∃ u, m - p.length = u + 1 := ⟨m - p.length - 1, by omega⟩
                rw [hu, show m - 1 - p.length = u by omega]
                rfl
            · rw [if_pos q, ep]
              exact (insD_new hp (fun e t h => by cases h; omega)).symm
          · refine next ds h (fr.rf _ _) D ?_
            rw [if_pos q, ep, show d = r 0 from z2]
            exact (insD_in hp).symm
        · have := ih2 (p ++ [d]) (by rw [ep]; simp) (fun e he => by
            rw [List.mem_append, List.mem_singleton] at he
            rcases he with he | rfl
            · exact hp e he
            · omega)
          rw [List.length_append, List.length_singleton] at this
          exact this
    exact ⟨_, look ds [] rfl (by simp)⟩
theorem q_findDays {fl : List Rec} {h : Hp} {Q : Hp → Prop} (A : FlA (nz fl) h) (ok : ∀ q ∈ fl, RowOk q) (hl : (nz fl).length ≤ 250) (k : ∀ h', fr SDy h h' → DaysA (daysOf (nz fl)) h' → Q h') : m_X12_findDays h Q := by
  unfold m_X12_findDays
  have f0 : fr SDy h (wI h 51 61 0) := fr_wI (fr.rf _ _) _ (by unfold SDy; omega)
  exact ⟨_, q_findDays7 (fun q hq => ok q (List.mem_filter.mp hq).1) hl (nz fl) [] [] _ rfl (A.fr f0 (by unfold SDy; omega) (by unfold SDy; omega)) ⟨rfl, by decide, fun k hk => by simp at hk⟩ List.Pairwise.nil (fun d hd => by simp at hd) (Nat.le_refl _) (fun h' f D => k h' (f0.trans f) D)⟩
