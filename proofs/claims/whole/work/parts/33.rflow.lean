/-! THE MODEL: what passes -/
def LstIs (l : List Nat) (h : Hp) : Prop := hI h 51 55 = n32 l.length ∧ l.length ≤ 6 ∧ RRow 85 l h
def FlA (fl : List Rec) (h : Hp) : Prop := hI h 51 48 = n32 fl.length ∧ fl.length ≤ 256 ∧ ∀ k, k < fl.length → hI h 79 k = n32 ((fl.getD k rec0) 0) ∧ hI h 80 k = n32 ((fl.getD k rec0) 1) ∧ hI h 81 k = n32 ((fl.getD k rec0) 2) ∧ hI h 82 k = n32 ((fl.getD k rec0) 3) ∧ hJ h 83 k = z64 ((fl.getD k rec0) 4 : Nat)
def SFl (a k : Nat) : Prop := 79 ≤ a ∧ a ≤ 83 ∨ a = 51 ∧ k = 48
theorem SFl_Scr : ∀ a k, SFl a k → Scr a k := by unfold SFl Scr Last; omega
def nz (l : List Rec) : List Rec := l.filter (fun r => r 4 != 0)
theorem getD_app_lt {α : Type} {l : List α} {k : Nat} {x d : α} (h : k < l.length) : (l ++ [x]).getD k d = l.getD k d := by
  rw [List.getD_eq_getElem?_getD, List.getD_eq_getElem?_getD, List.getElem?_append_left h]
theorem getD_app_at {α : Type} {l : List α} {x d : α} : (l ++ [x]).getD l.length d = x := by
  rw [List.getD_eq_getElem?_getD, List.getElem?_append_right (Nat.le_refl _)]; simp
theorem mkRow_f (d a b t m : Nat) : mkRow d a b t m 0 = d ∧ mkRow d a b t m 1 = a ∧ mkRow d a b t m 2 = b ∧ mkRow d a b t m 3 = t ∧ mkRow d a b t m 4 = m := by simp [mkRow]
set_option maxHeartbeats 4000000 in
set_option maxRecDepth 100000 in
theorem q_flow {fl : List Rec} {d a b t m : Nat} {h : Hp} {Q : Hp → Prop} (hm : m < 9223372036854775808) (F : FlA fl h) (hl : fl.length < 256) (k : ∀ h', fr SFl h h' → FlA (fl ++ nz [mkRow d a b t m]) h' → Q h') : m_X12_flow (n32 d) (n32 a) (n32 b) (n32 t) (z64 (m : Nat)) h Q := by
  unfold m_X12_flow
  obtain ⟨f0, f1, f2⟩ := F
  by_cases h0 : m = 0
  · subst h0
    refine ⟨fun c => absurd (by decide) c, fun _ => k h (fr.rf _ _) ?_⟩
    rw [show nz [mkRow d a b t 0] = [] by simp [nz, mkRow], List.append_nil]
    exact ⟨f0, f1, f2⟩
  · refine ⟨fun _ => ?_, fun c => ?_⟩
    · rw [show nz [mkRow d a b t m] = [mkRow d a b t m] by simp [nz, mkRow, h0]] at k
      rw [f0, n32_ix (by omega)]
      generalize e1 : wI h 79 fl.length (n32 d) = h1
      have f1 : hI h1 51 48 = n32 fl.length := by rw [← e1, hI_wI, if_neg (by omega)]; exact f0
      rw [f1, n32_ix (by omega)]
      generalize e2 : wI h1 80 fl.length (n32 a) = h2
      have f2' : hI h2 51 48 = n32 fl.length := by rw [← e2, hI_wI, if_neg (by omega)]; exact f1
      rw [f2', n32_ix (by omega)]
      generalize e3 : wI h2 81 fl.length (n32 b) = h3
      have f3 : hI h3 51 48 = n32 fl.length := by rw [← e3, hI_wI, if_neg (by omega)]; exact f2'
      rw [f3, n32_ix (by omega)]
      generalize e4 : wI h3 82 fl.length (n32 t) = h4
      have f4 : hI h4 51 48 = n32 fl.length := by rw [← e4, hI_wI, if_neg (by omega)]; exact f3
      rw [f4, n32_ix (by omega)]
      have f5 : hI (wJ h4 83 fl.length (z64 (m : Nat))) 51 48 = n32 fl.length := f4
      rw [f5, show n32 fl.length + 1 = n32 (fl.length + 1) from n32_add fl.length 1]
      have v := vpI hl (by decide)
      refine ⟨v, v, v, v, v, k _ ?_ ?_⟩
      · subst e1; subst e2; subst e3; subst e4
        refine fr_wI (fr_wJ (fr_wI (fr_wI (fr_wI (fr_wI (fr.rf _ _) _ ?_) _ ?_) _ ?_) _ ?_) _ ?_) _ ?_ <;> unfold SFl <;> omega
      · refine ⟨by rw [hI_wI]; simp, by simp; omega, fun j hj => ?_⟩
        rw [List.length_append, List.length_singleton] at hj
        have k79 : hI (wI (wJ h4 83 fl.length (z64 (m : Nat))) 51 48 (n32 (fl.length + 1))) 79 j = if j = fl.length then n32 d else hI h 79 j := by
          rw [hI_wI, if_neg (by omega), hI_wJ, ← e4, hI_wI, if_neg (by omega), ← e3, hI_wI, if_neg (by omega), ← e2, hI_wI, if_neg (by omega), ← e1, hI_wI]
          simp
        have k80 : hI (wI (wJ h4 83 fl.length (z64 (m : Nat))) 51 48 (n32 (fl.length + 1))) 80 j = if j = fl.length then n32 a else hI h 80 j := by
          rw [hI_wI, if_neg (by omega), hI_wJ, ← e4, hI_wI, if_neg (by omega), ← e3, hI_wI, if_neg (by omega), ← e2, hI_wI, ← e1, hI_wI, if_neg (c := 80 = 79 ∧ _) (by omega)]
          simp
        have k81 : hI (wI (wJ h4 83 fl.length (z64 (m : Nat))) 51 48 (n32 (fl.length + 1))) 81 j = if j = fl.length then n32 b else hI h 81 j := by
          rw [hI_wI, if_neg (by omega), hI_wJ, ← e4, hI_wI, if_neg (by omega), ← e3, hI_wI, ← e2, hI_wI, if_neg (c := 81 = 80 ∧ _) (by omega), ← e1, hI_wI, if_neg (c := 81 = 79 ∧ _) (by omega)]
          simp
        have k82 : hI (wI (wJ h4 83 fl.length (z64 (m : Nat))) 51 48 (n32 (fl.length + 1))) 82 j = if j = fl.length then n32 t else hI h 82 j := by
          rw [hI_wI, if_neg (by omega), hI_wJ, ← e4, hI_wI, ← e3, hI_wI, if_neg (c := 82 = 81 ∧ _) (by omega), ← e2, hI_wI, if_neg (c := 82 = 80 ∧ _) (by omega), ← e1, hI_wI, if_neg (c := 82 = 79 ∧ _) (by omega)]
          simp
        have k83 : hJ (wI (wJ h4 83 fl.length (z64 (m : Nat))) 51 48 (n32 (fl.length + 1))) 83 j = if j = fl.length then z64 (m : Nat) else hJ h 83 j := by
          rw [hJ_wI, hJ_wJ, ← e4, hJ_wI, ← e3, hJ_wI, ← e2, hJ_wI, ← e1, hJ_wI]
          simp
        rw [k79, k80, k81, k82, k83]
        rcases Nat.lt_or_ge j fl.length with q | q
        · have := f2 j q
          rw [getD_app_lt q, if_neg (by omega), if_neg (by omega), if_neg (by omega), if_neg (by omega), if_neg (by omega)]
          exact this
        · obtain rfl : j = fl.length := by omega
          rw [getD_app_at, if_pos rfl, if_pos rfl, if_pos rfl, if_pos rfl, if_pos rfl]
          have := mkRow_f d a b t m
          rw [this.1, this.2.1, this.2.2.1, this.2.2.2.1, this.2.2.2.2]
          exact ⟨rfl, rfl, rfl, rfl, rfl⟩
    · rw [show (0 : Int64) = z64 ((0 : Nat) : Int) from rfl, show (0 : Int32) = n32 0 from rfl, lgc_eq (by omega) (by omega) (by decide) (by decide)] at c
      omega
theorem nz_app (l m : List Rec) : nz (l ++ m) = nz l ++ nz m := by simp [nz]
/-- what a leaf adds -/
def lfFl (c : Nat) (r : Rec) : List Rec := if lfTimes r c = 0 then [] else nz (lfRows (lfTimes r c) r)
theorem nz_dl (L : List Rec) (c : Nat) : nz (dlRows L c) = L.flatMap (lfFl c) := by
  unfold dlRows
  induction L with
  | nil => rfl
  | cons r L ih =>
    rw [List.flatMap_cons, List.flatMap_cons, nz_app, ih]
    congr 1
    unfold lfFl
    split <;> rfl
theorem lfFl_len (c : Nat) (r : Rec) : (lfFl c r).length ≤ 3 := by
  unfold lfFl
  split
  · simp
  · refine Nat.le_trans (List.length_filter_le _ _) ?_
    unfold lfRows
    split
    · simp
    · split <;> simp
theorem lfTimes_le {r : Rec} {c : Nat} (h : LfOk r) : lfTimes r c ≤ 1000000 := by
  unfold lfTimes
  split
  · exact h.2.2.2.2.2.2.2.2.2.1
  · omega
set_option maxHeartbeats 4000000 in
set_option maxRecDepth 100000 in
theorem q_passes6 {x : Ab} {d c bf : Nat} {Q : Hp → Prop} (K : OkA x) (hd : d < (aD x).length) (hc : c < 2147483648) (hbf : bf ≤ 20) : ∀ (n i : Nat) (fl : List Rec) (h : Hp), InvR x h → FlA fl h → 96 * d ≤ i → i ≤ sN (dS (aD x) d) → sN (dS (aD x) d) - i < n → fl.length + 3 * (rem (dL (aD x) d) i).length ≤ 250 →
    (∀ h', fr SFl h h' → FlA (fl ++ (rem (dL (aD x) d) i).flatMap (lfFl (own c bf))) h' → Q h') → m_X12_passes_6 n Q (n32 d) (n32 c) (n32 (5 + bf)) (n32 i) h := by
  intro n
  induction n with
  | zero => intro i fl h _ _ _ _ h3; omega
  | succ n ih =>
    intro i fl h I F h1 h2 h3 hfl k
    have R := I.rd K hd
    have hlt := R.lt
    have hl := I.2.1.2.1
    have e53 := (I.2.1.2.2 d hd).1
    have hb := R.1.2.1
    rw [m_X12_passes_6]
    have ee : 96 * d + (sN (dS (aD x) d) - 96 * d) = sN (dS (aD x) d) := by omega
    simp (disch := omega) only [↓m1_pm, lit32, n32_add, n32_mul, n32_ix, n32_lt, n32_le, n32_eq, n32_in, pm_ix, pm_in, pm_eqn, n_eqpm, pm_ltn, n_ltpm, pm_len, n_lepm, pm_inj, forall_eq, e53, ee]
    refine ⟨by omega, fun cz => ?_, fun cz => ?_⟩
    · obtain rfl : i = sN (dS (aD x) d) := by omega
      rw [R.fin] at k
      exact k h (fr.rf _ _) (by simpa using F)
    · have hi : i < sN (dS (aD x) d) := by omega
      have hr := R.at h1 hi
      refine q_isLeaf R h1 hi (fun q => ?_) (fun q => ?_)
      · rcases hr with ⟨-, hr⟩ | ⟨g, -⟩
        · rw [hr] at k hfl
          unfold m_X12_passes_216
          simp (disch := omega) only [↓m1_pm, lit32, n32_add, n32_mul, n32_ix, n32_lt, n32_le, n32_eq, n32_in, pm_ix, pm_in, pm_eqn, n_eqpm, pm_ltn, n_ltpm, pm_len, n_lepm, pm_inj, forall_eq]
          exact ⟨fun z => absurd trivial z, fun _ => ih (i + 1) fl h I F (by omega) (by omega) (by omega) hfl k⟩
        · omega
      · rcases hr with ⟨g, -⟩ | ⟨-, r, hr, la, lo⟩
        · omega
        · rw [hr, List.flatMap_cons, ← List.append_assoc] at k
          rw [hr, List.length_cons] at hfl
          refine ⟨fun _ => ?_, fun z => absurd z (by decide)⟩
          refine q_times R h1 hi la hc (by omega) ?_
          have ht := lfTimes_le (c := own c bf) lo
          -- what is left behind this leaf
          have rest : ∀ (fl' : List Rec) (h' : Hp), fr SFl h h' → FlA fl' h' → fl' = fl ++ lfFl (own c bf) r → m_X12_passes_216 (fun v1 v2 v3 v4 hh => m_X12_passes_6 n Q v1 v2 v3 v4 hh) Q (n32 d) (n32 c) (n32 (5 + bf)) (n32 i) h' := by
            rintro fl' h' f F' rfl
            unfold m_X12_passes_216
            simp (disch := omega) only [↓m1_pm, lit32, n32_add, n32_mul, n32_ix, n32_lt, n32_le, n32_eq, n32_in, pm_ix, pm_in, pm_eqn, n_eqpm, pm_ltn, n_ltpm, pm_len, n_lepm, pm_inj, forall_eq]
            refine ih (i + 1) _ h' (I.fr (f.mono SFl_Scr)) F' (by omega) (by omega) (by omega) ?_ (fun h2 f2 F2 => k h2 (f.trans f2) F2)
            have := lfFl_len (own c bf) r
            rw [List.length_append]
            omega
          generalize hT : lfTimes r (own c bf) = T at ht
          by_cases hT0 : T = 0
          · subst hT0
            refine ⟨fun z => absurd (by decide) z, fun _ => rest fl h (fr.rf _ _) F (by simp [lfFl, hT])⟩
          · refine ⟨fun _ => ?_, fun z => ?_⟩
            · refine q_later R h1 hi ?_
              have hn := R.2.2 i h1 hi
              obtain ⟨n0, -, -, -, -, -, n7⟩ := hn
              obtain ⟨n1, n2, n3, n4, n5, n6, n8⟩ := n7 q
              obtain ⟨l11, l0, l1, l2, l3, l4, l5, l6, l7, -⟩ := la
              obtain ⟨o0, o1, o2, -, o3, o4, o5, o6, o7, -⟩ := lo
              rw [← l0] at n0; rw [← l1] at n1; rw [← l2] at n2; rw [← l3] at n3; rw [← l4] at n4; rw [← l5] at n5
              have hlf : lfFl (own c bf) r = nz (lfRows T r) := by unfold lfFl; rw [hT, if_neg hT0]
              have bM : T * r 4 ≤ 1000000 * 10000 := Nat.mul_le_mul ht (by omega)
              have bP : T * r 5 ≤ 1000000 * 10000 := Nat.mul_le_mul ht (by omega)
              simp (disch := omega) only [↓m1_pm, lit32, n32_add, n32_mul, n32_ix, n32_lt, n32_le, n32_eq, n32_in, pm_ix, pm_in, pm_eqn, n_eqpm, pm_ltn, n_ltpm, pm_len, n_lepm, pm_inj, forall_eq, litJ, z64_add, z64_sub, z64_mul, n32_long, lgc_eq, lgc_le, lgc_lt, lgc_ge, lgc_gt, n1, n2, n3, n4, n5, n6, n8, ← l6, ← Int.natCast_mul]
              refine ⟨by omega, by omega, by omega, by omega, by omega, ?_⟩
              refine q_flow (by omega) F (by omega) (fun h1' f1 F1 => ?_)
              have I1 := I.fr (f1.mono SFl_Scr)
              have g0 : hI h1' 58 i = n32 (r 0) := by rw [f1.I (by unfold SFl; omega)]; exact n0
              have g1 : hI h1' 64 i = n32 (r 1) := by rw [f1.I (by unfold SFl; omega)]; exact n1
              have g2 : hI h1' 65 i = n32 (r 2) := by rw [f1.I (by unfold SFl; omega)]; exact n2
              have g3 : hI h1' 66 i = n32 (r 3) := by rw [f1.I (by unfold SFl; omega)]; exact n3
              have g4 : hI h1' 67 i = n32 (r 4) := by rw [f1.I (by unfold SFl; omega)]; exact n4
              have g8 : hI h1' 70 i = n32 (sD (dS (aD x) d) 70 i) := by rw [f1.I (by unfold SFl; omega)]; exact n8
              -- the last row of a sale, of a hire
              have last : ∀ (fl' : List Rec) (h' : Hp), fr SFl h h' → FlA fl' h' → fl'.length < 256 → 2 ≤ r 0 → fl' ++ nz [mkRow (r 7) (r 2) (r 1) 0 (T * r 5)] = fl ++ lfFl (own c bf) r → m_X12_passes_165 (fun v1 v2 v3 v4 hh => m_X12_passes_6 n Q v1 v2 v3 v4 hh) Q (n32 d) (n32 c) (n32 (5 + bf)) (n32 i) (z64 (T : Nat)) (n32 (cxA (dS (aD x) d) i 4)) h' := by
                intro fl' h' f F' hl' h2 hE
                have m0 : hI h' 58 i = n32 (r 0) := by rw [f.I (by unfold SFl; omega)]; exact n0
                have m1 : hI h' 64 i = n32 (r 1) := by rw [f.I (by unfold SFl; omega)]; exact n1
                have m2 : hI h' 65 i = n32 (r 2) := by rw [f.I (by unfold SFl; omega)]; exact n2
                have m5 : hI h' 68 i = n32 (r 5) := by rw [f.I (by unfold SFl; omega)]; exact n5
                have m8 : hI h' 70 i = n32 (sD (dS (aD x) d) 70 i) := by rw [f.I (by unfold SFl; omega)]; exact n8
                unfold m_X12_passes_165
                simp (disch := omega) only [↓m1_pm, lit32, n32_add, n32_mul, n32_ix, n32_lt, n32_le, n32_eq, n32_in, pm_ix, pm_in, pm_eqn, n_eqpm, pm_ltn, n_ltpm, pm_len, n_lepm, pm_inj, forall_eq, litJ, z64_add, z64_sub, z64_mul, n32_long, lgc_eq, lgc_le, lgc_lt, lgc_ge, lgc_gt, m0, m1, m2, m5, m8, ← l7, ← Int.natCast_mul]
                refine ⟨by omega, fun z => absurd z (by omega), fun _ => ⟨by omega, by omega, by omega, by omega, ?_⟩⟩
                refine q_flow (by omega) F' hl' (fun h2' f2 F2 => ?_)
                rw [hE] at F2
                exact rest _ h2' (f.trans f2) F2 rfl
              have hfl1 : (fl ++ nz [mkRow (r 6) (r 1) (r 2) (r 3) (T * r 4)]).length ≤ fl.length + 1 := by
                rw [List.length_append]
                have : (nz [mkRow (r 6) (r 1) (r 2) (r 3) (T * r 4)]).length ≤ 1 := List.length_filter_le _ _
                omega
              simp (disch := omega) only [↓m1_pm, lit32, n32_add, n32_mul, n32_ix, n32_lt, n32_le, n32_eq, n32_in, pm_ix, pm_in, pm_eqn, n_eqpm, pm_ltn, n_ltpm, pm_len, n_lepm, pm_inj, forall_eq, litJ, z64_add, z64_sub, z64_mul, n32_long, lgc_eq, lgc_le, lgc_lt, lgc_ge, lgc_gt, g0, g1, g2, g3, g4, g8, ← l7, ← Int.natCast_mul]
              refine ⟨by omega, fun z => ?_, fun z => ⟨by omega, by omega, by omega, by omega, by omega, ?_⟩⟩
              · rcases Nat.lt_or_ge (r 0) 2 with w | w
                · unfold m_X12_passes_165
                  simp (disch := omega) only [↓m1_pm, lit32, n32_add, n32_mul, n32_ix, n32_lt, n32_le, n32_eq, n32_in, pm_ix, pm_in, pm_eqn, n_eqpm, pm_ltn, n_ltpm, pm_len, n_lepm, pm_inj, forall_eq, g0]
                  refine ⟨by omega, fun _ => rest _ h1' f1 F1 ?_, fun y => absurd w y⟩
                  rw [hlf]
                  unfold lfRows
                  rw [if_pos w]
                · refine last _ h1' f1 F1 (by omega) w ?_
                  rw [hlf]
                  unfold lfRows
                  rw [if_neg (by omega), if_pos (by omega), List.append_assoc, ← nz_app]
                  rfl
              · refine q_flow (by omega) F1 (by omega) (fun h2' f2 F2 => ?_)
                refine last _ h2' (f1.trans f2) F2 ?_ (by omega) ?_
                · rw [List.length_append]
                  have : (nz [mkRow (r 7) (r 2) (r 1) (r 3) (T * r 4)]).length ≤ 1 := List.length_filter_le _ _
                  omega
                · rw [hlf]
                  unfold lfRows
                  rw [if_neg (by omega), if_neg (by omega), List.append_assoc, List.append_assoc, ← nz_app, ← nz_app]
                  rfl
            · rw [show (0 : Int64) = z64 ((0 : Nat) : Int) from rfl, lgc_eq (by omega) (by omega) (by decide) (by decide)] at z
              omega
