/-! THE MODEL: heap, group, told -/
set_option maxHeartbeats 4000000 in
set_option maxRecDepth 100000 in
theorem q_gr33 {x : Ab} {n : Nat} {Q : Hp → Prop} {k110 : Int32 → Int32 → Hp → Prop} (K : OkA x) (hn : n < 2147483648) (h0 : Hp) (g0 : Nat → Nat)
    (k : ∀ h' g (p : Bool), fr S107 h0 h' → InvR x h' → GrA (aD x).length g h' → labs x n g → (p = true → sumG g (aD x).length < sumG g0 (aD x).length) → (p = false → g = g0 ∧ (∀ a b, a < (aD x).length → b < (aD x).length → g a < g b → hangB x n a b = false)) → k110 (n32 n) (n32 (if p then 1 else 0)) h') :
    ∀ (r a : Nat) (h : Hp) (g : Nat → Nat) (p : Bool), r + a = (aD x).length → InvR x h → fr S107 h0 h → GrA (aD x).length g h → labs x n g → (p = true → sumG g (aD x).length < sumG g0 (aD x).length) → (p = false → g = g0 ∧ (∀ c b, c < a → b < (aD x).length → g c < g b → hangB x n c b = false)) → m_X12_findGroups_33 (r + 1) k110 Q (n32 n) (n32 (if p then 1 else 0)) (n32 a) h := by
  intro r
  induction r with
  | zero =>
    intro a h g p hr I f G l c1 c0
    have e1 := I.2.1.1
    have hl := I.2.1.2.1
    rw [m_X12_findGroups_33]
    refine ⟨fun _ => k h g p f I G l c1 (fun q => ⟨(c0 q).1, fun c b hc => (c0 q).2 c b (by omega)⟩), fun z => ?_⟩
    rw [e1, n32_le (by omega) (by omega)] at z; omega
  | succ r ih =>
    intro a h g p hr I f G l c1 c0
    have e1 := I.2.1.1
    have hl := I.2.1.2.1
    rw [m_X12_findGroups_33, e1]
    refine ⟨fun z => ?_, fun _ => ?_⟩
    · rw [n32_le (by omega) (by omega)] at z; omega
    · refine ⟨_, q_gr44 K hn (by omega) h0 g0 p (fun h' g' p' f' I' G' l' dP d1 d0 => ?_) (aD x).length 0 h g p (by omega) I f G l (fun z => z) c1 (fun q => ⟨(c0 q).1, fun c hc => by omega⟩)⟩
      unfold m_X12_findGroups_104
      intro x1 e
      rw [e, show n32 a + 1 = n32 (a + 1) from n32_add a 1]
      refine ih (a + 1) h' g' p' (by omega) I' f' G' l' d1 (fun q => ⟨(d0 q).1, fun c b hc hb hlt => ?_⟩)
      have hp : p = false := by
        cases hp : p with
        | false => rfl
        | true => have := dP hp; rw [q] at this; cases this
      by_cases qc : c = a
      · subst qc; exact (d0 q).2 b hb hlt
      · have e2 := (d0 q).1
        have e3 := (c0 hp).1
        rw [e2, ← e3] at hlt
        exact (c0 hp).2 c b (by omega) hb hlt
set_option maxHeartbeats 4000000 in
set_option maxRecDepth 100000 in
theorem q_groups {x : Ab} {n : Nat} {h : Hp} {Q : Hp → Prop} (I : InvR x h) (K : OkA x) (hn : n < 2147483648) (k : ∀ h', fr S107 h h' → InvR x h' → (∀ d, d < (aD x).length → hI h' 107 d = n32 (grpN x n d) ∧ grpN x n d ≤ d) → Q h') : m_X12_findGroups (n32 n) h Q := by
  unfold m_X12_findGroups
  have hl := I.2.1.2.1
  have pass : ∀ (m : Nat) (h1 : Hp) (g : Nat → Nat), sumG g (aD x).length ≤ m → InvR x h1 → fr S107 h h1 → GrA (aD x).length g h1 → labs x n g → m_X12_findGroups_25 (m + 2) Q (n32 n) (n32 1) h1 := by
    intro m
    induction m with
    | zero =>
      intro h1 g hs I1 f1 G1 l1
      rw [m_X12_findGroups_25]
      refine ⟨fun z => absurd z (by decide), fun _ => ⟨_, q_gr33 K hn h1 g (fun h2 g2 p2 f2 I2 G2 l2 d1 d0 => ?_) (aD x).length 0 h1 g false (by omega) I1 (fr.rf _ _) G1 l1 (fun z => by cases z) (fun _ => ⟨rfl, fun c b hc => by omega⟩)⟩⟩
      unfold m_X12_findGroups_110
      cases p2 with
      | true => have := d1 rfl; omega
      | false =>
        rw [m_X12_findGroups_25]
        refine ⟨fun _ => ?_, fun z => absurd rfl z⟩
        obtain ⟨e, hq⟩ := d0 rfl
        have G : isGrp x n g2 := ⟨l2, fun u v hu hv hh => by
          rcases Nat.lt_trichotomy (g2 u) (g2 v) with q | q | q
          · have := hq u v hu hv q; rw [hh] at this; cases this
          · exact q
          · have := hq v u hv hu q; rw [hang_symm, hh] at this; cases this⟩
        exact k h2 (f1.trans f2) I2 (fun d hd => by rw [← grp_eq G hd]; exact ⟨G2 d hd, (l2 d hd).1⟩)
    | succ m ih =>
      intro h1 g hs I1 f1 G1 l1
      rw [m_X12_findGroups_25]
      refine ⟨fun z => absurd z (by decide), fun _ => ⟨_, q_gr33 K hn h1 g (fun h2 g2 p2 f2 I2 G2 l2 d1 d0 => ?_) (aD x).length 0 h1 g false (by omega) I1 (fr.rf _ _) G1 l1 (fun z => by cases z) (fun _ => ⟨rfl, fun c b hc => by omega⟩)⟩⟩
      unfold m_X12_findGroups_110
      cases p2 with
      | true => exact ih h2 g2 (by have := d1 rfl; omega) I2 (f1.trans f2) G2 l2
      | false =>
        rw [m_X12_findGroups_25]
        refine ⟨fun _ => ?_, fun z => absurd rfl z⟩
        obtain ⟨e, hq⟩ := d0 rfl
        have G : isGrp x n g2 := ⟨l2, fun u v hu hv hh => by
          rcases Nat.lt_trichotomy (g2 u) (g2 v) with q | q | q
          · have := hq u v hu hv q; rw [hh] at this; cases this
          · exact q
          · have := hq v u hv hu q; rw [hang_symm, hh] at this; cases this⟩
        exact k h2 (f1.trans f2) I2 (fun d hd => by rw [← grp_eq G hd]; exact ⟨G2 d hd, (l2 d hd).1⟩)
  have init : ∀ (r d : Nat) (h1 : Hp), r + d = (aD x).length → fr S107 h h1 → (∀ j, j < d → hI h1 107 j = n32 j) → m_X12_findGroups_2 (r + 1) (m_X12_findGroups_23 Q) Q (n32 n) (n32 d) h1 := by
    intro r
    induction r with
    | zero =>
      intro d h1 hr f e
      have I1 := I.fr (f.mono S107_Scr)
      rw [m_X12_findGroups_2]
      refine ⟨fun _ => ?_, fun z => ?_⟩
      · unfold m_X12_findGroups_23
        exact ⟨_, pass _ h1 (fun j => j) (Nat.le_refl _) I1 f (fun j hj => e j (by omega)) (fun j hj => ⟨Nat.le_refl _, fun f hf => rfl⟩)⟩
      · rw [I1.2.1.1, n32_le (by omega) (by omega)] at z; omega
    | succ r ih =>
      intro d h1 hr f e
      have I1 := I.fr (f.mono S107_Scr)
      have e1 := I1.2.1.1
      rw [m_X12_findGroups_2]
      simp (disch := omega) only [↓m1_pm, lit32, n32_add, n32_mul, n32_ix, n32_lt, n32_le, n32_eq, n32_in, pm_ix, pm_in, pm_eqn, n_eqpm, pm_ltn, n_ltpm, pm_len, n_lepm, pm_inj, forall_eq, e1]
      refine ⟨fun z => absurd z (by omega), fun _ => ⟨by omega, ih (d + 1) _ (by omega) (fr_wI f _ (by unfold S107; omega)) (fun j hj => ?_)⟩⟩
      rw [hI_wI]
      by_cases q : j = d
      · subst q; simp
      · rw [if_neg (by omega)]; exact e j (by omega)
  exact ⟨_, init (aD x).length 0 h (by omega) (fr.rf _ _) (fun j hj => by omega)⟩
noncomputable def heapsN (x : Ab) (n k : Nat) : Nat := ((List.range k).map (fun d => if grpN x n d = d then 1 else 0)).sum
theorem heapsN_succ (x : Ab) (n k : Nat) : heapsN x n (k + 1) = heapsN x n k + (if grpN x n k = k then 1 else 0) := by simp [heapsN, List.range_succ]
theorem heapsN_le (x : Ab) (n : Nat) : ∀ k, heapsN x n k ≤ k
  | 0 => by simp [heapsN]
  | k + 1 => by
    rw [heapsN_succ]
    have := heapsN_le x n k
    split <;> omega
noncomputable def ansHeap (x : Ab) (v1 v2 : Int32) : Int32 := match argN v1 2147483648 with
  | none => -1
  | some n => if v2 = -1 then n32 (heapsN x n (aD x).length) else (match argN v2 (aD x).length with | some d => n32 (grpN x n d) | none => -1)
set_option maxHeartbeats 4000000 in
set_option maxRecDepth 100000 in
theorem R_heap {x : Ab} {v1 v2 : Int32} {h : Hp} {Q : Int32 → Hp → Prop} (I : InvR x h) (K : OkA x) (k : ∀ h', fr Scr h h' → Q (ansHeap x v1 v2) h') : m_X12_heap v1 v2 h Q := by
  unfold m_X12_heap
  unfold ansHeap at k
  have hl := I.2.1.2.1
  rcases i_cases v1 with g | ⟨n, hn, rfl⟩
  · rw [argN_neg g] at k
    exact ⟨fun _ => k h (fr.rf _ _), fun z => absurd g z⟩
  · rw [argN_n hn hn] at k
    dsimp only at k
    refine ⟨fun z => ?_, fun _ => ⟨fun q => ?_, fun q => ?_⟩⟩
    · rw [show (0 : Int32) = n32 0 from rfl, n32_lt hn (by decide)] at z; omega
    · rw [if_pos q] at k
      unfold m_X12_heap_19
      refine q_groups I K hn (fun h1 f1 I1 e1 => ?_)
      rw [q]
      refine ⟨fun _ => ?_, fun z => absurd (by decide) z⟩
      have main : ∀ (r d : Nat), r + d = (aD x).length → m_X12_heap_40 (r + 1) Q (n32 (heapsN x n d)) (n32 d) h1 := by
        intro r
        induction r with
        | zero =>
          intro d hr
          rw [m_X12_heap_40]
          refine ⟨fun _ => ?_, fun z => ?_⟩
          · rw [show d = (aD x).length by omega]
            exact k h1 (f1.mono S107_Scr)
          · rw [I1.2.1.1, n32_le (by omega) (by omega)] at z; omega
        | succ r ih =>
          intro d hr
          have e0 := I1.2.1.1
          obtain ⟨e2, e3⟩ := e1 d (by omega)
          rw [m_X12_heap_40]
          unfold m_X12_heap_67
          have := ih (d + 1) (by omega)
          rw [heapsN_succ] at this
          simp (disch := omega) only [↓m1_pm, lit32, n32_add, n32_mul, n32_ix, n32_lt, n32_le, n32_eq, n32_in, pm_ix, pm_in, pm_eqn, n_eqpm, pm_ltn, n_ltpm, pm_len, n_lepm, pm_inj, forall_eq, e0, e2]
          refine ⟨fun z => absurd z (by omega), fun _ => ⟨by omega, fun z => ?_, fun z => ?_⟩⟩
          · rw [if_neg z] at this; exact this
          · rw [if_pos z] at this; exact this
      exact ⟨_, main (aD x).length 0 (by omega)⟩
    · rw [if_neg q] at k
      refine q_isDeal I.2.1 (fun e => ?_) (fun d hd e1 e2 => ?_)
      · rw [e] at k; exact ⟨fun z => absurd rfl z, fun _ => k h (fr.rf _ _)⟩
      · rw [e2] at k
        subst e1
        refine ⟨fun _ => ?_, fun z => absurd z (by decide)⟩
        unfold m_X12_heap_19
        refine q_groups I K hn (fun h1 f1 I1 e1 => ?_)
        refine ⟨fun z => ?_, fun _ => ?_⟩
        · rw [show (0 : Int32) = n32 0 from rfl, n32_lt (by omega) (by decide)] at z; omega
        · rw [n32_ix (by omega), (e1 d hd).1]
          exact ⟨vpI (by omega) (by decide), k h1 (f1.mono S107_Scr)⟩
/-- a deal's group in the order of numbers -/
noncomputable def grpL (x : Ab) (n d k : Nat) : List Nat := (List.range k).filter (fun e => grpN x n e == grpN x n d)
theorem grpL_succ (x : Ab) (n d k : Nat) : grpL x n d (k + 1) = if grpN x n k = grpN x n d then grpL x n d k ++ [k] else grpL x n d k := by
  unfold grpL
  rw [List.range_succ, List.filter_append]
  by_cases q : grpN x n k = grpN x n d
  · rw [if_pos q]; simp [q]
  · rw [if_neg q]; simp [q]
noncomputable def ansGroup (x : Ab) (v1 v2 : Int32) : Int32 := match argN v1 2147483648, argN v2 (aD x).length with
  | some n, some d => if (grpL x n d (aD x).length).length ≤ 6 then pm (loanN (aF x) (aD x) (grpL x n d (aD x).length)) else -1
  | _, _ => -1
theorem grpL_mono (x : Ab) (n d : Nat) : ∀ {a b : Nat}, a ≤ b → (grpL x n d a).length ≤ (grpL x n d b).length := by
  intro a b h
  induction b with
  | zero => rw [show a = 0 by omega]; exact Nat.le_refl _
  | succ b ih =>
    rcases Nat.lt_or_ge b a with q | q
    · rw [show a = b + 1 by omega]; exact Nat.le_refl _
    · have := ih q
      rw [grpL_succ]
      split
      · rw [List.length_append]; omega
      · exact this
set_option maxHeartbeats 4000000 in
set_option maxRecDepth 100000 in
theorem R_group {x : Ab} {v1 v2 : Int32} {h : Hp} {Q : Int32 → Hp → Prop} (I : InvR x h) (K : OkA x) (k : ∀ h', fr Scr h h' → Q (ansGroup x v1 v2) h') : m_X12_group v1 v2 h Q := by
  unfold m_X12_group
  unfold ansGroup at k
  have hl := I.2.1.2.1
  rcases i_cases v1 with g | ⟨n, hn, rfl⟩
  · rw [argN_neg g] at k
    exact ⟨fun _ => k h (fr.rf _ _), fun z => absurd g z⟩
  · rw [argN_n hn hn] at k
    refine ⟨fun z => ?_, fun _ => ?_⟩
    · rw [show (0 : Int32) = n32 0 from rfl, n32_lt hn (by decide)] at z; omega
    · refine q_isDeal I.2.1 (fun e => ?_) (fun d hd e1 e2 => ?_)
      · rw [e] at k; exact ⟨fun z => absurd rfl z, fun _ => k h (fr.rf _ _)⟩
      · rw [e2] at k
        subst e1
        dsimp only at k
        refine ⟨fun _ => ?_, fun z => absurd z (by decide)⟩
        refine q_groups I K hn (fun h1 f1 I1 e1 => ?_)
        have main : ∀ (r c : Nat) (h2 : Hp), r + c = (aD x).length → fr SLs h1 h2 → LstIs (grpL x n d c) h2 → m_X12_group_26 (r + 1) (m_X12_group_89 Q) Q (n32 d) (n32 c) h2 := by
          intro r
          induction r with
          | zero =>
            intro c h2 hr f2 L2
            have I2 := I1.fr (f2.mono SLs_Scr)
            rw [m_X12_group_26]
            refine ⟨fun _ => ?_, fun z => ?_⟩
            · unfold m_X12_group_89
              rw [show c = (aD x).length by omega] at L2
              have hin : inD x (grpL x n d (aD x).length) := fun e he => List.mem_range.mp (List.mem_filter.mp he).1
              refine q_loanAt I2 K hin L2 (fun h' f' => ?_)
              have := k h' (((f1.mono S107_Scr).trans (f2.mono SLs_Scr)).trans (f'.mono SLo_Scr))
              rw [if_pos L2.2.1] at this
              exact this
            · rw [I2.2.1.1, n32_le (by omega) (by omega)] at z; omega
          | succ r ih =>
            intro c h2 hr f2 L2
            have I2 := I1.fr (f2.mono SLs_Scr)
            have e0 := I2.2.1.1
            have ec : hI h2 107 c = n32 (grpN x n c) := by rw [f2.I (by unfold SLs; omega)]; exact (e1 c (by omega)).1
            have ed : hI h2 107 d = n32 (grpN x n d) := by rw [f2.I (by unfold SLs; omega)]; exact (e1 d hd).1
            have bc := (e1 c (by omega)).2
            have bd := (e1 d hd).2
            have e55 := L2.1; have l6 := L2.2.1
            rw [m_X12_group_26]
            unfold m_X12_group_83
            rw [e55, e0, n32_ix (by omega), n32_ix (by omega), n32_ix (by omega), ec, ed]
            have vc := vpI (n := 24) (a := c) (by omega) (by decide)
            have vd := vpI (n := 24) (a := d) (by omega) (by decide)
            refine ⟨fun z => ?_, fun _ => ⟨vc, vd, fun q => ⟨fun q2 => ?_, fun q2 => ?_⟩, fun q => ?_⟩⟩
            · rw [n32_le (by omega) (by omega)] at z; omega
            · rw [n32_eq (by omega) (by omega)] at q
              have q2' : (grpL x n d c).length ≠ 6 := by
                intro z; rw [z] at q2; exact q2 rfl
              refine ⟨vpI (by omega) (by decide), fun x3 e3 => ?_⟩
              rw [e3, show n32 c + 1 = n32 (c + 1) from n32_add c 1, hI_wI, if_neg (by omega), e55, show n32 (grpL x n d c).length + 1 = n32 ((grpL x n d c).length + 1) from n32_add _ 1]
              refine ih (c + 1) _ (by omega) (fr_wI (fr_wI f2 _ (by unfold SLs; omega)) _ (by unfold SLs; omega)) ?_
              rw [grpL_succ, if_pos q]
              refine ⟨by rw [hI_wI, if_pos ⟨rfl, rfl⟩]; simp, by simp; omega, ?_⟩
              refine L2.2.2.app (fun j => ?_)
              rw [hI_wI, if_neg (by omega), hI_wI]
              simp
            · rw [n32_eq (by omega) (by omega)] at q
              have h6 : (grpL x n d c).length = 6 := by
                rw [show (6 : Int32) = n32 6 from rfl, n32_eq (by omega) (by decide)] at q2
                exact q2
              have := k h2 ((f1.mono S107_Scr).trans (f2.mono SLs_Scr))
              have hm := grpL_mono x n d (show c + 1 ≤ (aD x).length by omega)
              rw [grpL_succ, if_pos q, List.length_append, h6, List.length_singleton] at hm
              rw [if_neg (by omega)] at this
              exact this
            · rw [n32_eq (by omega) (by omega)] at q
              intro x3 e3
              rw [e3, show n32 c + 1 = n32 (c + 1) from n32_add c 1]
              refine ih (c + 1) h2 (by omega) f2 ?_
              rw [grpL_succ, if_neg q]
              exact L2
        refine ⟨_, main (aD x).length 0 _ (by omega) (fr_wI (fr.rf _ _) _ (by unfold SLs; omega)) ⟨by rw [hI_wI, if_pos ⟨rfl, rfl⟩]; rfl, by simp [grpL], fun j hj => by simp [grpL] at hj⟩⟩
