/-! THE CLASS: heap, group -/
theorem SKn_Own : ∀ a k, SKn a k → Own a k := by unfold SKn Own; omega
theorem c_heaps {x : Ab} {n : Nat} {h : Hp} {Q : Int32 → Hp → Prop} (N24 : (aD x).length ≤ 24) (G : ∀ d, d < (aD x).length → hI h 47 d = n32 (grpN x n d) ∧ grpN x n d ≤ d) (k : Q (n32 (heapsN x n (aD x).length)) h) : m_X4_heaps (n32 (aD x).length) h Q := by
  unfold m_X4_heaps
  have main : ∀ (r v : Nat), r + v = (aD x).length → m_X4_heaps_4 (r + 1) Q (n32 (aD x).length) (n32 (heapsN x n v)) (n32 v) h := by
    intro r
    induction r with
    | zero =>
      intro v e
      obtain rfl : v = (aD x).length := by omega
      rw [m_X4_heaps_4, n32_le (by omega) (by omega)]
      exact ⟨fun _ => k, fun z => absurd (Nat.le_refl _) z⟩
    | succ r ih =>
      intro v e
      obtain ⟨g1, g2⟩ := G v (by omega)
      have nx := ih (v + 1) (by omega)
      rw [heapsN_succ] at nx
      rw [m_X4_heaps_4, n32_le (by omega) (by omega), n32_ix (by omega), g1, n32_eq (by omega) (by omega)]
      unfold m_X4_heaps_22
      refine ⟨fun z => absurd z (by omega), fun _ => ⟨vpI (by omega) (by decide), fun z x1 e1 => ?_, fun z x2 e2 x1 e1 => ?_⟩⟩
      · rw [if_neg z, Nat.add_zero] at nx
        rw [e1, show n32 v + 1 = n32 (v + 1) from n32_add _ 1]
        exact nx
      · rw [if_pos z] at nx
        rw [e1, e2, show n32 v + 1 = n32 (v + 1) from n32_add _ 1, show n32 (heapsN x n v) + 1 = n32 (heapsN x n v + 1) from n32_add _ 1]
        exact nx
  exact ⟨_, main (aD x).length 0 (by omega)⟩
theorem C_heap {x : Ab} {da : Nat → Nat} {v1 v2 : Int32} {h : Hp} {Q : Int32 → Hp → Prop} (I : InvC x da h) (K : OkA x) (k : ∀ h', fr Own h h' → Q (ansHeap x v1 v2) h') : m_X11_heap v1 v2 h Q := by
  unfold m_X11_heap
  unfold ansHeap at k
  have V := I.vw
  have D := I.kd
  have e4 := I.2.2.1.1
  have N24 := I.2.2.1.2.1
  rcases i_cases v1 with g | ⟨n, hn, rfl⟩
  · rw [argN_neg g] at k
    exact ⟨fun _ => k h (fr.rf _ _), fun z => absurd g z⟩
  · rw [argN_n hn hn] at k
    dsimp only at k
    refine ⟨fun z => ?_, fun _ => ⟨fun z => ?_, fun z => ?_⟩⟩
    · rw [show (0 : Int32) = n32 0 from rfl, n32_lt hn (by decide)] at z; omega
    · rw [if_pos z] at k
      unfold m_X11_heap_22
      rw [e4]
      refine c_gather V D K hn (fun h1 f1 G => ⟨fun y => absurd z y, fun _ => ?_⟩)
      rw [f1.I (by unfold SKn; omega), e4]
      exact c_heaps N24 G (k h1 (f1.mono SKn_Own))
    · rw [if_neg z] at k
      rw [e4]
      refine c_within (by omega) (fun e => ?_) (fun d hd hd2 e1 e2 => ?_)
      · rw [e] at k
        exact ⟨fun y => absurd rfl y, fun _ => k h (fr.rf _ _)⟩
      · rw [e2] at k
        dsimp only at k
        refine ⟨fun _ => ?_, fun y => absurd y (by decide)⟩
        unfold m_X11_heap_22
        rw [e4]
        refine c_gather V D K hn (fun h1 f1 G => ⟨fun _ => ?_, fun y => absurd y z⟩)
        rw [e1, n32_ix (by omega), (G d hd).1]
        exact ⟨vpI (by omega) (by decide), k h1 (f1.mono SKn_Own)⟩
def SFb (a k : Nat) : Prop := a = 48 ∧ k = 1 ∨ a = 49
set_option maxHeartbeats 4000000 in
set_option maxRecDepth 100000 in
theorem c_fillBundle {x : Ab} {da : Nat → Nat} {n d : Nat} {h : Hp} {Q : Int32 → Hp → Prop} (V : CVw x da h) (D : KdA x da h) (hd : d < (aD x).length) (G : ∀ d, d < (aD x).length → hI h 47 d = n32 (grpN x n d) ∧ grpN x n d ≤ d)
    (k1 : ∀ h', fr SFb h h' → CBd x da 48 (grpL x n d (aD x).length) h' → Q 1 h') (k0 : ∀ h', fr SFb h h' → 6 < (grpL x n d (aD x).length).length → Q 0 h') : m_X4_fillBundle 8 24 (n32 (aD x).length) (n32 d) h Q := by
  have N24 := V.2.1
  unfold m_X4_fillBundle
  obtain ⟨gd1, gd2⟩ := G d hd
  have main : ∀ (r v : Nat) (h1 : Hp), r + v = (aD x).length → fr SFb h h1 → CBd x da 48 (grpL x n d v) h1 → m_X4_fillBundle_11 (r + 1) Q 24 8 (n32 (aD x).length) (n32 d) (n32 v) h1 := by
    intro r
    induction r with
    | zero =>
      intro v h1 e f B
      obtain rfl : v = (aD x).length := by omega
      rw [m_X4_fillBundle_11, n32_le (by omega) (by omega)]
      exact ⟨fun _ => k1 h1 f B, fun z => absurd (Nat.le_refl _) z⟩
    | succ r ih =>
      intro v h1 e f B
      obtain ⟨g1, g2⟩ := G v (by omega)
      have D1 := D.mv f (by unfold SFb; omega)
      have gs := grpL_succ x n d v
      have l6 := B.2.1
      have b1 : hI h1 48 1 = n32 (grpL x n d v).length := B.1
      have g1' : hI h1 47 v = n32 (grpN x n v) := by rw [f.I (by unfold SFb; omega)]; exact g1
      have gd' : hI h1 47 d = n32 (grpN x n d) := by rw [f.I (by unfold SFb; omega)]; exact gd1
      rw [m_X4_fillBundle_11, n32_le (by omega) (by omega), n32_ix (by omega), n32_ix (by omega), g1', gd', n32_eq (by omega) (by omega), b1, show (6 : Int32) = n32 6 from rfl, n32_lt (by omega) (by decide), (D1 v (by omega)).1]
      unfold m_X4_fillBundle_58
      refine ⟨fun z => absurd z (by omega), fun _ => ⟨vpI (by omega) (by decide), vpI (by omega) (by decide), fun z x1 e1 => ?_, fun z => ⟨fun y => ⟨vpI (by omega) (by decide), da v, rfl, ?_⟩, fun y => ?_⟩⟩⟩
      · rw [if_neg z] at gs
        rw [e1, show n32 v + 1 = n32 (v + 1) from n32_add _ 1]
        exact ih (v + 1) h1 (by omega) f (by rw [gs]; exact B)
      · rw [if_pos z] at gs
        refine c_push B y (by omega) (fun h2 f2 B2 x1 e1 => ?_)
        rw [e1, show n32 v + 1 = n32 (v + 1) from n32_add _ 1]
        exact ih (v + 1) h2 (by omega) (f.trans (f2.mono (by unfold SFb; omega))) (by rw [gs]; exact B2)
      · rw [if_pos z] at gs
        refine k0 h1 f ?_
        have m := grpL_mono x n d (a := v + 1) (b := (aD x).length) (by omega)
        rw [gs, List.length_append, List.length_singleton] at m
        omega
  refine ⟨_, main (aD x).length 0 _ (by omega) (fr_wI (fr.rf _ _) _ (Or.inl ⟨rfl, rfl⟩)) ⟨by rw [hI_wI, if_pos ⟨rfl, rfl⟩]; rfl, Nat.zero_le 6, fun j hj => absurd hj (by show ¬ j < 0; omega), fun e he => absurd he (by show ¬ e ∈ []; simp)⟩⟩
set_option maxHeartbeats 4000000 in
set_option maxRecDepth 100000 in
theorem C_group {x : Ab} {da : Nat → Nat} {v1 v2 : Int32} {h : Hp} {Q : Int32 → Hp → Prop} (I : InvC x da h) (K : OkA x) (M : OkM x) (k : ∀ h', sameM h h' → InvC x da h' → Q (ansGroup x v1 v2) h') : m_X11_group v1 v2 h Q := by
  unfold m_X11_group
  unfold ansGroup at k
  have V := I.vw
  have D := I.kd
  have e4 := I.2.2.1.1
  have N24 := I.2.2.1.2.1
  rcases i_cases v1 with g | ⟨n, hn, rfl⟩
  · rw [argN_neg g] at k
    exact ⟨fun _ => k h (sameM.rf h) I, fun z => absurd g z⟩
  · rw [argN_n hn hn] at k
    refine ⟨fun z => ?_, fun _ => ?_⟩
    · rw [show (0 : Int32) = n32 0 from rfl, n32_lt hn (by decide)] at z; omega
    · rw [e4]
      refine c_within (by omega) (fun e => ?_) (fun d hd hd2 e1 e2 => ?_)
      · rw [e] at k
        exact ⟨fun y => absurd rfl y, fun _ => k h (sameM.rf h) I⟩
      · rw [e2] at k
        dsimp only at k
        subst e1
        refine ⟨fun _ => ?_, fun y => absurd y (by decide)⟩
        rw [e4]
        refine c_gather V D K hn (fun h1 f1 G => ?_)
        have I1 := I.own (f1.mono SKn_Own)
        have m1 : sameM h h1 := sameM.of (f1.mono SKn_Own) Own_M
        rw [I1.2.2.1.1]
        refine c_fillBundle I1.vw I1.kd hd G (fun h2 f2 B2 => ⟨fun y => absurd y (by decide), fun _ => ?_⟩) (fun h2 f2 l7 => ⟨fun _ => ?_, fun y => absurd rfl y⟩)
        · have o2 : fr Own h1 h2 := f2.mono (by unfold SFb Own; omega)
          have I2 := I1.own o2
          have m2 : sameM h h2 := m1.trans (sameM.of o2 Own_M)
          rw [if_pos B2.2.1] at k
          exact c_findLoan I2.vw K M B2 (by decide) I2.2.2.2.2.2.2.2.2.2.2.2.2.1 (fun h3 f3 T3 => k h3 (m2.trans (SLoan_M f3)) (I2.loan f3 T3))
        · have o2 : fr Own h1 h2 := f2.mono (by unfold SFb Own; omega)
          have I2 := I1.own o2
          have m2 : sameM h h2 := m1.trans (sameM.of o2 Own_M)
          rw [if_neg (by omega)] at k
          exact k h2 m2 I2
