/-! THE CLASS: heaps -/
theorem conn.symm {x : Ab} {n a b : Nat} (h : conn x n a b) : conn x n b a := fun f hf => (h f hf).symm
theorem conn.trans {x : Ab} {n a b c : Nat} (h : conn x n a b) (h' : conn x n b c) : conn x n a c := fun f hf => (h f hf).trans (h' f hf)
def labK (x : Ab) (n i : Nat) (g : Nat → Nat) : Prop := ∀ d, d < i → g d ≤ d ∧ conn x n (g d) d
theorem labK.join {x : Ab} {n i u v : Nat} {g : Nat → Nat} (L : labK x n i g) (hu : u < i) (hv : v < i) (iN : i ≤ (aD x).length) (hh : hangB x n u v = true) : labK x n i (jn g (g u) (g v)) := by
  intro d hd
  obtain ⟨d1, d2⟩ := L d hd
  have cuv : conn x n u v := fun f hf => hf u v (by omega) (by omega) hh
  have cab : conn x n (g u) (g v) := ((L u hu).2.trans cuv).trans (L v hv).2.symm
  unfold jn
  by_cases y : g d = g u ∨ g d = g v
  · rw [if_pos y]
    by_cases w : g v < g u
    · rw [if_pos w]
      rcases y with y | y
      · rw [y] at d1 d2; exact ⟨by omega, cab.symm.trans d2⟩
      · rw [y] at d1 d2; exact ⟨d1, d2⟩
    · rw [if_neg w]
      rcases y with y | y
      · rw [y] at d1 d2; exact ⟨d1, d2⟩
      · rw [y] at d1 d2; exact ⟨by omega, cab.trans d2⟩
  · rw [if_neg y]; exact ⟨d1, d2⟩
theorem jn_eq {g : Nat → Nat} {a b u v : Nat} (h : g u = g v) : jn g a b u = jn g a b v := by unfold jn; rw [h]
theorem jn_both {g : Nat → Nat} {u v : Nat} : jn g (g u) (g v) u = jn g (g u) (g v) v := by
  unfold jn
  rw [if_pos (Or.inl rfl), if_pos (Or.inr rfl)]
def KA (x : Ab) (g : Nat → Nat) (i : Nat) (h : Hp) : Prop := ∀ d, d < i → (hI h 47 d = n32 (g d) ∧ g d < 24) ∧ hI h 50 d = n32 (faBits (aF x) (dL (aD x) d))
def SKn (a _k : Nat) : Prop := a = 47 ∨ a = 50
set_option maxHeartbeats 4000000 in
set_option maxRecDepth 100000 in
theorem c_ga37 {x : Ab} {da : Nat → Nat} {n i : Nat} {v2 : Int32} {h0 : Hp} {k103 : Nat → Nat → Int32 → Int32 → Nat → Nat → Int32 → Hp → Prop} {Q : Hp → Prop} (D : KdA x da h0) (K : OkA x) (hn : n < 2147483648) (hi : i < (aD x).length) (N24 : (aD x).length ≤ 24)
    (k : ∀ h' g, fr SKn h0 h' → KA x g (i + 1) h' → labK x n (i + 1) g → (∀ u v, u < i + 1 → v < i + 1 → hangB x n u v = true → g u = g v) → k103 24 8 v2 (n32 n) 8 1 (n32 i) h') :
    ∀ (r j : Nat) (h : Hp) (g : Nat → Nat), r + j = i → fr SKn h0 h → KA x g (i + 1) h → labK x n (i + 1) g → (∀ u v, u < i → v < i → hangB x n u v = true → g u = g v) → (∀ v, v < j → hangB x n i v = true → g i = g v) → m_X4_gather_37 (r + 1) k103 Q 24 8 v2 (n32 n) 8 1 (n32 i) (n32 j) h := by
  intro r
  induction r with
  | zero =>
    intro j h g e f A L P1 P2
    obtain rfl : j = i := by omega
    rw [m_X4_gather_37, n32_le (by omega) (by omega)]
    refine ⟨fun _ => k h g f A L (fun u v hu hv hh => ?_), fun z => absurd (Nat.le_refl _) z⟩
    by_cases yu : u = j
    · subst yu
      by_cases yv : v = u
      · rw [yv]
      · exact P2 v (by omega) hh
    · by_cases yv : v = j
      · subst yv
        exact (P2 u (by omega) (by rw [hang_symm]; exact hh)).symm
      · exact P1 u v (by omega) (by omega) hh
  | succ r ih =>
    intro j h g e f A L P1 P2
    have D1 := D.mv f (by unfold SKn; omega)
    obtain ⟨⟨ai, bi⟩, fi⟩ := A i (by omega)
    obtain ⟨⟨aj, bj⟩, fj⟩ := A j (by omega)
    rw [m_X4_gather_37, n32_le (by omega) (by omega), n32_ix (by omega), n32_ix (by omega), ai, aj, n32_eq (by omega) (by omega), (D1 i hi).1, (D1 j (by omega)).1]
    unfold m_X4_gather_97
    refine ⟨fun z => absurd z (by omega), fun _ => ⟨vpI (by omega) (by decide), vpI (by omega) (by decide), fun z x2 e2 => ?_, fun z => ⟨vpI (by omega) (by decide), da i, rfl, vpI (by omega) (by decide), da j, rfl, ?_⟩⟩⟩
    · rw [e2, show n32 j + 1 = n32 (j + 1) from n32_add _ 1]
      refine ih (j + 1) h g (by omega) f A L P1 (fun v hv hh => ?_)
      by_cases y : v = j
      · rw [y]; exact z
      · exact P2 v (by omega) hh
    · refine c_hang D1 K hn hi (by omega) (by omega) (by omega) fi fj (fun hh => ⟨fun y => absurd y (by decide), fun _ => ⟨vpI (by omega) (by decide), vpI (by omega) (by decide), ?_⟩⟩) (fun hh => ⟨fun _ x2 e2 => ?_, fun y => absurd rfl y⟩)
      · rw [ai, aj]
        refine c_join (g := g) (by omega) bi bj (fun d hd => (A d (by omega)).1) (fun h1 f1 G1 x2 e2 => ?_)
        rw [e2, show n32 j + 1 = n32 (j + 1) from n32_add _ 1]
        refine ih (j + 1) h1 (jn g (g i) (g j)) (by omega) (f.trans (f1.mono (fun a k z => Or.inl z))) (fun d hd => ⟨G1 d (by omega), by rw [f1.I (by omega)]; exact (A d hd).2⟩) (L.join (by omega) (by omega) (by omega) hh) (fun u v hu hv h2 => jn_eq (P1 u v hu hv h2)) (fun v hv h2 => ?_)
        by_cases y : v = j
        · rw [y]; exact jn_both
        · exact jn_eq (P2 v (by omega) h2)
      · rw [e2, show n32 j + 1 = n32 (j + 1) from n32_add _ 1]
        refine ih (j + 1) h g (by omega) f A L P1 (fun v hv h2 => ?_)
        by_cases y : v = j
        · rw [y, hh] at h2; cases h2
        · exact P2 v (by omega) h2
set_option maxHeartbeats 4000000 in
set_option maxRecDepth 100000 in
theorem c_gather {x : Ab} {da : Nat → Nat} {n : Nat} {h : Hp} {Q : Hp → Prop} (V : CVw x da h) (D : KdA x da h) (K : OkA x) (hn : n < 2147483648) (k : ∀ h', fr SKn h h' → (∀ d, d < (aD x).length → hI h' 47 d = n32 (grpN x n d) ∧ grpN x n d ≤ d) → Q h') : m_X4_gather 8 24 (n32 (aD x).length) (n32 n) 1 8 h Q := by
  have N24 := V.2.1
  unfold m_X4_gather
  have main : ∀ (r i : Nat) (h1 : Hp) (g : Nat → Nat), r + i = (aD x).length → fr SKn h h1 → KA x g i h1 → labK x n i g → (∀ u v, u < i → v < i → hangB x n u v = true → g u = g v) → m_X4_gather_3 (r + 1) Q 24 8 (n32 (aD x).length) (n32 n) 8 1 (n32 i) h1 := by
    intro r
    induction r with
    | zero =>
      intro i h1 g e f A L P
      obtain rfl : i = (aD x).length := by omega
      rw [m_X4_gather_3, n32_le (by omega) (by omega)]
      refine ⟨fun _ => k h1 f (fun d hd => ?_), fun z => absurd (Nat.le_refl _) z⟩
      have ge := grp_eq (x := x) (n := n) (g := g) ⟨L, P⟩ hd
      rw [← ge]
      exact ⟨(A d hd).1.1, (L d hd).1⟩
    | succ r ih =>
      intro i h1 g e f A L P
      have f1 : fr SKn h1 (wI h1 47 i (n32 i)) := fr_wI (fr.rf _ _) _ (Or.inl rfl)
      have j1 : ∀ d, hI (wI h1 47 i (n32 i)) 47 d = if d = i then n32 i else hI h1 47 d := fun d => by
        rw [hI_wI]
        by_cases y : d = i
        · rw [if_pos ⟨rfl, y⟩, if_pos y]
        · rw [if_neg (fun w => y w.2), if_neg y]
      have j5 : ∀ d, hI (wI h1 47 i (n32 i)) 50 d = hI h1 50 d := fun d => by rw [hI_wI, if_neg (by omega)]
      rw [m_X4_gather_3, n32_le (by omega) (by omega), n32_ix (by omega)]
      generalize wI h1 47 i (n32 i) = h2 at f1 j1 j5
      have f2 := f.trans f1
      have V2 := V.mv f2 (by unfold SKn; omega)
      have D2 := D.mv f2 (by unfold SKn; omega)
      refine ⟨fun z => absurd z (by omega), fun _ => ⟨vpI (by omega) (by decide), vpI (by omega) (by decide), da i, (D2 i (by omega)).1, c_famIn V2 K (by omega) ⟨vpI (by omega) (by decide), ?_⟩⟩⟩
      have f3 : fr SKn h (wI h2 50 i (n32 (faBits (aF x) (dL (aD x) i)))) := fr_wI f2 _ (Or.inr rfl)
      refine ⟨_, c_ga37 (D.mv f3 (by unfold SKn; omega)) K hn (by omega) N24 (fun h4 g4 f4 A4 L4 P4 => ?_) i 0 _ (fun d => if d = i then i else g d) rfl (fr.rf _ _) (fun d hd => ?_) (fun d hd => ?_) (fun u v hu hv hh => ?_) (fun v hv => absurd hv (by omega))⟩
      · unfold m_X4_gather_103
        intro x1 e1
        rw [e1, show n32 i + 1 = n32 (i + 1) from n32_add _ 1]
        exact ih (i + 1) h4 g4 (by omega) (f3.trans f4) A4 L4 P4
      · rw [hI_wI, if_neg (by omega), j1, hI_wI, j5]
        dsimp only
        by_cases y : d = i
        · subst y
          rw [if_pos rfl, if_pos rfl, if_pos ⟨rfl, rfl⟩]
          exact ⟨⟨rfl, by omega⟩, rfl⟩
        · rw [if_neg y, if_neg y, if_neg (fun w => y w.2)]
          exact A d (by omega)
      · dsimp only
        by_cases y : d = i
        · subst y
          rw [if_pos rfl]
          exact ⟨Nat.le_refl _, fun f hf => rfl⟩
        · rw [if_neg y]
          exact L d (by omega)
      · rw [if_neg (by omega), if_neg (by omega)]
        exact P u v hu hv hh
  exact ⟨_, main (aD x).length 0 h (fun d => d) (by omega) (fr.rf _ _) (fun d hd => absurd hd (by omega)) (fun d hd => absurd hd (by omega)) (fun u v hu => absurd hu (by omega))⟩
