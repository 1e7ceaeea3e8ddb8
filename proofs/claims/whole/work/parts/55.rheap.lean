/-! HEAPS; THE MODEL: heap, group -/
def hangB (x : Ab) (n a b : Nat) : Bool := decide ((dG (aD x) a - dG (aD x) b) + (dG (aD x) b - dG (aD x) a) ≤ n) && (thBits (dL (aD x) a) &&& thBits (dL (aD x) b) &&& 62 != 0) && (faBits (aF x) (dL (aD x) a) &&& faBits (aF x) (dL (aD x) b) != 0)
theorem hang_symm (x : Ab) (n a b : Nat) : hangB x n a b = hangB x n b a := by
  unfold hangB
  rw [Nat.and_comm (thBits (dL (aD x) a)), Nat.and_comm (faBits (aF x) (dL (aD x) a)), Nat.add_comm (dG (aD x) a - dG (aD x) b)]
/-- nothing that goes along with hanging tells them apart -/
def conn (x : Ab) (n a b : Nat) : Prop := ∀ f : Nat → Nat, (∀ u v, u < (aD x).length → v < (aD x).length → hangB x n u v = true → f u = f v) → f a = f b
def isGrp (x : Ab) (n : Nat) (g : Nat → Nat) : Prop := (∀ d, d < (aD x).length → g d ≤ d ∧ conn x n (g d) d) ∧ ∀ u v, u < (aD x).length → v < (aD x).length → hangB x n u v = true → g u = g v
theorem grp_one {x : Ab} {n : Nat} {g g' : Nat → Nat} (h : isGrp x n g) (h' : isGrp x n g') {d : Nat} (hd : d < (aD x).length) : g d = g' d := by
  have key : ∀ g g' : Nat → Nat, isGrp x n g → isGrp x n g' → g' d ≤ g d := by
    intro g g' h h'
    obtain ⟨h1, h2⟩ := h.1 d hd
    have e : g' (g d) = g' d := h2 g' h'.2
    have := (h'.1 (g d) (by omega)).1
    omega
  have := key g g' h h'
  have := key g' g h' h
  omega
noncomputable def grpN (x : Ab) (n : Nat) : Nat → Nat := Classical.epsilon (fun g => isGrp x n g)
theorem grp_eq {x : Ab} {n : Nat} {g : Nat → Nat} (h : isGrp x n g) {d : Nat} (hd : d < (aD x).length) : g d = grpN x n d := grp_one h (Classical.epsilon_spec (p := fun g => isGrp x n g) ⟨g, h⟩) hd
theorem fold_lt (F : Nat → Nat) (L : List Rec) (hL : ∀ r ∈ L, LfOk r) (hF : ∀ k, k < 8 → F k < 8) : thBits L < 256 ∧ faBits F L < 256 := by
  have k1 : ∀ (L : List Rec) (a : Nat), a < 256 → (∀ r ∈ L, LfOk r) → L.foldl (fun b r => b ||| 2 ^ r 3) a < 256 := by
    intro L
    induction L with
    | nil => intro a ha _; exact ha
    | cons r L ih =>
      intro a ha h
      rw [List.foldl_cons]
      have := (h r (by simp)).2.2.2.2.1
      exact ih _ (or8 ha (pw8 (by omega))) (fun q hq => h q (by simp [hq]))
  have k2 : ∀ (L : List Rec) (a : Nat), a < 256 → (∀ r ∈ L, LfOk r) → L.foldl (fun b r => b ||| (2 ^ F (r 1) ||| 2 ^ F (r 2))) a < 256 := by
    intro L
    induction L with
    | nil => intro a ha _; exact ha
    | cons r L ih =>
      intro a ha h
      rw [List.foldl_cons]
      have o := h r (by simp)
      exact ih _ (or8 ha (or8 (pw8 (hF _ o.2.1)) (pw8 (hF _ o.2.2.1)))) (fun q hq => h q (by simp [hq]))
  exact ⟨k1 L 0 (by decide) hL, k2 L 0 (by decide) hL⟩
theorem R_sz {x : Ab} {d w : Nat} {h : Hp} {Q : Int32 → Hp → Prop} (I : InvR x h) (K : OkA x) (hd : d < (aD x).length) (hw : w < 6) (k : Q (n32 (sizeN x d w)) h) : m_X12_size (n32 d) (n32 w) h Q := by
  have := I.2.1.2.1
  refine R_size I K ?_
  unfold ansSize
  rw [argN_n hd (by omega), argN_n hw (by omega)]
  exact k
set_option maxHeartbeats 4000000 in
set_option maxRecDepth 100000 in
theorem q_hang {x : Ab} {n a b : Nat} {h : Hp} {Q : Int32 → Hp → Prop} (I : InvR x h) (K : OkA x) (hn : n < 2147483648) (ha : a < (aD x).length) (hb : b < (aD x).length) (k1 : hangB x n a b = true → Q 1 h) (k0 : hangB x n a b = false → Q 0 h) : m_X12_doHang (n32 n) (n32 a) (n32 b) h Q := by
  have hl := I.2.1.2.1
  have ea := (I.2.1.2.2 a ha).2.1
  have eb := (I.2.1.2.2 b hb).2.1
  have sa := (K.1 a ha).2
  have sb := (K.1 b hb).2
  obtain ⟨ta, fa⟩ := fold_lt (aF x) (dL (aD x) a) (K.1 a ha).1.2.2.2.2.2.2.1 K.2
  obtain ⟨tb, fb⟩ := fold_lt (aF x) (dL (aD x) b) (K.1 b hb).1.2.2.2.2.2.2.1 K.2
  have t1 : thBits (dL (aD x) a) &&& thBits (dL (aD x) b) ≤ thBits (dL (aD x) a) := Nat.and_le_left
  have t2 : thBits (dL (aD x) a) &&& thBits (dL (aD x) b) &&& 62 ≤ 62 := Nat.and_le_right
  have t3 : faBits (aF x) (dL (aD x) a) &&& faBits (aF x) (dL (aD x) b) ≤ faBits (aF x) (dL (aD x) a) := Nat.and_le_left
  have fin : ∀ p : Nat, p < 1000 → p = (dG (aD x) a - dG (aD x) b) + (dG (aD x) b - dG (aD x) a) → m_X12_doHang_44 Q (n32 n) (n32 a) (n32 b) (n32 p) h := by
    rintro p hp ep
    unfold m_X12_doHang_44
    unfold hangB at k1 k0
    rw [← ep] at k1 k0
    refine ⟨fun z => ?_, fun z => ?_⟩
    · rw [n32_lt hn (by omega)] at z
      refine k0 ?_
      rw [show decide (p ≤ n) = false by simp; omega]; rfl
    · rw [n32_lt hn (by omega)] at z
      rw [show decide (p ≤ n) = true by simp; omega, Bool.true_and] at k1 k0
      refine R_sz (w := 5) I K ha (by decide) (R_sz (w := 5) I K hb (by decide) ?_)
      rw [show sizeN x a 5 = thBits (dL (aD x) a) from rfl, show sizeN x b 5 = thBits (dL (aD x) b) from rfl, n32_and (by omega) (by omega), show (62 : Int32) = n32 62 from rfl, n32_and (by omega) (by decide), show (0 : Int32) = n32 0 from rfl, n32_eq (by omega) (by decide)]
      refine ⟨fun q => k0 (by simp [q]), fun q => ?_⟩
      refine R_sz (w := 4) I K ha (by decide) (R_sz (w := 4) I K hb (by decide) ?_)
      rw [show sizeN x a 4 = faBits (aF x) (dL (aD x) a) from rfl, show sizeN x b 4 = faBits (aF x) (dL (aD x) b) from rfl, n32_and (by omega) (by omega), n32_eq (by omega) (by decide)]
      exact ⟨fun q2 => k0 (by simp [q2]), fun q2 => k1 (by simp [q, q2])⟩
  unfold m_X12_doHang
  rw [n32_ix (by omega), n32_ix (by omega), ea, eb]
  have va := vpI (n := 24) (a := a) (by omega) (by decide)
  have vb := vpI (n := 24) (a := b) (by omega) (by decide)
  refine ⟨va, vb, fun q => ⟨va, vb, ?_⟩, fun q => ⟨vb, va, ?_⟩⟩
  · rw [n32_le (by omega) (by omega)] at q
    rw [n32_sub q]
    exact fin _ (by omega) (by omega)
  · rw [n32_le (by omega) (by omega)] at q
    rw [n32_sub (by omega)]
    exact fin _ (by omega) (by omega)
def GrA (N : Nat) (g : Nat → Nat) (h : Hp) : Prop := ∀ d, d < N → hI h 107 d = n32 (g d)
def sumG (g : Nat → Nat) (N : Nat) : Nat := ((List.range N).map g).sum
theorem sumG_succ (g : Nat → Nat) (N : Nat) : sumG g (N + 1) = sumG g N + g N := by simp [sumG, List.range_succ]
def setG (g : Nat → Nat) (b v : Nat) : Nat → Nat := fun k => if k = b then v else g k
theorem sumG_set {g : Nat → Nat} {b v : Nat} (hv : v < g b) : ∀ {N : Nat}, b < N → sumG (setG g b v) N < sumG g N := by
  intro N
  induction N with
  | zero => intro h; omega
  | succ N ih =>
    intro h
    rw [sumG_succ, sumG_succ]
    by_cases q : b = N
    · subst q
      have e : ∀ M, M ≤ b → sumG (setG g b v) M = sumG g M := by
        intro M
        induction M with
        | zero => intro _; rfl
        | succ M ihM =>
          intro hM
          rw [sumG_succ, sumG_succ, ihM (by omega)]
          unfold setG
          rw [if_neg (by omega)]
      rw [e b (Nat.le_refl _)]
      unfold setG
      rw [if_pos rfl]
      omega
    · have := ih (by omega)
      unfold setG at this ⊢
      rw [if_neg (by omega : ¬ N = b)]
      omega
/-- what holds of the labels at all times -/
def labs (x : Ab) (n : Nat) (g : Nat → Nat) : Prop := ∀ d, d < (aD x).length → g d ≤ d ∧ conn x n (g d) d
theorem labs_set {x : Ab} {n a b : Nat} {g : Nat → Nat} (h : labs x n g) (ha : a < (aD x).length) (hb : b < (aD x).length) (hlt : g a < g b) (hh : hangB x n a b = true) : labs x n (setG g b (g a)) := by
  intro d hd
  unfold setG
  by_cases q : d = b
  · subst q
    rw [if_pos rfl]
    have h1 := h d hd
    refine ⟨by omega, fun f hf => ?_⟩
    rw [(h a ha).2 f hf]
    exact hf a d ha hd hh
  · rw [if_neg q]; exact h d hd
def S107 (a _k : Nat) : Prop := a = 107
theorem S107_Scr : ∀ a k, S107 a k → Scr a k := by unfold S107 Scr Last; omega
set_option maxHeartbeats 4000000 in
set_option maxRecDepth 100000 in
theorem q_gr44 {x : Ab} {n a : Nat} {Q : Hp → Prop} {k104 : Int32 → Int32 → Int32 → Hp → Prop} (K : OkA x) (hn : n < 2147483648) (ha : a < (aD x).length) (h0 : Hp) (g0 : Nat → Nat) (P : Bool)
    (k : ∀ h' g (p : Bool), fr S107 h0 h' → InvR x h' → GrA (aD x).length g h' → labs x n g → (P = true → p = true) → (p = true → sumG g (aD x).length < sumG g0 (aD x).length) → (p = false → g = g0 ∧ (∀ b, b < (aD x).length → g a < g b → hangB x n a b = false)) → k104 (n32 n) (n32 (if p then 1 else 0)) (n32 a) h') :
    ∀ (r b : Nat) (h : Hp) (g : Nat → Nat) (p : Bool), r + b = (aD x).length → InvR x h → fr S107 h0 h → GrA (aD x).length g h → labs x n g → (P = true → p = true) → (p = true → sumG g (aD x).length < sumG g0 (aD x).length) → (p = false → g = g0 ∧ (∀ c, c < b → g a < g c → hangB x n a c = false)) → m_X12_findGroups_44 (r + 1) k104 Q (n32 n) (n32 (if p then 1 else 0)) (n32 a) (n32 b) h := by
  intro r
  induction r with
  | zero =>
    intro b h g p hr I f G l cP c1 c0
    have e1 := I.2.1.1
    have hl := I.2.1.2.1
    rw [m_X12_findGroups_44]
    refine ⟨fun _ => k h g p f I G l cP c1 (fun q => ⟨(c0 q).1, fun c hc => (c0 q).2 c (by omega)⟩), fun z => ?_⟩
    rw [e1, n32_le (by omega) (by omega)] at z; omega
  | succ r ih =>
    intro b h g p hr I f G l cP c1 c0
    have e1 := I.2.1.1
    have hl := I.2.1.2.1
    have gb := G b (by omega)
    have ga := G a ha
    have lb := (l b (by omega)).1
    have la := (l a ha).1
    rw [m_X12_findGroups_44, e1]
    have va := vpI (n := 24) (a := a) (by omega) (by decide)
    have vb := vpI (n := 24) (a := b) (by omega) (by decide)
    have keep : (g a < g b → hangB x n a b = false) → m_X12_findGroups_98 (fun v1 v2 v3 v4 hh => m_X12_findGroups_44 (r + 1) k104 Q v1 v2 v3 v4 hh) k104 Q (n32 n) (n32 (if p then 1 else 0)) (n32 a) (n32 b) h := by
      intro hk
      unfold m_X12_findGroups_98
      intro x2 e2
      rw [e2, show n32 b + 1 = n32 (b + 1) from n32_add b 1]
      refine ih (b + 1) h g p (by omega) I f G l cP c1 (fun q => ⟨(c0 q).1, fun c hc hlt => ?_⟩)
      by_cases qc : c = b
      · subst qc; exact hk hlt
      · exact (c0 q).2 c (by omega) hlt
    refine ⟨fun z => ?_, fun _ => ?_⟩
    · rw [n32_le (by omega) (by omega)] at z; omega
    · rw [n32_ix (by omega), n32_ix (by omega), gb, ga, n32_le (by omega) (by omega)]
      refine ⟨vb, va, fun q => keep (fun z => by omega), fun q => ?_⟩
      refine q_hang I K hn ha (by omega) (fun hh => ?_) (fun hh => ?_)
      · refine ⟨fun _ => ⟨va, vb, ?_⟩, fun z => absurd z (by decide)⟩
        rw [ga]
        unfold m_X12_findGroups_98
        intro x2 e2
        rw [e2, show n32 b + 1 = n32 (b + 1) from n32_add b 1]
        have f2 : fr S107 h (wI h 107 b (n32 (g a))) := fr_wI (fr.rf _ _) _ (by unfold S107; omega)
        have hs := sumG_set (g := g) (b := b) (v := g a) (by omega) (N := (aD x).length) (by omega)
        refine ih (b + 1) _ (setG g b (g a)) true (by omega) (I.fr (f2.mono S107_Scr)) (f.trans f2) (fun d hd => ?_) (labs_set l ha (by omega) (by omega) hh) (fun _ => rfl) (fun _ => ?_) (fun z => by cases z)
        · rw [hI_wI]
          unfold setG
          by_cases qd : d = b
          · rw [if_pos ⟨rfl, qd⟩, if_pos qd]
          · rw [if_neg (fun z => qd z.2), if_neg qd]; exact G d hd
        · cases p with
          | true => have := c1 rfl; omega
          | false => have := (c0 rfl).1; subst this; omega
      · exact ⟨fun z => absurd rfl z, fun _ => keep (fun _ => hh)⟩
