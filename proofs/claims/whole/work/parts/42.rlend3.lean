/-! THE MODEL: who lends to whom, by one code -/
def LnAll (F : Nat → Nat) (fl : List Rec) (h : Hp) (f : Nat) : Prop := hI h 89 f = n32 (lnB F fl f 8) ∧ hJ h 88 f = z64 (net F fl f 0)
/-- before the families from j on are looked at, for l -/
theorem lends_iff {F : Nat → Nat} {fl : List Rec} {l b d : Nat} (h1 : clean F fl l = true) (h2 : 0 < net F fl l 0) (h3 : lendDay (seqN F fl l) = some d) : lendsB F fl l b = (l != b && clean F fl b && decide (net F fl b 0 < 0) && decide (0 < netD F fl b 0 d)) := by
  unfold lendsB
  rw [h1, h3]
  simp [h2]
theorem lends_no {F : Nat → Nat} {fl : List Rec} {l b : Nat} (h : clean F fl l = false ∨ ¬ 0 < net F fl l 0 ∨ lendDay (seqN F fl l) = none) : lendsB F fl l b = false := by
  unfold lendsB
  rcases h with h | h | h
  · simp [h]
  · simp [h]
  · simp [h]
theorem lnB_no {F : Nat → Nat} {fl : List Rec} {l : Nat} (h : ∀ b, lendsB F fl l b = false) : ∀ j, lnB F fl l j = 0
  | 0 => rfl
  | j + 1 => by rw [lnB_succ, h, if_neg (by decide)]; exact lnB_no h j
set_option maxHeartbeats 4000000 in
set_option maxRecDepth 100000 in
theorem q_fl144 {F : Nat → Nat} {fl : List Rec} {l d : Nat} {Q : Hp → Prop} {k211 : Int32 → Hp → Prop} (h0 : Hp) (hl : l < 8) (hd : d < 3000) (h1 : clean F fl l = true) (h2 : 0 < net F fl l 0) (h3 : lendDay (seqN F fl l) = some d)
    (k : ∀ h', Look F fl h' → fr (fun a k => a = 89 ∧ k = l) h0 h' → hI h' 89 l = n32 (lnB F fl l 8) → k211 (n32 l) h') : ∀ (r b : Nat) (h : Hp), r + b = 8 → Look F fl h → (∀ f, f < 8 → hI h 87 f = n32 (if clean F fl f then 1 else 0) ∧ hJ h 88 f = z64 (net F fl f 0)) → fr (fun a k => a = 89 ∧ k = l) h0 h → hI h 89 l = n32 (lnB F fl l b) → m_X12_findLending_144 (r + 1) k211 Q (n32 l) (n32 d) (n32 b) h := by
  intro r
  induction r with
  | zero =>
    intro b h hr L g fr0 e
    obtain rfl : b = 8 := by omega
    rw [m_X12_findLending_144]
    simp (disch := omega) only [↓m1_pm, lit32, n32_add, n32_mul, n32_ix, n32_lt, n32_le, n32_eq, n32_in, pm_ix, pm_in, pm_eqn, n_eqpm, pm_ltn, n_ltpm, pm_len, n_lepm, pm_inj, forall_eq]
    exact ⟨fun _ => k h L fr0 e, fun z => absurd (Nat.le_refl _) z⟩
  | succ r ih =>
    intro b h hr L g fr0 e
    rw [m_X12_findLending_144]
    have next : lendsB F fl l b = false → m_X12_findLending_205 (fun v2 v3 v4 hh => m_X12_findLending_144 (r + 1) k211 Q v2 v3 v4 hh) k211 Q (n32 l) (n32 d) (n32 b) h := by
      intro q
      unfold m_X12_findLending_205
      simp (disch := omega) only [↓m1_pm, lit32, n32_add, n32_mul, n32_ix, n32_lt, n32_le, n32_eq, n32_in, pm_ix, pm_in, pm_eqn, n_eqpm, pm_ltn, n_ltpm, pm_len, n_lepm, pm_inj, forall_eq]
      refine ih (b + 1) h (by omega) L g fr0 ?_
      rw [lnB_succ, q, if_neg (by decide)]; exact e
    obtain ⟨g1, g2⟩ := g b (by omega)
    obtain ⟨hF, A, ok, ab, D, l250⟩ := id L
    have ab0 := ab b 0 0
    have abd := ab b 0 (d + 1)
    rw [netG0] at ab0
    rw [netGD] at abd
    have z0 : (0 : Int64) = z64 0 := rfl
    rw [z0]
    simp (disch := omega) only [↓m1_pm, lit32, n32_add, n32_mul, n32_ix, n32_lt, n32_le, n32_eq, n32_in, pm_ix, pm_in, pm_eqn, n_eqpm, pm_ltn, n_ltpm, pm_len, n_lepm, pm_inj, forall_eq, g2, lgc_ge]
    refine ⟨fun z => absurd z (by omega), fun _ => ⟨fun q => next ?_, fun q => ⟨by omega, fun q2 => next ?_, fun q2 => ⟨by omega, fun q3 => next ?_, fun q3 => ?_⟩⟩⟩⟩
    · rw [lends_iff h1 h2 h3]; simp [q]
    · have : clean F fl b = false := by
        cases hc : clean F fl b with
        | false => rfl
        | true => rw [g1, hc] at q2; exact absurd q2 (by decide)
      rw [lends_iff h1 h2 h3, this]; simp
    · rw [lends_iff h1 h2 h3]
      have : decide (net F fl b 0 < 0) = false := by simp; omega
      rw [this]; simp
    · refine q_netOf (t := 0) (dd := d + 1) hF A ok (by omega) (by omega) (by omega) ?_
      rw [netGD]
      simp (disch := omega) only [↓m1_pm, lit32, n32_add, n32_mul, n32_ix, n32_lt, n32_le, n32_eq, n32_in, pm_ix, pm_in, pm_eqn, n_eqpm, pm_ltn, n_ltpm, pm_len, n_lepm, pm_inj, forall_eq, lgc_le]
      refine ⟨fun q4 => next ?_, fun q4 => ⟨by omega, by omega, ?_⟩⟩
      · rw [lends_iff h1 h2 h3]
        have : decide (0 < netD F fl b 0 d) = false := by simp; omega
        rw [this]; simp
      · have hb2 := lnB_lt F fl l b
        have hp : 2 ^ b ≤ 2 ^ 7 := pw_le (by omega)
        unfold m_X12_findLending_205
        simp (disch := omega) only [↓m1_pm, lit32, n32_add, n32_mul, n32_ix, n32_lt, n32_le, n32_eq, n32_in, pm_ix, pm_in, pm_eqn, n_eqpm, pm_ltn, n_ltpm, pm_len, n_lepm, pm_inj, forall_eq, e, shl1, n32_or]
        refine ih (b + 1) _ (by omega) (L.frL (fr_wI (fr.rf _ _) _ (by unfold SLn; omega))) (fun f hf => ?_) (fr_wI fr0 _ ⟨rfl, rfl⟩) ?_
        · rw [hI_wI, if_neg (by omega), hJ_wI]; exact g f hf
        · rw [hI_wI, if_pos ⟨rfl, rfl⟩, lnB_succ, if_pos]
          rw [lends_iff h1 h2 h3]
          have c1 : clean F fl b = true := by
            cases hc : clean F fl b with
            | true => rfl
            | false => rw [g1, hc] at q2; exact absurd (by decide) q2
          have c2 : (l != b) = true := by simp; omega
          have c3 : decide (net F fl b 0 < 0) = true := by simp; omega
          have c4 : decide (0 < netD F fl b 0 d) = true := by simp; omega
          rw [c1, c2, c3, c4]; rfl
theorem seq_lt {F : Nat → Nat} {fl : List Rec} {l d : Nat} (h : lendDay (seqN F fl l) = some d) : d < 3000 := by
  have key : ∀ (S : List (Nat × Int)), lendDay S = some d → ∃ q ∈ S, q.1 = d := by
    intro S hS
    cases S with
    | nil => cases hS
    | cons q t =>
      by_cases q1 : 0 < q.2
      · simp [lendDay, q1] at hS
      · by_cases q2 : noFall false t = true
        · simp [lendDay, q1, q2] at hS; exact ⟨q, by simp, hS⟩
        · simp [lendDay, q1, q2] at hS
  obtain ⟨q, hq, e⟩ := key _ h
  unfold seqN at hq
  rw [List.mem_filter, List.mem_map] at hq
  obtain ⟨⟨a, ha, rfl⟩, -⟩ := hq
  rw [List.mem_range] at ha
  omega
set_option maxHeartbeats 4000000 in
set_option maxRecDepth 100000 in
theorem q_fl98 {F : Nat → Nat} {fl : List Rec} {Q : Hp → Prop} (h0 : Hp) (k : ∀ h', Look F fl h' → fr SLn h0 h' → (∀ f, f < 8 → LnAll F fl h' f) → Q h') :
    ∀ (r l : Nat) (h : Hp), r + l = 8 → Look F fl h → (∀ f, f < 8 → hI h 87 f = n32 (if clean F fl f then 1 else 0) ∧ hJ h 88 f = z64 (net F fl f 0)) → fr SLn h0 h → (∀ f, f < l → hI h 89 f = n32 (lnB F fl f 8)) → (∀ f, l ≤ f → f < 8 → hI h 89 f = n32 0) → m_X12_findLending_98 (r + 1) Q (n32 l) h := by
  intro r
  induction r with
  | zero =>
    intro l h hr L g fr0 e e0
    obtain rfl : l = 8 := by omega
    rw [m_X12_findLending_98]
    simp (disch := omega) only [↓m1_pm, lit32, n32_add, n32_mul, n32_ix, n32_lt, n32_le, n32_eq, n32_in, pm_ix, pm_in, pm_eqn, n_eqpm, pm_ltn, n_ltpm, pm_len, n_lepm, pm_inj, forall_eq]
    exact ⟨fun _ => k h L fr0 (fun f hf => ⟨e f hf, (g f hf).2⟩), fun z => absurd (Nat.le_refl _) z⟩
  | succ r ih =>
    intro l h hr L g fr0 e e0
    rw [m_X12_findLending_98]
    obtain ⟨g1, g2⟩ := g l (by omega)
    obtain ⟨hF, A, ok, ab, D, l250⟩ := id L
    have ab0 := ab l 0 0
    rw [netG0] at ab0
    have next : ∀ h', Look F fl h' → fr (fun a k => a = 89 ∧ k = l) h h' → hI h' 89 l = n32 (lnB F fl l 8) → m_X12_findLending_211 (fun v2 hh => m_X12_findLending_98 (r + 1) Q v2 hh) Q (n32 l) h' := by
      intro h' L' f' e'
      unfold m_X12_findLending_211
      simp (disch := omega) only [↓m1_pm, lit32, n32_add, n32_mul, n32_ix, n32_lt, n32_le, n32_eq, n32_in, pm_ix, pm_in, pm_eqn, n_eqpm, pm_ltn, n_ltpm, pm_len, n_lepm, pm_inj, forall_eq]
      refine ih (l + 1) h' (by omega) L' (fun f hf => ?_) (fr0.trans (f'.mono (by unfold SLn; intro q k h; omega))) (fun f hf => ?_) (fun f h1 h2 => ?_)
      · rw [f'.I (by omega), f'.J (by omega)]; exact g f hf
      · by_cases q : f = l
        · subst q; exact e'
        · rw [f'.I (by omega)]; exact e f (by omega)
      · rw [f'.I (by omega)]; exact e0 f (by omega) h2
    have none' : (∀ b, lendsB F fl l b = false) → m_X12_findLending_132 (fun v2 hh => m_X12_findLending_98 (r + 1) Q v2 hh) Q (n32 l) h := by
      intro q
      unfold m_X12_findLending_132 m_X12_findLending_133
      refine ⟨fun z => absurd z (by decide), fun _ => next h L (fr.rf _ _) ?_⟩
      rw [lnB_no q]; exact e0 l (Nat.le_refl _) (by omega)
    have z0 : (0 : Int64) = z64 0 := rfl
    rw [z0]
    simp (disch := omega) only [↓m1_pm, lit32, n32_add, n32_mul, n32_ix, n32_lt, n32_le, n32_eq, n32_in, pm_ix, pm_in, pm_eqn, n_eqpm, pm_ltn, n_ltpm, pm_len, n_lepm, pm_inj, forall_eq, g2, lgc_le]
    refine ⟨fun z => absurd z (by omega), fun _ => ⟨by omega, fun q => none' (fun b => lends_no (Or.inl ?_)), fun q => ⟨by omega, fun q2 => none' (fun b => lends_no (Or.inr (Or.inl (by omega)))), fun q2 => ?_⟩⟩⟩
    · cases hc : clean F fl l with
      | false => rfl
      | true => rw [g1, hc] at q; exact absurd q (by decide)
    · have hc : clean F fl l = true := by
        cases hc : clean F fl l with
        | true => rfl
        | false => rw [g1, hc] at q; exact absurd (by decide) q
      refine q_lendDay L (by omega) ?_
      unfold m_X12_findLending_133
      cases hd : lendDay (seqN F fl l) with
      | none =>
        refine ⟨fun z => absurd z (by decide), fun _ => next h L (fr.rf _ _) ?_⟩
        rw [lnB_no (fun b => lends_no (Or.inr (Or.inr hd)))]; exact e0 l (Nat.le_refl _) (by omega)
      | some d =>
        have hd3 := seq_lt hd
        refine ⟨fun _ => ⟨_, q_fl144 h (by omega) hd3 hc (by omega) hd (fun h' L' f' e' => next h' L' f' e') 8 0 h rfl L g (fr.rf _ _) ?_⟩, fun z => ?_⟩
        · rw [e0 l (Nat.le_refl _) (by omega)]; rfl
        · exact absurd ((pm_ge0 (by show d + 1 ≤ _; omega)).mpr (by show 0 < d + 1; omega)) z
def SLe (a k : Nat) : Prop := 79 ≤ a ∧ a ≤ 83 ∨ 86 ≤ a ∧ a ≤ 89 ∨ a = 51 ∧ (k = 48 ∨ k = 61)
theorem SLe_Scr : ∀ a k, SLe a k → Scr a k := by unfold SLe Scr Last; omega
/-- by a code of the list at hand -/
theorem q_lending {x : Ab} {l : List Nat} {c : Nat} {h : Hp} {Q : Hp → Prop} (I : InvR x h) (K : OkA x) (hin : inD x l) (Ls : LstIs l h) (hc : c < 2147483648)
    (k : ∀ h', fr SLe h h' → InvR x h' → LstIs l h' → Look (aF x) (bRows (aD x) l c 0) h' → (∀ f, f < 8 → LnAll (aF x) (bRows (aD x) l c 0) h' f) → Q h') : m_X12_findLending (n32 c) h Q := by
  unfold m_X12_findLending
  refine q_rows I K hin Ls hc (fun h1 f1 I1 L1 A1 => ?_)
  have ok := bRows_ok K (l := l) (c := c) (bf := 0) hin
  have l6 := Ls.2.1
  have hlen : (nz (bRows (aD x) l c 0)).length ≤ 250 := Nat.le_trans (List.length_filter_le _ _) (by omega)
  refine q_findDays A1 ok.1 hlen (fun h2 f2 D2 => ?_)
  have Lk : Look (aF x) (bRows (aD x) l c 0) h2 := ⟨I1.1.fr f2 (by unfold SDy; omega), A1.fr f2 (by unfold SDy; omega) (by unfold SDy; omega), ok.1, fun f t dd => bR_abs K hin l6 c 0 f t dd, D2, hlen⟩
  refine ⟨_, q_fl11 h2 (fun h3 L3 f3 e3 => ?_) 8 0 h2 rfl Lk (fr.rf _ _) (fun g hg => by omega)⟩
  unfold m_X12_findLending_96
  refine ⟨_, q_fl98 h3 (fun h4 L4 f4 e4 => ?_) 8 0 h3 rfl L3 (fun f hf => (e3 f hf).2) (fr.rf _ _) (fun f hf => by omega) (fun f _ hf => (e3 f hf).1)⟩
  have fa : fr SLe h h4 := (((f1.mono (by unfold SFl SLe; intro q k h; omega)).trans (f2.mono (by unfold SDy SLe; intro q k h; omega))).trans (f3.mono (by unfold SLn SLe; intro q k h; omega))).trans (f4.mono (by unfold SLn SLe; intro q k h; omega))
  exact k h4 fa (I.fr (fa.mono SLe_Scr)) (Ls.fr fa (by unfold SLe; omega) (by unfold SLe; omega)) L4 e4
