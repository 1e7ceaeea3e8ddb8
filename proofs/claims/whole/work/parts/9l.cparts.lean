/-! THE CLASS: parts -/
theorem own_s {c bf : Nat} (h : c < 32) : own c bf = c := by
  unfold own
  have : c / 2 ^ bf ≤ c := Nat.div_le_self _ _
  rw [Nat.div_eq_of_lt (show c / 2 ^ bf < 32 by omega)]
  omega
theorem net_snoc {D : List Dl} {F : Nat → Nat} {c : Nat} (hc : c < 32) (l : List Nat) (d f t : Nat) : net F (bRows D (l ++ [d]) c 0) f t = net F (bRows D l c 0) f t + net F (dlRows (dL D d) c) f t := by
  rw [bRows_app, bR_one, own_s hc, net_app]
def S19 (b j : Nat) : Prop := b = 19
theorem S19_Own : ∀ b j, S19 b j → Own b j := by unfold S19 Own; omega
/-- sums of a row of deals -/
theorem c_sums {x : Ab} {da : Nat → Nat} {c a : Nat} {sg : Int32} {si : Int} {l : List Nat} {A : Nat → Int} {h : Hp} {k80 : Hp → Prop} {P : Nat → Int32 → Hp → Prop} (V : CVw x da h) (K : OkA x) (B : CBd x da a l h) (ha : a ≠ 19 ∧ a ≠ 18) (hc : c < 32) (hs : sg.toInt64 = z64 si) (S : SmA h 19 0 A)
    (unf : ∀ n v4 h, ((hI h a 1 ≤ v4 → k80 h) ∧ (¬ hI h a 1 ≤ v4 → vp_in v4 6 ∧ ∃ b2 : Nat, hR h (a + 1) (ix v4) = some b2 ∧ (m_X5_sumInto b2 (n32 c) sg 19 48 0 h (fun (h4 : Hp) => ∀ x5 : Int32, x5 = v4 + 1 → P n x5 h4)))) → P (n + 1) v4 h)
    (k : ∀ h', fr S19 h h' → SmA h' 19 0 (fun k => A k + si * net (aF x) (bRows (aD x) l c 0) (k / 6) (k % 6)) → k80 h') : P (l.length + 1) 0 h := by
  have hl := B.2.1
  have main : ∀ (rest pre : List Nat) (h1 : Hp), l = pre ++ rest → fr S19 h h1 → SmA h1 19 0 (fun k => A k + si * net (aF x) (bRows (aD x) pre c 0) (k / 6) (k % 6)) → P (rest.length + 1) (n32 pre.length) h1 := by
    intro rest
    induction rest with
    | nil =>
      intro pre h1 e f S1
      rw [List.append_nil] at e
      subst e
      have B1 := B.mv f (by unfold S19; omega) (by unfold S19; omega)
      refine unf 0 _ h1 ⟨fun _ => k h1 f S1, fun z => ?_⟩
      rw [B1.1, n32_le (by omega) (by omega)] at z
      exact absurd (Nat.le_refl _) z
    | cons d rest ih =>
      intro pre h1 e f S1
      have B1 := B.mv f (by unfold S19; omega) (by unfold S19; omega)
      have B1' := B1
      rw [e] at B1'
      obtain ⟨r, hd, h6⟩ := B1'.mid
      have el : l.length = pre.length + (rest.length + 1) := by rw [e]; simp
      refine unf _ _ h1 ?_
      rw [B1.1, n32_le (by omega) (by omega), n32_ix (by omega)]
      refine ⟨fun z => absurd z (by omega), fun _ => ⟨vpI h6 (by decide), da d, r, ?_⟩⟩
      rw [show (0 : Int32) = n32 0 from rfl]
      refine c_sumInto (V.mv f (by unfold S19; omega)) K hd (by omega) (by decide) (by decide) (by decide) (by decide) hs S1 (fun h2 f2 S2 => ?_)
      intro x5 e5
      rw [e5, show n32 pre.length + 1 = n32 (pre.length + 1) from n32_add _ 1]
      have nx := ih (pre ++ [d]) h2 (by rw [e]; simp) (f.trans (f2.mono (fun b j z => z.1))) (fun j hj => ?_)
      · rw [List.length_append] at nx; exact nx
      · have := S2 j hj
        dsimp only at this ⊢
        rw [this, net_snoc hc]
        congr 1
        rw [Int.mul_add, Int.add_assoc]
  refine main l [] h rfl (fr.rf _ _) (fun j hj => ?_)
  have : net (aF x) (bRows (aD x) [] c 0) (j / 6) (j % 6) = 0 := rfl
  dsimp only
  rw [this, Int.mul_zero, Int.add_zero]
  exact S j hj
set_option maxHeartbeats 4000000 in
set_option maxRecDepth 100000 in
theorem c_isEven {x : Ab} {da : Nat → Nat} {c a b : Nat} {l m : List Nat} {h : Hp} {Q : Int32 → Hp → Prop} (V : CVw x da h) (K : OkA x) (B : CBd x da a l h) (B2 : CBd x da b m h) (ha : a ≠ 19 ∧ a ≠ 18) (hb : b ≠ 19 ∧ b ≠ 18) (hc : c < 32)
    (k : ∀ h', fr S19 h h' → Q (if partB x m l c then 0 else 1) h') : m_X5_isEven a b (n32 c) h Q := by
  unfold m_X5_isEven
  have nb : ∀ (l : List Nat), inD x l → l.length ≤ 6 → ∀ f t, -3000000000000 ≤ net (aF x) (bRows (aD x) l c 0) f t ∧ net (aF x) (bRows (aD x) l c 0) f t ≤ 3000000000000 := fun l h1 h2 f t => by
    have := bR_abs K h1 h2 c 0 f t 0
    rw [netG0] at this; exact this
  refine q_fillJ (by decide) (fun h1 f1 e1 => ?_)
  have g1 : fr S19 h h1 := f1.mono (fun q j z => z.1)
  have S1 : SmA h1 19 0 (fun _ => 0) := fun j hj => by rw [Nat.zero_add]; exact e1 j hj
  refine ⟨l.length + 1, ?_⟩
  refine c_sums (sg := 1) (si := 1) (P := fun n v h => m_X5_isEven_11 n (m_X5_isEven_44 Q) Q a b (n32 c) v h) (k80 := fun h => m_X5_isEven_44 Q b (n32 c) h) (V.mv g1 (by unfold S19; omega)) K (B.mv g1 (by unfold S19; omega) (by unfold S19; omega)) ha hc (by decide) S1 (fun n v4 h z => by rw [m_X5_isEven_11]; exact z) (fun h2 f2 S2 => ?_)
  have g2 := g1.trans f2
  unfold m_X5_isEven_44
  refine ⟨m.length + 1, ?_⟩
  refine c_sums (sg := -1) (si := -1) (P := fun n v h => m_X5_isEven_47 n (m_X5_isEven_80 Q) Q b (n32 c) v h) (k80 := m_X5_isEven_80 Q) (V.mv g2 (by unfold S19; omega)) K (B2.mv g2 (by unfold S19; omega) (by unfold S19; omega)) hb hc (by decide) S2 (fun n v4 h z => by rw [m_X5_isEven_47]; exact z) (fun h3 f3 S3 => ?_)
  have g3 := g2.trans f3
  have kk := k h3 g3
  have val : ∀ j, j < 48 → hJ h3 19 j = z64 (net (aF x) (bRows (aD x) l c 0) (j / 6) (j % 6) - net (aF x) (bRows (aD x) m c 0) (j / 6) (j % 6)) := by
    intro j hj
    have := S3 j hj
    dsimp only at this
    rw [Nat.zero_add] at this
    rw [this]
    congr 1
    rw [Int.one_mul, Int.zero_add, Int.neg_mul, Int.one_mul]; omega
  have cmp : ∀ j, j < 48 → (lg_cmp (hJ h3 19 j) 0 = 0 ↔ net (aF x) (bRows (aD x) m c 0) (j / 6) (j % 6) = net (aF x) (bRows (aD x) l c 0) (j / 6) (j % 6)) := by
    intro j hj
    have n1 := nb l B.2.2.2 B.2.1 (j / 6) (j % 6)
    have n2 := nb m B2.2.2.2 B2.2.1 (j / 6) (j % 6)
    rw [val j hj, show (0 : Int64) = z64 0 from rfl, show (0 : Int32) = n32 0 from rfl, lgc_eq (by omega) (by omega) (by omega) (by omega)]
    omega
  unfold m_X5_isEven_80
  have main : ∀ (r j : Nat), r + j = 48 → (∀ i, i < j → net (aF x) (bRows (aD x) m c 0) (i / 6) (i % 6) = net (aF x) (bRows (aD x) l c 0) (i / 6) (i % 6)) → m_X5_isEven_83 (r + 1) Q (n32 j) h3 := by
    intro r
    induction r with
    | zero =>
      intro j hr hj
      obtain rfl : j = 48 := by omega
      rw [m_X5_isEven_83, show (48 : Int32) = n32 48 from rfl, n32_le (by decide) (by decide)]
      refine ⟨fun _ => ?_, fun z => absurd (Nat.le_refl _) z⟩
      rw [if_neg] at kk
      · exact kk
      · unfold partB
        rw [List.any_eq_true]
        rintro ⟨i, hi, z⟩
        rw [List.mem_range] at hi
        rw [hj i hi] at z
        simp at z
    | succ r ih =>
      intro j hr hj
      rw [m_X5_isEven_83, show (48 : Int32) = n32 48 from rfl, n32_le (by decide) (by omega), n32_ix (by omega), cmp j (by omega)]
      refine ⟨fun z => absurd z (by omega), fun _ => ⟨vpI (by omega) (by decide), fun z x1 e1 => ?_, fun z => ?_⟩⟩
      · rw [e1, show n32 j + 1 = n32 (j + 1) from n32_add _ 1]
        refine ih (j + 1) (by omega) (fun i hi => ?_)
        rcases Nat.lt_or_ge i j with q | q
        · exact hj i q
        · rw [show i = j by omega]; exact z
      · rw [if_pos] at kk
        · exact kk
        · unfold partB
          rw [List.any_eq_true]
          refine ⟨j, List.mem_range.mpr (by omega), ?_⟩
          simpa using z
  exact ⟨49, main 48 0 rfl (fun i hi => by omega)⟩
theorem C_parts {x : Ab} {da : Nat → Nat} {v : Int32} {h : Hp} {Q : Int32 → Hp → Prop} (I : InvC x da h) (K : OkA x) (k : ∀ h', fr Own h h' → Q (ansParts x v) h') : m_X11_parts v h Q := by
  unfold m_X11_parts
  unfold ansParts at k
  have V := I.vw
  have B := I.2.2.2.2.2.2.1.bd
  obtain ⟨e12, l6, hh⟩ := I.2.2.2.2.2.2.2.2.1
  rw [e12]
  refine c_within (by omega) (fun e => ?_) (fun i hi hi2 e1 e2 => ?_)
  · rw [e] at k; exact ⟨fun _ => k h (fr.rf _ _), fun z => absurd rfl z⟩
  · rw [e2] at k
    subst e1
    dsimp only at k
    refine ⟨fun z => absurd z (by decide), fun _ => ?_⟩
    obtain ⟨a, r, BK, c1, c2, c3, c4, c5⟩ := hh i hi
    have B2 : CBd x da a (honS x i) h := ⟨c1, c2, c3, c4⟩
    have hk := BK.1
    rw [n32_ix (by omega)]
    refine c_isLooked V K B (fun q => ⟨fun z => absurd z (by decide), fun _ => ?_⟩) (fun q => ⟨fun _ => ?_, fun z => absurd rfl z⟩)
    · refine ⟨vpI (by omega) (by decide), a, r, ?_⟩
      refine c_isLooked V K B2 (fun q2 => ⟨fun _ => ?_, fun z => absurd z (by decide)⟩) (fun q2 => ⟨fun z => absurd rfl z, fun _ => ?_⟩)
      · rw [if_pos ⟨q, q2⟩] at k
        refine ⟨vpI (by omega) (by decide), a, r, ?_⟩
        rw [show (0 : Int32) = n32 0 from rfl]
        refine c_isEven V K B2 B (by omega) (by decide) (by decide) (fun h1 f1 => ?_)
        by_cases p0 : partB x (aB x) (honS x i) 0 = true
        · rw [if_pos p0] at k ⊢
          exact ⟨fun z => absurd rfl z, fun _ => k h1 (f1.mono S19_Own)⟩
        · rw [if_neg p0] at k ⊢
          refine ⟨fun _ => ?_, fun z => absurd z (by decide)⟩
          have main : ∀ (r e : Nat) (h2 : Hp), r + e = 5 → fr S19 h h2 → (∀ h', fr Own h h' → Q (pm (opN (fsome (fun e => if partB x (aB x) (honS x i) (2 ^ e) then some e else none) e 5))) h') → m_X11_parts_63 (r + 1) Q a (n32 e) h2 := by
            intro r
            induction r with
            | zero =>
              intro e h2 hr f kk
              obtain rfl : e = 5 := by omega
              rw [m_X11_parts_63, show (5 : Int32) = n32 5 from rfl, n32_le (by decide) (by decide)]
              rw [fsome_end (Nat.le_refl _)] at kk
              exact ⟨fun _ => kk h2 (f.mono S19_Own), fun z => absurd (Nat.le_refl _) z⟩
            | succ r ih =>
              intro e h2 hr f kk
              have pe := pw_le (show e ≤ 4 by omega)
              rw [m_X11_parts_63, show (5 : Int32) = n32 5 from rfl, n32_le (by decide) (by omega), show (1 : Int32) = n32 1 from rfl, show (31 : Int32) = n32 31 from rfl, shl1 (by omega)]
              refine ⟨fun z => absurd z (by omega), fun _ => ?_⟩
              refine c_isEven (V.mv f (by unfold S19; omega)) K (B2.mv f (by unfold S19; omega) (by unfold S19; omega)) (B.mv f (by unfold S19; omega) (by unfold S19; omega)) (by omega) (by decide) (by omega) (fun h3 f3 => ?_)
              by_cases pp : partB x (aB x) (honS x i) (2 ^ e) = true
              · rw [if_pos pp]
                rw [fsome_yes (v := e) (by omega) (by rw [if_pos pp])] at kk
                exact ⟨fun z => absurd rfl z, fun _ => kk h3 ((f.trans f3).mono S19_Own)⟩
              · rw [if_neg pp]
                rw [fsome_no (by omega) (by rw [if_neg pp])] at kk
                refine ⟨fun _ x3 e3 => ?_, fun z => absurd z (by decide)⟩
                rw [e3, n32_add]
                exact ih (e + 1) h3 (by omega) (f.trans f3) kk
          exact ⟨6, main 5 0 h1 rfl f1 k⟩
      · rw [if_neg (fun y => q2 y.2)] at k; exact k h (fr.rf _ _)
    · rw [if_neg (fun y => q y.1)] at k; exact k h (fr.rf _ _)
