/-! THE MODEL: tokens -/
def RTx (T : List Nat) (h : Hp) : Prop := hI h 51 23 = n32 T.length ∧ T.length ≤ 600 ∧ ∀ k, k < T.length → hI h 71 k = byteOf (T.getD k 0) ∧ T.getD k 0 < 256
def STk (a k : Nat) : Prop := a = 51 ∧ 24 ≤ k ∧ k ≤ 28
theorem RTx.mv {T : List Nat} {h h' : Hp} {S : Nat → Nat → Prop} (R : RTx T h) (f : fr S h h') (h1 : ¬ S 51 23) (h2 : ∀ k, ¬ S 71 k) : RTx T h' :=
  ⟨by rw [f.I h1]; exact R.1, R.2.1, fun k hk => by rw [f.I (h2 k)]; exact R.2.2 k hk⟩
set_option maxRecDepth 100000 in
theorem byte_key : ∀ t : Fin 256, byteOf t.val &&& 255 = n32 t.val := by decide
theorem byte_and {b : Nat} (h : b < 256) : byteOf b &&& 255 = n32 b := byte_key ⟨b, h⟩
def bA (T : List Nat) (p : Nat) : Nat := if p < T.length then T.getD p 0 + 1 else 0
theorem q_here {T : List Nat} {p : Nat} {h : Hp} {Q : Int32 → Hp → Prop} (R : RTx T h) (e : hI h 51 24 = n32 p) (hp : p ≤ T.length) (k : Q (pm (bA T p)) h) : m_X12_here h Q := by
  unfold m_X12_here
  have := R.2.1
  rw [R.1, e, n32_le (by omega) (by omega), n32_ix (by omega)]
  unfold bA at k
  by_cases q : p < T.length
  · rw [if_pos q, pmS] at k
    refine ⟨fun z => absurd z (by omega), fun _ => ⟨vpI (by omega) (by decide), ?_⟩⟩
    rw [(R.2.2 p q).1, byte_and (R.2.2 p q).2]
    exact k
  · rw [if_neg q, pm0] at k
    exact ⟨fun _ => k, fun z => absurd z (by omega)⟩
/-- a byte from lo to hi, or not -/
theorem q_btw {T : List Nat} {p lo hi : Nat} {h : Hp} {Q : Int32 → Hp → Prop} (R : RTx T h) (hl : lo < 1000) (hh : hi < 1000) (k1 : ¬ (p < T.length ∧ lo ≤ T.getD p 0 ∧ T.getD p 0 ≤ hi) → Q 0 h) (k2 : p < T.length → lo ≤ T.getD p 0 → T.getD p 0 ≤ hi → Q 1 h) : m_X12_within (pm (bA T p)) (n32 lo) (n32 hi) h Q := by
  unfold bA
  by_cases q : p < T.length
  · have := (R.2.2 p q).2
    rw [if_pos q, pmS]
    refine q_within (fun c => k1 (fun z => ?_)) (fun c1 c2 => ?_)
    · rw [n32_lt (by omega) (by omega), n32_lt (by omega) (by omega)] at c; omega
    · rw [n32_lt (by omega) (by omega)] at c1 c2; exact k2 q (by omega) (by omega)
  · rw [if_neg q]
    refine q_within (fun c => k1 (fun z => q z.1)) (fun c1 c2 => absurd (by rw [pm0, n32_m1lt (by omega)]; trivial) c1)
def wv (w : List Nat) : Int64 := if w.length ≤ 6 then z64 (w27 w : Nat) else -1
def nv (w : List Nat) : Nat := w.foldl (fun v c => if 1000000 ≤ v then v else 10 * v + (c - 48)) 0
theorem nv_snoc (w : List Nat) (c : Nat) : nv (w ++ [c]) = if 1000000 ≤ nv w then nv w else 10 * nv w + (c - 48) := by unfold nv; rw [List.foldl_append]; rfl
theorem nv_lt : ∀ (n : Nat) (w : List Nat), w.length = n → (∀ c ∈ w, c ≤ 57) → nv w < 20000000
  | 0, w, h, _ => by rw [List.length_eq_zero_iff.mp h]; decide
  | n + 1, w, h, q => by
    rcases snoc_cases w with rfl | ⟨u, c, rfl⟩
    · simp at h
    · rw [List.length_append, List.length_singleton] at h
      have := nv_lt n u (by omega) (fun c hc => q c (by simp [hc]))
      have hc := q c (by simp)
      rw [nv_snoc]
      split <;> omega
theorem nv_eq : ∀ (n : Nat) (w : List Nat), w.length = n → n ≤ 4 → (∀ c ∈ w, c ≤ 57) → nv w = w10 w
  | 0, w, h, _, _ => by rw [List.length_eq_zero_iff.mp h]; rfl
  | n + 1, w, h, hn, q => by
    rcases snoc_cases w with rfl | ⟨u, c, rfl⟩
    · simp at h
    · rw [List.length_append, List.length_singleton] at h
      have e := nv_eq n u (by omega) (by omega) (fun c hc => q c (by simp [hc]))
      have l := w10_lt n u (by omega) (fun c hc => q c (by simp [hc]))
      have l2 : 10 ^ n ≤ 10 ^ 4 := Nat.pow_le_pow_right (by decide) (by omega)
      rw [nv_snoc, w10_snoc, e, if_neg (by omega)]
def TkM (T : List Nat) (t : Tk) (h : Hp) : Prop := hI h 51 24 = n32 t.2.2 ∧ hI h 51 25 = n32 t.2.1 ∧ hI h 51 26 = n32 t.1 ∧ (t.1 = 1 → hJ h 51 28 = wv (tkW T t)) ∧ (t.1 = 2 → hI h 51 27 = n32 (w10 (tkW T t)))
theorem TkM.mv {T : List Nat} {t : Tk} {h h' : Hp} {S : Nat → Nat → Prop} (R : TkM T t h) (f : fr S h h') (n : ∀ k, 24 ≤ k → k ≤ 28 → ¬ S 51 k) : TkM T t h' := by
  unfold TkM
  rw [f.I (n 24 (by decide) (by decide)), f.I (n 25 (by decide) (by decide)), f.I (n 26 (by decide) (by decide)), f.I (n 27 (by decide) (by decide)), f.J (n 28 (by decide) (by decide))]
  exact R
set_option maxHeartbeats 4000000 in
set_option maxRecDepth 100000 in
theorem q_next89 {T : List Nat} {a : Nat} {h0 : Hp} {Q : Hp → Prop} (R0 : RTx T h0) (k : ∀ h', fr STk h0 h' → hI h' 51 24 = n32 (skp isL T a) → hI h' 51 25 = n32 a → hI h' 51 26 = 1 → hJ h' 51 28 = wv (slc T a (skp isL T a)) → Q h') :
    ∀ (r p : Nat) (h : Hp), r + p = T.length → a ≤ p → skp isL T a = skp isL T p → fr STk h0 h → hI h 51 24 = n32 p → hI h 51 25 = n32 a → hI h 51 26 = 1 → hJ h 51 28 = wv (slc T a p) → (∀ c ∈ slc T a p, c ≤ 122) → m_X12_next_89 (r + 1) Q h := by
  intro r
  induction r with
  | zero =>
    intro p h hr hap es f e24 e25 e26 e28 hc
    have R := R0.mv f (by unfold STk; omega) (by unfold STk; omega)
    rw [m_X12_next_89]
    refine q_here R e24 (by omega) ?_
    refine q_btw (lo := 97) (hi := 122) R (by decide) (by decide) (fun _ => ⟨fun _ => ?_, fun z => absurd rfl z⟩) (fun z => by omega)
    rw [skp_end (p := p) (by omega)] at es
    exact k h f (by rw [es]; exact e24) e25 e26 (by rw [es]; exact e28)
  | succ r ih =>
    intro p h hr hap es f e24 e25 e26 e28 hc
    have R := R0.mv f (by unfold STk; omega) (by unfold STk; omega)
    have h6 := R.2.1
    rw [m_X12_next_89]
    refine q_here R e24 (by omega) ?_
    refine q_btw (lo := 97) (hi := 122) R (by decide) (by decide) (fun q => ⟨fun _ => ?_, fun z => absurd rfl z⟩) (fun q1 q2 q3 => ⟨fun z => absurd z (by decide), fun _ => ?_⟩)
    · rw [skp_no (p := p) (by omega) (by cases hq : isL (T.getD p 0) with | false => rfl | true => unfold isL at hq; rw [Bool.and_eq_true, decide_eq_true_eq, decide_eq_true_eq] at hq; exact absurd ⟨by omega, hq.1, hq.2⟩ q)] at es
      exact k h f (by rw [es]; exact e24) e25 e26 (by rw [es]; exact e28)
    · rw [skp_yes (p := p) (by omega) (by unfold isL; rw [decide_eq_true q2, decide_eq_true q3]; rfl)] at es
      have hl := slc_len hap (show p ≤ T.length by omega)
      have hn : ∀ c ∈ slc T a (p + 1), c ≤ 122 := by
        intro c hc'
        rw [slc_succ hap (by omega), List.mem_append, List.mem_singleton] at hc'
        rcases hc' with hc' | rfl
        · exact hc c hc'
        · exact q3
      have stp : ∀ (v : Int64), v = wv (slc T a (p + 1)) → m_X12_next_141 (fun hh => m_X12_next_89 (r + 1) Q hh) Q v h := by
        intro v hv
        unfold m_X12_next_141
        rw [hI_wJ, e24, show n32 p + 1 = n32 (p + 1) from n32_add _ 1]
        refine ih (p + 1) _ (by omega) (by omega) es (fr_wI (fr_wJ f _ (by unfold STk; omega)) _ (by unfold STk; omega)) ?_ ?_ ?_ ?_ hn
        · rw [hI_wI, if_pos ⟨rfl, rfl⟩]
        · rw [hI_wI, if_neg (by omega), hI_wJ]; exact e25
        · rw [hI_wI, if_neg (by omega), hI_wJ]; exact e26
        · rw [hJ_wI, hJ_wJ, if_pos ⟨rfl, rfl⟩]; exact hv
      rw [e24, e25, n32_sub hap, show (6 : Int32) = n32 6 from rfl, n32_le (by decide) (by omega)]
      refine ⟨fun z => stp _ ?_, fun z => ?_⟩
      · unfold wv
        rw [if_neg]
        rw [slc_succ hap (by omega), List.length_append, List.length_singleton]; omega
      · refine q_here R e24 (by omega) (stp _ ?_)
        have ev : hJ h 51 28 = z64 (w27 (slc T a p) : Nat) := by rw [e28]; unfold wv; rw [if_pos (by omega)]
        rw [ev]
        unfold bA
        rw [if_pos (by omega), pmS, show (96 : Int32) = n32 96 from rfl, n32_sub (by omega), n32_long (by omega), show (27 : Int64) = z64 27 from rfl, z64_mul, z64_add]
        unfold wv
        rw [slc_succ hap (by omega), List.length_append, List.length_singleton, if_pos (by omega), w27_snoc]
        congr 1
set_option maxHeartbeats 4000000 in
set_option maxRecDepth 100000 in
theorem q_next168 {T : List Nat} {a : Nat} {h0 : Hp} {k223 : Hp → Prop} {Q : Hp → Prop} (R0 : RTx T h0) (k : ∀ h', fr STk h0 h' → hI h' 51 24 = n32 (skp isD T a) → hI h' 51 25 = n32 a → hI h' 51 27 = n32 (nv (slc T a (skp isD T a))) → k223 h') :
    ∀ (r p : Nat) (h : Hp), r + p = T.length → a ≤ p → skp isD T a = skp isD T p → fr STk h0 h → hI h 51 24 = n32 p → hI h 51 25 = n32 a → hI h 51 27 = n32 (nv (slc T a p)) → (∀ c ∈ slc T a p, c ≤ 57) → m_X12_next_168 (r + 1) k223 Q h := by
  intro r
  induction r with
  | zero =>
    intro p h hr hap es f e24 e25 e27 hc
    have R := R0.mv f (by unfold STk; omega) (by unfold STk; omega)
    rw [m_X12_next_168]
    refine q_here R e24 (by omega) ?_
    refine q_btw (lo := 48) (hi := 57) R (by decide) (by decide) (fun _ => ⟨fun _ => ?_, fun z => absurd rfl z⟩) (fun z => by omega)
    rw [skp_end (p := p) (by omega)] at es
    exact k h f (by rw [es]; exact e24) e25 (by rw [es]; exact e27)
  | succ r ih =>
    intro p h hr hap es f e24 e25 e27 hc
    have R := R0.mv f (by unfold STk; omega) (by unfold STk; omega)
    have h6 := R.2.1
    have hv := nv_lt _ _ rfl hc
    rw [m_X12_next_168]
    refine q_here R e24 (by omega) ?_
    refine q_btw (lo := 48) (hi := 57) R (by decide) (by decide) (fun q => ⟨fun _ => ?_, fun z => absurd rfl z⟩) (fun q1 q2 q3 => ⟨fun z => absurd z (by decide), fun _ => ?_⟩)
    · rw [skp_no (p := p) (by omega) (by cases hq : isD (T.getD p 0) with | false => rfl | true => unfold isD at hq; rw [Bool.and_eq_true, decide_eq_true_eq, decide_eq_true_eq] at hq; exact absurd ⟨by omega, hq.1, hq.2⟩ q)] at es
      exact k h f (by rw [es]; exact e24) e25 (by rw [es]; exact e27)
    · rw [skp_yes (p := p) (by omega) (by unfold isD; rw [decide_eq_true q2, decide_eq_true q3]; rfl)] at es
      have hn : ∀ c ∈ slc T a (p + 1), c ≤ 57 := by
        intro c hc'
        rw [slc_succ hap (by omega), List.mem_append, List.mem_singleton] at hc'
        rcases hc' with hc' | rfl
        · exact hc c hc'
        · exact q3
      have stp : ∀ (g : Hp), fr STk h0 g → hI g 51 24 = n32 p → hI g 51 25 = n32 a → hI g 51 27 = n32 (nv (slc T a (p + 1))) → m_X12_next_210 (fun hh => m_X12_next_168 (r + 1) k223 Q hh) k223 Q g := by
        intro g fg g24 g25 g27
        unfold m_X12_next_210
        rw [g24, show n32 p + 1 = n32 (p + 1) from n32_add _ 1]
        refine ih (p + 1) _ (by omega) (by omega) es (fr_wI fg _ (by unfold STk; omega)) ?_ ?_ ?_ hn
        · rw [hI_wI, if_pos ⟨rfl, rfl⟩]
        · rw [hI_wI, if_neg (by omega)]; exact g25
        · rw [hI_wI, if_neg (by omega)]; exact g27
      rw [e27, show (1000000 : Int32) = n32 1000000 from rfl, n32_le (by decide) (by omega)]
      refine ⟨fun z => stp h f e24 e25 ?_, fun z => ?_⟩
      · rw [slc_succ hap (by omega), nv_snoc, if_pos z]; exact e27
      · refine q_here R e24 (by omega) (stp _ (fr_wI f _ (by unfold STk; omega)) ?_ ?_ ?_)
        · rw [hI_wI, if_neg (by omega)]; exact e24
        · rw [hI_wI, if_neg (by omega)]; exact e25
        · rw [hI_wI, if_pos ⟨rfl, rfl⟩]
          unfold bA
          rw [if_pos (by omega), pmS, show (48 : Int32) = n32 48 from rfl, show (10 : Int32) = n32 10 from rfl, n32_mul, n32_add, n32_sub (by omega), slc_succ hap (by omega), nv_snoc, if_neg z]
          congr 1
          omega
set_option maxHeartbeats 4000000 in
set_option maxRecDepth 100000 in
theorem q_next31 {T : List Nat} {a : Nat} {h : Hp} {Q : Hp → Prop} (R : RTx T h) (ha : a ≤ T.length) (e24 : hI h 51 24 = n32 a) (k : ∀ h', fr STk h h' → TkM T (tokA T a) h' → Q h') : m_X12_next_31 Q h := by
  unfold m_X12_next_31
  have h6 := R.2.1
  have f1 : fr STk h (wI h 51 25 (hI h 51 24)) := fr_wI (fr.rf _ _) _ (by unfold STk; omega)
  have R1 := R.mv f1 (by unfold STk; omega) (by unfold STk; omega)
  refine q_here R1 (p := a) (by rw [hI_wI, if_neg (by omega)]; exact e24) ha ?_
  have f2 : fr STk h (wI (wJ (wI h 51 25 (hI h 51 24)) 51 28 (-1)) 51 27 0) := fr_wI (fr_wJ f1 _ (by unfold STk; omega)) _ (by unfold STk; omega)
  have g24 : hI (wI (wJ (wI h 51 25 (hI h 51 24)) 51 28 (-1)) 51 27 0) 51 24 = n32 a := by rw [hI_wI, if_neg (by omega), hI_wJ, hI_wI, if_neg (by omega)]; exact e24
  have g25 : hI (wI (wJ (wI h 51 25 (hI h 51 24)) 51 28 (-1)) 51 27 0) 51 25 = n32 a := by rw [hI_wI, if_neg (by omega), hI_wJ, hI_wI, if_pos ⟨rfl, rfl⟩]; exact e24
  have g27 : hI (wI (wJ (wI h 51 25 (hI h 51 24)) 51 28 (-1)) 51 27 0) 51 27 = n32 0 := by rw [hI_wI, if_pos ⟨rfl, rfl⟩]; rfl
  generalize wI (wJ (wI h 51 25 (hI h 51 24)) 51 28 (-1)) 51 27 0 = h2 at f2 g24 g25 g27
  have R2 := R.mv f2 (by unfold STk; omega) (by unfold STk; omega)
  by_cases q : a < T.length
  · have hb := (R.2.2 a q).2
    have ebA : bA T a = T.getD a 0 + 1 := by unfold bA; rw [if_pos q]
    unfold tokA at k
    rw [if_pos q] at k
    refine ⟨fun _ => ?_, fun z => absurd ((pm_ge0 (by omega)).mpr (by omega)) z⟩
    have sgn : ∀ s : Nat, (∀ h', fr STk h h' → TkM T (s, a, a + 1) h' → Q h') → s ≠ 1 → s ≠ 2 → m_X12_next_278 Q (n32 s) h2 := by
      intro s ks s1 s2
      unfold m_X12_next_278
      rw [hI_wI, if_neg (by omega), g24, show n32 a + 1 = n32 (a + 1) from n32_add _ 1]
      refine ks _ (fr_wI (fr_wI f2 _ (by unfold STk; omega)) _ (by unfold STk; omega)) ⟨?_, ?_, ?_, fun z => absurd z s1, fun z => absurd z s2⟩
      · rw [hI_wI, if_pos ⟨rfl, rfl⟩]
      · rw [hI_wI, if_neg (by omega), hI_wI, if_neg (by omega)]; exact g25
      · rw [hI_wI, if_neg (by omega), hI_wI, if_pos ⟨rfl, rfl⟩]
    refine q_btw (lo := 97) (hi := 122) R2 (by decide) (by decide) (fun q1 => ⟨fun _ => ?_, fun z => absurd rfl z⟩) (fun _ q2 q3 => ⟨fun z => absurd z (by decide), fun _ => ?_⟩)
    · have nL : isL (T.getD a 0) = false := by
        cases hq : isL (T.getD a 0) with
        | false => rfl
        | true => unfold isL at hq; rw [Bool.and_eq_true, decide_eq_true_eq, decide_eq_true_eq] at hq; exact absurd ⟨q, hq.1, hq.2⟩ q1
      rw [if_neg (by rw [nL]; decide)] at k
      refine q_btw (lo := 48) (hi := 57) R2 (by decide) (by decide) (fun q1 => ⟨fun _ => ?_, fun z => absurd rfl z⟩) (fun _ q2 q3 => ⟨fun z => absurd z (by decide), fun _ => ?_⟩)
      · have nD : isD (T.getD a 0) = false := by
          cases hq : isD (T.getD a 0) with
          | false => rfl
          | true => unfold isD at hq; rw [Bool.and_eq_true, decide_eq_true_eq, decide_eq_true_eq] at hq; exact absurd ⟨q, hq.1, hq.2⟩ q1
        rw [if_neg (by rw [nD]; decide)] at k
        unfold m_X12_next_273
        rw [ebA, pmS]
        generalize T.getD a 0 = c at k hb
        rw [show (44 : Int32) = n32 44 from rfl, show (59 : Int32) = n32 59 from rfl, show (123 : Int32) = n32 123 from rfl, show (125 : Int32) = n32 125 from rfl, n32_eq (by omega) (by decide), n32_eq (by omega) (by decide), n32_eq (by omega) (by decide), n32_eq (by omega) (by decide)]
        have S : isS c = true → m_X12_next_278 Q (n32 c) h2 := by
          intro hs
          rw [if_pos hs] at k
          refine sgn c k ?_ ?_
          · intro z; rw [z] at hs; exact absurd hs (by decide)
          · intro z; rw [z] at hs; exact absurd hs (by decide)
        refine ⟨fun z => S (by rw [z]; decide), fun z1 => ⟨fun z => S (by rw [z]; decide), fun z2 => ⟨fun z => S (by rw [z]; decide), fun z3 => ⟨fun z4 => ?_, fun z => S (by rw [z]; decide)⟩⟩⟩⟩
        have nS : isS c = false := by
          unfold isS
          rw [beq_eq_false_iff_ne.mpr z1, beq_eq_false_iff_ne.mpr z2, beq_eq_false_iff_ne.mpr z3, beq_eq_false_iff_ne.mpr z4]
          rfl
        rw [if_neg (by rw [nS]; decide)] at k
        exact sgn 3 k (by decide) (by decide)
      · have yD : isD (T.getD a 0) = true := by unfold isD; rw [decide_eq_true q2, decide_eq_true q3]; rfl
        rw [if_pos yD] at k
        have u1 := skp_ge isD T a
        have u2 := skp_le (f := isD) ha
        refine ⟨_, q_next168 R2 (a := a) (fun h3 f3 e1 e2 e3 => ?_) (T.length - a) a h2 (by omega) (Nat.le_refl _) rfl (fr.rf _ _) g24 g25 (by rw [slc_self]; exact g27) (by rw [slc_self]; simp)⟩
        unfold m_X12_next_223
        rw [e1, e2, n32_sub u1, show (4 : Int32) = n32 4 from rfl, n32_lt (by decide) (by omega)]
        refine ⟨fun z => k _ (fr_wI (f2.trans f3) _ (by unfold STk; omega)) ?_, fun z => k _ (fr_wI (f2.trans f3) _ (by unfold STk; omega)) ?_⟩
        · rw [if_pos z]
          refine ⟨?_, ?_, ?_, fun z => absurd z (by show ¬ 3 = 1; decide), fun z => absurd z (by show ¬ 3 = 2; decide)⟩
          · rw [hI_wI, if_neg (by omega)]; exact e1
          · rw [hI_wI, if_neg (by omega)]; exact e2
          · rw [hI_wI, if_pos ⟨rfl, rfl⟩]; rfl
        · rw [if_neg z]
          refine ⟨?_, ?_, ?_, fun z => absurd z (by show ¬ 2 = 1; decide), fun _ => ?_⟩
          · rw [hI_wI, if_neg (by omega)]; exact e1
          · rw [hI_wI, if_neg (by omega)]; exact e2
          · rw [hI_wI, if_pos ⟨rfl, rfl⟩]; rfl
          · rw [hI_wI, if_neg (by omega), e3]
            show _ = n32 (w10 (slc T a (skp isD T a)))
            rw [nv_eq _ _ rfl (by rw [slc_len u1 u2]; omega) (fun c hc => by have := slc_all (f := isD) c hc; unfold isD at this; simp at this; exact this.2)]
    · have yL : isL (T.getD a 0) = true := by unfold isL; rw [decide_eq_true q2, decide_eq_true q3]; rfl
      rw [if_pos yL] at k
      have f3 : fr STk h2 (wJ (wI h2 51 26 1) 51 28 0) := fr_wJ (fr_wI (fr.rf _ _) _ (by unfold STk; omega)) _ (by unfold STk; omega)
      refine ⟨_, q_next89 R2 (a := a) (fun h4 f4 e1 e2 e3 e4 => ?_) (T.length - a) a _ (by omega) (Nat.le_refl _) rfl f3 ?_ ?_ ?_ ?_ (by rw [slc_self]; simp)⟩
      · exact k h4 (f2.trans f4) ⟨e1, e2, e3, fun _ => e4, fun z => absurd z (by show ¬ 1 = 2; decide)⟩
      · rw [hI_wJ, hI_wI, if_neg (by omega)]; exact g24
      · rw [hI_wJ, hI_wI, if_neg (by omega)]; exact g25
      · rw [hI_wJ, hI_wI, if_pos ⟨rfl, rfl⟩]
      · rw [hJ_wJ, if_pos ⟨rfl, rfl⟩, slc_self]; rfl
  · have ebA : bA T a = 0 := by unfold bA; rw [if_neg q]
    rw [ebA]
    unfold tokA at k
    rw [if_neg q] at k
    refine ⟨fun z => absurd z (by decide), fun _ => k _ (fr_wI f2 _ (by unfold STk; omega)) ⟨?_, ?_, ?_, fun z => absurd z (by show ¬ 0 = 1; decide), fun z => absurd z (by show ¬ 0 = 2; decide)⟩⟩
    · rw [hI_wI, if_neg (by omega)]; exact g24
    · rw [hI_wI, if_neg (by omega)]; exact g25
    · rw [hI_wI, if_pos ⟨rfl, rfl⟩]; rfl
set_option maxHeartbeats 4000000 in
set_option maxRecDepth 100000 in
theorem q_next {T : List Nat} {p : Nat} {h : Hp} {Q : Hp → Prop} (R : RTx T h) (hp : p ≤ T.length) (e24 : hI h 51 24 = n32 p) (k : ∀ h', fr STk h h' → TkM T (tok T p) h' → Q h') : m_X12_next h Q := by
  unfold m_X12_next
  have main : ∀ (r q : Nat) (g : Hp), r + q = T.length → skp isB T p = skp isB T q → fr STk h g → hI g 51 24 = n32 q → m_X12_next_0 (r + 1) (m_X12_next_31 Q) Q g := by
    intro r
    induction r with
    | zero =>
      intro q g hr es f e
      have Rg := R.mv f (by unfold STk; omega) (by unfold STk; omega)
      have ebA : bA T q = 0 := by unfold bA; rw [if_neg (by omega)]
      rw [m_X12_next_0]
      refine q_here Rg e (by omega) ?_
      rw [ebA]
      refine ⟨fun z => absurd z (by decide), fun _ => q_here Rg e (by omega) ?_⟩
      rw [ebA]
      refine ⟨fun _ => ?_, fun z => absurd z (by decide)⟩
      refine q_next31 Rg (by omega) e (fun h' f' M => k h' (f.trans f') ?_)
      unfold tok
      rw [es, skp_end (by omega)]
      exact M
    | succ r ih =>
      intro q g hr es f e
      have Rg := R.mv f (by unfold STk; omega) (by unfold STk; omega)
      have hb := (R.2.2 q (by omega)).2
      have h6 := R.2.1
      have ebA : bA T q = T.getD q 0 + 1 := by unfold bA; rw [if_pos (by omega)]
      have go : isB (T.getD q 0) = true → m_X12_next_18 (fun hh => m_X12_next_0 (r + 1) (m_X12_next_31 Q) Q hh) (m_X12_next_31 Q) Q g := by
        intro hB
        unfold m_X12_next_18
        rw [e, show n32 q + 1 = n32 (q + 1) from n32_add _ 1]
        exact ih (q + 1) _ (by omega) (by rw [es, skp_yes (by omega) hB]) (fr_wI f _ (by unfold STk; omega)) (by rw [hI_wI, if_pos ⟨rfl, rfl⟩])
      rw [m_X12_next_0]
      refine q_here Rg e (by omega) ?_
      rw [ebA, pmS, show (32 : Int32) = n32 32 from rfl, n32_eq (by omega) (by decide)]
      refine ⟨fun z => go (by rw [z]; decide), fun z1 => q_here Rg e (by omega) ?_⟩
      rw [ebA, pmS, show (10 : Int32) = n32 10 from rfl, n32_eq (by omega) (by decide)]
      refine ⟨fun z2 => ?_, fun z => go (by rw [z]; decide)⟩
      refine q_next31 Rg (by omega) e (fun h' f' M => k h' (f.trans f') ?_)
      unfold tok
      rw [es, skp_no (by omega) (by unfold isB; rw [beq_eq_false_iff_ne.mpr z1, beq_eq_false_iff_ne.mpr z2]; rfl)]
      exact M
  exact ⟨_, main (T.length - p) p h (by omega) rfl (fr.rf _ _) e24⟩
