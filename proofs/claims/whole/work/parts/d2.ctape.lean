/-! THE CLASS: the tape -/
def cKd (T : List Nat) (a : Nat) : Nat := if a < T.length then (if isL (T.getD a 0) then 1 else if isD (T.getD a 0) then 2 else 3) else 0
def CTk (T : List Nat) (t : Tk) (h : Hp) : Prop := hI h 2 4 = n32 (cKd T t.2.1) ∧ hI h 2 5 = n32 t.2.1 ∧ hI h 2 6 = n32 t.2.2
def CTt (T : List Nat) (h : Hp) : Prop := hI h 2 3 = n32 T.length ∧ T.length ≤ 600 ∧ ∀ k, k < T.length → hI h 3 k = n32 (T.getD k 0) ∧ T.getD k 0 < 256
def STc (a k : Nat) : Prop := a = 2 ∧ 4 ≤ k ∧ k ≤ 6
theorem CTt.mv {T : List Nat} {h h' : Hp} {S : Nat → Nat → Prop} (R : CTt T h) (f : fr S h h') (h1 : ¬ S 2 3) (h2 : ∀ k, ¬ S 3 k) : CTt T h' :=
  ⟨by rw [f.I h1]; exact R.1, R.2.1, fun k hk => by rw [f.I (h2 k)]; exact R.2.2 k hk⟩
theorem tokA_at (T : List Nat) (a : Nat) : (tokA T a).2.1 = a ∧ (tokA T a).2.2 = if a < T.length then (if isL (T.getD a 0) then skp isL T a else if isD (T.getD a 0) then skp isD T a else a + 1) else a := by
  unfold tokA
  by_cases h : a < T.length
  · rw [if_pos h, if_pos h]
    by_cases q : isL (T.getD a 0)
    · rw [if_pos q, if_pos q]; exact ⟨rfl, rfl⟩
    · rw [if_neg q, if_neg q]
      by_cases q2 : isD (T.getD a 0)
      · rw [if_pos q2, if_pos q2]; exact ⟨rfl, rfl⟩
      · rw [if_neg q2, if_neg q2]
        by_cases q3 : isS (T.getD a 0)
        · rw [if_pos q3]; exact ⟨rfl, rfl⟩
        · rw [if_neg q3]; exact ⟨rfl, rfl⟩
  · rw [if_neg h, if_neg h]; exact ⟨rfl, rfl⟩
theorem isS_not {c : Nat} (h : isS c = true) : isL c = false ∧ isD c = false ∧ (c = 44 ∨ c = 59 ∨ c = 123 ∨ c = 125) := by
  unfold isS at h
  rw [Bool.or_eq_true, Bool.or_eq_true, Bool.or_eq_true, beq_iff_eq, beq_iff_eq, beq_iff_eq, beq_iff_eq] at h
  rcases h with ((h | h) | h) | h <;> subst h <;> decide
/-- the class's kinds against the Model's -/
theorem tokA_kd (T : List Nat) (a : Nat) : ((tokA T a).1 = 0 ↔ cKd T a = 0) ∧ ((tokA T a).1 = 1 ↔ cKd T a = 1) ∧ ((tokA T a).1 = 2 ↔ cKd T a = 2 ∧ skp isD T a - a ≤ 4) ∧ ∀ c, isS c = true → ((tokA T a).1 = c ↔ cKd T a = 3 ∧ T.getD a 0 = c) := by
  unfold tokA cKd
  by_cases h : a < T.length
  · rw [if_pos h, if_pos h]
    by_cases q : isL (T.getD a 0)
    · rw [if_pos q, if_pos q]
      refine ⟨by simp, by simp, by simp, fun c hc => ?_⟩
      have := (isS_not hc).2.2
      constructor
      · intro z; have z' : (1 : Nat) = c := z; omega
      · intro z; omega
    · rw [if_neg q, if_neg q]
      by_cases q2 : isD (T.getD a 0)
      · rw [if_pos q2, if_pos q2]
        by_cases q4 : 4 < skp isD T a - a
        · rw [if_pos q4]
          refine ⟨by simp, by simp, ?_, fun c hc => ?_⟩
          · constructor
            · intro z; exact absurd z (by show ¬ (3 : Nat) = 2; decide)
            · intro z; omega
          · have := (isS_not hc).2.2
            constructor
            · intro z; have z' : (3 : Nat) = c := z; omega
            · intro z; omega
        · rw [if_neg q4]
          refine ⟨by simp, by simp, ?_, fun c hc => ?_⟩
          · constructor
            · intro _; exact ⟨rfl, by omega⟩
            · intro _; rfl
          · have := (isS_not hc).2.2
            constructor
            · intro z; have z' : (2 : Nat) = c := z; omega
            · intro z; omega
      · rw [if_neg q2, if_neg q2]
        by_cases q3 : isS (T.getD a 0)
        · rw [if_pos q3]
          have := (isS_not q3).2.2
          refine ⟨?_, ?_, ?_, fun c hc => ?_⟩
          · show T.getD a 0 = 0 ↔ _; omega
          · show T.getD a 0 = 1 ↔ _; omega
          · show T.getD a 0 = 2 ↔ _; omega
          · show T.getD a 0 = c ↔ _; omega
        · rw [if_neg q3]
          refine ⟨by simp, by simp, ?_, fun c hc => ?_⟩
          · show 3 = 2 ↔ _; omega
          · have := (isS_not hc).2.2
            constructor
            · intro z; have z' : (3 : Nat) = c := z; omega
            · intro z; rw [z.2] at q3; exact absurd hc q3
  · rw [if_neg h, if_neg h]
    refine ⟨by simp, by simp, by simp, fun c hc => ?_⟩
    have := (isS_not hc).2.2
    constructor
    · intro z; have z' : (0 : Nat) = c := z; omega
    · intro z; omega
theorem isL_not {c : Nat} (h : ¬ (97 ≤ c ∧ c ≤ 122)) : isL c = false := by
  cases q : isL c with
  | false => rfl
  | true => unfold isL at q; rw [Bool.and_eq_true, decide_eq_true_eq, decide_eq_true_eq] at q; exact absurd q h
theorem isD_not {c : Nat} (h : ¬ (48 ≤ c ∧ c ≤ 57)) : isD c = false := by
  cases q : isD c with
  | false => rfl
  | true => unfold isD at q; rw [Bool.and_eq_true, decide_eq_true_eq, decide_eq_true_eq] at q; exact absurd q h
set_option maxHeartbeats 4000000 in
set_option maxRecDepth 100000 in
theorem c_adv73 {T : List Nat} {a : Nat} {h0 : Hp} {k125 : Hp → Prop} {Q : Hp → Prop} (R0 : CTt T h0) (k : ∀ h', fr STc h0 h' → hI h' 2 6 = n32 (skp isL T a) → hI h' 2 5 = n32 a → hI h' 2 4 = n32 1 → k125 h') :
    ∀ (r p : Nat) (h : Hp), r + p = T.length → skp isL T a = skp isL T p → fr STc h0 h → hI h 2 6 = n32 p → hI h 2 5 = n32 a → hI h 2 4 = n32 1 → m_X10_advance_73 (r + 1) k125 Q h := by
  intro r
  induction r with
  | zero =>
    intro p h hr es f e6 e5 e4
    have R := R0.mv f (by unfold STc; omega) (by unfold STc; omega)
    have h6 := R.2.1
    rw [m_X10_advance_73, R.1, e6, n32_le (by omega) (by omega)]
    rw [skp_end (p := p) (by omega)] at es
    exact ⟨fun _ => k h f (by rw [es]; exact e6) e5 e4, fun z => absurd (by omega) z⟩
  | succ r ih =>
    intro p h hr es f e6 e5 e4
    have R := R0.mv f (by unfold STc; omega) (by unfold STc; omega)
    have h6 := R.2.1
    obtain ⟨ep, bp⟩ := R.2.2 p (by omega)
    rw [m_X10_advance_73, R.1, e6, n32_le (by omega) (by omega), n32_ix (by omega), ep, show (97 : Int32) = n32 97 from rfl, show (122 : Int32) = n32 122 from rfl, n32_lt (by omega) (by decide), n32_lt (by decide) (by omega), show n32 p + 1 = n32 (p + 1) from n32_add _ 1]
    have stop : ¬ (97 ≤ T.getD p 0 ∧ T.getD p 0 ≤ 122) → k125 h := fun q => by
      rw [skp_no (p := p) (by omega) (isL_not q)] at es
      exact k h f (by rw [es]; exact e6) e5 e4
    refine ⟨fun z => absurd z (by omega), fun _ => ⟨vpI (by omega) (by decide), fun z => stop (by omega), fun z1 => ⟨vpI (by omega) (by decide), fun z => stop (by omega), fun z2 => ?_⟩⟩⟩
    rw [skp_yes (p := p) (by omega) (by unfold isL; rw [decide_eq_true (by omega : 97 ≤ T.getD p 0), decide_eq_true (by omega : T.getD p 0 ≤ 122)]; rfl)] at es
    refine ih (p + 1) _ (by omega) es (fr_wI f _ (by unfold STc; omega)) ?_ ?_ ?_
    · rw [hI_wI, if_pos ⟨rfl, rfl⟩]
    · rw [hI_wI, if_neg (by omega)]; exact e5
    · rw [hI_wI, if_neg (by omega)]; exact e4
set_option maxHeartbeats 4000000 in
set_option maxRecDepth 100000 in
theorem c_adv141 {T : List Nat} {a : Nat} {h0 : Hp} {k193 : Hp → Prop} {Q : Hp → Prop} (R0 : CTt T h0) (k : ∀ h', fr STc h0 h' → hI h' 2 6 = n32 (skp isD T a) → hI h' 2 5 = n32 a → hI h' 2 4 = n32 2 → k193 h') :
    ∀ (r p : Nat) (h : Hp), r + p = T.length → skp isD T a = skp isD T p → fr STc h0 h → hI h 2 6 = n32 p → hI h 2 5 = n32 a → hI h 2 4 = n32 2 → m_X10_advance_141 (r + 1) k193 Q h := by
  intro r
  induction r with
  | zero =>
    intro p h hr es f e6 e5 e4
    have R := R0.mv f (by unfold STc; omega) (by unfold STc; omega)
    have h6 := R.2.1
    rw [m_X10_advance_141, R.1, e6, n32_le (by omega) (by omega)]
    rw [skp_end (p := p) (by omega)] at es
    exact ⟨fun _ => k h f (by rw [es]; exact e6) e5 e4, fun z => absurd (by omega) z⟩
  | succ r ih =>
    intro p h hr es f e6 e5 e4
    have R := R0.mv f (by unfold STc; omega) (by unfold STc; omega)
    have h6 := R.2.1
    obtain ⟨ep, bp⟩ := R.2.2 p (by omega)
    rw [m_X10_advance_141, R.1, e6, n32_le (by omega) (by omega), n32_ix (by omega), ep, show (48 : Int32) = n32 48 from rfl, show (57 : Int32) = n32 57 from rfl, n32_lt (by omega) (by decide), n32_lt (by decide) (by omega), show n32 p + 1 = n32 (p + 1) from n32_add _ 1]
    have stop : ¬ (48 ≤ T.getD p 0 ∧ T.getD p 0 ≤ 57) → k193 h := fun q => by
      rw [skp_no (p := p) (by omega) (isD_not q)] at es
      exact k h f (by rw [es]; exact e6) e5 e4
    refine ⟨fun z => absurd z (by omega), fun _ => ⟨vpI (by omega) (by decide), fun z => stop (by omega), fun z1 => ⟨vpI (by omega) (by decide), fun z => stop (by omega), fun z2 => ?_⟩⟩⟩
    rw [skp_yes (p := p) (by omega) (by unfold isD; rw [decide_eq_true (by omega : 48 ≤ T.getD p 0), decide_eq_true (by omega : T.getD p 0 ≤ 57)]; rfl)] at es
    refine ih (p + 1) _ (by omega) es (fr_wI f _ (by unfold STc; omega)) ?_ ?_ ?_
    · rw [hI_wI, if_pos ⟨rfl, rfl⟩]
    · rw [hI_wI, if_neg (by omega)]; exact e5
    · rw [hI_wI, if_neg (by omega)]; exact e4
theorem skp_pos {f : Nat → Bool} {T : List Nat} {a : Nat} (h : a < T.length) (q : f (T.getD a 0) = true) : skp f T a ≠ a := by
  rw [skp_yes h q]
  have := skp_ge f T (a + 1)
  omega
set_option maxHeartbeats 4000000 in
set_option maxRecDepth 100000 in
theorem c_adv60 {T : List Nat} {a : Nat} {h : Hp} {Q : Hp → Prop} (R : CTt T h) (ha : a ≤ T.length) (e5 : hI h 2 5 = n32 a) (k : ∀ h', fr STc h h' → CTk T (tokA T a) h' → Q h') : m_X10_advance_60 Q h := by
  have h6 := R.2.1
  obtain ⟨t1, t2⟩ := tokA_at T a
  unfold CTk at k
  rw [t1, t2] at k
  have l1 := skp_ge isL T a
  have l2 := skp_le (f := isL) ha
  have d1 := skp_ge isD T a
  have d2 := skp_le (f := isD) ha
  unfold m_X10_advance_60
  rw [e5]
  have f1 : fr STc h (wI (wI h 2 6 (n32 a)) 2 4 1) := fr_wI (fr_wI (fr.rf _ _) _ (by unfold STc; omega)) _ (by unfold STc; omega)
  have a6 : hI (wI (wI h 2 6 (n32 a)) 2 4 1) 2 6 = n32 a := by rw [hI_wI, if_neg (by omega), hI_wI, if_pos ⟨rfl, rfl⟩]
  have a5 : hI (wI (wI h 2 6 (n32 a)) 2 4 1) 2 5 = n32 a := by rw [hI_wI, if_neg (by omega), hI_wI, if_neg (by omega)]; exact e5
  have a4 : hI (wI (wI h 2 6 (n32 a)) 2 4 1) 2 4 = n32 1 := by rw [hI_wI, if_pos ⟨rfl, rfl⟩]; rfl
  generalize wI (wI h 2 6 (n32 a)) 2 4 1 = h1 at f1 a6 a5 a4
  have R1 := R.mv f1 (by unfold STc; omega) (by unfold STc; omega)
  refine ⟨_, c_adv73 R1 (a := a) (fun h2 f2 b6 b5 b4 => ?_) (T.length - a) a h1 (by omega) rfl (fr.rf _ _) a6 a5 a4⟩
  unfold m_X10_advance_125
  have R2 := R1.mv f2 (by unfold STc; omega) (by unfold STc; omega)
  rw [b6, b5, n32_eq (by omega) (by omega)]
  refine ⟨fun z => ?_, fun z => ?_⟩
  · have al : a < T.length := by
      rcases Nat.lt_or_ge a T.length with q | q
      · exact q
      · rw [skp_end q] at z; exact absurd rfl z
    have yl : isL (T.getD a 0) = true := by
      cases q : isL (T.getD a 0) with
      | true => rfl
      | false => rw [skp_no al q] at z; exact absurd rfl z
    unfold m_X10_advance_193
    rw [b6, b5, n32_eq (by omega) (by omega)]
    refine ⟨fun _ => k h2 (f1.trans f2) ?_, fun y => absurd y z⟩
    unfold cKd
    rw [if_pos al, if_pos yl, if_pos al, if_pos yl]
    exact ⟨b4, b5, b6⟩
  · have nl : a < T.length → ¬ isL (T.getD a 0) = true := fun al q => skp_pos al q z
    have f3 : fr STc h2 (wI h2 2 4 2) := fr_wI (fr.rf _ _) _ (by unfold STc; omega)
    have c6 : hI (wI h2 2 4 2) 2 6 = n32 a := by rw [hI_wI, if_neg (by omega), b6, z]
    have c5 : hI (wI h2 2 4 2) 2 5 = n32 a := by rw [hI_wI, if_neg (by omega)]; exact b5
    have c4 : hI (wI h2 2 4 2) 2 4 = n32 2 := by rw [hI_wI, if_pos ⟨rfl, rfl⟩]; rfl
    generalize wI h2 2 4 2 = h3 at f3 c6 c5 c4
    have R3 := R2.mv f3 (by unfold STc; omega) (by unfold STc; omega)
    refine ⟨_, c_adv141 R3 (a := a) (fun h4 f4 g6 g5 g4 => ?_) (T.length - a) a h3 (by omega) rfl (fr.rf _ _) c6 c5 c4⟩
    have R4 := R3.mv f4 (by unfold STc; omega) (by unfold STc; omega)
    have f04 := ((f1.trans f2).trans f3).trans f4
    unfold m_X10_advance_193
    rw [g6, g5, R4.1, n32_eq (by omega) (by omega), n32_le (by omega) (by omega)]
    have fin : ∀ (s : Nat) (w : Nat), w = (if T.length < a + 1 then T.length else a + 1) → s = cKd T a → w = (if a < T.length then (if isL (T.getD a 0) then skp isL T a else if isD (T.getD a 0) then skp isD T a else a + 1) else a) → m_X10_advance_221 Q (n32 s) h4 := by
      intro s w ew es ew2
      unfold m_X10_advance_221
      have x3 : hI (wI h4 2 4 (n32 s)) 2 3 = n32 T.length := by rw [hI_wI, if_neg (by omega)]; exact R4.1
      have x5 : hI (wI h4 2 4 (n32 s)) 2 5 = n32 a := by rw [hI_wI, if_neg (by omega)]; exact g5
      rw [x3, x5, show n32 a + 1 = n32 (a + 1) from n32_add _ 1]
      have ev : (if n32 T.length < n32 (a + 1) then n32 T.length else n32 (a + 1)) = n32 w := by
        rw [ew]
        by_cases q : T.length < a + 1
        · rw [if_pos q, if_pos ((n32_lt (by omega) (by omega)).mpr q)]
        · rw [if_neg q, if_neg (fun y => q ((n32_lt (by omega) (by omega)).mp y))]
      rw [ev]
      refine k _ (fr_wI (fr_wI f04 _ (by unfold STc; omega)) _ (by unfold STc; omega)) ⟨?_, ?_, ?_⟩
      · rw [hI_wI, if_neg (by omega), hI_wI, if_pos ⟨rfl, rfl⟩, es]
      · rw [hI_wI, if_neg (by omega)]; exact x5
      · rw [hI_wI, if_pos ⟨rfl, rfl⟩, ew2]
    refine ⟨fun y => ?_, fun y => ⟨fun w => ?_, fun w => ?_⟩⟩
    · have al : a < T.length := by
        rcases Nat.lt_or_ge a T.length with q | q
        · exact q
        · rw [skp_end q] at y; exact absurd rfl y
      have yd : isD (T.getD a 0) = true := by
        cases q : isD (T.getD a 0) with
        | true => rfl
        | false => rw [skp_no al q] at y; exact absurd rfl y
      refine k h4 f04 ?_
      unfold cKd
      rw [if_pos al, if_neg (nl al), if_pos yd, if_pos al, if_neg (nl al), if_pos yd]
      exact ⟨g4, g5, g6⟩
    · refine fin 0 a (by rw [if_pos (by omega)]; omega) ?_ ?_
      · unfold cKd; rw [if_neg (by omega)]
      · rw [if_neg (by omega)]
    · have al : a < T.length := by omega
      have nd : ¬ isD (T.getD a 0) = true := fun q => skp_pos al q y
      refine fin 3 (a + 1) (by rw [if_neg (by omega)]) ?_ ?_
      · unfold cKd; rw [if_pos al, if_neg (nl al), if_neg nd]
      · rw [if_pos al, if_neg (nl al), if_neg nd]
set_option maxHeartbeats 4000000 in
set_option maxRecDepth 100000 in
theorem c_advance {T : List Nat} {p : Nat} {h : Hp} {Q : Hp → Prop} (R : CTt T h) (hp : p ≤ T.length) (e6 : hI h 2 6 = n32 p) (k : ∀ h', fr STc h h' → CTk T (tok T p) h' → Q h') : m_X10_advance h Q := by
  have h6 := R.2.1
  unfold m_X10_advance
  have main : ∀ (r q : Nat) (g : Hp), r + q = T.length → skp isB T p = skp isB T q → fr STc h g → hI g 2 5 = n32 q → m_X10_advance_8 (r + 1) (m_X10_advance_60 Q) Q g := by
    intro r
    induction r with
    | zero =>
      intro q g hr es f e
      have Rg := R.mv f (by unfold STc; omega) (by unfold STc; omega)
      rw [m_X10_advance_8, Rg.1, e, n32_le (by omega) (by omega)]
      refine ⟨fun _ => c_adv60 Rg (by omega) e (fun h' f' M => k h' (f.trans f') ?_), fun z => absurd (by omega) z⟩
      unfold tok
      rw [es, skp_end (by omega)]
      exact M
    | succ r ih =>
      intro q g hr es f e
      have Rg := R.mv f (by unfold STc; omega) (by unfold STc; omega)
      obtain ⟨eq, bq⟩ := Rg.2.2 q (by omega)
      have go : isB (T.getD q 0) = true → m_X10_advance_47 (fun hh => m_X10_advance_8 (r + 1) (m_X10_advance_60 Q) Q hh) (m_X10_advance_60 Q) Q g := by
        intro hB
        unfold m_X10_advance_47
        rw [e, show n32 q + 1 = n32 (q + 1) from n32_add _ 1]
        exact ih (q + 1) _ (by omega) (by rw [es, skp_yes (by omega) hB]) (fr_wI f _ (by unfold STc; omega)) (by rw [hI_wI, if_pos ⟨rfl, rfl⟩])
      rw [m_X10_advance_8, Rg.1, e, n32_le (by omega) (by omega), n32_ix (by omega), eq, show (32 : Int32) = n32 32 from rfl, show (10 : Int32) = n32 10 from rfl, n32_eq (by omega) (by decide), n32_eq (by omega) (by decide)]
      refine ⟨fun z => absurd z (by omega), fun _ => ⟨vpI (by omega) (by decide), fun z => go (by rw [z]; decide), fun z1 => ⟨vpI (by omega) (by decide), fun z2 => ?_, fun z => go (by rw [z]; decide)⟩⟩⟩
      refine c_adv60 Rg (by omega) e (fun h' f' M => k h' (f.trans f') ?_)
      unfold tok
      rw [es, skp_no (by omega) (by unfold isB; rw [beq_eq_false_iff_ne.mpr z1, beq_eq_false_iff_ne.mpr z2]; rfl)]
      exact M
  rw [e6]
  exact ⟨_, main (T.length - p) p _ (by omega) rfl (fr_wI (fr.rf _ _) _ (by unfold STc; omega)) (by rw [hI_wI, if_pos ⟨rfl, rfl⟩])⟩
