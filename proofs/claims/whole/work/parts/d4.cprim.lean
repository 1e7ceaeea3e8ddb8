/-! THE CLASS: small readers -/
def CM (T : List Nat) : PS → Hp → Prop
  | .inl e, h => CTt T h ∧ hI h 2 2 = n32 e ∧ e ≤ T.length
  | .inr t, h => CTt T h ∧ hI h 2 2 = -1 ∧ CTk T t h ∧ OkT T t
def SCm (a k : Nat) : Prop := a = 2 ∧ (k = 2 ∨ 4 ≤ k ∧ k ≤ 6)
theorem STc_SCm : ∀ a k, STc a k → SCm a k := by unfold STc SCm; omega
theorem CM.mv {T : List Nat} {s : PS} {h h' : Hp} {S : Nat → Nat → Prop} (P : CM T s h) (f : fr S h h') (n : ∀ k, ¬ S 2 k) (n2 : ∀ k, ¬ S 3 k) : CM T s h' := by
  cases s with
  | inl e => exact ⟨P.1.mv f (n 3) n2, by rw [f.I (n 2)]; exact P.2.1, P.2.2⟩
  | inr t => exact ⟨P.1.mv f (n 3) n2, by rw [f.I (n 2)]; exact P.2.1, ⟨by rw [f.I (n 4)]; exact P.2.2.1.1, by rw [f.I (n 5)]; exact P.2.2.1.2.1, by rw [f.I (n 6)]; exact P.2.2.1.2.2⟩, P.2.2.2⟩
theorem OkT.kd {T : List Nat} {t : Tk} (O : OkT T t) : (t.1 = 0 ↔ cKd T t.2.1 = 0) ∧ (t.1 = 1 ↔ cKd T t.2.1 = 1) ∧ (t.1 = 2 ↔ cKd T t.2.1 = 2 ∧ t.2.2 - t.2.1 ≤ 4) ∧ (∀ c, isS c = true → (t.1 = c ↔ cKd T t.2.1 = 3 ∧ T.getD t.2.1 0 = c)) ∧ cKd T t.2.1 ≤ 3 ∧ (cKd T t.2.1 = 3 → t.2.1 < T.length) := by
  obtain ⟨p, hp, et⟩ := O
  have kd := tokA_kd T (skp isB T p)
  have ta := tokA_at T (skp isB T p)
  have e1 : t.2.1 = skp isB T p := by rw [et]; exact ta.1
  have e2 : t.1 = (tokA T (skp isB T p)).1 := by rw [et]; rfl
  have e3 : t.2.2 = (tokA T (skp isB T p)).2.2 := by rw [et]; rfl
  rw [e1, e2, e3]
  refine ⟨kd.1, kd.2.1, ?_, kd.2.2.2, ?_, ?_⟩
  · rw [kd.2.2.1, ta.2]
    generalize skp isB T p = a
    unfold cKd
    by_cases h : a < T.length
    · rw [if_pos h, if_pos h]
      by_cases q : isL (T.getD a 0)
      · rw [if_pos q]; simp
      · rw [if_neg q, if_neg q]
        by_cases q2 : isD (T.getD a 0)
        · rw [if_pos q2, if_pos q2]
        · rw [if_neg q2]; simp
    · rw [if_neg h]; simp
  · unfold cKd; repeat (first | omega | split)
  · unfold cKd
    intro z
    split at z
    · assumption
    · omega
theorem c_adv {T : List Nat} {t : Tk} {h : Hp} {Q : Hp → Prop} (P : CM T (.inr t) h) (k : ∀ h', fr SCm h h' → CM T (.inr (nxt T t)) h' → Q h') : m_X10_advance h Q := by
  obtain ⟨R, e2, M, O⟩ := P
  refine c_advance R O.le.2.1 M.2.2 (fun h' f M' => k h' (f.mono STc_SCm) ⟨R.mv f (by unfold STc; omega) (by unfold STc; omega), ?_, M', O.nxt⟩)
  rw [f.I (by unfold STc; omega)]; exact e2
theorem c_refuse {T : List Nat} {t : Tk} {h : Hp} {Q : Int32 → Hp → Prop} (P : CM T (.inr t) h) (k : ∀ h', fr SCm h h' → CM T (.inl t.2.1) h' → Q 0 h') : m_X10_refuse h Q := by
  obtain ⟨R, e2, M, O⟩ := P
  unfold m_X10_refuse
  have f : fr SCm h (wI h 2 2 (hI h 2 5)) := fr_wI (fr.rf _ _) _ (by unfold SCm; omega)
  refine k _ f ⟨R.mv f (by unfold SCm; omega) (by unfold SCm; omega), ?_, ?_⟩
  · rw [hI_wI, if_pos ⟨rfl, rfl⟩]; exact M.2.1
  · have := O.le; omega
theorem pl_one (T : List Nat) (t : Tk) (w : List Nat) : pl T t [w] = if isW T t w then 1 else 0 := by
  unfold pl isW
  by_cases q : t.1 = 1
  · rw [if_pos q, q]; simp [plA]
  · rw [if_neg q, beq_eq_false_iff_ne.mpr q]; rfl
theorem c_isWord {T : List Nat} {t : Tk} {v : Nat} {h : Hp} {Q : Int32 → Hp → Prop} (w : List Nat) (hv : v < 16) (ew : rowW v = [w]) (P : CM T (.inr t) h) (k : Q (bI (isW T t w)) h) : m_X10_isWord v h Q := by
  unfold m_X10_isWord
  refine c_placeIn hv P.1 P.2.2.1 P.2.2.2 ?_
  rw [ew, pl_one]
  cases hq : isW T t w with
  | false =>
    rw [hq] at k
    exact ⟨fun _ => k, fun z => absurd z (by decide)⟩
  | true =>
    rw [hq] at k
    exact ⟨fun z => absurd rfl z, fun _ => k⟩
theorem c_takeWord {T : List Nat} {t : Tk} {v : Nat} {h : Hp} {Q : Int32 → Hp → Prop} (w : List Nat) (hv : v < 16) (ew : rowW v = [w]) (P : CM T (.inr t) h) (k : ∀ h', fr SCm h h' → CM T (sMust T w (.inr t)) h' → Q (bI (isW T t w)) h') : m_X10_takeWord v h Q := by
  unfold m_X10_takeWord
  refine c_isWord w hv ew P ?_
  unfold sMust at k
  dsimp only at k
  cases hq : isW T t w with
  | false =>
    rw [hq, if_neg (by decide)] at k
    exact ⟨fun z => absurd rfl z, fun _ => c_refuse P (fun h' f' P' => ⟨Or.inl rfl, k h' f' P'⟩)⟩
  | true =>
    rw [hq, if_pos rfl] at k
    exact ⟨fun _ => c_adv P (fun h' f' P' => k h' f' P'), fun z => absurd z (by decide)⟩
def sOne (T : List Nat) (row : List (List Nat)) (t : Tk) : PS := if pl T t row = 0 then .inl t.2.1 else .inr (nxt T t)
theorem c_takeOneOf {T : List Nat} {t : Tk} {v : Nat} {h : Hp} {Q : Int32 → Hp → Prop} (hv : v < 16) (hl : (rowW v).length ≤ 8) (P : CM T (.inr t) h) (k : ∀ h', fr SCm h h' → CM T (sOne T (rowW v) t) h' → Q (pm (pl T t (rowW v))) h') : m_X10_takeOneOf v h Q := by
  unfold m_X10_takeOneOf
  have := pl_le T t (rowW v)
  refine c_placeIn hv P.1 P.2.2.1 P.2.2.2 ?_
  rw [show (-1 : Int32) = pm 0 from rfl, pm_inj (by omega) (by decide)]
  unfold sOne at k
  refine ⟨fun z => ?_, fun z => ?_⟩
  · rw [if_neg z] at k; exact c_adv P (fun h' f' P' => k h' f' P')
  · rw [if_pos z] at k; exact c_refuse P (fun h' f' P' => k h' f' P')
theorem c_isAtEnd {T : List Nat} {t : Tk} {h : Hp} {Q : Int32 → Hp → Prop} (P : CM T (.inr t) h) (k : Q (bI (decide (t.1 = 0))) h) : m_X10_isAtEnd h Q := by
  unfold m_X10_isAtEnd
  obtain ⟨k0, -, -, -, kl, -⟩ := P.2.2.2.kd
  rw [P.2.2.1.1, show (0 : Int32) = n32 0 from rfl, n32_eq (by omega) (by decide)]
  refine ⟨fun z => ?_, fun z => ?_⟩
  · rw [decide_eq_false (fun y => z (k0.mp y))] at k; exact k
  · rw [decide_eq_true (k0.mpr z)] at k; exact k
theorem c_isSign {T : List Nat} {t : Tk} {c : Nat} {h : Hp} {Q : Int32 → Hp → Prop} (hc : isS c = true) (P : CM T (.inr t) h) (k : Q (bI (decide (t.1 = c))) h) : m_X10_isSign (n32 c) h Q := by
  unfold m_X10_isSign
  obtain ⟨-, -, -, ks, kl, k3⟩ := P.2.2.2.kd
  have ks := ks c hc
  have h6 := P.1.2.1
  have c125 := (isS_not hc).2.2
  rw [P.2.2.1.1, show (3 : Int32) = n32 3 from rfl, n32_eq (by omega) (by decide), P.2.2.1.2.1]
  refine ⟨fun z => ?_, fun z => ?_⟩
  · rw [decide_eq_false (fun y => z (ks.mp y).1)] at k; exact k
  · have lt := k3 z
    obtain ⟨b1, b2⟩ := P.1.2.2 t.2.1 lt
    rw [n32_ix (by omega), b1, n32_eq (by omega) (by omega)]
    refine ⟨vpI (by omega) (by decide), fun y => ?_, fun y => ?_⟩
    · rw [decide_eq_false (fun w => y (ks.mp w).2)] at k; exact k
    · rw [decide_eq_true (ks.mpr ⟨z, y⟩)] at k; exact k
theorem c_takeSign {T : List Nat} {t : Tk} {c : Nat} {h : Hp} {Q : Int32 → Hp → Prop} (hc : isS c = true) (P : CM T (.inr t) h) (k : ∀ h', fr SCm h h' → CM T (sEnd T c (.inr t)) h' → Q (bI (decide (t.1 = c))) h') : m_X10_takeSign (n32 c) h Q := by
  unfold m_X10_takeSign
  refine c_isSign hc P ?_
  unfold sEnd at k
  dsimp only at k
  by_cases q : t.1 = c
  · rw [if_pos q, decide_eq_true q] at k
    rw [decide_eq_true q]
    exact ⟨fun _ => c_adv P (fun h' f' P' => k h' f' P'), fun z => absurd z (by decide)⟩
  · rw [if_neg q, decide_eq_false q] at k
    rw [decide_eq_false q]
    exact ⟨fun z => absurd rfl z, fun _ => c_refuse P (fun h' f' P' => ⟨Or.inl rfl, k h' f' P'⟩)⟩
theorem dig_of {T : List Nat} {t : Tk} (O : OkT T t) (h : cKd T t.2.1 = 2) : t.2.2 = skp isD T t.2.1 := by
  obtain ⟨p, hp, et⟩ := O
  have ta := tokA_at T (skp isB T p)
  have e1 : t.2.1 = skp isB T p := by rw [et]; exact ta.1
  have e3 : t.2.2 = (tokA T (skp isB T p)).2.2 := by rw [et]; rfl
  rw [e1] at h
  rw [e3, ta.2, e1]
  generalize skp isB T p = a at h
  unfold cKd at h
  by_cases q : a < T.length
  · rw [if_pos q] at h ⊢
    by_cases q1 : isL (T.getD a 0)
    · rw [if_pos q1] at h; omega
    · rw [if_neg q1] at h ⊢
      by_cases q2 : isD (T.getD a 0)
      · rw [if_pos q2]
      · rw [if_neg q2] at h; omega
  · rw [if_neg q] at h; omega
set_option maxHeartbeats 4000000 in
set_option maxRecDepth 100000 in
theorem c_takeNumber {T : List Nat} {t : Tk} {lo hi : Nat} {h : Hp} {Q : Int32 → Hp → Prop} (hlo : lo < 2147483648) (hhi : hi < 2147483648) (P : CM T (.inr t) h) (k : ∀ h', fr SCm h h' → CM T (sNum T lo hi (.inr t)).1 h' → Q (if t.1 = 2 ∧ lo ≤ w10 (tkW T t) ∧ w10 (tkW T t) ≤ hi then n32 (w10 (tkW T t)) else -1) h') : m_X10_takeNumber (n32 lo) (n32 hi) h Q := by
  obtain ⟨-, -, kd2, -, kl, -⟩ := P.2.2.2.kd
  obtain ⟨o1, o2, -, -⟩ := P.2.2.2.le
  have h6 := P.1.2.1
  unfold sNum at k
  dsimp only at k
  have bad : ¬ t.1 = 2 → m_X10_takeNumber_62 Q (n32 lo) (n32 hi) (-1) h := by
    intro z
    rw [if_neg (fun y => z y.1), if_neg (fun y => z y.1)] at k
    unfold m_X10_takeNumber_62 m_X10_takeNumber_72
    refine ⟨fun _ => c_refuse P (fun h' f' P' => k h' f' P'), fun y => absurd ?_ y⟩
    rw [n32_m1lt hlo]; trivial
  unfold m_X10_takeNumber
  rw [P.2.2.1.1, P.2.2.1.2.1, P.2.2.1.2.2, show (2 : Int32) = n32 2 from rfl, show (4 : Int32) = n32 4 from rfl, n32_eq (by omega) (by decide), n32_sub o1, n32_lt (by decide) (by omega)]
  refine ⟨fun z => bad (fun y => z (kd2.mp y).1), fun z => ⟨fun y => bad (fun w => by have := (kd2.mp w).2; omega), fun y x7 e7 => ?_⟩⟩
  have t2 : t.1 = 2 := kd2.mpr ⟨z, by omega⟩
  have ed := dig_of P.2.2.2 z
  have dg : ∀ c ∈ tkW T t, 48 ≤ c ∧ c ≤ 57 := fun c hc => by
    unfold tkW at hc
    rw [ed] at hc
    have := slc_all (f := isD) c hc
    unfold isD at this
    simpa using this
  have w4 := P.2.2.2.digits t2
  subst e7
  have main : ∀ (r p : Nat), r + p = t.2.2 → t.2.1 ≤ p → m_X10_takeNumber_31 (r + 1) (m_X10_takeNumber_62 Q) Q (n32 lo) (n32 hi) (n32 (w10 (slc T t.2.1 p))) (n32 p) h := by
    intro r
    induction r with
    | zero =>
      intro p hr hp
      rw [m_X10_takeNumber_31, P.2.2.1.2.2, n32_le (by omega) (by omega)]
      refine ⟨fun _ => ?_, fun q => absurd (by omega) q⟩
      rw [show p = t.2.2 by omega]
      have ew : w10 (slc T t.2.1 t.2.2) = w10 (tkW T t) := rfl
      rw [ew]
      unfold m_X10_takeNumber_62 m_X10_takeNumber_72
      rw [n32_lt (by omega) hlo, n32_le (by omega) hhi]
      refine ⟨fun q => ?_, fun q => ⟨fun q2 => ?_, fun q2 => ?_⟩⟩
      · rw [if_neg (by omega), if_neg (by omega)] at k
        exact c_refuse P (fun h' f' P' => k h' f' P')
      · rw [if_pos ⟨t2, by omega, q2⟩, if_pos ⟨t2, by omega, q2⟩] at k
        exact c_adv P (fun h' f' P' => k h' f' P')
      · rw [if_neg (by omega), if_neg (by omega)] at k
        exact c_refuse P (fun h' f' P' => k h' f' P')
    | succ r ih =>
      intro p hr hp
      obtain ⟨b1, b2⟩ := P.1.2.2 p (by omega)
      have nx := ih (p + 1) (by omega) (by omega)
      rw [slc_succ hp (by omega), w10_snoc] at nx
      have d48 : 48 ≤ T.getD p 0 := by
        refine (dg _ ?_).1
        have e : T.getD p 0 = (tkW T t).getD (p - t.2.1) 0 := by
          unfold tkW
          rw [slc_at (by omega) o2, show t.2.1 + (p - t.2.1) = p by omega]
        rw [e]
        exact getD_mem (by unfold tkW; rw [slc_len o1 o2]; omega)
      rw [m_X10_takeNumber_31, P.2.2.1.2.2, n32_le (by omega) (by omega), n32_ix (by omega), b1]
      refine ⟨fun q => absurd q (by omega), fun _ => ⟨vpI (by omega) (by decide), fun x5 e5 x6 e6 => ?_⟩⟩
      rw [show (10 : Int32) = n32 10 from rfl, show (48 : Int32) = n32 48 from rfl, n32_mul, n32_add, n32_sub (by omega)] at e5
      rw [e5, e6, show n32 p + 1 = n32 (p + 1) from n32_add _ 1, show w10 (slc T t.2.1 p) * 10 + T.getD p 0 - 48 = 10 * w10 (slc T t.2.1 p) + (T.getD p 0 - 48) by omega]
      exact nx
  have m0 := main (t.2.2 - t.2.1) t.2.1 (by omega) (Nat.le_refl _)
  rw [slc_self] at m0
  exact ⟨_, m0⟩
