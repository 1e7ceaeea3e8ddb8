/-! THE CLASS: statements and leaves -/
theorem hI_cpI (h : Hp) (a sp b dp n c j : Nat) : hI (cpI h a sp b dp n) c j = if c = b ∧ dp ≤ j ∧ j < dp + n then hI h a (sp + (j - dp)) else hI h c j := by
  show va_up (hI h) b (va_cpy (hI h a) (hI h b) sp dp n) c j = _
  unfold va_up va_cpy
  by_cases q : c = b
  · subst q
    rw [if_pos rfl]
    by_cases q2 : dp ≤ j ∧ j < dp + n
    · rw [if_pos q2, if_pos ⟨rfl, q2⟩]
    · rw [if_neg q2, if_neg (fun z => q2 z.2)]
  · rw [if_neg q, if_neg (fun z => q z.1)]
theorem fr_cpI {S : Nat → Nat → Prop} {h h' : Hp} (f : fr S h h') (a sp b dp n : Nat) (hs : ∀ j, dp ≤ j → j < dp + n → S b j) : fr S h (cpI h' a sp b dp n) := by
  refine f.trans ⟨rfl, rfl, fun c j z => ⟨?_, rfl, rfl⟩⟩
  rw [hI_cpI, if_neg]
  rintro ⟨rfl, q1, q2⟩
  exact z (hs j q1 q2)
def HrA (L : List Rec) (h : Hp) : Prop := hI h 30 2 = n32 L.length ∧ L.length ≤ 72 ∧ (∀ k, k < L.length → ∀ w, w < 8 → hI h 31 (8 * k + w) = n32 ((L.getD k rec0) w)) ∧ ∀ r ∈ L, LfOk r
def SJg (a k : Nat) : Prop := a = 30 ∨ a = 31
theorem SJg_Own : ∀ a k, SJg a k → Own a k := by unfold SJg Own; omega
theorem HrA.mv {L : List Rec} {h h' : Hp} {S : Nat → Nat → Prop} (A : HrA L h) (f : fr S h h') (n1 : ¬ S 30 2) (n2 : ∀ k, ¬ S 31 k) : HrA L h' := ⟨by rw [f.I n1]; exact A.1, A.2.1, fun k hk w hw => by rw [f.I (n2 _)]; exact A.2.2.1 k hk w hw, A.2.2.2⟩
theorem getD_app_right {α : Type} {l m : List α} {k : Nat} {d : α} (h : l.length ≤ k) : (l ++ m).getD k d = m.getD (k - l.length) d := by
  rw [List.getD_eq_getElem?_getD, List.getElem?_append_right h, ← List.getD_eq_getElem?_getD]
theorem getD_app_left {α : Type} {l m : List α} {k : Nat} {d : α} (h : k < l.length) : (l ++ m).getD k d = l.getD k d := by
  rw [List.getD_eq_getElem?_getD, List.getElem?_append_left h, ← List.getD_eq_getElem?_getD]
theorem c_hearAlso {x : Ab} {da : Nat → Nat} {d : Nat} {L : List Rec} {h : Hp} {Q : Hp → Prop} (V : CVw x da h) (K : OkA x) (hd : d < (aD x).length) (A : HrA L h) (hl : L.length + (dL (aD x) d).length ≤ 72) (k : ∀ h', fr SJg h h' → HrA (L ++ dL (aD x) d) h' → Q h') : m_X3_hearAlso (da d) h Q := by
  unfold m_X3_hearAlso
  obtain ⟨C, h108⟩ := V.2.2 d hd
  have l12 := K.l12 hd
  have A1 := A.1
  have A2 := A.2.1
  rw [A1, C.l, n32_add, show (8 : Int32) = n32 8 from rfl, n32_mul, n32_mul, n32_mul, show (576 : Int32) = n32 576 from rfl, n32_lt (by decide) (by omega), n32_ix (by omega), n32_ix (by omega), show ix (0 : Int32) = 0 from rfl]
  have i30 : hI (cpI h (da d + 1) 0 31 (L.length * 8) ((dL (aD x) d).length * 8)) 30 2 = n32 L.length := by rw [hI_cpI, if_neg (by omega)]; exact A1
  have ida : hI (cpI h (da d + 1) 0 31 (L.length * 8) ((dL (aD x) d).length * 8)) (da d) 2 = n32 (dL (aD x) d).length := by rw [hI_cpI, if_neg (by omega)]; exact C.l
  rw [i30, ida, n32_add]
  refine ⟨fun z => absurd z (by omega), fun _ => ⟨by decide, ?_, ?_, by omega, by omega, ?_⟩⟩
  · rw [show (0 : Int32) = n32 0 from rfl, n32_lt (by omega) (by decide)]; omega
  · rw [show (0 : Int32) = n32 0 from rfl, n32_lt (by omega) (by decide)]; omega
  refine k _ (fr_wI (fr_cpI (fr.rf _ _) _ _ _ _ _ (fun j _ _ => Or.inr rfl)) _ (Or.inl rfl)) ⟨?_, ?_, fun j hj w hw => ?_, fun r hr => ?_⟩
  · rw [hI_wI, if_pos ⟨rfl, rfl⟩, List.length_append]
  · rw [List.length_append]; exact hl
  · rw [List.length_append] at hj
    rw [hI_wI, if_neg (by omega), hI_cpI]
    rcases Nat.lt_or_ge j L.length with q | q
    · rw [if_neg (by omega), getD_app_left q]; exact A.2.2.1 j q w hw
    · rw [if_pos ⟨rfl, by omega, by omega⟩, getD_app_right q, show 0 + (8 * j + w - L.length * 8) = 8 * (j - L.length) + w by omega]
      exact C.2.2.2.2.2.2.1 _ (by omega) w hw
  · rw [List.mem_append] at hr
    rcases hr with hr | hr
    · exact A.2.2.2 r hr
    · exact (K.1 d hd).1.2.2.2.2.2.2.1 r hr
theorem HrA0 {h : Hp} : HrA [] (wI h 30 2 0) := ⟨by rw [hI_wI, if_pos ⟨rfl, rfl⟩]; rfl, Nat.zero_le _, fun k hk => absurd hk (by simp), fun r hr => absurd hr (by simp)⟩
theorem lvs_le {x : Ab} (K : OkA x) : ∀ {l : List Nat}, inD x l → (lvs (aD x) l).length ≤ 12 * l.length
  | [], _ => Nat.le_refl _
  | d :: l, h => by
    have h1 := K.l12 (h d (by simp))
    have h2 := lvs_le K (l := l) (fun z hz => h z (by simp [hz]))
    have e : lvs (aD x) (d :: l) = dL (aD x) d ++ lvs (aD x) l := by unfold lvs; rw [List.flatMap_cons]
    rw [e, List.length_append, List.length_cons]; omega
theorem lvs_app (D : List Dl) (l m : List Nat) : lvs D (l ++ m) = lvs D l ++ lvs D m := by unfold lvs; rw [List.flatMap_append]
theorem lvs_one (D : List Dl) (d : Nat) : lvs D [d] = dL D d := by simp [lvs]
theorem c_hear {x : Ab} {da : Nat → Nat} {a : Nat} {l : List Nat} {h : Hp} {Q : Hp → Prop} (V : CVw x da h) (K : OkA x) (B : CBd x da a l h) (ha : a < 29 ∨ 31 < a) (k : ∀ h', fr SJg h h' → HrA (lvs (aD x) l) h' → Q h') : m_X3_hear a h Q := by
  unfold m_X3_hear
  have hl := B.2.1
  have main : ∀ (rest pre : List Nat) (h1 : Hp), l = pre ++ rest → fr SJg h h1 → HrA (lvs (aD x) pre) h1 → m_X3_hear_7 (rest.length + 1) Q a (n32 pre.length) h1 := by
    intro rest
    induction rest with
    | nil =>
      intro pre h1 e f A
      rw [List.append_nil] at e
      subst e
      have B1 := B.mv f (by unfold SJg; omega) (by unfold SJg; omega)
      rw [m_X3_hear_7, B1.1, n32_le (by omega) (by omega)]
      exact ⟨fun _ => k h1 f A, fun z => absurd (Nat.le_refl _) z⟩
    | cons d rest ih =>
      intro pre h1 e f A
      have B1 := B.mv f (by unfold SJg; omega) (by unfold SJg; omega)
      have B1' := B1
      rw [e] at B1'
      obtain ⟨r, hd, h6⟩ := B1'.mid
      have el : l.length = pre.length + (rest.length + 1) := by rw [e]; simp
      have hp : inD x pre := fun z hz => B.2.2.2 z (by rw [e]; simp [hz])
      have lp := lvs_le K hp
      have l12 := K.l12 hd
      rw [m_X3_hear_7, B1.1, n32_le (by omega) (by omega), n32_ix (by omega)]
      refine ⟨fun z => absurd z (by omega), fun _ => ⟨vpI h6 (by decide), da d, r, ?_⟩⟩
      refine c_hearAlso (V.mv f (by unfold SJg; omega)) K hd A (by omega) (fun h2 f2 A2 => ?_)
      intro x4 e4
      rw [e4, show n32 pre.length + 1 = n32 (pre.length + 1) from n32_add _ 1]
      have nx := ih (pre ++ [d]) h2 (by rw [e]; simp) (f.trans f2) (by rw [lvs_app, lvs_one]; exact A2)
      rw [List.length_append] at nx; exact nx
  exact ⟨_, main l [] _ rfl (fr_wI (fr.rf _ _) _ (Or.inl rfl)) HrA0⟩
theorem HrA.at {L : List Rec} {h : Hp} (A : HrA L h) {i : Nat} (hi : i < L.length) : LfOk (L.getD i rec0) := by
  refine A.2.2.2 _ ?_
  rw [List.getD_eq_getElem?_getD, List.getElem?_eq_getElem hi]
  exact List.getElem_mem hi
theorem c_isOf {L : List Rec} {i f t : Nat} {h : Hp} {Q : Int32 → Hp → Prop} (A : HrA L h) (hi : i < L.length) (hf : f < 5) (ht : t < 7) (k1 : sOf f t (L.getD i rec0) = true → Q 1 h) (k0 : sOf f t (L.getD i rec0) = false → Q 0 h) : m_X3_isOf (n32 i) (n32 f) (pm t) h Q := by
  have h72 := A.2.1
  have O := A.at hi
  have o0 := O.1
  have o3 := O.2.2.2.2.1
  have w0 := A.2.2.1 i hi 0 (by omega)
  have w3 := A.2.2.1 i hi 3 (by omega)
  rw [Nat.add_zero] at w0
  generalize L.getD i rec0 = r at k1 k0 o0 o3 w0 w3
  have last : (f = 4 ∨ r 0 = f) → m_X3_isOf_24 Q (pm t) (n32 (8 * i)) h := by
    intro hq
    unfold m_X3_isOf_24
    rw [show (-1 : Int32) = pm 0 from rfl, pm_inj (by omega) (by decide), show (3 : Int32) = n32 3 from rfl, n32_add, n32_ix (by omega), w3, n_eqpm (by omega) (by omega)]
    refine ⟨fun z => k1 ?_, fun z => ⟨vpI (by omega) (by decide), fun z2 => k0 ?_, fun z2 => k1 ?_⟩⟩
    · unfold sOf; rcases hq with hq | hq <;> simp [hq, z]
    · unfold sOf; simp [z, z2]
    · unfold sOf; rcases hq with hq | hq <;> simp [hq, z2]
  unfold m_X3_isOf
  intro x1 e1
  rw [show (8 : Int32) = n32 8 from rfl, n32_mul, Nat.mul_comm i 8] at e1
  rw [e1, show (4 : Int32) = n32 4 from rfl, n32_eq (by omega) (by decide), show (0 : Int32) = n32 0 from rfl, n32_add, Nat.add_zero, n32_ix (by omega), w0, n32_eq (by omega) (by omega)]
  refine ⟨fun z => last (Or.inl z), fun z => ⟨vpI (by omega) (by decide), fun z2 => k0 ?_, fun z2 => last (Or.inr z2)⟩⟩
  unfold sOf; simp [z, z2]
theorem sub_neg {a b : Nat} (h : b < a) (ha : a < 2147483648) : n32 b - n32 a < 0 := by
  rcases Int32.lt_or_le (n32 b - n32 a) 0 with z | z
  · exact z
  · exfalso
    obtain ⟨k, hk, e⟩ := n32_of z
    have e2 : n32 b = n32 (k + a) := by
      rw [← n32_add, ← e, Int32.sub_add_cancel]
    have e3 := congrArg (fun v : Int32 => v.toBitVec.toNat) e2
    rw [n32_bv, n32_bv, BitVec.toNat_ofNat, BitVec.toNat_ofNat, Nat.mod_eq_of_lt (by omega), Nat.mod_eq_of_lt (by omega)] at e3
    omega
theorem c_isLater {L : List Rec} {i j t : Nat} {h : Hp} {Q : Int32 → Hp → Prop} (A : HrA L h) (hi : i < L.length) (hj : j < L.length) (ht : t < 10001)
    (k1 : (L.getD i rec0 6 ≤ L.getD j rec0 6 ∧ (L.getD i rec0 6 < L.getD j rec0 6 ∨ i < j) ∧ (t = 0 ∨ L.getD j rec0 6 - L.getD i rec0 6 + 1 ≤ t)) → Q 1 h) (k0 : ¬ (L.getD i rec0 6 ≤ L.getD j rec0 6 ∧ (L.getD i rec0 6 < L.getD j rec0 6 ∨ i < j) ∧ (t = 0 ∨ L.getD j rec0 6 - L.getD i rec0 6 + 1 ≤ t)) → Q 0 h) : m_X3_isLater (n32 i) (n32 j) (pm t) h Q := by
  have h72 := A.2.1
  have o1 := (A.at hi).2.2.2.2.2.2.2.1
  have o2 := (A.at hj).2.2.2.2.2.2.2.1
  have w1 := A.2.2.1 i hi 6 (by omega)
  have w2 := A.2.2.1 j hj 6 (by omega)
  generalize L.getD i rec0 6 = p at k1 k0 o1 w1
  generalize L.getD j rec0 6 = q at k1 k0 o2 w2
  unfold m_X3_isLater
  rw [show (8 : Int32) = n32 8 from rfl, n32_mul, n32_mul, show (6 : Int32) = n32 6 from rfl, n32_add, n32_add, n32_ix (by omega), n32_ix (by omega), Nat.mul_comm i 8, Nat.mul_comm j 8, w1, w2]
  refine ⟨vpI (by omega) (by decide), vpI (by omega) (by decide), fun x1 e1 => ?_⟩
  have last : p ≤ q → (p < q ∨ i < j) → m_X3_isLater_42 Q (pm t) (n32 (q - p)) h := by
    intro y1 y2
    unfold m_X3_isLater_42
    rw [show (-1 : Int32) = pm 0 from rfl, pm_inj (by omega) (by decide), pm_ltn (by omega) (by omega)]
    refine ⟨fun z => k1 ⟨y1, y2, Or.inl z⟩, fun z => ⟨fun z2 => k0 (fun y => ?_), fun z2 => k1 ⟨y1, y2, Or.inr ?_⟩⟩⟩
    · rcases y.2.2 with y3 | y3
      · exact z y3
      · omega
    · omega
  by_cases hle : p ≤ q
  · rw [n32_sub hle] at e1
    rw [e1, show (0 : Int32) = n32 0 from rfl, n32_lt (by decide) (by omega), n32_eq (by omega) (by decide), n32_le (by omega) (by omega)]
    refine ⟨fun z => last hle (Or.inl (by omega)), fun z => ⟨fun z2 => absurd (by omega) z2, fun _ => ⟨fun z3 => k0 (fun y => by omega), fun z3 => last hle (Or.inr (by omega))⟩⟩⟩
  · have ng := sub_neg (a := p) (b := q) (by omega) (by omega)
    rw [← e1] at ng
    refine ⟨fun z => ?_, fun z => ⟨fun _ => k0 (fun y => hle y.1), fun z2 => ?_⟩⟩
    · exact absurd (Int32.lt_trans z ng) Int32.lt_irrefl
    · rw [z2] at ng; exact absurd ng Int32.lt_irrefl
theorem c_isTied {x : Ab} {da : Nat → Nat} {L : List Rec} {i j t : Nat} {h : Hp} {Q : Int32 → Hp → Prop} (V : CVw x da h) (A : HrA L h) (hi : i < L.length) (hj : j < L.length) (ht : t < 8)
    (k1 : ((t &&& 1 = 0 ∨ (aF x (L.getD j rec0 2) = aF x (L.getD i rec0 1) ∧ aF x (L.getD j rec0 1) = aF x (L.getD i rec0 2))) ∧ (t &&& 2 = 0 ∨ L.getD i rec0 3 = L.getD j rec0 3) ∧ (t &&& 4 = 0 ∨ L.getD i rec0 5 < L.getD j rec0 5)) → Q 1 h)
    (k0 : ¬ ((t &&& 1 = 0 ∨ (aF x (L.getD j rec0 2) = aF x (L.getD i rec0 1) ∧ aF x (L.getD j rec0 1) = aF x (L.getD i rec0 2))) ∧ (t &&& 2 = 0 ∨ L.getD i rec0 3 = L.getD j rec0 3) ∧ (t &&& 4 = 0 ∨ L.getD i rec0 5 < L.getD j rec0 5)) → Q 0 h) : m_X3_isTied (n32 i * 8) (n32 j * 8) (n32 t) h Q := by
  have h72 := A.2.1
  have O1 := A.at hi
  have O2 := A.at hj
  have p1 := A.2.2.1 i hi 1 (by omega)
  have p2 := A.2.2.1 i hi 2 (by omega)
  have p3 := A.2.2.1 i hi 3 (by omega)
  have p5 := A.2.2.1 i hi 5 (by omega)
  have q1 := A.2.2.1 j hj 1 (by omega)
  have q2 := A.2.2.1 j hj 2 (by omega)
  have q3 := A.2.2.1 j hj 3 (by omega)
  have q5 := A.2.2.1 j hj 5 (by omega)
  generalize L.getD i rec0 = r at k1 k0 O1 p1 p2 p3 p5
  generalize L.getD j rec0 = s at k1 k0 O2 q1 q2 q3 q5
  obtain ⟨-, r1, r2, -, r3, -, r5, -⟩ := O1
  obtain ⟨-, s1, s2, -, s3, -, s5, -⟩ := O2
  have fr1 := V.1 (r 1) r1; have fr2 := V.1 (r 2) r2; have fs1 := V.1 (s 1) s1; have fs2 := V.1 (s 2) s2
  have and_lt : ∀ m : Nat, t &&& m < 2147483648 := fun m => Nat.lt_of_le_of_lt Nat.and_le_left (by omega)
  have last : (t &&& 2 = 0 ∨ r 3 = s 3) → (t &&& 4 = 0 ∨ r 5 < s 5) → m_X3_isTied_54 Q (n32 (8 * i)) (n32 (8 * j)) (n32 t) h := by
    intro y1 y2
    unfold m_X3_isTied_54
    rw [show (1 : Int32) = n32 1 from rfl, show (2 : Int32) = n32 2 from rfl, n32_and (by omega) (by decide), show (0 : Int32) = n32 0 from rfl, n32_eq (and_lt 1) (by decide), n32_add, n32_add, n32_add, n32_add, n32_ix (by omega), n32_ix (by omega), n32_ix (by omega), n32_ix (by omega), p1, p2, q1, q2, n32_ix (by omega), n32_ix (by omega), n32_ix (by omega), n32_ix (by omega), fr1.1, fr2.1, fs1.1, fs2.1, n32_eq (by omega) (by omega), n32_eq (by omega) (by omega)]
    refine ⟨fun z => k1 ⟨Or.inl z, y1, y2⟩, fun z => ⟨vpI (by omega) (by decide), vpI s2 (by decide), vpI (by omega) (by decide), vpI r1 (by decide), fun z2 => k0 (fun y => ?_), fun z2 => ⟨vpI (by omega) (by decide), vpI s1 (by decide), vpI (by omega) (by decide), vpI r2 (by decide), fun z3 => k0 (fun y => ?_), fun z3 => k1 ⟨Or.inr ⟨z2, z3⟩, y1, y2⟩⟩⟩⟩
    · exact y.1.elim z (fun w => z2 w.1)
    · exact y.1.elim z (fun w => z3 w.2)
  have mid : (t &&& 2 = 0 ∨ r 3 = s 3) → m_X3_isTied_27 Q (n32 (8 * i)) (n32 (8 * j)) (n32 t) h := by
    intro y1
    unfold m_X3_isTied_27
    rw [show (4 : Int32) = n32 4 from rfl, show (5 : Int32) = n32 5 from rfl, n32_and (by omega) (by decide), show (0 : Int32) = n32 0 from rfl, n32_eq (and_lt 4) (by decide), n32_add, n32_add, n32_ix (by omega), n32_ix (by omega), p5, q5, n32_lt (by omega) (by omega)]
    refine ⟨fun z => last y1 (Or.inl z), fun z => ⟨vpI (by omega) (by decide), vpI (by omega) (by decide), fun z2 => last y1 (Or.inr z2), fun z2 => k0 (fun y => y.2.2.elim z z2)⟩⟩
  unfold m_X3_isTied
  rw [show (8 : Int32) = n32 8 from rfl, n32_mul, n32_mul, Nat.mul_comm i 8, Nat.mul_comm j 8, show (2 : Int32) = n32 2 from rfl, show (3 : Int32) = n32 3 from rfl, n32_and (by omega) (by decide), show (0 : Int32) = n32 0 from rfl, n32_eq (and_lt 2) (by decide), n32_add, n32_add, n32_ix (by omega), n32_ix (by omega), p3, q3, n32_eq (by omega) (by omega)]
  exact ⟨fun z => mid (Or.inl z), fun z => ⟨vpI (by omega) (by decide), vpI (by omega) (by decide), fun z2 => mid (Or.inr z2), fun z2 => k0 (fun y => y.2.1.elim z z2)⟩⟩
theorem sPair_iff (F : Nat → Nat) (st : Rec) (a : Nat) (ra : Rec) (b : Nat) (rb : Rec) : sPair F st a ra b rb = true ↔ sOf (st 3) (st 4) rb = true ∧ (ra 6 ≤ rb 6 ∧ (ra 6 < rb 6 ∨ a < b) ∧ (st 6 = 0 ∨ rb 6 - ra 6 + 1 ≤ st 6)) ∧ ((st 5 &&& 1 = 0 ∨ (F (rb 2) = F (ra 1) ∧ F (rb 1) = F (ra 2))) ∧ (st 5 &&& 2 = 0 ∨ ra 3 = rb 3) ∧ (st 5 &&& 4 = 0 ∨ ra 5 < rb 5)) := by
  unfold sPair
  simp only [Bool.and_eq_true, Bool.or_eq_true, decide_eq_true_eq, beq_iff_eq]
  constructor
  · rintro ⟨⟨⟨⟨⟨⟨h1, h2⟩, h3⟩, h4⟩, h5⟩, h6⟩, h7⟩
    exact ⟨h1, ⟨h2, h3, h4⟩, h5, h6, h7⟩
  · rintro ⟨h1, ⟨h2, h3, h4⟩, h5, h6, h7⟩
    exact ⟨⟨⟨⟨⟨⟨h1, h2⟩, h3⟩, h4⟩, h5⟩, h6⟩, h7⟩
