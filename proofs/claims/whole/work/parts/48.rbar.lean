/-! STATEMENTS AND LEAVES; THE MODEL: breach, bars -/
/-- the first place from i on, below n, where f tells something -/
def fsome {α : Type} (f : Nat → Option α) (i n : Nat) : Option α := (List.range' i (n - i)).findSome? f
theorem fsome_end {α : Type} {f : Nat → Option α} {i n : Nat} (h : n ≤ i) : fsome f i n = none := by
  unfold fsome; rw [show n - i = 0 by omega]; rfl
theorem fsome_no {α : Type} {f : Nat → Option α} {i n : Nat} (h : i < n) (e : f i = none) : fsome f i n = fsome f (i + 1) n := by
  unfold fsome
  rw [show n - i = (n - (i + 1)) + 1 by omega, List.range'_succ, List.findSome?_cons, e]
theorem fsome_yes {α : Type} {f : Nat → Option α} {i n : Nat} {v : α} (h : i < n) (e : f i = some v) : fsome f i n = some v := by
  unfold fsome
  rw [show n - i = (n - (i + 1)) + 1 by omega, List.range'_succ, List.findSome?_cons, e]
def lvs (D : List Dl) (bs : List Nat) : List Rec := bs.flatMap (dL D)
def sOf (f t : Nat) (r : Rec) : Bool := (f == 4 || r 0 == f) && (t == 0 || r 3 + 1 == t)
def sPair (F : Nat → Nat) (st : Rec) (a : Nat) (ra : Rec) (b : Nat) (rb : Rec) : Bool :=
  sOf (st 3) (st 4) rb && decide (ra 6 ≤ rb 6) && (decide (ra 6 < rb 6) || decide (a < b)) && (st 6 == 0 || decide (rb 6 - ra 6 + 1 ≤ st 6)) &&
  (st 5 &&& 1 == 0 || (F (rb 2) == F (ra 1) && F (rb 1) == F (ra 2))) && (st 5 &&& 2 == 0 || ra 3 == rb 3) && (st 5 &&& 4 == 0 || decide (ra 5 < rb 5))
def barP (F : Nat → Nat) (st : Rec) (L : List Rec) (a : Nat) : Option (Nat × Nat) :=
  if sOf (st 0) (st 1) (L.getD a rec0) then (if st 2 = 0 then some (a, 0) else (fsome (fun b => if sPair F st a (L.getD a rec0) b (L.getD b rec0) then some b else none) 0 L.length).map (fun b => (a, b + 1))) else none
/-- the leaves by which a statement bars (the second one more; 0: none) -/
def barS (F : Nat → Nat) (st : Rec) (L : List Rec) : Option (Nat × Nat) := fsome (barP F st L) 0 L.length
/-- the first statement that bars, with its leaves -/
def brc (F : Nat → Nat) (S : List Rec) (L : List Rec) : Option (Nat × Nat × Nat) := fsome (fun k => (barS F (S.getD k rec0) L).map (fun q => (k, q))) 0 S.length
/-- a leaf in the Model's rows of nodes -/
def LvN (r : Rec) (h : Hp) : Prop := r 11 < 2304 ∧ hI h 58 (r 11) = n32 (r 0) ∧ hI h 64 (r 11) = n32 (r 1) ∧ hI h 65 (r 11) = n32 (r 2) ∧ hI h 66 (r 11) = n32 (r 3) ∧ hI h 68 (r 11) = n32 (r 5) ∧ LfOk r
theorem RD.leaf {b : Nat} {s : St} {h : Hp} (R : RD b s h) : ∀ (n i : Nat), sN s - i = n → b ≤ i → i ≤ sN s → ∀ r ∈ rem (sL s) i, LvN r h := by
  intro n
  have hlt := R.lt
  induction n with
  | zero =>
    intro i h1 h2 h3 r hr
    obtain rfl : i = sN s := by omega
    rw [R.1.2.2.2.2.2.2.2.2.2.1] at hr
    simp at hr
  | succ n ih =>
    intro i h1 h2 h3 r hr
    have hi : i < sN s := by omega
    rcases R.1.2.2.2.2.2.2.2.2.2.2 i h2 hi with ⟨-, e⟩ | ⟨q, r', e, la, lo⟩
    · rw [e] at hr
      exact ih (i + 1) (by omega) (by omega) (by omega) r hr
    · rw [e, List.mem_cons] at hr
      rcases hr with rfl | hr
      · obtain ⟨n0, -, -, -, -, -, n7⟩ := R.2.2 i h2 hi
        obtain ⟨n1, n2, n3, n4, n5, -⟩ := n7 q
        obtain ⟨l11, l0, l1, l2, l3, l4, l5, -⟩ := la
        rw [← l0] at n0; rw [← l1] at n1; rw [← l2] at n2; rw [← l3] at n3; rw [← l5] at n5
        refine ⟨by omega, ?_, ?_, ?_, ?_, ?_, lo⟩ <;> rw [l11] <;> assumption
      · exact ih (i + 1) (by omega) (by omega) (by omega) r hr
theorem InvR.lv {x : Ab} {h : Hp} (I : InvR x h) (K : OkA x) {bs : List Nat} (hin : inD x bs) : ∀ r ∈ lvs (aD x) bs, LvN r h := by
  intro r hr
  unfold lvs at hr
  rw [List.mem_flatMap] at hr
  obtain ⟨d, hd, hr⟩ := hr
  have R := I.rd K (hin d hd)
  refine R.leaf _ (96 * d) rfl (Nat.le_refl _) R.1.2.1 r ?_
  have := R.beg
  unfold dL at this hr
  rw [this]
  exact hr
def LvA (L : List Rec) (h : Hp) : Prop := hI h 51 78 = n32 L.length ∧ L.length ≤ 72 ∧ ∀ k, k < L.length → hI h 100 k = n32 ((L.getD k rec0) 11) ∧ hI h 101 k = n32 ((L.getD k rec0) 6)
def SLv (a k : Nat) : Prop := a = 100 ∨ a = 101 ∨ a = 51 ∧ k = 78
theorem SLv_Scr : ∀ a k, SLv a k → Scr a k := by unfold SLv Scr Last; omega
theorem lvs_len {x : Ab} (K : OkA x) : ∀ {l : List Nat}, inD x l → (lvs (aD x) l).length ≤ 12 * l.length
  | [], _ => by simp [lvs]
  | d :: l, h => by
    have h1 := K.l12 (h d (by simp))
    have h2 := lvs_len K (l := l) (fun e he => h e (by simp [he]))
    unfold lvs at h2 ⊢
    rw [List.flatMap_cons, List.length_append, List.length_cons]
    omega
set_option maxHeartbeats 4000000 in
set_option maxRecDepth 100000 in
theorem q_leaves25 {x : Ab} {l pre rest : List Nat} {d : Nat} {Q : Hp → Prop} {k108 : Int32 → Hp → Prop} (K : OkA x) (hin : inD x l) (e : l = pre ++ d :: rest) (h0 : Hp) (k : ∀ h', fr SLv h0 h' → InvR x h' → LstIs l h' → LvA (lvs (aD x) (pre ++ [d])) h' → k108 (n32 pre.length) h') :
    ∀ (n i : Nat) (P : List Rec) (h : Hp), InvR x h → LstIs l h → fr SLv h0 h → 96 * d ≤ i → i ≤ sN (dS (aD x) d) → sN (dS (aD x) d) - i < n → LvA P h → P ++ rem (dL (aD x) d) i = lvs (aD x) (pre ++ [d]) → m_X12_findLeaves_25 n k108 Q (n32 pre.length) (n32 i) h := by
  intro n
  have hd : d < (aD x).length := hin d (by rw [e]; simp)
  induction n with
  | zero => intro i P h _ _ _ _ _ h3; omega
  | succ n ih =>
    intro i P h I L f h1 h2 h3 A eP
    have R := I.rd K hd
    have hlt := R.lt
    have hl := I.2.1.2.1
    have e53 := (I.2.1.2.2 d hd).1
    have hb := R.1.2.1
    have e85 : hI h 85 pre.length = n32 d := by have := L.2.2; rw [e] at this; exact this.mid
    have hlen : l.length = pre.length + (rest.length + 1) := by rw [e]; simp
    have l6 := L.2.1
    have hP : P.length + (rem (dL (aD x) d) i).length ≤ 72 := by
      rw [← List.length_append, eP]
      have := lvs_len K (l := pre ++ [d]) (fun q hq => hin q (by
        rw [e]
        rw [List.mem_append, List.mem_singleton] at hq
        rcases hq with hq | rfl
        · simp [hq]
        · simp))
      rw [List.length_append, List.length_singleton] at this
      omega
    rw [m_X12_findLeaves_25]
    have ee : 96 * d + (sN (dS (aD x) d) - 96 * d) = sN (dS (aD x) d) := by omega
    simp (disch := omega) only [↓m1_pm, lit32, n32_add, n32_mul, n32_ix, n32_lt, n32_le, n32_eq, n32_in, pm_ix, pm_in, pm_eqn, n_eqpm, pm_ltn, n_ltpm, pm_len, n_lepm, pm_inj, forall_eq, e85, e53, ee]
    refine ⟨by omega, by omega, by omega, fun c => ?_, fun c => ?_⟩
    · obtain rfl : i = sN (dS (aD x) d) := by omega
      rw [R.fin, List.append_nil] at eP
      rw [← eP] at k
      exact k h f I L A
    · have hi : i < sN (dS (aD x) d) := by omega
      have hr := R.at h1 hi
      refine q_isLeaf R h1 hi (fun q => ?_) (fun q => ?_)
      · rcases hr with ⟨-, hr⟩ | ⟨g, -⟩
        · rw [hr] at eP
          unfold m_X12_findLeaves_102
          simp (disch := omega) only [↓m1_pm, lit32, n32_add, n32_mul, n32_ix, n32_lt, n32_le, n32_eq, n32_in, pm_ix, pm_in, pm_eqn, n_eqpm, pm_ltn, n_ltpm, pm_len, n_lepm, pm_inj, forall_eq]
          exact ⟨fun z => absurd trivial z, fun _ => ih (i + 1) P h I L f (by omega) (by omega) (by omega) A eP⟩
        · omega
      · rcases hr with ⟨g, -⟩ | ⟨-, r, hr, la, lo⟩
        · omega
        · rw [hr] at eP hP
          rw [List.length_cons] at hP
          refine ⟨fun _ => ?_, fun z => absurd z (by decide)⟩
          have e78 := A.1
          rw [e78, n32_ix (by omega)]
          have f1 : fr SLv h (wI h 100 P.length (n32 i)) := fr_wI (fr.rf _ _) _ (by unfold SLv; omega)
          generalize hh1 : wI h 100 P.length (n32 i) = h1' at f1
          have I1 := I.fr (f1.mono SLv_Scr)
          have R1 := I1.rd K hd
          refine ⟨vpI (by omega) (by decide), by omega, q_later R1 h1 hi ?_⟩
          have e78' : hI h1' 51 78 = n32 P.length := by rw [← hh1, hI_wI, if_neg (by omega)]; exact e78
          have e69 := ((R1.2.2 i h1 hi).2.2.2.2.2.2 q).2.2.2.2.2.1
          unfold m_X12_findLeaves_102
          obtain ⟨l11, -, -, -, -, -, -, l6', -⟩ := la
          have r6 := lo.2.2.2.2.2.2.2.1
          simp (disch := omega) only [↓m1_pm, lit32, n32_add, n32_mul, n32_ix, n32_lt, n32_le, n32_eq, n32_in, pm_ix, pm_in, pm_eqn, n_eqpm, pm_ltn, n_ltpm, pm_len, n_lepm, pm_inj, forall_eq, e78', e69, ← l6', hI_wI, hI_wJ, hI_wR, hJ_wJ, hJ_wI, hJ_wR, hR_wR, hR_wI, hR_wJ, Nat.reduceEqDiff, false_and, and_false, if_false, if_true, ite_true, ite_false, reduceIte]
          refine ⟨by omega, ?_⟩
          have f2 : fr SLv h (wI (wI h1' 101 P.length (n32 (r 6))) 51 78 (n32 (P.length + 1))) := fr_wI (fr_wI f1 _ (by unfold SLv; omega)) _ (by unfold SLv; omega)
          refine ih (i + 1) (P ++ [r]) _ (I.fr (f2.mono SLv_Scr)) (L.fr f2 (by unfold SLv; omega) (by unfold SLv; omega)) (f.trans f2) (by omega) (by omega) (by omega) ?_ (by rw [← eP]; simp)
          refine ⟨by rw [hI_wI]; simp, by simp; omega, fun j hj => ?_⟩
          rw [List.length_append, List.length_singleton] at hj
          rw [hI_wI, if_neg (by omega), hI_wI, if_neg (c := 100 = 101 ∧ _) (by omega), hI_wI, if_neg (c := 101 = 51 ∧ _) (by omega), hI_wI, ← hh1, hI_wI, hI_wI, if_neg (c := 101 = 100 ∧ _) (by omega)]
          rcases Nat.lt_or_ge j P.length with w | w
          · rw [if_neg (by omega), if_neg (by omega), getD_app_lt w]
            exact A.2.2 j w
          · obtain rfl : j = P.length := by omega
            rw [if_pos ⟨rfl, rfl⟩, if_pos ⟨rfl, rfl⟩, getD_app_at, l11]
            exact ⟨rfl, rfl⟩
set_option maxHeartbeats 4000000 in
set_option maxRecDepth 100000 in
theorem q_leaves {x : Ab} {l : List Nat} {h : Hp} {Q : Hp → Prop} (I : InvR x h) (K : OkA x) (hin : inD x l) (L : LstIs l h) (k : ∀ h', fr SLv h h' → InvR x h' → LstIs l h' → LvA (lvs (aD x) l) h' → Q h') : m_X12_findLeaves h Q := by
  unfold m_X12_findLeaves
  have main : ∀ (rest pre : List Nat) (h1 : Hp), l = pre ++ rest → InvR x h1 → LstIs l h1 → fr SLv h h1 → LvA (lvs (aD x) pre) h1 → m_X12_findLeaves_7 (rest.length + 1) Q (n32 pre.length) h1 := by
    intro rest
    induction rest with
    | nil =>
      intro pre h1 e I1 L1 f1 A1
      rw [List.append_nil] at e
      subst e
      have e55 := L1.1; have l6 := L1.2.1
      rw [List.length_nil, m_X12_findLeaves_7]
      simp (disch := omega) only [↓m1_pm, lit32, n32_add, n32_mul, n32_ix, n32_lt, n32_le, n32_eq, n32_in, pm_ix, pm_in, pm_eqn, n_eqpm, pm_ltn, n_ltpm, pm_len, n_lepm, pm_inj, forall_eq, e55]
      exact ⟨fun _ => k h1 f1 I1 L1 A1, fun z => absurd (Nat.le_refl _) z⟩
    | cons d rest ih =>
      intro pre h1 e I1 L1 f1 A1
      have e55 := L1.1; have l6 := L1.2.1
      have e85 : hI h1 85 pre.length = n32 d := by have := L1.2.2; rw [e] at this; exact this.mid
      have hlen : l.length = pre.length + (rest.length + 1) := by rw [e]; simp
      have hd : d < (aD x).length := hin d (by rw [e]; simp)
      have hnd := I1.2.1.2.1
      have R := I1.rd K hd
      rw [List.length_cons, m_X12_findLeaves_7]
      simp (disch := omega) only [↓m1_pm, lit32, n32_add, n32_mul, n32_ix, n32_lt, n32_le, n32_eq, n32_in, pm_ix, pm_in, pm_eqn, n_eqpm, pm_ltn, n_ltpm, pm_len, n_lepm, pm_inj, forall_eq, e55, e85]
      refine ⟨fun z => absurd z (by omega), fun _ => ⟨by omega, ?_⟩⟩
      refine ⟨_, q_leaves25 K hin e h1 (fun h' f' I' L' A' => ?_) (sN (dS (aD x) d) - 96 * d + 1) (96 * d) (lvs (aD x) pre) h1 I1 L1 (fr.rf _ _) (Nat.le_refl _) R.1.2.1 (by omega) A1 ?_⟩
      · unfold m_X12_findLeaves_108
        simp (disch := omega) only [↓m1_pm, lit32, n32_add, n32_mul, n32_ix, n32_lt, n32_le, n32_eq, n32_in, pm_ix, pm_in, pm_eqn, n_eqpm, pm_ltn, n_ltpm, pm_len, n_lepm, pm_inj, forall_eq]
        have := ih (pre ++ [d]) h' (by rw [e]; simp) I' L' (f1.trans f') A'
        rw [List.length_append, List.length_singleton] at this
        exact this
      · rw [R.beg]
        simp [lvs]
  have f0 : fr SLv h (wI h 51 78 0) := fr_wI (fr.rf _ _) _ (by unfold SLv; omega)
  exact ⟨_, main l [] _ rfl (I.fr (f0.mono SLv_Scr)) (L.fr f0 (by unfold SLv; omega) (by unfold SLv; omega)) f0 ⟨rfl, by simp [lvs], fun k hk => by simp [lvs] at hk⟩⟩
/-- what a look for leaves that bar stands on -/
def Bar (F : Nat → Nat) (L : List Rec) (h : Hp) : Prop := (∀ k, k < 8 → hI h 52 k = n32 (F k) ∧ F k < 8) ∧ LvA L h ∧ ∀ r ∈ L, LvN r h
theorem getD_in {L : List Rec} {k : Nat} (h : k < L.length) : L.getD k rec0 ∈ L := by
  rw [List.getD_eq_getElem?_getD, List.getElem?_eq_getElem h]
  exact List.getElem_mem h
theorem q_isOf {F : Nat → Nat} {L : List Rec} {h : Hp} {a f t : Nat} {Q : Int32 → Hp → Prop} (B : Bar F L h) (ha : a < L.length) (hf : f < 5) (ht : t < 7) (k1 : sOf f t (L.getD a rec0) = true → Q 1 h) (k0 : sOf f t (L.getD a rec0) = false → Q 0 h) : m_X12_isOf (n32 a) (n32 f) (pm t) h Q := by
  obtain ⟨-, A, N⟩ := B
  have n := N _ (getD_in ha)
  have e100 := (A.2.2 a ha).1
  have l72 := A.2.1
  generalize L.getD a rec0 = r at n e100 k1 k0
  obtain ⟨n11, n0, n1, n2, n3, n5, lo⟩ := n
  have o0 := lo.1; have o3 := lo.2.2.2.2.1
  unfold m_X12_isOf m_X12_isOf_24
  simp (disch := omega) only [↓m1_pm, lit32, n32_add, n32_mul, n32_ix, n32_lt, n32_le, n32_eq, n32_in, pm_ix, pm_in, pm_eqn, n_eqpm, pm_ltn, n_ltpm, pm_len, n_lepm, pm_inj, forall_eq, e100, n0, n3]
  unfold sOf at k1 k0
  have fin : (f = 4 ∨ r 0 = f) → (t < 0 + 1 → Q 1 h) ∧ (¬ t < 0 + 1 → r 11 < 2304 ∧ (¬ r 3 + 1 = t → Q 0 h) ∧ (r 3 + 1 = t → Q 1 h)) := by
    intro hq
    have e : (f == 4 || r 0 == f) = true := by simpa using hq
    rw [e, Bool.true_and] at k1 k0
    refine ⟨fun z => k1 ?_, fun z => ⟨n11, fun z2 => k0 ?_, fun z2 => k1 ?_⟩⟩
    · rw [show t = 0 by omega]; rfl
    · simp; omega
    · simp [z2]
  refine ⟨by omega, fun q => fin (Or.inl q), fun q => ⟨n11, fun q2 => k0 ?_, fun q2 => fin (Or.inr q2)⟩⟩
  have e : (f == 4 || r 0 == f) = false := by simp; exact ⟨q, q2⟩
  rw [e]; rfl
