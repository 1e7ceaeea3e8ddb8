/-! THE CLASS: stop -/
theorem and_not12 {a u : Nat} (ha : a < 4096) (hu : u < 4096) : n32 a &&& (n32 u ^^^ (-1)) = n32 (a &&& (u ^^^ 4095)) := by
  apply Int32.toBitVec_inj.mp
  rw [Int32.toBitVec_and, Int32.toBitVec_xor, n32_bv, n32_bv, n32_bv]
  apply BitVec.eq_of_toNat_eq
  have h1 : a &&& (u ^^^ 4095) ≤ a := Nat.and_le_left
  have h2 : (-1 : Int32).toBitVec.toNat = 4294967295 := by decide
  rw [BitVec.toNat_and, BitVec.toNat_xor, h2, BitVec.toNat_ofNat, BitVec.toNat_ofNat, BitVec.toNat_ofNat, Nat.mod_eq_of_lt (show a < 2 ^ 32 by omega), Nat.mod_eq_of_lt (show u < 2 ^ 32 by omega), Nat.mod_eq_of_lt (show a &&& (u ^^^ 4095) < 2 ^ 32 by omega)]
  apply Nat.eq_of_testBit_eq
  intro j
  rw [Nat.testBit_and, Nat.testBit_and, Nat.testBit_xor, Nat.testBit_xor]
  by_cases y : j < 12
  · rw [show (4294967295 : Nat) = 2 ^ 32 - 1 from rfl, show (4095 : Nat) = 2 ^ 12 - 1 from rfl, Nat.testBit_two_pow_sub_one, Nat.testBit_two_pow_sub_one]
    simp [y, show j < 32 by omega]
  · rw [Nat.testBit_lt_two_pow (show a < 2 ^ j from Nat.lt_of_lt_of_le (show a < 2 ^ 12 from ha) (pw_le (by omega)))]
    simp
theorem sub_iff {a u : Nat} (ha : a < 4096) : a &&& (u ^^^ 4095) = 0 ↔ ∀ j, a.testBit j = true → u.testBit j = true := by
  constructor
  · intro h j b
    have lt : j < 12 := by
      rcases Nat.lt_or_ge j 12 with q | q
      · exact q
      · rw [Nat.testBit_lt_two_pow (show a < 2 ^ j from Nat.lt_of_lt_of_le (show a < 2 ^ 12 from ha) (pw_le q))] at b; cases b
    have e := congrArg (fun w => Nat.testBit w j) h
    simp only [Nat.testBit_and, Nat.testBit_xor, Nat.zero_testBit, b, Bool.true_and] at e
    rw [show (4095 : Nat) = 2 ^ 12 - 1 from rfl, Nat.testBit_two_pow_sub_one, decide_eq_true lt] at e
    simpa using e
  · intro h
    apply Nat.eq_of_testBit_eq
    intro j
    rw [Nat.testBit_and, Nat.testBit_xor, Nat.zero_testBit]
    cases b : a.testBit j with
    | false => rfl
    | true =>
      have lt : j < 12 := by
        rcases Nat.lt_or_ge j 12 with q | q
        · exact q
        · rw [Nat.testBit_lt_two_pow (show a < 2 ^ j from Nat.lt_of_lt_of_le (show a < 2 ^ 12 from ha) (pw_le q))] at b; cases b
      rw [h j b, show (4095 : Nat) = 2 ^ 12 - 1 from rfl, Nat.testBit_two_pow_sub_one, decide_eq_true lt]; rfl
theorem sub_le {a u : Nat} (h : ∀ j, a.testBit j = true → u.testBit j = true) : a ≤ u := by
  have e : a &&& u = a := by
    apply Nat.eq_of_testBit_eq
    intro j
    rw [Nat.testBit_and]
    cases b : a.testBit j with
    | false => rfl
    | true => rw [h j b]; rfl
  rw [← e]
  exact Nat.and_le_right
theorem stpK_end {x : Ab} {l : List Nat} {u : Nat} (hu : u = uW x (aW x).length) : ∀ r, u + 1 + r ≤ 2 ^ (aW x).length → stpK x l (hBits x (aH x).length) (u + 1 + r) = stpK x l (hBits x (aH x).length) (u + 1)
  | 0, _ => rfl
  | r + 1, h => by
    rw [← Nat.add_assoc, stpK_succ, stpK_end hu r (by omega)]
    unfold stpF
    rw [if_neg]
    rintro ⟨z, -⟩
    have := sub_le ((not_bad (by omega)).mp z)
    rw [← hu] at this
    omega
/-- does a choice of usable words bar all -/
theorem need_all {x : Ab} {u n : Nat} {fk nl : List Nat} {l : List Nat} (hu : u < 4096) (hul : u = uW x (aW x).length) (l12 : (aW x).length ≤ 12) (hn : ∀ j, n.testBit j = true → u.testBit j = true) (P : fk.Perm l) (N1 : ∀ v ∈ nl, ∃ s ∈ fk, v = nW x u s 12) (N2 : ∀ s ∈ fk, nW x u s 12 ∈ nl) : nl.all (fun v => decide (v &&& n ≠ 0)) = l.all (wHit x n) := by
  have key : ∀ s, nW x u s 12 &&& n = wBits x (lvs (aD x) (subL (aO x) s)) (aW x).length &&& n := by
    intro s
    apply Nat.eq_of_testBit_eq
    intro j
    rw [Nat.testBit_and, Nat.testBit_and, nW_bit, wBits_bit]
    cases b : n.testBit j with
    | false => simp
    | true =>
      have ub := hn j b
      have ub2 := ub
      rw [hul, uW_bit, Bool.and_eq_true, decide_eq_true_eq] at ub2
      unfold nWp
      rw [ub, decide_eq_true (show j < 12 by omega), decide_eq_true ub2.1]
      simp
  rw [Bool.eq_iff_iff, List.all_eq_true, List.all_eq_true]
  unfold wHit
  constructor
  · intro h s hs
    have := h _ (N2 s (P.mem_iff.mpr hs))
    rw [decide_eq_true_eq, key] at this
    rw [bne_iff_ne]; exact this
  · intro h v hv
    obtain ⟨s, hs, rfl⟩ := N1 v hv
    have := h s (P.mem_iff.mp hs)
    rw [bne_iff_ne] at this
    rw [decide_eq_true_eq, key]; exact this
def SFw (a k : Nat) : Prop := SJg a k ∨ a = 37
set_option maxHeartbeats 4000000 in
set_option maxRecDepth 100000 in
theorem c_fw3 {x : Ab} {da : Nat → Nat} {v1 : Int32} {u : Nat} {h0 : Hp} {Q : Int32 → Hp → Prop} {k43 : Int32 → Int32 → Hp → Prop} (I : InvC x da h0) (K : OkA x) (T : TxS x) (hu : u < 4096) (hul : u = uW x (aW x).length)
    (k : ∀ h', fr SFw h0 h' → WbA x u h' → k43 v1 (n32 u) h') :
    ∀ (r w : Nat) (h : Hp), r + w = 12 → fr SFw h0 h → (∀ t, t < w → u.testBit t = true → BrA x (wordS x t) 37 (t * 10) (aO x).length h) → m_X7_fewestWords_3 (r + 1) k43 Q v1 12 10 (n32 u) (n32 w) h := by
  have o10 := I.2.2.2.2.2.2.2.1.2.1
  intro r
  induction r with
  | zero =>
    intro w h hr f A
    rw [m_X7_fewestWords_3, show (12 : Int32) = n32 12 from rfl, n32_le (by decide) (by omega)]
    refine ⟨fun _ => k h f (fun t ht => ?_), fun z => absurd (by omega) z⟩
    refine A t ?_ ht
    rcases Nat.lt_or_ge t 12 with q | q
    · omega
    · rw [Nat.testBit_lt_two_pow (show u < 2 ^ t from Nat.lt_of_lt_of_le (show u < 2 ^ 12 from hu) (pw_le q))] at ht; cases ht
  | succ r ih =>
    intro w h hr f A
    rw [m_X7_fewestWords_3, show (12 : Int32) = n32 12 from rfl, n32_le (by decide) (by omega), show (31 : Int32) = n32 31 from rfl, show (1 : Int32) = n32 1 from rfl, n32_bit (by omega) (by omega), bit_mod, n32_ix (by omega)]
    refine ⟨fun z => absurd z (by omega), fun _ => ?_⟩
    cases uw : u.testBit w with
    | false =>
      refine ⟨fun _ => ?_, fun z => absurd z (by decide)⟩
      unfold m_X7_fewestWords_37
      intro x1 e1
      rw [e1, show n32 w + 1 = n32 (w + 1) from n32_add _ 1]
      refine ih (w + 1) h (by omega) f (fun t ht ut => ?_)
      by_cases e : t = w
      · rw [e, uw] at ut; cases ut
      · exact A t (by omega) ut
    | true =>
      refine ⟨fun z => absurd rfl z, fun _ => ?_⟩
      have wl : w < (aW x).length := by
        rw [hul, uW_bit, Bool.and_eq_true, decide_eq_true_eq] at uw
        exact uw.1
      obtain ⟨a, ra, ha, C⟩ := I.rules.2 w wl
      rw [f.R (by unfold SFw SJg; omega)]
      refine ⟨vpI (by omega) (by decide), a, ra, ?_⟩
      rw [show (10 : Int32) = n32 10 from rfl, n32_mul]
      have V1 := I.vw.mv f (by unfold SFw SJg; omega)
      have D1 := I.kd.mv f (by unfold SFw SJg; omega)
      have O1 := I.2.2.2.2.2.2.2.1.fr f (by unfold SFw SJg; omega) (by unfold SFw SJg; omega)
      refine c_findBarred V1 D1 K O1 (Or.inr rfl) (by omega) (by decide) (Or.inr ⟨a, rfl, ha, T.2 w wl, C.fr f (by unfold SFw SJg; omega)⟩) (fun h2 f2 A2 => ?_)
      unfold m_X7_fewestWords_37
      intro x1 e1
      rw [e1, show n32 w + 1 = n32 (w + 1) from n32_add _ 1]
      refine ih (w + 1) h2 (by omega) (f.trans (f2.mono (by unfold SFbr SFw SJg; omega))) (fun t ht ut => ?_)
      by_cases e : t = w
      · rw [e]; exact A2
      · exact (A t (by omega) ut).mv (fun i hi => f2.I (by unfold SFbr SJg; omega))
def NdR (x : Ab) (u : Nat) (fk nl : List Nat) : Prop := (∀ v ∈ nl, ∃ s ∈ fk, v = nW x u s 12) ∧ (∀ s ∈ fk, nW x u s 12 ∈ nl) ∧ nl.length ≤ fk.length
set_option maxHeartbeats 4000000 in
set_option maxRecDepth 100000 in
theorem c_fw51 {x : Ab} {da : Nat → Nat} {k0 u r0 : Nat} {fl : List Nat} {h0 : Hp} {Q : Int32 → Hp → Prop} {k96 : Int32 → Hp → Prop} (O : COff x da h0) (S : SlyF x r0 fl h0) (W : WbA x u h0) (h6 : k0 ≤ 6) (hu : u < 4096) (l1023 : fl.length ≤ 1023)
    (k : ∀ h' nl, fr SNd h0 h' → NdA nl h' → NdR x u (fl.filter (fun s => decide (pop s ≤ k0))) nl → k96 (n32 u) h') :
    ∀ (rest pre nl : List Nat) (h : Hp), fl = pre ++ rest → fr SNd h0 h → NdA nl h → NdR x u (pre.filter (fun s => decide (pop s ≤ k0))) nl → m_X7_fewestWords_51 (rest.length + 1) k96 Q (n32 k0) (n32 u) (n32 pre.length) h := by
  have lt := S.lt O.2.1
  intro rest
  induction rest with
  | nil =>
    intro pre nl h e f A R
    rw [List.append_nil] at e
    subst e
    rw [m_X7_fewestWords_51, f.I (by unfold SNd; omega), S.1, n32_le (by omega) (by omega)]
    exact ⟨fun _ => k h nl f A R, fun z => absurd (Nat.le_refl _) z⟩
  | cons s rest ih =>
    intro pre nl h e f A R
    have el : fl.length = pre.length + (rest.length + 1) := by rw [e]; simp
    have hs := lt s (by rw [e]; simp)
    have es : hI h 34 pre.length = n32 s := by rw [f.I (by unfold SNd; omega), S.2.2.1 _ (by omega), e, getD_mid]
    have p1 : pop s ≤ 24 := popK_le s 24
    have fkl : (pre.filter (fun s => decide (pop s ≤ k0))).length ≤ pre.length := List.length_filter_le _ _
    have nx : ∀ nl' h', fr SNd h0 h' → NdA nl' h' → NdR x u ((pre ++ [s]).filter (fun s => decide (pop s ≤ k0))) nl' → m_X7_fewestWords_90 (fun (v1 : Int32) (v3 : Int32) (v4 : Int32) hh => m_X7_fewestWords_51 (rest.length + 1) k96 Q v1 v3 v4 hh) k96 Q (n32 k0) (n32 u) (n32 pre.length) h' := by
      intro nl' h' f' A' R'
      unfold m_X7_fewestWords_90
      intro x6 e6
      rw [e6, show n32 pre.length + 1 = n32 (pre.length + 1) from n32_add _ 1]
      have := ih (pre ++ [s]) nl' h' (by rw [e]; simp) f' A' R'
      rw [List.length_append] at this
      exact this
    rw [m_X7_fewestWords_51, f.I (by unfold SNd; omega), S.1, n32_le (by omega) (by omega), n32_ix (by omega), es]
    refine ⟨fun z => absurd z (by omega), fun _ => ⟨vpI (by omega) (by decide), q_bitCount (by omega) ?_⟩⟩
    rw [n32_lt (by omega) (by omega)]
    refine ⟨fun z => ?_, fun z => ⟨vpI (by omega) (by decide), ?_⟩⟩
    · refine nx nl h f A ?_
      rw [List.filter_append, List.filter_cons, if_neg (by simp; omega), List.filter_nil, List.append_nil]
      exact R
    · have O1 := O.fr f (by unfold SNd; omega) (by unfold SNd; omega)
      have W1 : WbA x u h := fun w uw => (W w uw).mv (fun i _ => f.I (by unfold SNd; omega))
      first
        | rw [es]
        | skip
      refine c_wordsThatBar O1 W1 hu hs.2 ?_
      have lim : ∀ t ∈ nl, t < 4096 := fun t ht => by
        obtain ⟨q, -, rfl⟩ := R.1 t ht
        exact nW_lt x u q 12
      refine c_putNeed A (by have := R.2.2; omega) (nW_lt x u s 12) lim (fun h2 f2 A2 => ?_)
      refine nx _ h2 (f.trans f2) A2 ?_
      rw [List.filter_append, List.filter_cons, if_pos (by simp; omega), List.filter_nil]
      obtain ⟨n1, n2, n3⟩ := R
      by_cases q : nW x u s 12 ∈ nl
      · rw [if_pos q]
        refine ⟨fun v hv => ?_, fun t ht => ?_, by rw [List.length_append]; omega⟩
        · obtain ⟨t, ht, e⟩ := n1 v hv
          exact ⟨t, by simp at ht; simp [ht], e⟩
        · rw [List.mem_append] at ht
          rcases ht with ht | ht
          · exact n2 t ht
          · rw [List.mem_singleton] at ht; rw [ht]; exact q
      · rw [if_neg q]
        refine ⟨fun v hv => ?_, fun t ht => ?_, by rw [List.length_append, List.length_append, List.length_singleton, List.length_singleton]; omega⟩
        · rw [List.mem_append] at hv
          rcases hv with hv | hv
          · obtain ⟨t, ht, e⟩ := n1 v hv
            exact ⟨t, List.mem_append_left _ ht, e⟩
          · rw [List.mem_singleton] at hv
            exact ⟨s, List.mem_append_right _ (List.mem_singleton.mpr rfl), hv⟩
        · rw [List.mem_append] at ht
          rcases ht with ht | ht
          · exact List.mem_append_left _ (n2 t ht)
          · rw [List.mem_singleton] at ht; rw [ht]; simp
set_option maxHeartbeats 4000000 in
set_option maxRecDepth 100000 in
theorem c_fw102 {x : Ab} {u : Nat} {l fk nl : List Nat} {h : Hp} {Q : Int32 → Hp → Prop} (hu : u < 4096) (hul : u = uW x (aW x).length) (l12 : (aW x).length ≤ 12) (A : NdA nl h) (R : NdR x u fk nl) (P : fk.Perm l) (l1023 : fk.length ≤ 1023)
    (k : Q (pm (stpK x l (hBits x (aH x).length) (2 ^ (aW x).length))) h) :
    ∀ (r n : Nat), r + n = u + 1 → m_X7_fewestWords_102 (r + 1) Q (n32 u) (pm (stpK x l (hBits x (aH x).length) n)) (n32 n) h := by
  have ult : u < 2 ^ (aW x).length := by rw [hul]; exact uW_lt x _
  have lim : ∀ t ∈ nl, t < 4096 := fun t ht => by
    obtain ⟨q, -, rfl⟩ := R.1 t ht
    exact nW_lt x u q 12
  intro r
  induction r with
  | zero =>
    intro n hr
    rw [m_X7_fewestWords_102, n32_lt (by omega) (by omega)]
    refine ⟨fun _ => ?_, fun z => absurd (by omega) z⟩
    have e := stpK_end (l := l) hul (2 ^ (aW x).length - (u + 1)) (by omega)
    rw [show u + 1 + (2 ^ (aW x).length - (u + 1)) = 2 ^ (aW x).length by omega] at e
    rw [show n = u + 1 by omega, ← e]
    exact k
  | succ r ih =>
    intro n hr
    have nx := ih (n + 1) (by omega)
    have hle := stpK_le x l (hBits x (aH x).length) n
    rw [stpK_succ] at nx
    generalize stpK x l (hBits x (aH x).length) n = b at nx hle
    have nb := not_bad (x := x) (n := n) (by omega)
    rw [← hul, ← sub_iff (by omega)] at nb
    rw [m_X7_fewestWords_102, n32_lt (by omega) (by omega), and_not12 (by omega) hu, show (0 : Int32) = n32 0 from rfl, n32_eq (Nat.lt_of_le_of_lt Nat.and_le_left (by omega)) (by decide)]
    unfold stpF at nx
    have old : ¬ (n &&& hBits x (aH x).length = 0 ∧ (b = 0 ∨ pop n < pop (b - 1)) ∧ l.all (wHit x n) = true) → m_X7_fewestWords_146 (fun (v3 : Int32) (v4 : Int32) (v5 : Int32) hh => m_X7_fewestWords_102 (r + 1) Q v3 v4 v5 hh) Q (n32 u) (pm b) (n32 n) h := by
      intro q
      rw [if_neg q] at nx
      unfold m_X7_fewestWords_146
      intro x1 e1
      rw [e1, show n32 n + 1 = n32 (n + 1) from n32_add _ 1]
      exact nx
    have try1 : n &&& hBits x (aH x).length = 0 → (b = 0 ∨ pop n < pop (b - 1)) → m_X7_fewestWords_133 (fun (v3 : Int32) (v4 : Int32) (v5 : Int32) hh => m_X7_fewestWords_102 (r + 1) Q v3 v4 v5 hh) Q (n32 u) (pm b) (n32 n) h := by
      intro q1 q2
      unfold m_X7_fewestWords_133
      refine c_meets A (by have := R.2.2; omega) (by omega) lim ?_
      rw [need_all hu hul l12 ((sub_iff (by omega)).mp (nb.mp q1)) P R.1 R.2.1]
      cases q3 : l.all (wHit x n) with
      | false =>
        rw [q3] at old
        exact ⟨fun _ => old (fun z => absurd z.2.2 (by decide)), fun z => absurd rfl z⟩
      | true =>
        rw [if_pos ⟨q1, q2, q3⟩, pmS] at nx
        refine ⟨fun z => absurd z (by decide), fun _ => ?_⟩
        unfold m_X7_fewestWords_146
        intro x1 e1
        rw [e1, show n32 n + 1 = n32 (n + 1) from n32_add _ 1]
        exact nx
    refine ⟨fun z => absurd z (by omega), fun _ => ⟨fun z => old (fun y => z (nb.mp y.1)), fun z => ?_⟩⟩
    have q1 := nb.mpr z
    rw [show (-1 : Int32) = pm 0 from rfl, pm_inj (by omega) (by decide)]
    refine ⟨fun b0 => try1 q1 (Or.inl b0), fun b0 => ?_⟩
    have eb : pm b = n32 (b - 1) := pm_n32 (by omega)
    rw [eb] at try1 old ⊢
    refine c_isLess (by omega) (by omega) ?_
    cases hq : lsB n (b - 1) with
    | true =>
      rw [lsB_iff] at hq
      exact ⟨fun y => absurd y (by decide), fun _ => try1 q1 (Or.inr (by omega))⟩
    | false =>
      refine ⟨fun _ => old (fun y => ?_), fun y => absurd rfl y⟩
      have : lsB n (b - 1) = true := by rw [lsB_iff]; exact Or.inl (y.2.1.resolve_left b0)
      rw [this] at hq
      cases hq
theorem C_stop {x : Ab} {da : Nat → Nat} {v : Int32} {h : Hp} {Q : Int32 → Hp → Prop} (I : InvC x da h) (K : OkA x) (M : OkM x) (T : TxS x) (k : ∀ h', sameM h h' → InvC x da h' → Q (ansStop x v) h') : m_X11_stop v h Q := by
  unfold m_X11_stop
  unfold ansStop at k
  have sx := c_six (v := v) (A := Q (-1) h) (B := m_X11_lawInForce h (fun (x8 : Option Nat) (h9 : Hp) => m_X7_look v x8 h9 (fun (h11 : Hp) => ∃ n29, m_X11_stop_29 n29 (m_X11_stop_62 Q) Q v 0 0 h11))) (fun e => ?_) (fun k0 h1 h6 e1 e2 => ?_)
  · refine ⟨sx.1, fun y => ⟨fun z => (sx.2 y).2 (Int32.not_lt.mpr z), fun z => (sx.2 y).1 (Int32.not_le.mp z)⟩⟩
  · rw [e] at k; exact k h (sameM.rf h) I
  · rw [e2] at k
    subst e1
    dsimp only at k
    refine RuO.of I T (fun ro R => ?_)
    refine c_look I K M h1 h6 R (fun h2 r fl f2 I2 hr r6 S => ?_)
    have O2 := I2.2.2.2.2.2.2.2.1
    have o10 := O2.2.1
    have l12 := I2.2.2.2.2.2.1.2.2.2.1.1
    have ult := uW_lt x (aW x).length
    have u12 : 2 ^ (aW x).length ≤ 2 ^ 12 := pw_le l12
    have l1023 : fl.length ≤ 1023 := by rw [S.2.2.2.length_eq]; exact sly_len x r o10
    have P : (fl.filter (fun s => decide (pop s ≤ k0))).Perm (slyAll x k0) := by
      have := S.2.2.2.filter (fun s => decide (pop s ≤ k0))
      rw [sly_cut x hr] at this
      exact this
    refine ⟨_, c_stop29 I2 K T (fun h3 f3 => ?_) (aW x).length 0 h2 (by omega) (fr.rf _ _)⟩
    have I3 := I2.own (f3.mono SJg_Own)
    unfold m_X11_stop_62 m_X7_fewestWords
    refine ⟨13, c_fw3 (Q := Q) (v1 := n32 k0) I3 K T (by omega) rfl (fun h4 f4 W4 => ?_) 12 0 h3 rfl (fr.rf _ _) (fun t ht => absurd ht (by omega))⟩
    unfold m_X7_fewestWords_43
    have f5 : fr SNd h4 (wI h4 32 11 0) := fr_wI (fr.rf _ _) _ (Or.inr ⟨rfl, rfl⟩)
    have A5 : NdA [] (wI h4 32 11 0) := ⟨by rw [hI_wI, if_pos ⟨rfl, rfl⟩]; rfl, fun j hj => absurd hj (by simp)⟩
    generalize wI h4 32 11 0 = h5 at f5 A5
    have f24 : fr SFw h2 h4 := (f3.mono (fun a k z => Or.inl z)).trans f4
    have O5 := (O2.fr f24 (by unfold SFw SJg; omega) (by unfold SFw SJg; omega)).fr f5 (by unfold SNd; omega) (by unfold SNd; omega)
    have S5 : SlyF x r fl h5 := ⟨by rw [f5.I (by unfold SNd; omega), f24.I (by unfold SFw SJg; omega)]; exact S.1, S.2.1, fun j hj => by rw [f5.I (by unfold SNd; omega), f24.I (by unfold SFw SJg; omega)]; exact S.2.2.1 j hj, S.2.2.2⟩
    have W5 : WbA x (uW x (aW x).length) h5 := fun w uw => (W4 w uw).mv (fun i _ => f5.I (by unfold SNd; omega))
    refine ⟨_, c_fw51 O5 S5 W5 h6 (by omega) l1023 (fun h6 nl f6 A6 R6 => ?_) fl [] [] h5 rfl (fr.rf _ _) A5 ⟨fun v hv => absurd hv (by simp), fun s hs => absurd hs (by simp), by simp⟩⟩
    unfold m_X7_fewestWords_96
    have f26 : fr SLk h2 h6 := (f24.mono (by unfold SFw SJg SLk; omega)).trans ((f5.trans f6).mono (by unfold SNd SLk; omega))
    have g : ∀ a kk, (a = 32 ∧ (kk = 5 ∨ kk = 6) ∨ a = 34 ∨ a = 35 ∨ a = 23 ∨ a = 42) → hI h6 a kk = hI h2 a kk ∧ hJ h6 a kk = hJ h2 a kk := fun a kk q => by
      rw [(f5.trans f6).I (by unfold SNd; omega), f24.I (by unfold SFw SJg; omega), (f5.trans f6).J (by unfold SNd; omega), f24.J (by unfold SFw SJg; omega)]
      exact ⟨rfl, rfl⟩
    have I6 : InvC x da h6 := I2.sea f26 (I2.2.2.2.2.2.2.2.2.2.2.2.1.mv (g 32 5 (by omega)).1 (g 32 6 (by omega)).1 (fun k => (g 34 k (by omega)).1) (fun k => (g 35 k (by omega)).1)) (fun f hf => by rw [(g 23 f (by omega)).2]; exact I2.2.2.2.2.2.2.2.2.2.2.2.2.1 f hf) (fun j hj => by rw [(g 42 j (by omega)).2]; exact I2.2.2.2.2.2.2.2.2.2.2.2.2.2 j hj)
    have kk := k h6 (sameM.of (f2.trans f26) SLk_M) I6
    have fkl : (fl.filter (fun s => decide (pop s ≤ k0))).length ≤ 1023 := Nat.le_trans (List.length_filter_le _ _) l1023
    exact ⟨_, c_fw102 (by omega) rfl l12 A6 R6 P fkl kk (uW x (aW x).length + 1) 0 (by omega)⟩
