/-! THE MODEL: the list at hand, its codes -/
theorem getD_mid {α : Type} (pre : List α) (x : α) (rest : List α) (d : α) : (pre ++ x :: rest).getD pre.length d = x := by
  rw [List.getD_eq_getElem?_getD, List.getElem?_append_right (Nat.le_refl _)]; simp
theorem RRow.mid {c : Nat} {pre rest : List Nat} {d : Nat} {h : Hp} (R : RRow c (pre ++ d :: rest) h) : hI h c pre.length = n32 d := by
  have := R pre.length (by simp)
  rwa [getD_mid] at this
theorem OkA.c3 {x : Ab} (K : OkA x) {d : Nat} (hd : d < (aD x).length) : dC (aD x) d ≤ 3 := (K.1 d hd).1.2.2.2.1
theorem OkA.e32 {x : Ab} (K : OkA x) {d : Nat} (hd : d < (aD x).length) : dE (aD x) d < 32 := (K.1 d hd).1.2.2.2.2.1
theorem OkA.l12 {x : Ab} (K : OkA x) {d : Nat} (hd : d < (aD x).length) : (dL (aD x) d).length ≤ 12 := (K.1 d hd).1.2.2.2.2.2.1
theorem fm_len (L : List Rec) (c : Nat) : (L.flatMap (lfFl c)).length ≤ 3 * L.length := by
  induction L with
  | nil => simp
  | cons r L ih =>
    rw [List.flatMap_cons, List.length_append, List.length_cons]
    have := lfFl_len c r
    omega
theorem q_passes {x : Ab} {d c bf : Nat} {fl : List Rec} {h : Hp} {Q : Hp → Prop} (I : InvR x h) (K : OkA x) (hd : d < (aD x).length) (hc : c < 2147483648) (hbf : bf ≤ 20) (F : FlA fl h) (hfl : fl.length ≤ 214)
    (k : ∀ h', fr SFl h h' → FlA (fl ++ nz (dlRows (dL (aD x) d) (own c bf))) h' → Q h') : m_X12_passes (n32 d) (n32 c) (n32 (5 + bf)) h Q := by
  unfold m_X12_passes
  have R := I.rd K hd
  have hl := I.2.1.2.1
  have := K.l12 hd
  simp (disch := omega) only [lit32, n32_mul, forall_eq]
  refine ⟨_, q_passes6 K hd hc hbf (sN (dS (aD x) d) - 96 * d + 1) (96 * d) fl h I F (Nat.le_refl _) R.1.2.1 (by omega) ?_ ?_⟩
  · rw [R.beg]
    omega
  · rw [R.beg, ← nz_dl]
    exact k
theorem LstIs.fr {l : List Nat} {S : Nat → Nat → Prop} {h h' : Hp} (L : LstIs l h) (f : fr S h h') (h1 : ¬ S 51 55) (h2 : ∀ k, ¬ S 85 k) : LstIs l h' :=
  ⟨by rw [f.I h1]; exact L.1, L.2.1, fun k hk => by rw [f.I (h2 k)]; exact L.2.2 k hk⟩
theorem bChs_le {x : Ab} (K : OkA x) : ∀ {l : List Nat}, inD x l → bChs (aD x) l ≤ 3 * l.length
  | [], _ => by simp [bChs]
  | d :: l, h => by
    have h1 := K.c3 (h d (by simp))
    have h2 := bChs_le K (l := l) (fun e he => h e (by simp [he]))
    unfold bChs at h2 ⊢
    rw [List.map_cons, List.sum_cons, List.length_cons]
    omega
theorem bChs_app (D : List Dl) (l m : List Nat) : bChs D (l ++ m) = bChs D l + bChs D m := by simp [bChs]
theorem bEvs_app (D : List Dl) (l : List Nat) (d : Nat) : bEvs D (l ++ [d]) = bEvs D l ||| dE D d := by simp [bEvs, List.foldl_append]
theorem or32 {a b : Nat} (h1 : a < 32) (h2 : b < 32) : a ||| b < 32 := Nat.or_lt_two_pow (n := 5) h1 h2
theorem bEvs_fold {x : Ab} (K : OkA x) : ∀ {l : List Nat} {a : Nat}, inD x l → a < 32 → l.foldl (fun b d => b ||| dE (aD x) d) a < 32
  | [], _, _, ha => ha
  | d :: l, a, h, ha => by
    rw [List.foldl_cons]
    exact bEvs_fold K (l := l) (fun e he => h e (by simp [he])) (or32 ha (K.e32 (h d (by simp))))
theorem bEvs_lt {x : Ab} (K : OkA x) {l : List Nat} (h : inD x l) : bEvs (aD x) l < 32 := bEvs_fold K h (by decide)
set_option maxHeartbeats 4000000 in
set_option maxRecDepth 100000 in
theorem q_passesAll9 {x : Ab} {c : Nat} {l : List Nat} {Q : Hp → Prop} (K : OkA x) (hin : inD x l) (hc : c < 2147483648) : ∀ (rest pre : List Nat) (fl : List Rec) (h : Hp), l = pre ++ rest → InvR x h → LstIs l h → FlA fl h → fl.length ≤ 36 * pre.length →
    (∀ h', fr SFl h h' → FlA (fl ++ nz (bRows (aD x) rest c (bChs (aD x) pre))) h' → Q h') → m_X12_passesAll_9 (rest.length + 1) Q (n32 c) (n32 (5 + bChs (aD x) pre)) (n32 pre.length) h := by
  intro rest
  induction rest with
  | nil =>
    intro pre fl h e I L F hl k
    rw [List.append_nil] at e
    subst e
    have e55 := L.1; have l6 := L.2.1
    rw [List.length_nil, m_X12_passesAll_9]
    simp (disch := omega) only [↓m1_pm, lit32, n32_add, n32_mul, n32_ix, n32_lt, n32_le, n32_eq, n32_in, pm_ix, pm_in, pm_eqn, n_eqpm, pm_ltn, n_ltpm, pm_len, n_lepm, pm_inj, forall_eq, e55]
    exact ⟨fun _ => k h (fr.rf _ _) (by simpa [bRows, nz] using F), fun z => absurd (Nat.le_refl _) z⟩
  | cons d rest ih =>
    intro pre fl h e I L F hl k
    have e55 := L.1; have l6 := L.2.1
    have e85 : hI h 85 pre.length = n32 d := by have := L.2.2; rw [e] at this; exact this.mid
    have hlen : l.length = pre.length + (rest.length + 1) := by rw [e]; simp
    have hd : d < (aD x).length := hin d (by rw [e]; simp)
    have hpre : inD x pre := fun q hq => hin q (by rw [e]; simp [hq])
    have hch := bChs_le K hpre
    have hnd := I.2.1.2.1
    have c3 := K.c3 hd
    rw [List.length_cons, m_X12_passesAll_9]
    simp (disch := omega) only [↓m1_pm, lit32, n32_add, n32_mul, n32_ix, n32_lt, n32_le, n32_eq, n32_in, pm_ix, pm_in, pm_eqn, n_eqpm, pm_ltn, n_ltpm, pm_len, n_lepm, pm_inj, forall_eq, e55, e85]
    refine ⟨fun z => absurd z (by omega), fun _ => ⟨by omega, ?_⟩⟩
    refine q_passes I K hd hc (by omega) F (by omega) (fun h' f F' => ?_)
    have I' := I.fr (f.mono SFl_Scr)
    have L' := L.fr f (by unfold SFl; omega) (by unfold SFl; omega)
    have e85' : hI h' 85 pre.length = n32 d := by rw [f.I (by unfold SFl; omega)]; exact e85
    have e56 := (I'.2.1.2.2 d hd).2.2.2.1
    simp (disch := omega) only [↓m1_pm, lit32, n32_add, n32_mul, n32_ix, n32_lt, n32_le, n32_eq, n32_in, pm_ix, pm_in, pm_eqn, n_eqpm, pm_ltn, n_ltpm, pm_len, n_lepm, pm_inj, forall_eq, e85', e56]
    refine ⟨by omega, by omega, ?_⟩
    have := ih (pre ++ [d]) _ h' (by rw [e]; simp) I' L' F' (by
      have h12 := K.l12 hd
      have h3 := fm_len (dL (aD x) d) (own c (bChs (aD x) pre))
      rw [List.length_append, List.length_append, nz_dl, List.length_singleton]
      omega) (fun h2 f2 F2 => k h2 (f.trans f2) (by
        rw [bRows, nz_app, ← List.append_assoc]
        have e3 : bChs (aD x) (pre ++ [d]) = bChs (aD x) pre + dC (aD x) d := by rw [bChs_app]; simp [bChs]
        rw [e3] at F2
        exact F2))
    have e3 : bChs (aD x) (pre ++ [d]) = bChs (aD x) pre + dC (aD x) d := by rw [bChs_app]; simp [bChs]
    rw [e3, List.length_append, List.length_singleton, ← Nat.add_assoc] at this
    exact this
theorem q_passesAll {x : Ab} {c : Nat} {l : List Nat} {h : Hp} {Q : Hp → Prop} (I : InvR x h) (K : OkA x) (hin : inD x l) (L : LstIs l h) (hc : c < 2147483648)
    (k : ∀ h', fr SFl h h' → FlA (nz (bRows (aD x) l c 0)) h' → Q h') : m_X12_passesAll (n32 c) h Q := by
  unfold m_X12_passesAll
  have f0 : fr SFl h (wI h 51 48 0) := fr_wI (fr.rf _ _) _ (by unfold SFl; omega)
  exact ⟨_, q_passesAll9 K hin hc l [] [] (wI h 51 48 0) rfl (I.fr (f0.mono SFl_Scr)) (L.fr f0 (by unfold SFl; omega) (by unfold SFl; omega)) ⟨rfl, by decide, fun k hk => by simp at hk⟩ (by simp) (fun h' f F => k h' (f0.trans f) F)⟩
set_option maxHeartbeats 4000000 in
set_option maxRecDepth 100000 in
theorem q_choices4 {x : Ab} {l : List Nat} {h : Hp} {Q : Int32 → Hp → Prop} (I : InvR x h) (K : OkA x) (hin : inD x l) (L : LstIs l h) : ∀ (rest pre : List Nat), l = pre ++ rest → Q (n32 (bChs (aD x) l)) h → m_X12_choicesAtHand_4 (rest.length + 1) Q (n32 (bChs (aD x) pre)) (n32 pre.length) h := by
  intro rest
  have e55 := L.1; have l6 := L.2.1
  induction rest with
  | nil =>
    intro pre e k
    rw [List.append_nil] at e
    subst e
    rw [List.length_nil, m_X12_choicesAtHand_4]
    simp (disch := omega) only [↓m1_pm, lit32, n32_add, n32_mul, n32_ix, n32_lt, n32_le, n32_eq, n32_in, pm_ix, pm_in, pm_eqn, n_eqpm, pm_ltn, n_ltpm, pm_len, n_lepm, pm_inj, forall_eq, e55]
    exact ⟨fun _ => k, fun z => absurd (Nat.le_refl _) z⟩
  | cons d rest ih =>
    intro pre e k
    have e85 : hI h 85 pre.length = n32 d := by have := L.2.2; rw [e] at this; exact this.mid
    have hlen : l.length = pre.length + (rest.length + 1) := by rw [e]; simp
    have hd : d < (aD x).length := hin d (by rw [e]; simp)
    have hnd := I.2.1.2.1
    have e56 := (I.2.1.2.2 d hd).2.2.2.1
    rw [List.length_cons, m_X12_choicesAtHand_4]
    simp (disch := omega) only [↓m1_pm, lit32, n32_add, n32_mul, n32_ix, n32_lt, n32_le, n32_eq, n32_in, pm_ix, pm_in, pm_eqn, n_eqpm, pm_ltn, n_ltpm, pm_len, n_lepm, pm_inj, forall_eq, e55, e85, e56]
    refine ⟨fun z => absurd z (by omega), fun _ => ⟨by omega, by omega, ?_⟩⟩
    have := ih (pre ++ [d]) (by rw [e]; simp) k
    rw [bChs_app, show bChs (aD x) [d] = dC (aD x) d by simp [bChs], List.length_append, List.length_singleton] at this
    exact this
theorem q_choices {x : Ab} {l : List Nat} {h : Hp} {Q : Int32 → Hp → Prop} (I : InvR x h) (K : OkA x) (hin : inD x l) (L : LstIs l h) (k : Q (n32 (bChs (aD x) l)) h) : m_X12_choicesAtHand h Q := ⟨_, q_choices4 I K hin L l [] rfl k⟩
set_option maxHeartbeats 4000000 in
set_option maxRecDepth 100000 in
theorem q_events4 {x : Ab} {l : List Nat} {h : Hp} {Q : Int32 → Hp → Prop} (I : InvR x h) (K : OkA x) (hin : inD x l) (L : LstIs l h) : ∀ (rest pre : List Nat), l = pre ++ rest → Q (n32 (bEvs (aD x) l)) h → m_X12_eventsAtHand_4 (rest.length + 1) Q (n32 (bEvs (aD x) pre)) (n32 pre.length) h := by
  intro rest
  have e55 := L.1; have l6 := L.2.1
  induction rest with
  | nil =>
    intro pre e k
    rw [List.append_nil] at e
    subst e
    rw [List.length_nil, m_X12_eventsAtHand_4]
    simp (disch := omega) only [↓m1_pm, lit32, n32_add, n32_mul, n32_ix, n32_lt, n32_le, n32_eq, n32_in, pm_ix, pm_in, pm_eqn, n_eqpm, pm_ltn, n_ltpm, pm_len, n_lepm, pm_inj, forall_eq, e55]
    exact ⟨fun _ => k, fun z => absurd (Nat.le_refl _) z⟩
  | cons d rest ih =>
    intro pre e k
    have e85 : hI h 85 pre.length = n32 d := by have := L.2.2; rw [e] at this; exact this.mid
    have hlen : l.length = pre.length + (rest.length + 1) := by rw [e]; simp
    have hd : d < (aD x).length := hin d (by rw [e]; simp)
    have hnd := I.2.1.2.1
    have e57 := (I.2.1.2.2 d hd).2.2.2.2.1
    have a1 := bEvs_lt K (l := pre) (fun q hq => hin q (by rw [e]; simp [hq]))
    have a2 := K.e32 hd
    rw [List.length_cons, m_X12_eventsAtHand_4]
    simp (disch := omega) only [↓m1_pm, lit32, n32_add, n32_mul, n32_ix, n32_lt, n32_le, n32_eq, n32_in, pm_ix, pm_in, pm_eqn, n_eqpm, pm_ltn, n_ltpm, pm_len, n_lepm, pm_inj, forall_eq, e55, e85, e57, n32_or]
    refine ⟨fun z => absurd z (by omega), fun _ => ⟨by omega, by omega, ?_⟩⟩
    have := ih (pre ++ [d]) (by rw [e]; simp) k
    rw [bEvs_app, List.length_append, List.length_singleton] at this
    exact this
theorem q_events {x : Ab} {l : List Nat} {h : Hp} {Q : Int32 → Hp → Prop} (I : InvR x h) (K : OkA x) (hin : inD x l) (L : LstIs l h) (k : Q (n32 (bEvs (aD x) l)) h) : m_X12_eventsAtHand h Q := ⟨_, q_events4 I K hin L l [] rfl k⟩
def popK (v k : Nat) : Nat := ((List.range k).map (fun j => (v >>> j) % 2)).sum
theorem popK_succ (v k : Nat) : popK v (k + 1) = popK v k + (v >>> k) % 2 := by simp [popK, List.range_succ]
theorem popK_le (v : Nat) : ∀ k, popK v k ≤ k
  | 0 => by simp [popK]
  | k + 1 => by
    rw [popK_succ]
    have := popK_le v k
    have : (v >>> k) % 2 < 2 := Nat.mod_lt _ (by decide)
    omega
set_option maxHeartbeats 4000000 in
set_option maxRecDepth 100000 in
theorem q_bits4 {v : Nat} {h : Hp} {Q : Int32 → Hp → Prop} (hv : v < 2147483648) (k : Q (n32 (pop v)) h) : ∀ (r j : Nat), r + j = 24 → m_X12_bitsOf_4 (r + 1) Q (n32 v) (n32 (popK v j)) (n32 j) h := by
  intro r
  induction r with
  | zero =>
    intro j hj
    obtain rfl : j = 24 := by omega
    rw [m_X12_bitsOf_4]
    simp (disch := omega) only [↓m1_pm, lit32, n32_add, n32_mul, n32_ix, n32_lt, n32_le, n32_eq, n32_in, pm_ix, pm_in, pm_eqn, n_eqpm, pm_ltn, n_ltpm, pm_len, n_lepm, pm_inj, forall_eq]
    exact ⟨fun _ => k, fun z => absurd (Nat.le_refl _) z⟩
  | succ r ih =>
    intro j hj
    rw [m_X12_bitsOf_4]
    simp (disch := omega) only [↓m1_pm, lit32, n32_add, n32_mul, n32_ix, n32_lt, n32_le, n32_eq, n32_in, pm_ix, pm_in, pm_eqn, n_eqpm, pm_ltn, n_ltpm, pm_len, n_lepm, pm_inj, forall_eq, n32_bit]
    refine ⟨fun z => absurd z (by omega), fun _ => ?_⟩
    have := ih (j + 1) (by omega)
    rw [popK_succ] at this
    exact this
theorem q_bits {v : Nat} {h : Hp} {Q : Int32 → Hp → Prop} (hv : v < 2147483648) (k : Q (n32 (pop v)) h) : m_X12_bitsOf (n32 v) h Q := ⟨25, q_bits4 hv k 24 0 rfl⟩
theorem q_looked {x : Ab} {l : List Nat} {h : Hp} {Q : Int32 → Hp → Prop} (I : InvR x h) (K : OkA x) (hin : inD x l) (L : LstIs l h) (k1 : looked (aD x) l → Q 1 h) (k2 : ¬ looked (aD x) l → Q 0 h) : m_X12_isLookedAt h Q := by
  unfold m_X12_isLookedAt
  have a1 := bEvs_lt K hin
  have a2 := bChs_le K hin
  have a3 := popK_le (bEvs (aD x) l) 24
  have a4 := L.2.1
  refine q_events I K hin L (q_bits (by omega) (q_choices I K hin L ?_))
  have e : pop (bEvs (aD x) l) = popK (bEvs (aD x) l) 24 := rfl
  simp (disch := omega) only [↓m1_pm, lit32, n32_add, n32_mul, n32_ix, n32_lt, n32_le, n32_eq, n32_in, pm_ix, pm_in, pm_eqn, n_eqpm, pm_ltn, n_ltpm, pm_len, n_lepm, pm_inj, forall_eq, e]
  unfold looked at k1 k2
  rw [e] at k1 k2
  exact ⟨fun c => k2 (by omega), fun c => k1 (by omega)⟩
theorem q_codesN {x : Ab} {l : List Nat} {h : Hp} {Q : Int32 → Hp → Prop} (I : InvR x h) (K : OkA x) (hin : inD x l) (L : LstIs l h) (k : Q (n32 (32 * 2 ^ bChs (aD x) l)) h) : m_X12_codesAtHand h Q := by
  unfold m_X12_codesAtHand
  have a2 := bChs_le K hin
  have a4 := L.2.1
  refine q_choices I K hin L ?_
  have hp : 2 ^ bChs (aD x) l ≤ 2 ^ 18 := Nat.pow_le_pow_right (by decide) (by omega)
  rw [show (32 : Int32) = n32 32 from rfl, show (31 : Int32) = n32 31 from rfl, n32_shl (by omega) (by omega)]
  exact k
def nCod (D : List Dl) (l : List Nat) : Nat := 32 * 2 ^ bChs D l
def isCod (D : List Dl) (l : List Nat) (c : Nat) : Bool := c &&& (31 - bEvs D l) == 0
def codFrom (D : List Dl) (l : List Nat) (c : Nat) : List Nat := (List.range' c (nCod D l - c)).filter (isCod D l)
theorem codFrom0 (D : List Dl) (l : List Nat) : codFrom D l 0 = codesL D l := by
  unfold codFrom codesL isCod nCod
  rw [List.range_eq_range']
  rfl
theorem codFrom_end {D : List Dl} {l : List Nat} {c : Nat} (h : nCod D l ≤ c) : codFrom D l c = [] := by
  unfold codFrom
  rw [show nCod D l - c = 0 by omega]
  rfl
theorem codFrom_yes {D : List Dl} {l : List Nat} {c : Nat} (h : c < nCod D l) (q : isCod D l c = true) : codFrom D l c = c :: codFrom D l (c + 1) := by
  unfold codFrom
  rw [show nCod D l - c = (nCod D l - (c + 1)) + 1 by omega, List.range'_succ, List.filter_cons, if_pos q]
theorem codFrom_no {D : List Dl} {l : List Nat} {c : Nat} (h : c < nCod D l) (q : ¬ isCod D l c = true) : codFrom D l c = codFrom D l (c + 1) := by
  unfold codFrom
  rw [show nCod D l - c = (nCod D l - (c + 1)) + 1 by omega, List.range'_succ, List.filter_cons, if_neg q]
theorem nCod_le {x : Ab} (K : OkA x) {l : List Nat} (hin : inD x l) (hl : l.length ≤ 6) : nCod (aD x) l ≤ 8388608 := by
  have a2 := bChs_le K hin
  have hp : 2 ^ bChs (aD x) l ≤ 2 ^ 18 := Nat.pow_le_pow_right (by decide) (by omega)
  unfold nCod
  omega
set_option maxHeartbeats 4000000 in
set_option maxRecDepth 100000 in
theorem q_codeFrom {x : Ab} {l : List Nat} {c : Nat} {h : Hp} {Q : Int32 → Hp → Prop} (I : InvR x h) (K : OkA x) (hin : inD x l) (L : LstIs l h) (hc : c ≤ nCod (aD x) l) (k1 : codFrom (aD x) l c = [] → Q (-1) h) (k2 : ∀ e, c ≤ e → e < nCod (aD x) l → codFrom (aD x) l c = e :: codFrom (aD x) l (e + 1) → Q (n32 e) h) : m_X12_codeFrom (n32 c) h Q := by
  unfold m_X12_codeFrom
  have a1 := bEvs_lt K hin
  have hN := nCod_le K hin L.2.1
  refine q_events I K hin L ?_
  rw [show (31 : Int32) = n32 31 from rfl, n32_sub (show bEvs (aD x) l ≤ 31 by omega)]
  simp (disch := omega) only [forall_eq]
  have main : ∀ (r c : Nat), r + c = nCod (aD x) l → (codFrom (aD x) l c = [] → Q (-1) h) → (∀ e, c ≤ e → e < nCod (aD x) l → codFrom (aD x) l c = e :: codFrom (aD x) l (e + 1) → Q (n32 e) h) → m_X12_codeFrom_10 (r + 1) (m_X12_codeFrom_30 Q) Q (n32 (31 - bEvs (aD x) l)) (n32 c) h := by
    intro r
    induction r with
    | zero =>
      intro c hr k1 k2
      rw [m_X12_codeFrom_10]
      unfold m_X12_codeFrom_30
      refine q_codesN I K hin L ?_
      rw [show 32 * 2 ^ bChs (aD x) l = nCod (aD x) l from rfl]
      simp (disch := omega) only [n32_le]
      refine ⟨fun _ => q_codesN I K hin L ?_, fun z => absurd z (by omega)⟩
      rw [show 32 * 2 ^ bChs (aD x) l = nCod (aD x) l from rfl]
      simp (disch := omega) only [n32_le]
      exact ⟨fun _ => k1 (codFrom_end (by omega)), fun z => absurd z (by omega)⟩
    | succ r ih =>
      intro c hr k1 k2
      rw [m_X12_codeFrom_10]
      refine q_codesN I K hin L ?_
      rw [show 32 * 2 ^ bChs (aD x) l = nCod (aD x) l from rfl]
      have hand : c &&& (31 - bEvs (aD x) l) ≤ c := Nat.and_le_left
      simp (disch := omega) only [↓m1_pm, lit32, n32_add, n32_mul, n32_ix, n32_lt, n32_le, n32_eq, n32_in, pm_ix, pm_in, pm_eqn, n_eqpm, pm_ltn, n_ltpm, pm_len, n_lepm, pm_inj, forall_eq, n32_and]
      refine ⟨fun z => absurd z (by omega), fun _ => ⟨fun q => ?_, fun q => ?_⟩⟩
      · unfold m_X12_codeFrom_30
        refine q_codesN I K hin L ?_
        rw [show 32 * 2 ^ bChs (aD x) l = nCod (aD x) l from rfl]
        simp (disch := omega) only [n32_le]
        refine ⟨fun z => absurd z (by omega), fun _ => k2 c (Nat.le_refl _) (by omega) (codFrom_yes (by omega) ?_)⟩
        unfold isCod
        simpa using q
      · have e := codFrom_no (D := aD x) (l := l) (c := c) (by omega) (by unfold isCod; simpa using q)
        rw [e] at k1 k2
        exact ih (c + 1) (by omega) k1 (fun e' h1 h2 h3 => k2 e' (by omega) h2 h3)
  exact ⟨_, main (nCod (aD x) l - c) c (by omega) k1 k2⟩
def SLs (a k : Nat) : Prop := a = 85 ∨ a = 51 ∧ k = 55
theorem SLs_Scr : ∀ a k, SLs a k → Scr a k := by unfold SLs Scr Last; omega
set_option maxHeartbeats 4000000 in
set_option maxRecDepth 100000 in
theorem q_bundle {x : Ab} {h : Hp} {Q : Hp → Prop} (I : InvR x h) (k : ∀ h', fr SLs h h' → LstIs (aB x) h' → Q h') : m_X12_bundleAtHand h Q := by
  unfold m_X12_bundleAtHand
  obtain ⟨b1, b2, b3, -⟩ := I.2.2.2.2.2.2.2.1
  have main : ∀ (r j : Nat) (h' : Hp), r + j = (aB x).length → fr SLs h h' → hI h' 51 55 = n32 (aB x).length → (∀ i, i < j → hI h' 85 i = n32 ((aB x).getD i 0)) → m_X12_bundleAtHand_10 (r + 1) Q (n32 j) h' := by
    intro r
    induction r with
    | zero =>
      intro j h' hr f e55 e85
      have e54 : hI h' 51 54 = n32 (aB x).length := by rw [f.I (by unfold SLs; omega)]; exact b1
      rw [m_X12_bundleAtHand_10]
      simp (disch := omega) only [n32_le, e54]
      exact ⟨fun _ => k h' f ⟨e55, b2, fun i hi => e85 i (by omega)⟩, fun z => absurd z (by omega)⟩
    | succ r ih =>
      intro j h' hr f e55 e85
      have e54 : hI h' 51 54 = n32 (aB x).length := by rw [f.I (by unfold SLs; omega)]; exact b1
      have e84 : hI h' 84 j = n32 ((aB x).getD j 0) := by rw [f.I (by unfold SLs; omega)]; exact b3 j (by omega)
      rw [m_X12_bundleAtHand_10]
      simp (disch := omega) only [↓m1_pm, lit32, n32_add, n32_mul, n32_ix, n32_lt, n32_le, n32_eq, n32_in, pm_ix, pm_in, pm_eqn, n_eqpm, pm_ltn, n_ltpm, pm_len, n_lepm, pm_inj, forall_eq, e54, e84]
      refine ⟨fun z => absurd z (by omega), fun _ => ⟨by omega, by omega, ?_⟩⟩
      refine ih (j + 1) _ (by omega) (fr_wI f _ (by unfold SLs; omega)) (by simp (disch := omega) only [hI_wI, hI_wJ, hI_wR, hJ_wJ, hJ_wI, hJ_wR, hR_wR, hR_wI, hR_wJ, Nat.reduceEqDiff, false_and, and_false, if_false, if_true, ite_true, ite_false, reduceIte]; exact e55) (fun i hi => ?_)
      rw [hI_wI]
      by_cases e : i = j
      · subst e; simp
      · rw [if_neg (by omega)]; exact e85 i (by omega)
  refine ⟨_, main (aB x).length 0 _ (by omega) (fr_wI (fr.rf _ _) _ (by unfold SLs; omega)) ?_ (fun i hi => by omega)⟩
  simp (disch := omega) only [hI_wI, hI_wJ, hI_wR, hJ_wJ, hJ_wI, hJ_wR, hR_wR, hR_wI, hR_wJ, Nat.reduceEqDiff, false_and, and_false, if_false, if_true, ite_true, ite_false, reduceIte]
  simp [b1]
