/-! THE MODEL: same -/
def sameK (q r : Rec) : Bool := q 0 == r 0 && q 1 == r 1 && q 2 == r 2 && q 3 == r 3
/-- how much of all that goes the same way -/
def amt (fl : List Rec) (r : Rec) : Nat := (fl.map (fun q => if sameK q r then q 4 else 0)).sum
def apB (D : List Dl) (a b c : Nat) : Bool := (nz (dlRows (dL D a) (own c 0)) ++ nz (dlRows (dL D b) (own c 0))).any (fun r => amt (nz (dlRows (dL D a) (own c 0))) r != amt (nz (dlRows (dL D b) (own c 0))) r)
theorem amt_cons (q : Rec) (fl : List Rec) (r : Rec) : amt (q :: fl) r = (if sameK q r then q 4 else 0) + amt fl r := by simp [amt]
theorem amt_le (r : Rec) : ∀ {fl : List Rec}, (∀ q ∈ fl, RowOk q) → amt fl r ≤ 10000000000 * fl.length
  | [], _ => by simp [amt]
  | q :: fl, h => by
    have ih := amt_le r (fl := fl) (fun p hp => h p (by simp [hp]))
    have h1 := (h q (by simp)).2.2.2.2.2
    rw [amt_cons, List.length_cons]
    split <;> omega
set_option maxHeartbeats 4000000 in
set_option maxRecDepth 100000 in
theorem q_among {fl pre mid post : List Rec} {k : Nat} {h : Hp} {Q : Int64 → Hp → Prop} (A : FlA fl h) (ok : ∀ q ∈ fl, RowOk q) (e : fl = pre ++ (mid ++ post)) (hk : k < fl.length) (kk : Q (z64 (amt mid (fl.getD k rec0) : Nat)) h) : m_X12_among (n32 pre.length) (n32 (pre.length + mid.length)) (n32 k) h Q := by
  unfold m_X12_among
  have l256 := A.2.1
  obtain ⟨r0, r1, r2, r3, -⟩ := A.2.2 k hk
  have hr := ok _ (getD_in hk)
  generalize fl.getD k rec0 = r at r0 r1 r2 r3 hr kk
  have hlen : fl.length = pre.length + (mid.length + post.length) := by rw [e]; simp
  have main : ∀ (rest done : List Rec) (acc : Nat), mid = done ++ rest → Q (z64 (acc + amt rest r : Nat)) h → m_X12_among_6 (rest.length + 1) Q (n32 (pre.length + mid.length)) (n32 k) (z64 (acc : Nat)) (n32 (pre.length + done.length)) h := by
    intro rest
    induction rest with
    | nil =>
      intro done acc em kq
      have hm : mid.length = done.length := by rw [em]; simp
      rw [List.length_nil, m_X12_among_6]
      simp (disch := omega) only [↓m1_pm, lit32, n32_add, n32_mul, n32_ix, n32_lt, n32_le, n32_eq, n32_in, pm_ix, pm_in, pm_eqn, n_eqpm, pm_ltn, n_ltpm, pm_len, n_lepm, pm_inj, forall_eq]
      exact ⟨fun _ => by simpa [amt] using kq, fun z => absurd z (by omega)⟩
    | cons q rest ih =>
      intro done acc em kq
      have hm : mid.length = done.length + (rest.length + 1) := by rw [em]; simp
      have hj : (pre ++ done).length < fl.length := by rw [List.length_append]; omega
      have ej : fl = (pre ++ done) ++ q :: (rest ++ post) := by rw [e, em]; simp
      have hmid := A
      rw [ej] at hmid
      obtain ⟨g0, g1, g2, g3, g4⟩ := hmid.mid
      rw [List.length_append] at g0 g1 g2 g3 g4 hj
      have hq := ok q (by rw [ej]; simp)
      obtain ⟨o0, o1, o2, -, o3, o4⟩ := hq
      obtain ⟨p0, p1, p2, -, p3, -⟩ := hr
      rw [amt_cons] at kq
      have next : ∀ acc' : Nat, acc' = acc + (if sameK q r then q 4 else 0) → m_X12_among_88 (fun v2 v3 v4 v6 hh => m_X12_among_6 (rest.length + 1) Q v2 v3 v4 v6 hh) Q (n32 (pre.length + mid.length)) (n32 k) (z64 (acc' : Nat)) (n32 (pre.length + done.length)) h := by
        rintro acc' rfl
        unfold m_X12_among_88
        simp (disch := omega) only [↓m1_pm, lit32, n32_add, n32_mul, n32_ix, n32_lt, n32_le, n32_eq, n32_in, pm_ix, pm_in, pm_eqn, n_eqpm, pm_ltn, n_ltpm, pm_len, n_lepm, pm_inj, forall_eq]
        have := ih (done ++ [q]) _ (by rw [em]; simp) (by rw [Nat.add_assoc]; exact kq)
        rw [List.length_append, List.length_singleton, ← Nat.add_assoc] at this
        exact this
      have skip : sameK q r = false → m_X12_among_88 (fun v2 v3 v4 v6 hh => m_X12_among_6 (rest.length + 1) Q v2 v3 v4 v6 hh) Q (n32 (pre.length + mid.length)) (n32 k) (z64 (acc : Nat)) (n32 (pre.length + done.length)) h := fun z => next acc (by rw [z]; simp)
      rw [List.length_cons, m_X12_among_6]
      simp (disch := omega) only [↓m1_pm, lit32, n32_add, n32_mul, n32_ix, n32_lt, n32_le, n32_eq, n32_in, pm_ix, pm_in, pm_eqn, n_eqpm, pm_ltn, n_ltpm, pm_len, n_lepm, pm_inj, forall_eq, g0, g1, g2, g3, g4, r0, r1, r2, r3, z64_add]
      refine ⟨fun z => absurd z (by omega), fun _ => ⟨by omega, by omega, fun c => skip (by simp [sameK, c]), fun c0 => ⟨by omega, by omega, fun c => skip (by simp [sameK, c]), fun c1 => ⟨by omega, by omega, fun c => skip (by simp [sameK, c]), fun c2 => ⟨by omega, by omega, fun c => skip (by simp [sameK, c]), fun c3 => ⟨by omega, ?_⟩⟩⟩⟩⟩⟩
      have := next (acc + q 4) (by simp [sameK, c0, c1, c2, c3])
      rw [Int.natCast_add] at this
      exact this
  have := main mid [] 0 rfl (by rw [Nat.zero_add]; exact kk)
  exact ⟨_, this⟩
def mostC (D : List Dl) (a b : Nat) : Nat := if dC D a ≤ dC D b then dC D b else dC D a
def ansSame (x : Ab) (v1 v2 : Int32) : Int32 := match argN v1 (aD x).length, argN v2 (aD x).length with
  | some a, some b => pm (opN (fsome (fun c => if apB (aD x) a b c then some c else none) 0 (32 * 2 ^ mostC (aD x) a b)))
  | _, _ => -2
set_option maxHeartbeats 4000000 in
set_option maxRecDepth 100000 in
theorem R_same {x : Ab} {v1 v2 : Int32} {h : Hp} {Q : Int32 → Hp → Prop} (I : InvR x h) (K : OkA x) (k : ∀ h', fr Scr h h' → Q (ansSame x v1 v2) h') : m_X12_same v1 v2 h Q := by
  unfold m_X12_same
  unfold ansSame at k
  have hl := I.2.1.2.1
  refine q_isDeal I.2.1 (fun e => ?_) (fun a ha e1 e2 => ?_)
  · rw [e] at k; exact ⟨fun _ => k h (fr.rf _ _), fun z => absurd rfl z⟩
  · rw [e2] at k
    refine ⟨fun z => absurd z (by decide), fun _ => ?_⟩
    refine q_isDeal I.2.1 (fun e => ?_) (fun b hb e3 e4 => ?_)
    · rw [e] at k; exact ⟨fun z => absurd rfl z, fun _ => k h (fr.rf _ _)⟩
    · rw [e4] at k
      dsimp only at k
      subst e1; subst e3
      refine ⟨fun _ => ?_, fun z => absurd z (by decide)⟩
      have va := vpI (n := 24) (a := a) (by omega) (by decide)
      have vb := vpI (n := 24) (a := b) (by omega) (by decide)
      have ea := (I.2.1.2.2 a ha).2.2.2.1
      have eb := (I.2.1.2.2 b hb).2.2.2.1
      have ca := K.c3 ha
      have cb := K.c3 hb
      have la := K.l12 ha
      have lb := K.l12 hb
      rw [n32_ix (by omega), n32_ix (by omega), ea, eb]
      have okc : ∀ c, (∀ q ∈ nz (dlRows (dL (aD x) a) (own c 0)), RowOk q) ∧ (∀ q ∈ nz (dlRows (dL (aD x) b) (own c 0)), RowOk q) ∧ (nz (dlRows (dL (aD x) a) (own c 0))).length ≤ 36 ∧ (nz (dlRows (dL (aD x) b) (own c 0))).length ≤ 36 := by
        intro c
        refine ⟨fun q hq => dlRows_ok (K.1 a ha).1.2.2.2.2.2.2.1 q (List.mem_filter.mp hq).1, fun q hq => dlRows_ok (K.1 b hb).1.2.2.2.2.2.2.1 q (List.mem_filter.mp hq).1, ?_, ?_⟩
        · have := dlRows_len (own c 0) (dL (aD x) a)
          exact Nat.le_trans (List.length_filter_le _ _) (by omega)
        · have := dlRows_len (own c 0) (dL (aD x) b)
          exact Nat.le_trans (List.length_filter_le _ _) (by omega)
      have main : ∀ m : Nat, m ≤ 3 → m = mostC (aD x) a b → m_X12_same_49 Q (n32 a) (n32 b) (n32 m) h := by
        intro m hm em
        unfold m_X12_same_49
        rw [← em] at k
        have hp : 2 ^ m ≤ 2 ^ 3 := pw_le hm
        have loop : ∀ (r c : Nat) (h1 : Hp), r + c = 32 * 2 ^ m → fr SFl h h1 → fsome (fun c => if apB (aD x) a b c then some c else none) c (32 * 2 ^ m) = fsome (fun c => if apB (aD x) a b c then some c else none) 0 (32 * 2 ^ m) → m_X12_same_53 (r + 1) Q (n32 a) (n32 b) (n32 m) (n32 c) h1 := by
          intro r
          induction r with
          | zero =>
            intro c h1 hr f1 es
            rw [m_X12_same_53, show (32 : Int32) = n32 32 from rfl, show (31 : Int32) = n32 31 from rfl, n32_shl (by omega) (by omega)]
            refine ⟨fun _ => ?_, fun z => ?_⟩
            · rw [fsome_end (by omega)] at es
              have := k h1 (f1.mono SFl_Scr)
              rw [← es] at this
              exact this
            · rw [n32_le (by omega) (by omega)] at z; omega
          | succ r ih =>
            intro c h1 hr f1 es
            rw [m_X12_same_53, show (32 : Int32) = n32 32 from rfl, show (31 : Int32) = n32 31 from rfl, n32_shl (by omega) (by omega)]
            refine ⟨fun z => ?_, fun _ => ?_⟩
            · rw [n32_le (by omega) (by omega)] at z; omega
            · have f2 : fr SFl h (wI h1 51 48 0) := fr_wI f1 _ (by unfold SFl; omega)
              have I2 := I.fr (f2.mono SFl_Scr)
              obtain ⟨o1, o2, o3, o4⟩ := okc c
              refine q_passes (bf := 0) (fl := []) I2 K ha (by omega) (by omega) ⟨rfl, by decide, fun k hk => by simp at hk⟩ (by decide) (fun h3 f3 A3 => ?_)
              rw [List.nil_append] at A3
              have I3 := I2.fr (f3.mono SFl_Scr)
              intro x9 e9
              rw [e9, A3.1]
              refine q_passes (bf := 0) I3 K hb (by omega) (by omega) A3 (by omega) (fun h4 f4 A4 => ?_)
              have f14 : fr SFl h h4 := (f2.trans f3).trans f4
              have ap : apB (aD x) a b c = (nz (dlRows (dL (aD x) a) (own c 0)) ++ nz (dlRows (dL (aD x) b) (own c 0))).any (fun r => amt (nz (dlRows (dL (aD x) a) (own c 0))) r != amt (nz (dlRows (dL (aD x) b) (own c 0))) r) := rfl
              generalize nz (dlRows (dL (aD x) a) (own c 0)) = X at A4 o1 o3 ap
              generalize nz (dlRows (dL (aD x) b) (own c 0)) = Y at A4 o2 o4 ap
              have ok : ∀ q ∈ X ++ Y, RowOk q := fun q hq => by
                rw [List.mem_append] at hq
                rcases hq with hq | hq
                · exact o1 q hq
                · exact o2 q hq
              have hXY : (X ++ Y).length = X.length + Y.length := List.length_append
              have rows : ∀ (s j : Nat), s + j = (X ++ Y).length → (∀ i, i < j → amt X ((X ++ Y).getD i rec0) = amt Y ((X ++ Y).getD i rec0)) → m_X12_same_92 (s + 1) (m_X12_same_135 (fun v1 v2 v3 v4 hh => m_X12_same_53 (r + 1) Q v1 v2 v3 v4 hh) Q) Q (n32 a) (n32 b) (n32 m) (n32 c) (n32 X.length) (n32 j) h4 := by
                intro s
                induction s with
                | zero =>
                  intro j hs hall
                  rw [m_X12_same_92, A4.1]
                  refine ⟨fun _ => ?_, fun z => ?_⟩
                  · unfold m_X12_same_135
                    intro x1 e1
                    rw [e1, show n32 c + 1 = n32 (c + 1) from n32_add c 1]
                    refine ih (c + 1) h4 (by omega) f14 ?_
                    rw [← fsome_no (by omega)]
                    · exact es
                    · have : apB (aD x) a b c = false := by
                        rw [ap, List.any_eq_false]
                        intro q hq
                        obtain ⟨i, hi, e⟩ := List.getElem_of_mem hq
                        have := hall i (by omega)
                        rw [List.getD_eq_getElem?_getD, List.getElem?_eq_getElem hi] at this
                        rw [← e]
                        simp at this
                        simp [this]
                      rw [this]; rfl
                  · rw [n32_le (by omega) (by omega)] at z; omega
                | succ s ihs =>
                  intro j hs hall
                  rw [m_X12_same_92, A4.1]
                  refine ⟨fun z => ?_, fun _ => ?_⟩
                  · rw [n32_le (by omega) (by omega)] at z; omega
                  · have am1 := amt_le ((X ++ Y).getD j rec0) o1
                    have am2 := amt_le ((X ++ Y).getD j rec0) o2
                    have g1 := fun kk => q_among (Q := fun (x2 : Int64) (h3 : Hp) => m_X12_among (n32 X.length) (hI h3 51 48) (n32 j) h3 (fun (x4 : Int64) (h5 : Hp) => (lg_cmp x2 x4 = 0 → ∀ x6 : Int32, x6 = n32 j + 1 → m_X12_same_92 (s + 1) (m_X12_same_135 (fun v1 v2 v3 v4 hh => m_X12_same_53 (r + 1) Q v1 v2 v3 v4 hh) Q) Q (n32 a) (n32 b) (n32 m) (n32 c) (n32 X.length) x6 h5) ∧ (¬ lg_cmp x2 x4 = 0 → Q (n32 c) h5))) (pre := []) (mid := X) (post := Y) (k := j) A4 ok rfl (by omega) kk
                    have e0 : n32 ([] : List Rec).length = 0 := rfl
                    rw [e0, List.length_nil, Nat.zero_add] at g1
                    refine g1 ?_
                    rw [A4.1, hXY]
                    refine q_among (pre := X) (mid := Y) (post := []) A4 ok (by simp) (by omega) ?_
                    rw [show (0 : Int32) = n32 0 from rfl, lgc_eq (by omega) (by omega) (by omega) (by omega)]
                    refine ⟨fun z x6 e6 => ?_, fun z => ?_⟩
                    · rw [e6, show n32 j + 1 = n32 (j + 1) from n32_add j 1]
                      refine ihs (j + 1) (by omega) (fun i hi => ?_)
                      by_cases q : i = j
                      · subst q; omega
                      · exact hall i (by omega)
                    · have : apB (aD x) a b c = true := by
                        rw [ap, List.any_eq_true]
                        exact ⟨(X ++ Y).getD j rec0, getD_in (by omega), bne_iff_ne.mpr (fun e => z (by rw [e]))⟩
                      rw [fsome_yes (v := c) (by omega) (by rw [this]; rfl)] at es
                      have := k h4 (f14.mono SFl_Scr)
                      rw [← es] at this
                      exact this
              exact ⟨_, rows (X ++ Y).length 0 (by omega) (fun i hi => by omega)⟩
        exact ⟨_, loop (32 * 2 ^ m) 0 h (by omega) (fr.rf _ _) rfl⟩
      refine ⟨va, vb, fun q => ⟨vb, main _ cb ?_⟩, fun q => ⟨va, main _ ca ?_⟩⟩
      · rw [n32_le (by omega) (by omega)] at q
        unfold mostC; rw [if_pos q]
      · rw [n32_le (by omega) (by omega)] at q
        unfold mostC; rw [if_neg q]
