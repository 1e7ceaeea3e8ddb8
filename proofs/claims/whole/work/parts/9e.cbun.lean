/-! THE CLASS: rows of deals -/
theorem CBd.mid {x : Ab} {da : Nat → Nat} {a : Nat} {pre rest : List Nat} {d : Nat} {h : Hp} (B : CBd x da a (pre ++ d :: rest) h) : hR h (a + 1) pre.length = some (da d) ∧ d < (aD x).length ∧ pre.length < 6 := by
  have hl := B.2.1
  simp only [List.length_append, List.length_cons] at hl
  have e := B.2.2.1 pre.length (by simp)
  rw [getD_mid] at e
  exact ⟨e, B.2.2.2 d (by simp), by omega⟩
theorem CBd.mv {x : Ab} {da : Nat → Nat} {a : Nat} {l : List Nat} {h h' : Hp} {S : Nat → Nat → Prop} (B : CBd x da a l h) (f : fr S h h') (n1 : ¬ S a 1) (n2 : ∀ k, ¬ S (a + 1) k) : CBd x da a l h' :=
  ⟨by rw [f.I n1]; exact B.1, B.2.1, B.2.2.1.mv (fun k => f.R (n2 k)), B.2.2.2⟩
theorem CBun.bd {x : Ab} {da : Nat → Nat} {h : Hp} (C : CBun x da h) : CBd x da 11 (aB x) h := ⟨C.1, C.2.1, C.2.2.1, C.2.2.2.1⟩
theorem CDeal.c {D : List Dl} {h : Hp} {d a : Nat} (C : CDeal D h d a) : hI h a 3 = n32 (dC D d) := C.2.2.1
theorem CDeal.l {D : List Dl} {h : Hp} {d a : Nat} (C : CDeal D h d a) : hI h a 2 = n32 (dL D d).length := C.2.1
theorem CDeal.e {D : List Dl} {h : Hp} {d a : Nat} (C : CDeal D h d a) : hI h a 4 = n32 (dE D d) := C.2.2.2.1
theorem CDeal.r {D : List Dl} {h : Hp} {d a : Nat} (C : CDeal D h d a) : hI h a 6 = n32 (cRows (dL D d)).length := C.2.2.2.2.2.1
theorem c_choicesBefore {x : Ab} {da : Nat → Nat} {a p : Nat} {l : List Nat} {h : Hp} {Q : Int32 → Hp → Prop} (V : CVw x da h) (B : CBd x da a l h) (hp : p ≤ l.length) (k : Q (n32 (bChs (aD x) (l.take p))) h) : m_X0_choicesBefore a (n32 p) h Q := by
  have hl := B.2.1
  have main : ∀ (rest pre : List Nat), l.take p = pre ++ rest → m_X0_choicesBefore_4 (rest.length + 1) Q a (n32 p) (n32 (bChs (aD x) pre)) (n32 pre.length) h := by
    intro rest
    induction rest with
    | nil =>
      intro pre e
      rw [List.append_nil] at e
      have ep : pre.length = p := by rw [← e, List.length_take]; omega
      rw [m_X0_choicesBefore_4, n32_le (by omega) (by omega)]
      refine ⟨fun _ => ?_, fun z => absurd (by omega) z⟩
      rw [← e]; exact k
    | cons d rest ih =>
      intro pre e
      have el : (pre ++ d :: rest).length = p := by rw [← e, List.length_take]; omega
      simp only [List.length_append, List.length_cons] at el
      have eL : l = pre ++ d :: (rest ++ l.drop p) := by
        have z := List.take_append_drop p l
        rw [e, List.append_assoc, List.cons_append] at z
        exact z.symm
      have B' := B
      rw [eL] at B'
      obtain ⟨r, hd, h6⟩ := B'.mid
      rw [m_X0_choicesBefore_4, n32_le (by omega) (by omega), B.1, n32_le (by omega) (by omega), n32_ix (by omega)]
      refine ⟨fun z => absurd z (by omega), fun _ => ⟨fun z => absurd z (by omega), fun _ => ⟨vpI h6 (by decide), da d, r, fun x2 e2 x3 e3 => ?_⟩⟩⟩
      rw [e2, e3, (V.2.2 d hd).1.c, n32_add, show n32 pre.length + 1 = n32 (pre.length + 1) from n32_add _ 1]
      have := ih (pre ++ [d]) (by rw [e]; simp)
      rw [bChs_app, List.length_append] at this
      have e1 : bChs (aD x) [d] = dC (aD x) d := by simp [bChs]
      rw [e1] at this
      exact this
  exact ⟨_, main (l.take p) [] rfl⟩
theorem c_allChoices {x : Ab} {da : Nat → Nat} {a : Nat} {l : List Nat} {h : Hp} {Q : Int32 → Hp → Prop} (V : CVw x da h) (B : CBd x da a l h) (k : Q (n32 (bChs (aD x) l)) h) : m_X0_allChoices a h Q := by
  unfold m_X0_allChoices
  rw [B.1]
  refine c_choicesBefore V B (Nat.le_refl _) ?_
  rw [List.take_length]; exact k
theorem c_allLeaves {x : Ab} {da : Nat → Nat} {a : Nat} {l : List Nat} {h : Hp} {Q : Int32 → Hp → Prop} (V : CVw x da h) (B : CBd x da a l h) (k : Q (n32 (bLvs (aD x) l)) h) : m_X0_allLeaves a h Q := by
  have hl := B.2.1
  have main : ∀ (rest pre : List Nat), l = pre ++ rest → m_X0_allLeaves_4 (rest.length + 1) Q a (n32 (bLvs (aD x) pre)) (n32 pre.length) h := by
    intro rest
    induction rest with
    | nil =>
      intro pre e
      rw [List.append_nil] at e
      subst e
      rw [m_X0_allLeaves_4, B.1, n32_le (by omega) (by omega)]
      exact ⟨fun _ => k, fun z => absurd (Nat.le_refl _) z⟩
    | cons d rest ih =>
      intro pre e
      have B' := B
      rw [e] at B'
      obtain ⟨r, hd, h6⟩ := B'.mid
      have el : l.length = pre.length + (rest.length + 1) := by rw [e]; simp
      rw [m_X0_allLeaves_4, B.1, n32_le (by omega) (by omega), n32_ix (by omega)]
      refine ⟨fun z => absurd z (by omega), fun _ => ⟨vpI h6 (by decide), da d, r, fun x2 e2 x3 e3 => ?_⟩⟩
      rw [e2, e3, (V.2.2 d hd).1.l, n32_add, show n32 pre.length + 1 = n32 (pre.length + 1) from n32_add _ 1]
      have := ih (pre ++ [d]) (by rw [e]; simp)
      rw [bLvs_app, List.length_append] at this
      have e1 : bLvs (aD x) [d] = (dL (aD x) d).length := by simp [bLvs]
      rw [e1] at this
      exact this
  exact ⟨_, main l [] rfl⟩
/-- the bits of events and choices -/
def nmB (D : List Dl) (l : List Nat) : Nat := bEvs D l + 32 * (2 ^ bChs D l - 1)
theorem pop_nm : ∀ e : Fin 32, ∀ c : Fin 19, pop (e.val + 32 * (2 ^ c.val - 1)) = pop e.val + c.val := by decide +kernel
theorem pop_nmB {x : Ab} (K : OkA x) {l : List Nat} (hin : inD x l) (hl : l.length ≤ 6) : pop (nmB (aD x) l) = pop (bEvs (aD x) l) + bChs (aD x) l ∧ nmB (aD x) l < 8388608 := by
  have h1 := bEvs_lt K hin
  have h2 := bChs_le K hin
  refine ⟨pop_nm ⟨_, h1⟩ ⟨bChs (aD x) l, by omega⟩, ?_⟩
  unfold nmB
  have := pw_le (show bChs (aD x) l ≤ 18 by omega)
  have := Nat.two_pow_pos (bChs (aD x) l)
  omega
theorem or_hi {e : Nat} (h : e < 32) (u : Nat) : e ||| (u * 32) = e + 32 * u := by
  have := Nat.two_pow_add_eq_or_of_lt (i := 5) (b := e) h u
  rw [Nat.or_comm, show u * 32 = 2 ^ 5 * u by omega, ← this]; omega
theorem c_namedBits {x : Ab} {da : Nat → Nat} {a : Nat} {l : List Nat} {h : Hp} {Q : Int32 → Hp → Prop} (V : CVw x da h) (K : OkA x) (B : CBd x da a l h) (k : Q (n32 (nmB (aD x) l)) h) : m_X0_namedBits a h Q := by
  have hl := B.2.1
  have main : ∀ (rest pre : List Nat), l = pre ++ rest → m_X0_namedBits_4 (rest.length + 1) (m_X0_namedBits_30 Q) Q a (n32 (bEvs (aD x) pre)) (n32 pre.length) h := by
    intro rest
    induction rest with
    | nil =>
      intro pre e
      rw [List.append_nil] at e
      subst e
      rw [m_X0_namedBits_4, B.1, n32_le (by omega) (by omega)]
      refine ⟨fun _ => ?_, fun z => absurd (Nat.le_refl _) z⟩
      unfold m_X0_namedBits_30
      refine c_allChoices V B ?_
      have h1 := bEvs_lt K B.2.2.2
      have h2 := bChs_le K B.2.2.2
      have p1 := pw_le (show bChs (aD x) l ≤ 18 by omega)
      have p2 := Nat.two_pow_pos (bChs (aD x) l)
      have n := (pop_nmB K B.2.2.2 hl).2
      rw [show (1 : Int32) = n32 1 from rfl, show (31 : Int32) = n32 31 from rfl, shl1 (by omega), n32_sub (by omega), show (5 : Int32) = n32 5 from rfl, n32_shl (by decide) (by omega), n32_or (by omega) (by omega), show (2 : Nat) ^ 5 = 32 from rfl, or_hi h1]
      exact k
    | cons d rest ih =>
      intro pre e
      have B' := B
      rw [e] at B'
      obtain ⟨r, hd, h6⟩ := B'.mid
      have el : l.length = pre.length + (rest.length + 1) := by rw [e]; simp
      have hp : inD x pre := fun z hz => B.2.2.2 z (by rw [e]; simp [hz])
      have b1 := bEvs_lt K hp
      have b2 := K.e32 hd
      rw [m_X0_namedBits_4, B.1, n32_le (by omega) (by omega), n32_ix (by omega)]
      refine ⟨fun z => absurd z (by omega), fun _ => ⟨vpI h6 (by decide), da d, r, fun x2 e2 x3 e3 => ?_⟩⟩
      rw [e2, e3, (V.2.2 d hd).1.e, n32_or (by omega) (by omega), show n32 pre.length + 1 = n32 (pre.length + 1) from n32_add _ 1]
      have := ih (pre ++ [d]) (by rw [e]; simp)
      rw [bEvs_app, List.length_append] at this
      exact this
  exact ⟨_, main l [] rfl⟩
theorem c_isLooked {x : Ab} {da : Nat → Nat} {a : Nat} {l : List Nat} {h : Hp} {Q : Int32 → Hp → Prop} (V : CVw x da h) (K : OkA x) (B : CBd x da a l h) (k1 : pop (bEvs (aD x) l) + bChs (aD x) l ≤ 8 → Q 1 h) (k0 : ¬ pop (bEvs (aD x) l) + bChs (aD x) l ≤ 8 → Q 0 h) : m_X0_isLooked a h Q := by
  unfold m_X0_isLooked
  refine c_namedBits V K B ?_
  obtain ⟨p, n⟩ := pop_nmB K B.2.2.2 B.2.1
  refine q_bitCount (by omega) ?_
  have p1 := popK_le (nmB (aD x) l) 24
  have e : pop (nmB (aD x) l) = popK (nmB (aD x) l) 24 := rfl
  rw [show (8 : Int32) = n32 8 from rfl, n32_lt (by decide) (by omega), p]
  exact ⟨fun z => k0 (by omega), fun z => k1 (by omega)⟩
theorem c_codesLooked {x : Ab} {da : Nat → Nat} {a : Nat} {l : List Nat} {h : Hp} {Q : Int32 → Hp → Prop} (V : CVw x da h) (K : OkA x) (B : CBd x da a l h) (hk : pop (bEvs (aD x) l) + bChs (aD x) l ≤ 8) (k : Q (n32 (2 ^ (pop (bEvs (aD x) l) + bChs (aD x) l))) h) : m_X0_codesLooked a h Q := by
  unfold m_X0_codesLooked
  refine c_namedBits V K B ?_
  obtain ⟨p, n⟩ := pop_nmB K B.2.2.2 B.2.1
  refine q_bitCount (by omega) ?_
  rw [p, show (1 : Int32) = n32 1 from rfl, show (31 : Int32) = n32 31 from rfl, shl1 (by omega)]
  exact k
theorem c_hasCode {x : Ab} {da : Nat → Nat} {a : Nat} {l : List Nat} {v : Int32} {h : Hp} {Q : Int32 → Hp → Prop} (V : CVw x da h) (K : OkA x) (B : CBd x da a l h) (k0 : argN v (nCod (aD x) l) = none → Q 0 h) (k1 : ∀ c, c < nCod (aD x) l → v = n32 c → argN v (nCod (aD x) l) = some c → Q 1 h) : m_X0_hasCode a v h Q := by
  unfold m_X0_hasCode
  have n := nCod_le K B.2.2.2 B.2.1
  have h2 := bChs_le K B.2.2.2
  have hl := B.2.1
  have e2 : (1 : Int32) <<< ((5 + n32 (bChs (aD x) l)) &&& 31) = n32 (nCod (aD x) l) := by
    rw [show (1 : Int32) = n32 1 from rfl, show (31 : Int32) = n32 31 from rfl, show (5 : Int32) = n32 5 from rfl, n32_add, shl1 (by omega)]
    unfold nCod
    rw [Nat.pow_add]
  rcases arg_cases v (nCod (aD x) l) with ⟨e, c⟩ | ⟨c, h1, h2', rfl, e⟩
  · refine ⟨fun _ => k0 e, fun z => c_allChoices V B ⟨fun _ => k0 e, fun z2 => ?_⟩⟩
    rcases c with c | ⟨q, g1, g2, rfl⟩
    · exact absurd c z
    · rw [e2, n32_le (by omega) g2] at z2; exact absurd g1 z2
  · refine ⟨fun z => ?_, fun _ => c_allChoices V B ⟨fun z => ?_, fun _ => k1 c h1 rfl e⟩⟩
    · rw [show (0 : Int32) = n32 0 from rfl, n32_lt h2' (by decide)] at z; omega
    · rw [e2, n32_le (by omega) h2'] at z; omega
/-- deals are told apart by their places -/
theorem da_inj {x : Ab} {da : Nat → Nat} {h : Hp} (C : CDeals x da h) {d e : Nat} (hd : d < (aD x).length) (he : e < (aD x).length) : da d = da e ↔ d = e := by
  constructor
  · intro z
    have h24 := C.2.1
    have n1 := (C.da hd).2.2.1
    have n2 := (C.da he).2.2.1
    rw [z, n2, n32_eq (by omega) (by omega)] at n1
    omega
  · intro z; rw [z]
theorem c_holds {x : Ab} {da : Nat → Nat} {a d : Nat} {l : List Nat} {h : Hp} {Q : Int32 → Hp → Prop} (C : CDeals x da h) (B : CBd x da a l h) (hd : d < (aD x).length) (k1 : d ∈ l → Q 1 h) (k0 : d ∉ l → Q 0 h) : m_X0_holds a (da d) h Q := by
  have hl := B.2.1
  have main : ∀ (rest pre : List Nat), l = pre ++ rest → d ∉ pre → m_X0_holds_2 (rest.length + 1) Q a (da d) (n32 pre.length) h := by
    intro rest
    induction rest with
    | nil =>
      intro pre e hn
      rw [List.append_nil] at e
      subst e
      rw [m_X0_holds_2, B.1, n32_le (by omega) (by omega)]
      exact ⟨fun _ => k0 hn, fun z => absurd (Nat.le_refl _) z⟩
    | cons g rest ih =>
      intro pre e hn
      have B' := B
      rw [e] at B'
      obtain ⟨r, hg, h6⟩ := B'.mid
      have el : l.length = pre.length + (rest.length + 1) := by rw [e]; simp
      rw [m_X0_holds_2, B.1, n32_le (by omega) (by omega), n32_ix (by omega)]
      refine ⟨fun z => absurd z (by omega), fun _ => ⟨vpI h6 (by decide), da g, r, ?_, ?_⟩⟩
      · intro z x2 e2
        rw [e2, show n32 pre.length + 1 = n32 (pre.length + 1) from n32_add _ 1]
        have := ih (pre ++ [g]) (by rw [e]; simp) (by
          rw [List.mem_append, not_or]
          refine ⟨hn, ?_⟩
          rw [List.mem_singleton]
          rintro rfl
          exact z rfl)
        rw [List.length_append] at this
        exact this
      · intro z
        injection z with z
        have := (da_inj C hg hd).mp z
        exact k1 (by rw [e, ← this]; simp)
  exact ⟨_, main l [] rfl (by simp)⟩
theorem CRefs.app {da : Nat → Nat} {c d : Nat} {l : List Nat} {h h' : Hp} (C : CRefs da c l h) (e : ∀ k, k < l.length → hR h' c k = hR h c k) (e2 : hR h' c l.length = some (da d)) : CRefs da c (l ++ [d]) h' := by
  intro k hk
  rw [List.length_append, List.length_singleton] at hk
  by_cases q : k = l.length
  · rw [q, getD_app_at]; exact e2
  · rw [getD_app_lt (by omega), e k (by omega)]; exact C k (by omega)
/-- one more deal -/
theorem c_push {x : Ab} {da : Nat → Nat} {a d : Nat} {l : List Nat} {h : Hp} {Q : Hp → Prop} (B : CBd x da a l h) (h6 : l.length < 6) (hd : d < (aD x).length) (k : ∀ h', fr (fun b j => b = a ∧ j = 1 ∨ b = a + 1 ∧ j = l.length) h h' → CBd x da a (l ++ [d]) h' → Q h') : m_X0_push a (da d) h Q := by
  unfold m_X0_push
  rw [B.1, n32_ix (by omega), hI_wR, B.1, show n32 l.length + 1 = n32 (l.length + 1) from n32_add _ 1, show (6 : Int32) = n32 6 from rfl, n32_le (by decide) (by omega)]
  refine ⟨fun z => absurd z (by omega), fun _ => ⟨vpI h6 (by decide), ?_⟩⟩
  refine k _ (fr_wI (fr_wR (fr.rf _ _) _ (Or.inr ⟨rfl, rfl⟩)) _ (Or.inl ⟨rfl, rfl⟩)) ⟨?_, ?_, ?_, ?_⟩
  · rw [hI_wI, if_pos ⟨rfl, rfl⟩, List.length_append]; rfl
  · rw [List.length_append, List.length_singleton]; omega
  · refine B.2.2.1.app (fun j hj => ?_) ?_
    · rw [hR_wI, hR_wR, if_neg (by omega)]
    · rw [hR_wI, hR_wR, if_pos ⟨rfl, rfl⟩]
  · intro z hz
    rw [List.mem_append, List.mem_singleton] at hz
    rcases hz with hz | rfl
    · exact B.2.2.2 z hz
    · exact hd
