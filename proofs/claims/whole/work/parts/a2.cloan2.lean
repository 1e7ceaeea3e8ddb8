/-! THE CLASS: the loan that a bundle is -/
def SLoan (a k : Nat) : Prop := STe a k ∨ SWg a k ∨ a = 20
def LtA (P : Nat → Nat → Bool) (h : Hp) : Prop := ∀ p, p < 8 → ∃ g, g < 256 ∧ hI h 20 p = n32 g ∧ ∀ b, b < 8 → g.testBit b = P p b
theorem LtA.mv {P : Nat → Nat → Bool} {S : Nat → Nat → Prop} {h h' : Hp} (A : LtA P h) (f : fr S h h') (n : ∀ k, ¬ S 20 k) : LtA P h' := fun p hp => by
  obtain ⟨g, g1, g2, g3⟩ := A p hp
  exact ⟨g, g1, by rw [f.I (n p)]; exact g2, g3⟩
theorem LtA.congr {P P' : Nat → Nat → Bool} {h : Hp} (A : LtA P h) (e : ∀ p b, p < 8 → b < 8 → P' p b = P p b) : LtA P' h := fun p hp => by
  obtain ⟨g, g1, g2, g3⟩ := A p hp
  exact ⟨g, g1, g2, fun b hb => by rw [g3 b hb, e p b hp hb]⟩
theorem tb255 {b : Nat} (h : b < 8) : (255 : Nat).testBit b = true := by rw [show (255 : Nat) = 2 ^ 8 - 1 from rfl, Nat.testBit_two_pow_sub_one]; simp [h]
/-- one family's row changes -/
theorem LtA.put {P : Nat → Nat → Bool} {h : Hp} (A : LtA P h) {q g : Nat} (hg : g < 256) : LtA (fun p b => if p = q then g.testBit b else P p b) (wI h 20 q (n32 g)) := fun p hp => by
  by_cases y : p = q
  · subst y
    exact ⟨g, hg, by rw [hI_wI, if_pos ⟨rfl, rfl⟩], fun b _ => by dsimp only; rw [if_pos rfl]⟩
  · obtain ⟨g', g1, g2, g3⟩ := A p hp
    exact ⟨g', g1, by rw [hI_wI, if_neg (fun w => y w.2)]; exact g2, fun b hb => by dsimp only; rw [if_neg y]; exact g3 b hb⟩
theorem c_fl24 {L : List Nat} {h0 : Hp} {k52 : Hp → Prop} {Q : Int32 → Hp → Prop} (Pr : PrA L h0) (k : ∀ h', fr (fun a _ => a = 20) h0 h' → LtA (fun p _ => decide (p ∈ L)) h' → k52 h') :
    ∀ (rest pre : List Nat) (h : Hp), L = pre ++ rest → fr (fun a _ => a = 20) h0 h → LtA (fun p _ => decide (p ∈ pre)) h → m_X5_findLoan_24 (rest.length + 1) k52 Q (n32 pre.length) h := by
  have l8 := Pr.2.1
  intro rest
  induction rest with
  | nil =>
    intro pre h e f A
    rw [List.append_nil] at e
    have P1 := Pr.mv f (by omega) (by omega)
    rw [m_X5_findLoan_24, P1.1, e, n32_le (by rw [← e]; omega) (by rw [← e]; omega)]
    exact ⟨fun _ => k h f (by rw [e]; exact A), fun z => absurd (Nat.le_refl _) z⟩
  | cons p rest ih =>
    intro pre h e f A
    have P1 := Pr.mv f (by omega) (by omega)
    have P1' := P1
    rw [e] at P1'
    obtain ⟨e17, p8, pl, pn⟩ := P1'.mid
    have el : L.length = pre.length + (rest.length + 1) := by rw [e]; simp
    have nx := ih (pre ++ [p])
    rw [List.length_append] at nx
    rw [m_X5_findLoan_24, P1.1, n32_le (by omega) (by omega), n32_ix (by omega), e17, n32_ix (by omega)]
    refine ⟨fun z => absurd z (by omega), fun _ => ⟨vpI pl (by decide), vpI p8 (by decide), fun x1 e1 => ?_⟩⟩
    rw [e1, show n32 pre.length + 1 = n32 (pre.length + 1) from n32_add _ 1]
    refine nx _ (by rw [e]; simp) (fr_wI f _ rfl) ((A.put (q := p) (g := 255) (by decide)).congr (fun q b hq hb => ?_))
    by_cases y : q = p
    · subst y; rw [if_pos rfl, tb255 hb]; simp
    · rw [if_neg y]; simp [y]
theorem c_fl84 {F : Nat → Nat} {fl : List Rec} {L : List Nat} {P : Nat → Nat → Bool} {v2 v3 v4 : Int32} {h0 : Hp} {k136 : Int32 → Int32 → Int32 → Int32 → Hp → Prop} {Q : Int32 → Hp → Prop} (Pr : PrA L h0) (W : WgO F fl h0) (k : ∀ h' u, fr (fun a _ => a = 20) h0 h' → u < 256 → (u = 0 ↔ ∀ p ∈ L, ∀ b, b < 8 → (P p b && lendsB F fl p b) = false) → LtA (fun p b => P p b && (decide (p ∉ L) || lendsB F fl p b)) h' → k136 v2 v3 v4 (n32 u) h') :
    ∀ (rest pre : List Nat) (h : Hp) (u : Nat), L = pre ++ rest → fr (fun a _ => a = 20) h0 h → u < 256 → (u = 0 ↔ ∀ p ∈ pre, ∀ b, b < 8 → (P p b && lendsB F fl p b) = false) → LtA (fun p b => P p b && (decide (p ∉ pre) || lendsB F fl p b)) h → m_X5_findLoan_84 (rest.length + 1) k136 Q v2 v3 v4 (n32 u) (n32 pre.length) h := by
  have l8 := Pr.2.1
  intro rest
  induction rest with
  | nil =>
    intro pre h u e f hu uz A
    rw [List.append_nil] at e
    have P1 := Pr.mv f (by omega) (by omega)
    rw [m_X5_findLoan_84, P1.1, e, n32_le (by rw [← e]; omega) (by rw [← e]; omega)]
    exact ⟨fun _ => k h u f hu (by rw [e]; exact uz) (by rw [e]; exact A), fun z => absurd (Nat.le_refl _) z⟩
  | cons p rest ih =>
    intro pre h u e f hu uz A
    have P1 := Pr.mv f (by omega) (by omega)
    have P1' := P1
    rw [e] at P1'
    obtain ⟨e17, p8, pl, pn⟩ := P1'.mid
    have W1 := W.mv f (by omega) (by omega)
    have el : L.length = pre.length + (rest.length + 1) := by rw [e]; simp
    have nx := ih (pre ++ [p])
    rw [List.length_append] at nx
    obtain ⟨g, g1, g2, g3⟩ := A p p8
    have gb : ∀ b, b < 8 → g.testBit b = P p b := fun b hb => by rw [g3 b hb]; simp [pn]
    have ll := lnB_lt F fl p 8
    have ga : g &&& lnB F fl p 8 < 256 := Nat.lt_of_le_of_lt Nat.and_le_left g1
    have gab : ∀ b, b < 8 → (g &&& lnB F fl p 8).testBit b = (P p b && lendsB F fl p b) := fun b hb => by
      rw [Nat.testBit_and, gb b hb, lnB_bit]; simp [hb]
    rw [m_X5_findLoan_84, P1.1, n32_le (by omega) (by omega), n32_ix (by omega), e17]
    refine ⟨fun z => absurd z (by omega), fun _ => ⟨vpI pl (by decide), fun x6 e6 => ?_⟩⟩
    subst e6
    refine ⟨vpI p8 (by decide), c_borrowersOf W1 p8 ⟨vpI p8 (by decide), vpI p8 (by decide), fun x9 e9 x10 e10 => ?_⟩⟩
    rw [n32_ix (by omega), g2, n32_and (by omega) (by omega)] at e9 ⊢
    rw [hI_wI, if_pos ⟨rfl, rfl⟩, n32_or (by omega) (by omega)] at e9
    rw [e9, e10, show n32 pre.length + 1 = n32 (pre.length + 1) from n32_add _ 1]
    refine nx _ (u ||| (g &&& lnB F fl p 8)) (by rw [e]; simp) (fr_wI f _ rfl) (Nat.or_lt_two_pow (n := 8) hu ga) ?_ ((A.put (q := p) ga).congr (fun q b hq hb => ?_))
    · have z1 : (u ||| (g &&& lnB F fl p 8) = 0) ↔ (u = 0 ∧ g &&& lnB F fl p 8 = 0) := by
        constructor
        · intro w
          have a1 : u ≤ u ||| (g &&& lnB F fl p 8) := Nat.left_le_or
          have a2 : g &&& lnB F fl p 8 ≤ u ||| (g &&& lnB F fl p 8) := Nat.right_le_or
          omega
        · rintro ⟨a, b⟩; rw [a, b]; rfl
      have z2 : (g &&& lnB F fl p 8 = 0) ↔ ∀ b, b < 8 → (P p b && lendsB F fl p b) = false := by
        constructor
        · intro w b hb
          rw [← gab b hb, w, Nat.zero_testBit]
        · intro w
          apply Nat.eq_of_testBit_eq
          intro j
          rw [Nat.zero_testBit]
          by_cases j8 : j < 8
          · rw [gab j j8, w j j8]
          · exact Nat.testBit_lt_two_pow (Nat.lt_of_lt_of_le (show _ < 2 ^ 8 from ga) (pw_le (by omega)))
      rw [z1, z2, uz]
      constructor
      · rintro ⟨a1, a2⟩ q hq
        rw [List.mem_append, List.mem_singleton] at hq
        rcases hq with hq | rfl
        · exact a1 q hq
        · exact a2
      · intro a
        exact ⟨fun q hq => a q (by simp [hq]), a p (by simp)⟩
    · by_cases y : q = p
      · subst y
        rw [if_pos rfl, gab b hb]; simp
      · rw [if_neg y]; simp [y]
/-- the pairs that lend by some codes -/
def lnA (x : Ab) (l cs : List Nat) (p b : Nat) : Bool := cs.all (fun c => bLend (aF x) (aD x) l c p b)
theorem lend_prs {x : Ab} {l : List Nat} {E : List Rec} (T : TkP x l E) {p : Nat} (hp : p < 8) (hn : p ∉ prs E) (c b : Nat) : bLend (aF x) (aD x) l c p b = false := by
  unfold bLend
  refine lends_no (Or.inr (Or.inl ?_))
  rw [← netG0, ← nE_rows T, nE_off_prs hp hn (fun e he => (List.mem_filter.mp he).1)]; omega
/-- the end: the first pair -/
theorem c_fl164 {P : Nat → Nat → Bool} {h : Hp} {Q : Int32 → Hp → Prop} (A : LtA P h) (k : Q (pm (loanV ((List.range 64).find? (fun p => P (p / 8) (p % 8))))) h) : ∀ (r v : Nat), r + v = 8 → (∀ p b, p < v → b < 8 → P p b = false) → m_X5_findLoan_164 (r + 1) (m_X5_findLoan_181 Q) Q (n32 v) h := by
  intro r
  induction r with
  | zero =>
    intro v e N
    obtain rfl : v = 8 := by omega
    rw [m_X5_findLoan_164, show (8 : Int32) = n32 8 from rfl, n32_le (by decide) (by decide)]
    refine ⟨fun _ => ?_, fun z => absurd (Nat.le_refl _) z⟩
    have : (List.range 64).find? (fun p => P (p / 8) (p % 8)) = none := by
      rw [List.find?_eq_none]
      intro p hp
      rw [List.mem_range] at hp
      rw [N (p / 8) (p % 8) (by omega) (by omega)]; simp
    rw [this] at k
    exact k
  | succ r ih =>
    intro v e N
    obtain ⟨g, g1, g2, g3⟩ := A v (by omega)
    rw [m_X5_findLoan_164, show (8 : Int32) = n32 8 from rfl, n32_le (by decide) (by omega), n32_ix (by omega), g2, show (0 : Int32) = n32 0 from rfl, n32_eq (by omega) (by decide)]
    refine ⟨fun z => absurd z (by omega), fun _ => ⟨vpI (by omega) (by decide), fun z x3 e3 => ?_, fun z => ?_⟩⟩
    · rw [e3, show n32 v + 1 = n32 (v + 1) from n32_add _ 1]
      refine ih (v + 1) (by omega) (fun p b hp hb => ?_)
      by_cases y : p = v
      · subst y; rw [← g3 b hb, z, Nat.zero_testBit]
      · exact N p b (by omega) hb
    · unfold m_X5_findLoan_181
      rw [n32_ix (by omega), g2]
      refine ⟨vpI (by omega) (by decide), q_ntz g1 z (fun t ht t1 t2 => ?_)⟩
      have : (List.range 64).find? (fun p => P (p / 8) (p % 8)) = some (8 * v + t) := by
        rw [List.find?_range_eq_some]
        refine ⟨?_, List.mem_range.mpr (by omega), fun j hj => ?_⟩
        · rw [show (8 * v + t) / 8 = v by omega, show (8 * v + t) % 8 = t by omega, ← g3 t ht]; exact t1
        · by_cases y : j / 8 = v
          · rw [y, ← g3 (j % 8) (by omega), t2 (j % 8) (by omega)]; rfl
          · rw [N (j / 8) (j % 8) (by omega) (by omega)]; rfl
      rw [this] at k
      rw [show (10 : Int32) = n32 10 from rfl, n32_mul, n32_add]
      have e1 : pm (loanV (some (8 * v + t))) = n32 (10 * v + t) := by
        show n32 (10 * ((8 * v + t) / 8) + (8 * v + t) % 8) = _
        rw [show (8 * v + t) / 8 = v by omega, show (8 * v + t) % 8 = t by omega]
      rw [e1] at k; exact k
set_option maxHeartbeats 4000000 in
set_option maxRecDepth 100000 in
theorem c_findLoan {x : Ab} {da : Nat → Nat} {a : Nat} {l : List Nat} {h : Hp} {Q : Int32 → Hp → Prop} (V : CVw x da h) (K : OkA x) (M : OkM x) (B : CBd x da a l h) (ha : a < 13 ∨ 25 < a) (Td : CTdy h) (k : ∀ h', fr SLoan h h' → CTdy h' → Q (pm (loanN (aF x) (aD x) l)) h') : m_X5_findLoan a h Q := by
  unfold m_X5_findLoan
  refine c_isLooked V K B (fun lk => ⟨fun _ => ?_, fun z => absurd z (by decide)⟩) (fun lk => ⟨fun z => absurd rfl z, fun _ => ?_⟩)
  · refine c_take V K B ha (fun E h1 f1 A1 T => q_fillI (by decide) (fun h2 f2 g2 => ?_))
    have hin := B.2.2.2
    have f2' : fr SLoan h h2 := (f1.mono (fun a k z => Or.inl z)).trans (f2.mono (fun a k z => Or.inr (Or.inr z.1)))
    have A2 := A1.mv f2 (by omega) (by omega)
    have Td1 : CTdy h1 := fun f hf => by rw [f1.J (by unfold STe; omega)]; exact Td f hf
    have Td2 : CTdy h2 := fun f hf => by rw [f2.J (by omega)]; exact Td1 f hf
    refine ⟨_, c_fl24 A2.pr (fun h3 f3 L3 => ?_) (prs E) [] h2 rfl (fr.rf _ _) (fun p hp => ⟨0, by decide, g2 p hp, fun b hb => by simp⟩)⟩
    have f3' : fr SLoan h h3 := f2'.trans (f3.mono (fun a k z => Or.inr (Or.inr z)))
    have A3 := A2.mv f3 (by omega) (by omega)
    have Td3 : CTdy h3 := fun f hf => by rw [f3.J (by omega)]; exact Td2 f hf
    have bk := btB_lt2 K M hin T
    have k13 : 5 + bChs (aD x) l ≤ 13 := by omega
    have b13 : btB E < 8192 := Nat.lt_of_lt_of_le bk (pw_le k13)
    have sl := SM_pop bk (by omega)
    obtain ⟨ch, ⟨t0, hd0⟩, -⟩ := SM_chain _ _ bk
    have pk : pop (btB E) ≤ 13 := by
      have e1 : (SM (btB E) (5 + bChs (aD x) l)).length ≤ 2 ^ (5 + bChs (aD x) l) := by unfold SM; exact Nat.le_trans (List.length_filter_le _ _) (by simp)
      rw [sl] at e1
      have := (Nat.pow_le_pow_iff_right (a := 2) (by decide)).mp e1
      omega
    have e14 : hI h3 14 4 = n32 (btB E) := A3.2.1
    unfold m_X5_findLoan_52
    rw [e14]
    refine q_bitCount (by omega) (fun x15 e15 => ?_)
    rw [show (1 : Int32) = n32 1 from rfl, show (31 : Int32) = n32 31 from rfl, shl1 (by omega), ← sl] at e15
    subst e15
    have lenb : (SM (btB E) (5 + bChs (aD x) l)).length ≤ 8192 := by rw [sl]; exact pw_le pk
    have loanE : ∀ cs, cs = SM (btB E) (5 + bChs (aD x) l) → loanN (aF x) (aD x) l = loanV ((List.range 64).find? (fun p => lnA x l cs (p / 8) (p % 8))) := by
      intro cs e
      unfold loanN loanP
      rw [if_pos lk]
      congr 2
      funext p
      rw [e]
      exact (all_cut K M hin T bk _ _).symm
    -- the walk over the codes
    have main : ∀ (rest pre : List Nat) (v3 : Int32) (h4 : Hp), SM (btB E) (5 + bChs (aD x) l) = pre ++ rest → (∀ c t, rest = c :: t → v3 = n32 c) → fr SLoan h h4 → EnA E h4 → CTdy h4 → LtA (fun p b => decide (p ∈ prs E) && lnA x l pre p b) h4 → m_X5_findLoan_67 (rest.length + 1) (m_X5_findLoan_161 Q) Q (n32 (SM (btB E) (5 + bChs (aD x) l)).length) v3 (n32 pre.length) h4 := by
      intro rest
      induction rest with
      | nil =>
        intro pre v3 h4 e ev f4 A4 T4 L4
        rw [List.append_nil] at e
        rw [m_X5_findLoan_67, n32_le (by omega) (by rw [← e]; omega), e]
        refine ⟨fun _ => ?_, fun z => absurd (Nat.le_refl _) z⟩
        unfold m_X5_findLoan_161
        have L4' : LtA (lnA x l pre) h4 := L4.congr (fun p b hp hb => by
          by_cases y : p ∈ prs E
          · simp [y]
          · have : lnA x l pre p b = false := by
              unfold lnA
              rw [← e, hd0, List.all_cons, lend_prs T hp y]; rfl
            rw [this]; simp)
        refine ⟨9, c_fl164 L4' ?_ 8 0 rfl (fun p b hp => absurd hp (by omega))⟩
        rw [← loanE pre e.symm]
        exact k h4 f4 T4
      | cons c rest ih =>
        intro pre v3 h4 e ev f4 A4 T4 L4
        have el : (SM (btB E) (5 + bChs (aD x) l)).length = pre.length + (rest.length + 1) := by rw [e]; simp
        have cm : c ∈ SM (btB E) (5 + bChs (aD x) l) := by rw [e]; simp
        obtain ⟨c1, c2⟩ := SM_mem.mp cm
        have c3 : c < 8192 := Nat.lt_of_lt_of_le c1 (pw_le k13)
        rw [ev c rest rfl, m_X5_findLoan_67, n32_le (by omega) (by omega)]
        refine ⟨fun z => absurd z (by omega), fun _ => c_weigh A4 T T4 (by omega) (fun h5 f5 T5 W5 => ?_)⟩
        have A5 := A4.mv f5 (by unfold SWg; omega) (by unfold SWg; omega)
        have L5 := L4.mv f5 (by unfold SWg; omega)
        have f5' : fr SLoan h h5 := f4.trans (f5.mono (fun a k z => Or.inr (Or.inl z)))
        refine ⟨_, c_fl84 (P := fun p b => decide (p ∈ prs E) && lnA x l pre p b) A5.pr W5 (fun h6 u f6 hu uz L6 => ?_) (prs E) [] h5 0 rfl (fr.rf _ _) (by decide) (by simp) (L5.congr (fun p b hp hb => by simp))⟩
        have A6 := A5.mv f6 (by omega) (by omega)
        have f6' : fr SLoan h h6 := f5'.trans (f6.mono (fun a k z => Or.inr (Or.inr z)))
        have T6 : CTdy h6 := fun f hf => by rw [f6.J (by omega)]; exact T5 f hf
        unfold m_X5_findLoan_136
        rw [show (0 : Int32) = n32 0 from rfl, n32_eq (by omega) (by decide), A6.2.1]
        refine ⟨fun nz x4 e4 x5 e5 => ?_, fun z => ?_⟩
        · rw [e5, show n32 pre.length + 1 = n32 (pre.length + 1) from n32_add _ 1]
          have nx := ih (pre ++ [c]) x4 h6 (by rw [e]; simp) (fun c' t ec => ?_) f6' A6 T6 (L6.congr (fun p b hp hb => ?_))
          · rw [List.length_append] at nx
            exact nx
          · rw [e4]
            have ch' := ch
            rw [e, ec] at ch'
            have R := (Chn.drop ch').1
            rw [n32_nx bk (by omega) R.1, R.2]
          · unfold lnA bLend
            rw [List.all_append]
            by_cases y : p ∈ prs E <;> simp [y]
        · have z' := uz.mp z
          have no : ∀ p b, p < 8 → b < 8 → lnA x l (SM (btB E) (5 + bChs (aD x) l)) p b = false := by
            intro p b hp hb
            by_cases y : p ∈ prs E
            · have := z' p y b hb
              unfold lnA
              rw [e, List.all_append, List.all_cons]
              unfold lnA at this
              unfold bLend at this ⊢
              rw [decide_eq_true y, Bool.true_and] at this
              rw [← Bool.and_assoc, this]; rfl
            · unfold lnA
              rw [hd0, List.all_cons, lend_prs T hp y]; rfl
          have nl : loanN (aF x) (aD x) l = 0 := by
            rw [loanE _ rfl]
            have : (List.range 64).find? (fun p => lnA x l (SM (btB E) (5 + bChs (aD x) l)) (p / 8) (p % 8)) = none := by
              rw [List.find?_eq_none]
              intro p hp
              rw [List.mem_range] at hp
              rw [no (p / 8) (p % 8) (by omega) (by omega)]; simp
            rw [this]; rfl
          have := k h6 f6' T6
          rw [nl] at this
          exact this
    refine ⟨_, main (SM (btB E) (5 + bChs (aD x) l)) [] 0 h3 rfl (fun c t ec => ?_) f3' A3 Td3 (L3.congr (fun p b hp hb => by simp [lnA]))⟩
    rw [hd0] at ec
    injection ec with ec1 _
    rw [← ec1]; rfl
  · have := k h (fr.rf _ _) Td
    unfold loanN at this
    rw [if_neg lk] at this
    exact this
