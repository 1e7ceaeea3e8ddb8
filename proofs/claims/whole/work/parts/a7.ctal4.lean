/-! THE CLASS: a lender is noted -/
def lnP (F : Nat → Nat) (fl : List Rec) (l : Nat) : Nat × Nat := ((net F fl l 0).toNat, (outV F fl l).toNat)
abbrev TS : Type := (Nat × Nat) × (Nat × Nat) × Nat
def nxS (F : Nat → Nat) (fl : List Rec) (l b : Nat) (s : TS) : TS := if lendsB F fl l b then (upP false (lnP F fl l) s.1, upP true (lnP F fl l) s.2.1, s.2.2 + 1) else s
def PrT (s : TS) (n : Nat) (h : Hp) : Prop := PrI s.1 s.2.1 s.2.2 n h ∧ s.2.2 < 99999
def SNl (l a k : Nat) : Prop := a = 27 ∧ 8 * l ≤ k ∧ k < 8 * l + 8 ∨ a = 28 ∧ 32 * l ≤ k ∧ k < 32 * l + 32
theorem lnP_ok {F : Nat → Nat} {fl : List Rec} (P : LkP fl) {l b : Nat} (h : lendsB F fl l b = true) (hn : net F fl l 0 ≤ 3000000000000) : okP2 (lnP F fl l) ∧ net F fl l 0 = ((lnP F fl l).1 : Nat) ∧ outV F fl l = ((lnP F fl l).2 : Nat) := by
  obtain ⟨p1, p2⟩ := P.pos h
  obtain ⟨-, o1, o2⟩ := P.out (F := F) (l := l) (by omega)
  unfold okP2 lnP
  refine ⟨⟨?_, ?_, ?_, ?_⟩, ?_, ?_⟩ <;> dsimp only <;> omega
theorem c_nl96 {F : Nat → Nat} {fl : List Rec} {l : Nat} {S : Nat → TS} {h0 : Hp} {Q : Hp → Prop} (hl : l < 8) (O : okP2 (lnP F fl l)) (bd : ∀ b, b < 8 → (S b).2.2 < 99998) (k : ∀ h', fr (SNl l) h0 h' → (∀ b, b < 8 → PrT (nxS F fl l b (S b)) (8 * l + b) h') → Q h') :
    ∀ (r v : Nat) (h : Hp), r + v = 8 → fr (SNl l) h0 h → (∀ b, b < 8 → PrT (if b < v then nxS F fl l b (S b) else S b) (8 * l + b) h) → m_X9_noteLender_96 (r + 1) Q (n32 l) (n32 (lnB F fl l 8)) (z64 ((rdP (lnP F fl l)).1 : Nat)) (z64 ((rdP (lnP F fl l)).2 : Nat)) (n32 v) h := by
  intro r
  induction r with
  | zero =>
    intro v h e f A
    obtain rfl : v = 8 := by omega
    rw [m_X9_noteLender_96, show (8 : Int32) = n32 8 from rfl, n32_le (by decide) (by decide)]
    refine ⟨fun _ => k h f (fun b hb => ?_), fun z => absurd (Nat.le_refl _) z⟩
    have := A b hb
    rw [if_pos hb] at this; exact this
  | succ r ih =>
    intro v h e f A
    have ll : lnB F fl l 8 < 256 := lnB_lt F fl l 8
    have lb := ln_bit (F := F) (fl := fl) (l := l) (b := v) (by omega)
    rw [m_X9_noteLender_96, show (8 : Int32) = n32 8 from rfl, n32_le (by decide) (by omega), show (1 : Int32) = n32 1 from rfl, show (31 : Int32) = n32 31 from rfl, n32_bit (by omega) (by omega), lb]
    unfold m_X9_noteLender_128
    refine ⟨fun z => absurd z (by omega), fun _ => ?_⟩
    by_cases y : lendsB F fl l v = true
    · rw [if_pos y]
      refine ⟨fun z => absurd rfl z, fun _ => ?_⟩
      have Av := A v (by omega)
      rw [if_neg (by omega)] at Av
      rw [n32_mul, n32_add, Nat.mul_comm l 8]
      refine c_notePrice (by omega) (by have := bd v (by omega); omega) O Av.1 (fun h1 f1 P1 x1 e1 => ?_)
      rw [e1, show n32 v + 1 = n32 (v + 1) from n32_add _ 1]
      refine ih (v + 1) h1 (by omega) (f.trans (f1.mono (by unfold SNp SNl; omega))) (fun b hb => ?_)
      by_cases w : b = v
      · subst w
        rw [if_pos (by omega)]
        unfold nxS
        rw [if_pos y]
        exact ⟨P1, by have := bd b hb; show (S b).2.2 + 1 < 99999; omega⟩
      · have := A b hb
        have e2 : (if b < v + 1 then nxS F fl l b (S b) else S b) = (if b < v then nxS F fl l b (S b) else S b) := by
          by_cases q : b < v
          · rw [if_pos q, if_pos (by omega)]
          · rw [if_neg q, if_neg (by omega)]
        rw [e2]
        exact ⟨this.1.mv f1 (by unfold SNp; omega) (by unfold SNp; omega), this.2⟩
    · rw [if_neg y]
      refine ⟨fun _ x1 e1 => ?_, fun z => absurd z (by decide)⟩
      rw [e1, show n32 v + 1 = n32 (v + 1) from n32_add _ 1]
      refine ih (v + 1) h (by omega) f (fun b hb => ?_)
      by_cases w : b = v
      · subst w
        have := A b hb
        rw [if_neg (by omega)] at this
        rw [if_pos (by omega)]
        unfold nxS
        rw [if_neg y]
        exact this
      · have := A b hb
        have e2 : (if b < v + 1 then nxS F fl l b (S b) else S b) = (if b < v then nxS F fl l b (S b) else S b) := by
          by_cases q : b < v
          · rw [if_pos q, if_pos (by omega)]
          · rw [if_neg q, if_neg (by omega)]
        rw [e2]; exact this
set_option maxHeartbeats 4000000 in
set_option maxRecDepth 100000 in
theorem c_noteLender {F : Nat → Nat} {fl : List Rec} {l : Nat} {S : Nat → TS} {h : Hp} {Q : Hp → Prop} (W : WgO F fl h) (P : LkP fl) (hl : l < 8) (A : ∀ b, b < 8 → PrT (S b) (8 * l + b) h) (bd : ∀ b, b < 8 → (S b).2.2 < 99998) (k : ∀ h', fr (SNl l) h h' → (∀ b, b < 8 → PrT (nxS F fl l b (S b)) (8 * l + b) h') → Q h') : m_X9_noteLender (n32 l) h Q := by
  unfold m_X9_noteLender
  have ll : lnB F fl l 8 < 256 := lnB_lt F fl l 8
  obtain ⟨w1, w2, w3, w4, -⟩ := W.1 l hl
  refine c_borrowersOf W hl ?_
  rw [show (0 : Int32) = n32 0 from rfl, n32_eq (by omega) (by decide), n32_ix (by omega), w1, w2]
  refine ⟨fun z => ?_, fun z => ⟨vpI hl (by decide), ?_⟩⟩
  · refine k h (fr.rf _ _) (fun b hb => ?_)
    have : lendsB F fl l b = false := by
      have := lnB_bit F fl l 8 b
      rw [z, Nat.zero_testBit] at this
      simpa [hb] using this.symm
    unfold nxS
    rw [if_neg (by rw [this]; simp)]
    exact A b hb
  · -- some family borrows
    obtain ⟨b, hb, lb⟩ : ∃ b, b < 8 ∧ lendsB F fl l b = true := by
      apply Classical.byContradiction
      intro no
      refine z (lnB_zero (fun b hb => ?_))
      cases hh : lendsB F fl l b with
      | false => rfl
      | true => exact absurd ⟨b, hb, hh⟩ no
    obtain ⟨O, e1, e2⟩ := lnP_ok P lb w4
    obtain ⟨O1, O2, O3, O4⟩ := id O
    have e2' : outS 0 0 (seqN F fl l) = ((lnP F fl l).2 : Nat) := e2
    rw [e1, e2', show (0 : Int64) = z64 ((0 : Nat) : Int) from rfl, lgc_gt (by omega) (by omega) (by omega) (by omega)]
    refine ⟨fun _ => ⟨vpI hl (by decide), vpI hl (by decide), c_commonDivisor O3 O4 ?_⟩, fun y => absurd (by omega) y⟩
    have g1 : 0 < Nat.gcd (lnP F fl l).1 (lnP F fl l).2 := Nat.gcd_pos_of_pos_right _ O2
    have g2 : Nat.gcd (lnP F fl l).1 (lnP F fl l).2 ≤ (lnP F fl l).1 := Nat.gcd_le_left _ O1
    have d1 := z64_div (a := (lnP F fl l).1) (b := Nat.gcd (lnP F fl l).1 (lnP F fl l).2) (by omega) g1 (by omega)
    have d2 := z64_div (a := (lnP F fl l).2) (b := Nat.gcd (lnP F fl l).1 (lnP F fl l).2) (by omega) g1 (by omega)
    have fin : ∃ n96, m_X9_noteLender_96 n96 Q (n32 l) (n32 (lnB F fl l 8)) (z64 ((rdP (lnP F fl l)).1 : Nat)) (z64 ((rdP (lnP F fl l)).2 : Nat)) 0 h :=
      ⟨_, c_nl96 hl O bd k 8 0 h rfl (fr.rf _ _) (fun b hb => by rw [if_neg (by omega)]; exact A b hb)⟩
    rw [lgc_le (by omega) (by omega) (by omega) (by omega), w1, e1, d1]
    refine ⟨fun y => absurd y (by omega), fun _ => ⟨vpI hl (by decide), z64_ne0 g1 (by omega), ?_⟩⟩
    unfold m_X9_noteLender_64 m_X9_noteLender_91
    rw [show (0 : Int64) = z64 ((0 : Nat) : Int) from rfl, show (0 : Int32) = n32 0 from rfl, lgc_le (by omega) (by omega) (by omega) (by omega), n32_ix (by omega), w2, e2', d2]
    exact ⟨fun y => absurd y (by omega), fun _ => ⟨vpI hl (by decide), z64_ne0 g1 (by omega), fin⟩⟩
