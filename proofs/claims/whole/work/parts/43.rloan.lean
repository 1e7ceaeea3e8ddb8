/-! THE MODEL: over all codes -/
def CodAt (D : List Dl) (l : List Nat) (cs : List Nat) (v : Int32) : Prop := (cs = [] ∧ v = -1) ∨ ∃ e, e < nCod D l ∧ cs = e :: codFrom D l (e + 1) ∧ v = n32 e
theorem q_codeAt {x : Ab} {l : List Nat} {c : Nat} {h : Hp} {Q : Int32 → Hp → Prop} (I : InvR x h) (K : OkA x) (hin : inD x l) (L : LstIs l h) (hc : c ≤ nCod (aD x) l) (k : ∀ v, CodAt (aD x) l (codFrom (aD x) l c) v → Q v h) : m_X12_codeFrom (n32 c) h Q :=
  q_codeFrom I K hin L hc (fun e => k _ (Or.inl ⟨e, rfl⟩)) (fun e _ h2 h3 => k _ (Or.inr ⟨e, h2, h3, rfl⟩))
def ansLends (x : Ab) (v1 v2 : Int32) : Int32 := match argN v1 8, argN v2 8 with
  | some l, some b => if l = b then -1 else if pop (bEvs (aD x) (aB x)) + bChs (aD x) (aB x) ≤ 8 then n32 (lendN (aF x) (aD x) (aB x) l b) else -1
  | _, _ => -1
theorem ln_bit {F : Nat → Nat} {fl : List Rec} {l b : Nat} (hb : b < 8) : (lnB F fl l 8 >>> b) % 2 = if lendsB F fl l b then 1 else 0 := by
  rw [bit_mod, lnB_bit]
  simp [hb]
set_option maxHeartbeats 4000000 in
set_option maxRecDepth 100000 in
theorem q_lends30 {x : Ab} {l b : Nat} {bs : List Nat} {Q : Int32 → Hp → Prop} (K : OkA x) (hin : inD x bs) (hl : l < 8) (hb : b < 8) (h0 : Hp) : ∀ (cs : List Nat) (v : Int32) (acc : Nat) (h : Hp), CodAt (aD x) bs cs v → InvR x h → LstIs bs h → fr SLe h0 h → acc + cs.length < 100000000 →
    (∀ h', fr SLe h0 h' → Q (n32 (acc + (cs.filter (fun c => bLend (aF x) (aD x) bs c l b)).length)) h') → m_X12_lends_30 (cs.length + 1) Q (n32 l) (n32 b) (n32 acc) v h := by
  intro cs
  induction cs with
  | nil =>
    intro v acc h ca I L f ha k
    rcases ca with ⟨-, rfl⟩ | ⟨e, -, h2, -⟩
    · rw [List.length_nil, m_X12_lends_30]
      exact ⟨fun _ => by simpa using k h f, fun z => absurd (by decide) z⟩
    · cases h2
  | cons c cs ih =>
    intro v acc h ca I L f ha k
    rcases ca with ⟨h1, -⟩ | ⟨e, he, h2, rfl⟩
    · cases h1
    · cases h2
      have hN := nCod_le K hin L.2.1
      rw [List.length_cons, m_X12_lends_30]
      refine ⟨fun z => ?_, fun _ => ?_⟩
      · rw [show (0 : Int32) = n32 0 from rfl, n32_lt (by omega) (by omega)] at z; omega
      · refine q_lending I K hin L (by omega) (fun h1 f1 I1 L1 Lk e1 => ?_)
        have e89 := (e1 l hl).1
        have hlt := lnB_lt (aF x) (bRows (aD x) bs c 0) l 8
        have hbit := ln_bit (F := aF x) (fl := bRows (aD x) bs c 0) (l := l) hb
        simp (disch := omega) only [↓m1_pm, lit32, n32_add, n32_mul, n32_ix, n32_lt, n32_le, n32_eq, n32_in, pm_ix, pm_in, pm_eqn, n_eqpm, pm_ltn, n_ltpm, pm_len, n_lepm, pm_inj, forall_eq, e89, n32_bit, hbit]
        refine ⟨by omega, ?_⟩
        refine q_codeAt I1 K hin L1 (by omega) (fun v' hv' => ?_)
        refine ih v' _ h1 hv' I1 L1 (f.trans f1) (by rw [List.length_cons] at ha; split <;> omega) (fun h' f' => ?_)
        have := k h' f'
        rw [List.filter_cons] at this
        have eb : bLend (aF x) (aD x) bs c l b = lendsB (aF x) (bRows (aD x) bs c 0) l b := rfl
        rw [eb] at this
        cases hq : lendsB (aF x) (bRows (aD x) bs c 0) l b with
        | true =>
          rw [hq, if_pos rfl, List.length_cons] at this
          rw [if_pos rfl, Nat.add_assoc, Nat.add_comm 1]
          exact this
        | false =>
          rw [hq, if_neg (by decide)] at this
          rw [if_neg (by decide)]
          exact this
theorem cod_len {x : Ab} (K : OkA x) {l : List Nat} (hin : inD x l) (hl : l.length ≤ 6) : (codFrom (aD x) l 0).length ≤ 8388608 := by
  have := nCod_le K hin hl
  unfold codFrom
  refine Nat.le_trans (List.length_filter_le _ _) ?_
  rw [List.length_range']
  omega
set_option maxHeartbeats 4000000 in
set_option maxRecDepth 100000 in
theorem R_lends {x : Ab} {v1 v2 : Int32} {h : Hp} {Q : Int32 → Hp → Prop} (I : InvR x h) (K : OkA x) (k : ∀ h', fr Scr h h' → Q (ansLends x v1 v2) h') : m_X12_lends v1 v2 h Q := by
  unfold m_X12_lends
  unfold ansLends at k
  refine q_bundle I (fun h1 f1 L => ?_)
  have I1 := I.fr (f1.mono SLs_Scr)
  replace k := fun h' (f : fr Scr h1 h') => k h' ((f1.mono SLs_Scr).trans f)
  refine q_two (fun q => ?_) (fun l b hl hb hlb e1 e2 e3 e4 => ?_)
  · refine ⟨fun _ => ?_, fun z => absurd rfl z⟩
    have := k h1 (fr.rf _ _)
    cases g1 : argN v1 8 with
    | none => rw [g1] at this; exact this
    | some l => cases g2 : argN v2 8 with
      | none => rw [g1, g2] at this; exact this
      | some b => rw [g1, g2] at this; dsimp only at this; rw [if_pos (q l b g1 g2)] at this; exact this
  · rw [e3, e4] at k
    dsimp only at k
    rw [if_neg hlb] at k
    subst e1; subst e2
    refine ⟨fun z => absurd z (by decide), fun _ => ?_⟩
    refine q_looked I1 K I.inB L (fun q => ?_) (fun q => ?_)
    · unfold looked at q
      rw [if_pos q] at k
      refine ⟨fun _ => ?_, fun z => absurd z (by decide)⟩
      refine q_codeAt (c := 0) I1 K I.inB L (by omega) (fun v hv => ⟨_, q_lends30 K I.inB hl hb h1 _ v 0 h1 hv I1 L (fr.rf _ _) (by have := cod_len K I.inB I.b6; omega) (fun h' f' => ?_)⟩)
      have := k h' (f'.mono SLe_Scr)
      rw [Nat.zero_add, codFrom0]
      exact this
    · unfold looked at q
      rw [if_neg q] at k
      exact ⟨fun z => absurd rfl z, fun _ => k h1 (fr.rf _ _)⟩
/-- the families to which l lends by all these codes, as bits -/
def alB (F : Nat → Nat) (D : List Dl) (bs : List Nat) (cs : List Nat) (a : Nat) (l : Nat) : Nat := cs.foldl (fun b c => b &&& lnB F (bRows D bs c 0) l 8) a
theorem alB_bit (F : Nat → Nat) (D : List Dl) (bs : List Nat) (l : Nat) : ∀ (cs : List Nat) (a i : Nat), (alB F D bs cs a l).testBit i = (a.testBit i && cs.all (fun c => decide (i < 8) && bLend F D bs c l i))
  | [], a, i => by simp [alB]
  | c :: cs, a, i => by
    unfold alB
    rw [List.foldl_cons]
    have := alB_bit F D bs l cs (a &&& lnB F (bRows D bs c 0) l 8) i
    unfold alB at this
    rw [this, Nat.testBit_and, lnB_bit, List.all_cons, Bool.and_assoc]
    rfl
theorem alB_le (F : Nat → Nat) (D : List Dl) (bs : List Nat) (l : Nat) : ∀ (cs : List Nat) (a : Nat), alB F D bs cs a l ≤ a
  | [], a => Nat.le_refl _
  | c :: cs, a => by
    unfold alB
    rw [List.foldl_cons]
    exact Nat.le_trans (alB_le F D bs l cs _) Nat.and_le_left
def SLo (a k : Nat) : Prop := SLe a k ∨ a = 90
theorem SLo_Scr : ∀ a k, SLo a k → Scr a k := by unfold SLo SLe Scr Last; omega
theorem SLe_SLo : ∀ a k, SLe a k → SLo a k := fun a k h => Or.inl h
/-- the pairs from p on -/
def lpF (P : Nat → Nat → Bool) (p : Nat) : Option Nat := (List.range' p (64 - p)).find? (fun p => P (p / 8) (p % 8))
theorem lpF_end (P : Nat → Nat → Bool) : lpF P 64 = none := rfl
theorem lpF_step {P : Nat → Nat → Bool} {l b : Nat} (hl : l < 8) (hb : b < 8) : lpF P (8 * l + b) = if P l b then some (8 * l + b) else lpF P (8 * l + b + 1) := by
  unfold lpF
  rw [show 64 - (8 * l + b) = (64 - (8 * l + b + 1)) + 1 by omega, List.range'_succ, List.find?_cons, show (8 * l + b) / 8 = l by omega, show (8 * l + b) % 8 = b by omega]
  cases P l b <;> rfl
set_option maxHeartbeats 4000000 in
set_option maxRecDepth 100000 in
theorem q_loan120 {P : Nat → Nat → Bool} {h : Hp} {Q : Int32 → Hp → Prop} (B : Nat → Nat) (hB : ∀ l, l < 8 → hI h 90 l = n32 (B l) ∧ B l < 256 ∧ ∀ b, b < 8 → (B l).testBit b = P l b) : ∀ (r l : Nat), r + l = 8 → Q (pm (loanV (lpF P (8 * l)))) h → m_X12_loanAtHand_120 (r + 1) Q (n32 l) h := by
  intro r
  induction r with
  | zero =>
    intro l hr k
    obtain rfl : l = 8 := by omega
    rw [m_X12_loanAtHand_120]
    simp (disch := omega) only [↓m1_pm, lit32, n32_add, n32_mul, n32_ix, n32_lt, n32_le, n32_eq, n32_in, pm_ix, pm_in, pm_eqn, n_eqpm, pm_ltn, n_ltpm, pm_len, n_lepm, pm_inj, forall_eq]
    exact ⟨fun _ => k, fun z => absurd (Nat.le_refl _) z⟩
  | succ r ih =>
    intro l hr k
    rw [m_X12_loanAtHand_120]
    obtain ⟨e, hlt, hbit⟩ := hB l (by omega)
    have main : ∀ (s b : Nat), s + b = 8 → Q (pm (loanV (lpF P (8 * l + b)))) h → m_X12_loanAtHand_128 (s + 1) (m_X12_loanAtHand_161 (fun v1 hh => m_X12_loanAtHand_120 (r + 1) Q v1 hh) Q) Q (n32 l) (n32 b) h := by
      intro s
      induction s with
      | zero =>
        intro b hs kb
        obtain rfl : b = 8 := by omega
        rw [m_X12_loanAtHand_128]
        unfold m_X12_loanAtHand_161
        simp (disch := omega) only [↓m1_pm, lit32, n32_add, n32_mul, n32_ix, n32_lt, n32_le, n32_eq, n32_in, pm_ix, pm_in, pm_eqn, n_eqpm, pm_ltn, n_ltpm, pm_len, n_lepm, pm_inj, forall_eq]
        exact ⟨fun _ => ih (l + 1) (by omega) (by rw [show 8 * (l + 1) = 8 * l + 8 by omega]; exact kb), fun z => absurd (Nat.le_refl _) z⟩
      | succ s ihs =>
        intro b hs kb
        rw [lpF_step (by omega) (by omega)] at kb
        rw [m_X12_loanAtHand_128]
        have h1 := hbit b (by omega)
        have h2 := bit_mod (B l) b
        rw [h1] at h2
        simp (disch := omega) only [↓m1_pm, lit32, n32_add, n32_mul, n32_ix, n32_lt, n32_le, n32_eq, n32_in, pm_ix, pm_in, pm_eqn, n_eqpm, pm_ltn, n_ltpm, pm_len, n_lepm, pm_inj, forall_eq, e, n32_bit, h2]
        refine ⟨fun z => absurd z (by omega), fun _ => ⟨by omega, fun z => ?_, fun z => ?_⟩⟩
        · refine ihs (b + 1) (by omega) ?_
          cases hp : P l b with
          | false => rw [hp, if_neg (by decide)] at kb; exact kb
          | true => rw [hp] at z; exact absurd (by decide) z
        · cases hp : P l b with
          | true =>
            rw [hp, if_pos rfl] at kb
            have : loanV (some (8 * l + b)) = 10 * l + b + 1 := by
              show 10 * ((8 * l + b) / 8) + (8 * l + b) % 8 + 1 = _
              omega
            rw [this, pmS] at kb
            exact kb
          | false => rw [hp] at z; exact absurd z (by decide)
    refine ⟨fun z => ?_, fun _ => ⟨_, main 8 0 rfl k⟩⟩
    rw [show (8 : Int32) = n32 8 from rfl, n32_le (by omega) (by omega)] at z
    omega
