/-! THE MODEL: loan, step -/
def AlA (F : Nat → Nat) (D : List Dl) (bs : List Nat) (cs : List Nat) (h : Hp) : Prop := ∀ l, l < 8 → hI h 90 l = n32 (alB F D bs cs 255 l)
theorem alB_app (F : Nat → Nat) (D : List Dl) (bs : List Nat) (cs : List Nat) (c a l : Nat) : alB F D bs (cs ++ [c]) a l = alB F D bs cs a l &&& lnB F (bRows D bs c 0) l 8 := by simp [alB, List.foldl_append]
def allL (F : Nat → Nat) (D : List Dl) (bs : List Nat) (cs : List Nat) (l b : Nat) : Bool := cs.all (fun c => bLend F D bs c l b)
theorem al_all (F : Nat → Nat) (D : List Dl) (bs : List Nat) (cs : List Nat) {l b : Nat} (hb : b < 8) : (alB F D bs cs 255 l).testBit b = allL F D bs cs l b := by
  rw [alB_bit]
  have h1 : (255 : Nat).testBit b = true := by rw [show (255 : Nat) = 2 ^ 8 - 1 from rfl, Nat.testBit_two_pow_sub_one]; simp [hb]
  rw [h1, Bool.true_and]
  unfold allL
  simp [hb]
/-- over the eight families: what is left of all codes till now -/
def anyL (F : Nat → Nat) (D : List Dl) (bs : List Nat) (cs : List Nat) (l : Nat) : Bool := (List.range l).any (fun f => alB F D bs cs 255 f != 0)
theorem anyL_succ (F : Nat → Nat) (D : List Dl) (bs : List Nat) (cs : List Nat) (l : Nat) : anyL F D bs cs (l + 1) = (anyL F D bs cs l || alB F D bs cs 255 l != 0) := by simp [anyL, List.range_succ, List.any_append]
def S90 (a _k : Nat) : Prop := a = 90
set_option maxHeartbeats 4000000 in
set_option maxRecDepth 100000 in
theorem q_loan51 {F : Nat → Nat} {D : List Dl} {bs : List Nat} {cs : List Nat} {c : Nat} {w : Int32} {Q : Int32 → Hp → Prop} {k101 : Int32 → Int32 → Hp → Prop} (h0 : Hp) (e89 : ∀ f, f < 8 → hI h0 89 f = n32 (lnB F (bRows D bs c 0) f 8)) (k : ∀ h', fr S90 h0 h' → AlA F D bs (cs ++ [c]) h' → k101 w (n32 (if anyL F D bs (cs ++ [c]) 8 then 1 else 0)) h') :
    ∀ (r l : Nat) (h : Hp), r + l = 8 → fr S90 h0 h → (∀ f, f < l → hI h 90 f = n32 (alB F D bs (cs ++ [c]) 255 f)) → (∀ f, l ≤ f → f < 8 → hI h 90 f = n32 (alB F D bs cs 255 f)) → m_X12_loanAtHand_51 (r + 1) k101 Q w (n32 (if anyL F D bs (cs ++ [c]) l then 1 else 0)) (n32 l) h := by
  intro r
  induction r with
  | zero =>
    intro l h hr f e1 e2
    obtain rfl : l = 8 := by omega
    rw [m_X12_loanAtHand_51]
    simp (disch := omega) only [↓m1_pm, lit32, n32_add, n32_mul, n32_ix, n32_lt, n32_le, n32_eq, n32_in, pm_ix, pm_in, pm_eqn, n_eqpm, pm_ltn, n_ltpm, pm_len, n_lepm, pm_inj, forall_eq]
    exact ⟨fun _ => k h f e1, fun z => absurd (Nat.le_refl _) z⟩
  | succ r ih =>
    intro l h hr f e1 e2
    rw [m_X12_loanAtHand_51]
    have a90 := e2 l (Nat.le_refl _) (by omega)
    have a89 : hI h 89 l = n32 (lnB F (bRows D bs c 0) l 8) := by rw [f.I (by unfold S90; omega)]; exact e89 l (by omega)
    have b1 := alB_le F D bs l cs 255
    have b2 := lnB_lt F (bRows D bs c 0) l 8
    have b3 : alB F D bs cs 255 l &&& lnB F (bRows D bs c 0) l 8 ≤ alB F D bs cs 255 l := Nat.and_le_left
    have e3 := alB_app F D bs cs c 255 l
    have next : ∀ a : Bool, a = anyL F D bs (cs ++ [c]) (l + 1) → m_X12_loanAtHand_51 (r + 1) k101 Q w (n32 (if a then 1 else 0)) (n32 (l + 1)) (wI h 90 l (n32 (alB F D bs cs 255 l &&& lnB F (bRows D bs c 0) l 8))) := by
      rintro a rfl
      refine ih (l + 1) _ (by omega) (fr_wI f _ (by unfold S90; omega)) (fun g hg => ?_) (fun g h1 h2 => ?_)
      · rw [hI_wI]
        by_cases q : g = l
        · subst q; rw [if_pos ⟨rfl, rfl⟩, e3]
        · rw [if_neg (by omega)]; exact e1 g (by omega)
      · rw [hI_wI, if_neg (by omega)]; exact e2 g (by omega) h2
    unfold m_X12_loanAtHand_89 m_X12_loanAtHand_94
    simp (disch := omega) only [↓m1_pm, lit32, n32_add, n32_mul, n32_ix, n32_lt, n32_le, n32_eq, n32_in, pm_ix, pm_in, pm_eqn, n_eqpm, pm_ltn, n_ltpm, pm_len, n_lepm, pm_inj, forall_eq, a90, a89, n32_and, hI_wI, hI_wJ, hI_wR, hJ_wJ, hJ_wI, hJ_wR, hR_wR, hR_wI, hR_wJ, Nat.reduceEqDiff, false_and, and_false, if_false, if_true, ite_true, ite_false, reduceIte, and_self]
    refine ⟨fun z => absurd z (by omega), fun _ => ⟨by omega, by omega, by omega, fun z => next true ?_, fun z => ⟨by omega, fun z2 => next false ?_, fun z2 => next true ?_⟩⟩⟩
    · rw [anyL_succ]
      cases hq : anyL F D bs (cs ++ [c]) l with
      | true => rfl
      | false => rw [hq] at z; exact absurd (by decide) z
    · rw [anyL_succ, e3, z2]
      cases hq : anyL F D bs (cs ++ [c]) l with
      | false => rfl
      | true => rw [hq] at z; exact absurd z (by decide)
    · rw [anyL_succ, e3]
      simp [z2]
theorem any_no {F : Nat → Nat} {D : List Dl} {bs cs ds : List Nat} (h : anyL F D bs cs 8 = false) : lpF (allL F D bs (cs ++ ds)) 0 = none := by
  unfold lpF
  rw [List.find?_eq_none]
  intro p hp
  rw [List.mem_range'] at hp
  obtain ⟨i, hi, rfl⟩ := hp
  simp only [Nat.zero_add, Nat.one_mul]
  intro q
  unfold allL at q
  rw [List.all_append, Bool.and_eq_true] at q
  have h2 : allL F D bs cs (i / 8) (i % 8) = true := q.1
  rw [← al_all F D bs cs (by omega : i % 8 < 8)] at h2
  unfold anyL at h
  rw [List.any_eq_false] at h
  have h3 := h (i / 8) (by rw [List.mem_range]; omega)
  have h4 : alB F D bs cs 255 (i / 8) = 0 := by simpa using h3
  rw [h4] at h2
  simp at h2
set_option maxHeartbeats 4000000 in
set_option maxRecDepth 100000 in
theorem q_loan38 {x : Ab} {bs : List Nat} {Q : Int32 → Hp → Prop} (K : OkA x) (hin : inD x bs) (h0 : Hp) : ∀ (cs : List Nat) (v : Int32) (done : List Nat) (h : Hp), CodAt (aD x) bs cs v → InvR x h → LstIs bs h → fr SLo h0 h → AlA (aF x) (aD x) bs done h →
    (∀ h', fr SLo h0 h' → Q (pm (loanV (lpF (allL (aF x) (aD x) bs (done ++ cs)) 0))) h') → m_X12_loanAtHand_38 (cs.length + 1) (m_X12_loanAtHand_118 Q) Q v h := by
  intro cs
  induction cs with
  | nil =>
    intro v done h ca I L f al k
    rcases ca with ⟨-, rfl⟩ | ⟨e, -, h2, -⟩
    · rw [List.length_nil, m_X12_loanAtHand_38]
      refine ⟨fun _ => ?_, fun z => absurd (by decide) z⟩
      unfold m_X12_loanAtHand_118
      refine ⟨_, q_loan120 (P := allL (aF x) (aD x) bs done) (fun l => alB (aF x) (aD x) bs done 255 l) (fun l hl => ⟨al l hl, ?_, fun b hb => al_all _ _ _ _ hb⟩) 8 0 rfl ?_⟩
      · have := alB_le (aF x) (aD x) bs l done 255
        show alB (aF x) (aD x) bs done 255 l < 256
        omega
      · have := k h f
        rw [List.append_nil] at this
        exact this
    · cases h2
  | cons c cs ih =>
    intro v done h ca I L f al k
    rcases ca with ⟨h1, -⟩ | ⟨e, he, h2, rfl⟩
    · cases h1
    · cases h2
      have hN := nCod_le K hin L.2.1
      rw [List.length_cons, m_X12_loanAtHand_38]
      refine ⟨fun z => ?_, fun _ => ?_⟩
      · rw [show (0 : Int32) = n32 0 from rfl, n32_lt (by omega) (by omega)] at z; omega
      · refine q_lending I K hin L (by omega) (fun h1 f1 I1 L1 Lk e1 => ?_)
        refine ⟨_, q_loan51 (F := aF x) (D := aD x) (bs := bs) (cs := done) (c := c) h1 (fun g hg => (e1 g hg).1) (fun h2 f2 al2 => ?_) 8 0 h1 rfl (fr.rf _ _) (fun g hg => by omega) (fun g _ hg => ?_)⟩
        · have f3 : fr SLo h1 h2 := f2.mono (by unfold S90 SLo; intro q k h; exact Or.inr h)
          have f13 : fr SLo h0 h2 := (f.trans (f1.mono SLe_SLo)).trans f3
          have I2 := I1.fr (f3.mono SLo_Scr)
          have L2 := L1.fr f3 (by unfold SLo SLe; omega) (by unfold SLo SLe; omega)
          unfold m_X12_loanAtHand_101
          cases hq : anyL (aF x) (aD x) bs (done ++ [c]) 8 with
          | true =>
            refine ⟨fun _ => ?_, fun z => absurd z (by decide)⟩
            rw [show n32 c + 1 = n32 (c + 1) from n32_add c 1]
            refine q_codeAt I2 K hin L2 (by omega) (fun v' hv' => ih v' (done ++ [c]) h2 hv' I2 L2 f13 al2 (fun h' f' => ?_))
            rw [List.append_assoc]
            exact k h' f'
          | false =>
            refine ⟨fun z => absurd (by decide) z, fun _ => ?_⟩
            have := k h2 f13
            rw [show done ++ c :: codFrom (aD x) bs (c + 1) = (done ++ [c]) ++ codFrom (aD x) bs (c + 1) by simp, any_no hq] at this
            exact this
        · rw [f1.I (by unfold SLe; omega)]; exact al g hg
theorem loanP_lp (F : Nat → Nat) (D : List Dl) (bs : List Nat) : lpF (allL F D bs (codFrom D bs 0)) 0 = loanP F D bs := by
  unfold lpF loanP allL
  rw [codFrom0, List.range_eq_range']
set_option maxHeartbeats 4000000 in
set_option maxRecDepth 100000 in
theorem q_loanAt {x : Ab} {bs : List Nat} {h : Hp} {Q : Int32 → Hp → Prop} (I : InvR x h) (K : OkA x) (hin : inD x bs) (L : LstIs bs h) (k : ∀ h', fr SLo h h' → Q (pm (loanN (aF x) (aD x) bs)) h') : m_X12_loanAtHand h Q := by
  unfold m_X12_loanAtHand
  unfold loanN at k
  refine q_looked I K hin L (fun q => ?_) (fun q => ?_)
  · unfold looked at q
    rw [if_pos q] at k
    refine ⟨fun _ => ?_, fun z => absurd z (by decide)⟩
    have init : ∀ (r l : Nat) (h1 : Hp), r + l = 8 → fr S90 h h1 → (∀ f, f < l → hI h1 90 f = n32 255) → m_X12_loanAtHand_11 (r + 1) (m_X12_loanAtHand_32 Q) Q (n32 l) h1 := by
      intro r
      induction r with
      | zero =>
        intro l h1 hr f e
        obtain rfl : l = 8 := by omega
        rw [m_X12_loanAtHand_11]
        unfold m_X12_loanAtHand_32
        have f' : fr SLo h h1 := f.mono (by unfold S90 SLo; intro q k h; exact Or.inr h)
        have I1 := I.fr (f'.mono SLo_Scr)
        have L1 := L.fr f' (by unfold SLo SLe; omega) (by unfold SLo SLe; omega)
        refine ⟨fun _ => ?_, fun z => absurd (by decide) z⟩
        refine q_codeAt (c := 0) I1 K hin L1 (by omega) (fun v hv => ⟨_, q_loan38 K hin h _ v [] h1 hv I1 L1 f' (fun l hl => e l hl) (fun h' f'' => ?_)⟩)
        rw [List.nil_append, loanP_lp]
        exact k h' f''
      | succ r ih =>
        intro l h1 hr f e
        rw [m_X12_loanAtHand_11]
        simp (disch := omega) only [↓m1_pm, lit32, n32_add, n32_mul, n32_ix, n32_lt, n32_le, n32_eq, n32_in, pm_ix, pm_in, pm_eqn, n_eqpm, pm_ltn, n_ltpm, pm_len, n_lepm, pm_inj, forall_eq]
        refine ⟨fun z => absurd z (by omega), fun _ => ⟨by omega, ih (l + 1) _ (by omega) (fr_wI f _ (by unfold S90; omega)) (fun g hg => ?_)⟩⟩
        rw [hI_wI]
        by_cases q : g = l
        · subst q; rw [if_pos ⟨rfl, rfl⟩]
        · rw [if_neg (by omega)]; exact e g (by omega)
    exact ⟨_, init 8 0 h rfl (fr.rf _ _) (fun f hf => by omega)⟩
  · unfold looked at q
    rw [if_neg q] at k
    exact ⟨fun z => absurd rfl z, fun _ => k h (fr.rf _ _)⟩
theorem loanN_le (F : Nat → Nat) (D : List Dl) (bs : List Nat) : loanN F D bs ≤ 78 := by
  unfold loanN
  split
  · unfold loanP
    cases hp : (List.range 64).find? (fun p => (codesL D bs).all (fun c => bLend F D bs c (p / 8) (p % 8))) with
    | none => exact Nat.zero_le _
    | some p =>
      have := List.mem_range.mp (List.mem_of_find?_eq_some hp)
      show 10 * (p / 8) + p % 8 + 1 ≤ 78
      omega
  · omega
def ansLoan (x : Ab) : Int32 := pm (loanN (aF x) (aD x) (aB x))
theorem R_loan {x : Ab} {h : Hp} {Q : Int32 → Hp → Prop} (I : InvR x h) (K : OkA x) (k : ∀ h', fr Scr h h' → Q (ansLoan x) h') : m_X12_loan h Q := by
  unfold m_X12_loan
  refine q_bundle I (fun h1 f1 L => ?_)
  exact q_loanAt (I.fr (f1.mono SLs_Scr)) K I.inB L (fun h' f' => k h' ((f1.mono SLs_Scr).trans (f'.mono SLo_Scr)))
/-- the least of a family's nets of coin by these codes (0: none yet) -/
def leastS (F : Nat → Nat) (D : List Dl) (bs : List Nat) (l : Nat) (s : Int) (c : Nat) : Int := if s = 0 ∨ net F (bRows D bs c 0) l 0 < s then net F (bRows D bs c 0) l 0 else s
def ansStep (x : Ab) : Int64 := if loanN (aF x) (aD x) (aB x) = 0 then -1 else z64 ((codesL (aD x) (aB x)).foldl (leastS (aF x) (aD x) (aB x) ((loanN (aF x) (aD x) (aB x) - 1) / 10)) 0)
set_option maxHeartbeats 4000000 in
set_option maxRecDepth 100000 in
theorem q_step26 {x : Ab} {w : Nat} {bs : List Nat} {Q : Int64 → Hp → Prop} (K : OkA x) (hin : inD x bs) (hw : w < 78) (h0 : Hp) : ∀ (cs : List Nat) (v : Int32) (s : Int) (h : Hp), CodAt (aD x) bs cs v → InvR x h → LstIs bs h → fr SFl h0 h → -3000000000000 ≤ s → s ≤ 3000000000000 →
    (∀ h', fr SFl h0 h' → Q (z64 (cs.foldl (leastS (aF x) (aD x) bs (w / 10)) s)) h') → m_X12_step_26 (cs.length + 1) Q (n32 w) (z64 s) v h := by
  intro cs
  induction cs with
  | nil =>
    intro v s h ca I L f a1 a2 k
    rcases ca with ⟨-, rfl⟩ | ⟨e, -, h2, -⟩
    · rw [List.length_nil, m_X12_step_26]
      exact ⟨fun _ => k h f, fun z => absurd (by decide) z⟩
    · cases h2
  | cons c cs ih =>
    intro v s h ca I L f a1 a2 k
    rcases ca with ⟨h1, -⟩ | ⟨e, he, h2, rfl⟩
    · cases h1
    · cases h2
      have hN := nCod_le K hin L.2.1
      rw [List.foldl_cons] at k
      rw [List.length_cons, m_X12_step_26]
      refine ⟨fun z => ?_, fun _ => ?_⟩
      · rw [show (0 : Int32) = n32 0 from rfl, n32_lt (by omega) (by omega)] at z; omega
      · refine q_rows I K hin L (by omega) (fun h1 f1 I1 L1 F1 => ?_)
        have ediv : n32 w / 10 = n32 (w / 10) := by
          have key : ∀ t : Fin 78, n32 t.val / 10 = n32 (t.val / 10) := by decide
          exact key ⟨w, hw⟩
        rw [ediv]
        refine q_netOf (t := 0) (dd := 0) I1.1 F1 (bRows_ok K hin).1 (by omega) (by omega) (by omega) ?_
        have ab := bR_abs K hin L.2.1 c 0 (w / 10) 0 0
        rw [netG0] at ab ⊢
        have next : ∀ u : Int, u = leastS (aF x) (aD x) bs (w / 10) s c → m_X12_step_65 (fun v1 v2 v4 hh => m_X12_step_26 ((codFrom (aD x) bs (c + 1)).length + 1) Q v1 v2 v4 hh) Q (n32 w) (z64 u) (n32 c) h1 := by
          rintro u rfl
          unfold m_X12_step_65
          rw [show n32 c + 1 = n32 (c + 1) from n32_add c 1]
          refine q_codeAt I1 K hin L1 (by omega) (fun v' hv' => ih v' _ h1 hv' I1 L1 (f.trans f1) ?_ ?_ k) <;> unfold leastS <;> split <;> omega
        have z0 : (0 : Int64) = z64 0 := rfl
        unfold m_X12_step_62
        rw [z0]
        simp (disch := omega) only [↓m1_pm, lit32, n32_add, n32_mul, n32_ix, n32_lt, n32_le, n32_eq, n32_in, pm_ix, pm_in, pm_eqn, n_eqpm, pm_ltn, n_ltpm, pm_len, n_lepm, pm_inj, forall_eq, lgc_eq, lgc_ge]
        refine ⟨fun q => next _ ?_, fun q => ⟨fun q2 => next _ ?_, fun q2 => next _ ?_⟩⟩
        · unfold leastS; rw [if_pos (Or.inl q)]
        · unfold leastS; rw [if_neg (by omega)]
        · unfold leastS; rw [if_pos (by omega)]
set_option maxHeartbeats 4000000 in
set_option maxRecDepth 100000 in
theorem R_step {x : Ab} {h : Hp} {Q : Int64 → Hp → Prop} (I : InvR x h) (K : OkA x) (k : ∀ h', fr Scr h h' → Q (ansStep x) h') : m_X12_step h Q := by
  unfold m_X12_step
  unfold ansStep at k
  refine q_bundle I (fun h1 f1 L => ?_)
  have I1 := I.fr (f1.mono SLs_Scr)
  refine q_loanAt I1 K I.inB L (fun h2 f2 => ?_)
  have f12 : fr Scr h h2 := (f1.mono SLs_Scr).trans (f2.mono SLo_Scr)
  have I2 := I.fr f12
  have L2 := L.fr f2 (by unfold SLo SLe; omega) (by unfold SLo SLe; omega)
  have h78 := loanN_le (aF x) (aD x) (aB x)
  generalize loanN (aF x) (aD x) (aB x) = n at k h78
  by_cases hn : n = 0
  · subst hn
    refine ⟨fun z => absurd z (by decide), fun _ => ?_⟩
    have := k h2 f12
    rw [if_pos rfl] at this
    exact this
  · rw [if_neg hn] at k
    refine ⟨fun _ => ?_, fun z => absurd ((pm_ge0 (by omega)).mpr (by omega)) z⟩
    rw [pm_n32 (by omega)]
    refine q_codeAt (c := 0) I2 K I.inB L2 (by omega) (fun v hv => ⟨_, q_step26 K I.inB (by omega) h2 _ v 0 h2 hv I2 L2 (fr.rf _ _) (by decide) (by decide) (fun h' f' => ?_)⟩)
    have := k h' (f12.trans (f'.mono SFl_Scr))
    rw [codFrom0]
    exact this
