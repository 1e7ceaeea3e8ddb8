/-! THE MODEL: honest bundles -/
def honS (x : Ab) (i : Nat) : List Nat := (aH x).getD i []
set_option maxHeartbeats 4000000 in
set_option maxRecDepth 100000 in
theorem q_honest {x : Ab} {i : Nat} {h : Hp} {Q : Hp → Prop} (I : InvR x h) (hi : i < (aH x).length) (k : ∀ h', fr SLs h h' → LstIs (honS x i) h' → Q h') : m_X12_honestAtHand (n32 i) h Q := by
  unfold m_X12_honestAtHand
  obtain ⟨e88, l6, hH⟩ := I.2.2.2.2.2.2.2.2.2
  obtain ⟨g1, g2, g3, -⟩ := hH i hi
  have hl : (honS x i).length ≤ 6 := g2
  have g1' : hI h 104 i = n32 (honS x i).length := g1
  have main : ∀ (r j : Nat) (h' : Hp), r + j = (honS x i).length → fr SLs h h' → hI h' 51 55 = n32 (honS x i).length → (∀ m, m < j → hI h' 85 m = n32 ((honS x i).getD m 0)) → m_X12_honestAtHand_12 (r + 1) Q (n32 i) (n32 j) h' := by
    intro r
    induction r with
    | zero =>
      intro j h' hr f e55 e85
      rw [m_X12_honestAtHand_12]
      simp (disch := omega) only [↓m1_pm, lit32, n32_add, n32_mul, n32_ix, n32_lt, n32_le, n32_eq, n32_in, pm_ix, pm_in, pm_eqn, n_eqpm, pm_ltn, n_ltpm, pm_len, n_lepm, pm_inj, forall_eq, e55]
      exact ⟨fun _ => k h' f ⟨e55, hl, fun m hm => e85 m (by omega)⟩, fun z => absurd z (by omega)⟩
    | succ r ih =>
      intro j h' hr f e55 e85
      have e105 : hI h' 105 (6 * i + j) = n32 ((honS x i).getD j 0) := by rw [f.I (by unfold SLs; omega)]; exact g3 j (by show j < (honS x i).length; omega)
      rw [m_X12_honestAtHand_12]
      simp (disch := omega) only [↓m1_pm, lit32, n32_add, n32_mul, n32_ix, n32_lt, n32_le, n32_eq, n32_in, pm_ix, pm_in, pm_eqn, n_eqpm, pm_ltn, n_ltpm, pm_len, n_lepm, pm_inj, forall_eq, e55, e105]
      refine ⟨fun z => absurd z (by omega), fun _ => ⟨by omega, by omega, ?_⟩⟩
      refine ih (j + 1) _ (by omega) (fr_wI f _ (by unfold SLs; omega)) (by rw [hI_wI, if_neg (by omega)]; exact e55) (fun m hm => ?_)
      rw [hI_wI]
      by_cases e : m = j
      · subst e; simp
      · rw [if_neg (by omega)]; exact e85 m (by omega)
  rw [n32_ix (by omega), g1']
  exact ⟨vpI (by omega) (by decide), _, main (honS x i).length 0 _ (by omega) (fr_wI (fr.rf _ _) _ (by unfold SLs; omega)) (by rw [hI_wI, if_pos ⟨rfl, rfl⟩]) (fun m hm => by omega)⟩
theorem InvR.inH {x : Ab} {h : Hp} (I : InvR x h) {i : Nat} (hi : i < (aH x).length) : inD x (honS x i) ∧ (honS x i).length ≤ 6 := ⟨(I.2.2.2.2.2.2.2.2.2.2.2 i hi).2.2.2.1, (I.2.2.2.2.2.2.2.2.2.2.2 i hi).2.1⟩
def ansInnocent (x : Ab) (v1 v2 : Int32) : Int32 := match argN v1 (aH x).length with
  | none => -1
  | some i => if v2 = 0 then (if bars1 (aF x) (lawS x) (lvs (aD x) (honS x i)) then 0 else 1) else if v2 = 1 then pm (loanN (aF x) (aD x) (honS x i)) else
      (match argN v2 (10 + (honS x i).length) with | some w => if 10 ≤ w then n32 ((honS x i).getD (w - 10) 0) else -1 | none => -1)
set_option maxHeartbeats 4000000 in
set_option maxRecDepth 100000 in
theorem R_innocent {x : Ab} {v1 v2 : Int32} {h : Hp} {Q : Int32 → Hp → Prop} (I : InvR x h) (K : OkA x) (k : ∀ h', fr Scr h h' → Q (ansInnocent x v1 v2) h') : m_X12_innocent v1 v2 h Q := by
  unfold m_X12_innocent
  unfold ansInnocent at k
  obtain ⟨e88, l6, hH⟩ := id I.2.2.2.2.2.2.2.2.2
  rw [e88]
  refine q_below (by omega) (fun e => ?_) (fun i hi e1 e2 => ?_)
  · rw [e] at k; exact ⟨fun z => absurd rfl z, fun _ => k h (fr.rf _ _)⟩
  · rw [e2] at k
    subst e1
    dsimp only at k
    refine ⟨fun _ => ?_, fun z => absurd z (by decide)⟩
    refine q_honest I hi (fun h1 f1 L => ?_)
    have I1 := I.fr (f1.mono SLs_Scr)
    obtain ⟨hin, hl⟩ := I.inH hi
    replace k := fun h' (f : fr Scr h1 h') => k h' ((f1.mono SLs_Scr).trans f)
    refine ⟨fun q => ⟨fun q2 => ?_, fun q2 => ?_⟩, fun q => ?_⟩
    · rw [if_neg q, if_neg q2] at k
      obtain ⟨g1, g2, g3, -⟩ := I1.2.2.2.2.2.2.2.2.2.2.2 i hi
      have g1' : hI h1 104 i = n32 (honS x i).length := g1
      rw [n32_ix (by omega), g1', show (9 : Int32) = n32 9 from rfl, n32_add, show (10 : Int32) = n32 10 from rfl]
      refine ⟨vpI (by omega) (by decide), q_within (fun c => ?_) (fun c1 c2 => ?_)⟩
      · refine ⟨fun _ => ?_, fun z => absurd rfl z⟩
        have := k h1 (fr.rf _ _)
        cases ha : argN v2 (10 + (honS x i).length) with
        | none => rw [ha] at this; exact this
        | some w =>
          rw [ha] at this
          obtain ⟨w1, rfl, w2⟩ := argN_some ha
          rw [n32_lt w2 (by omega), n32_lt (by omega) w2] at c
          dsimp only at this
          rw [if_neg (by omega)] at this
          exact this
      · obtain ⟨w, hw, rfl⟩ : ∃ w, w < 2147483648 ∧ v2 = n32 w := by
          rcases i_cases v2 with g | g
          · exact absurd (ng_lt g (by decide)) c1
          · exact g
        rw [n32_lt hw (by omega)] at c1
        rw [n32_lt (by omega) hw] at c2
        refine ⟨fun z => absurd z (by decide), fun _ => ?_⟩
        have := k h1 (fr.rf _ _)
        rw [argN_n (by omega) hw] at this
        dsimp only at this
        rw [if_pos (by omega)] at this
        have e105 := g3 (w - 10) (by show w - 10 < (honS x i).length; omega)
        have es : n32 6 * n32 i + n32 w - n32 10 = n32 (6 * i + (w - 10)) := by
          rw [n32_mul, n32_add, n32_sub (by omega)]
          congr 1
          omega
        rw [show (6 : Int32) = n32 6 from rfl, es, n32_ix (by omega), e105]
        exact ⟨vpI (by omega) (by decide), this⟩
    · rw [if_neg q, if_pos q2] at k
      exact q_loanAt I1 K hin L (fun h' f' => k h' (f'.mono SLo_Scr))
    · rw [if_pos q] at k
      refine q_breachNow I1 K hin L (fun h2 f2 I2 L2 hit => ?_)
      have := k h2 (f2.mono SBr_Scr)
      unfold bars1 at this
      cases hb : brc (aF x) (lawS x) (lvs (aD x) (honS x i)) with
      | none => rw [hb] at this; exact ⟨fun z => absurd z (by decide), fun _ => this⟩
      | some q3 =>
        rw [hb] at this
        obtain ⟨s, a, b⟩ := q3
        have hs := (hit s a b hb).1
        refine ⟨fun _ => this, fun z => absurd ((pm_ge0 (by show s + 1 ≤ _; omega)).mpr (by show 0 < s + 1; omega)) z⟩
/-- whether two bundles part by a code -/
def partB (x : Ab) (bs cs : List Nat) (c : Nat) : Bool := (List.range 48).any (fun k => net (aF x) (bRows (aD x) bs c 0) (k / 6) (k % 6) != net (aF x) (bRows (aD x) cs c 0) (k / 6) (k % 6))
def S106 (a _k : Nat) : Prop := a = 106
theorem div6 {k : Nat} (h : k < 48) : n32 k / 6 = n32 (k / 6) ∧ n32 k - n32 k / 6 * 6 = n32 (k % 6) := by
  have key : ∀ t : Fin 48, n32 t.val / 6 = n32 (t.val / 6) ∧ n32 t.val - n32 t.val / 6 * 6 = n32 (t.val % 6) := by decide
  exact key ⟨k, h⟩
def SPt (a k : Nat) : Prop := SFl a k ∨ SLs a k ∨ a = 106
theorem SPt_Scr : ∀ a k, SPt a k → Scr a k := by unfold SPt SFl SLs Scr Last; omega
set_option maxHeartbeats 4000000 in
set_option maxRecDepth 100000 in
theorem q_doPart {x : Ab} {i c : Nat} {h : Hp} {Q : Int32 → Hp → Prop} (I : InvR x h) (K : OkA x) (hi : i < (aH x).length) (hc : c < 2147483648) (k : ∀ h', fr SPt h h' → Q (n32 (if partB x (aB x) (honS x i) c then 1 else 0)) h') : m_X12_doPart (n32 i) (n32 c) h Q := by
  unfold m_X12_doPart
  have S1 : ∀ a k, SFl a k → SPt a k := fun a k h => Or.inl h
  have S2 : ∀ a k, SLs a k → SPt a k := fun a k h => Or.inr (Or.inl h)
  have S3 : ∀ a k, S106 a k → SPt a k := fun a k h => Or.inr (Or.inr h)
  refine q_bundle I (fun h1 f1 L1 => ?_)
  have I1 := I.fr (f1.mono SLs_Scr)
  refine q_rows I1 K I.inB L1 hc (fun h2 f2 I2 L2 A2 => ?_)
  have f12 : fr SPt h h2 := (f1.mono S2).trans (f2.mono S1)
  obtain ⟨hin, hl⟩ := I.inH hi
  -- the second half
  have half : ∀ h3, fr SPt h h3 → (∀ m, m < 48 → hJ h3 106 m = z64 (net (aF x) (bRows (aD x) (aB x) c 0) (m / 6) (m % 6))) → m_X12_doPart_42 Q (n32 i) (n32 c) h3 := by
    intro h3 f3 e106
    unfold m_X12_doPart_42
    have I3 := I.fr (f3.mono SPt_Scr)
    refine q_honest I3 hi (fun h4 f4 L4 => ?_)
    have I4 := I3.fr (f4.mono SLs_Scr)
    refine q_rows I4 K hin L4 hc (fun h5 f5 I5 L5 A5 => ?_)
    have f35 : fr SPt h h5 := (f3.trans (f4.mono S2)).trans (f5.mono S1)
    have e106' : ∀ m, m < 48 → hJ h5 106 m = z64 (net (aF x) (bRows (aD x) (aB x) c 0) (m / 6) (m % 6)) := fun m hm => by
      rw [f5.J (by unfold SFl; omega), f4.J (by unfold SLs; omega)]; exact e106 m hm
    have main : ∀ (r m : Nat) (p : Bool), r + m = 48 → p = (List.range m).any (fun k => net (aF x) (bRows (aD x) (aB x) c 0) (k / 6) (k % 6) != net (aF x) (bRows (aD x) (honS x i) c 0) (k / 6) (k % 6)) → m_X12_doPart_57 (r + 1) Q (n32 (if p then 1 else 0)) (n32 m) h5 := by
      intro r
      induction r with
      | zero =>
        intro m p hr ep
        obtain rfl : m = 48 := by omega
        rw [m_X12_doPart_57]
        simp (disch := omega) only [↓m1_pm, lit32, n32_add, n32_mul, n32_ix, n32_lt, n32_le, n32_eq, n32_in, pm_ix, pm_in, pm_eqn, n_eqpm, pm_ltn, n_ltpm, pm_len, n_lepm, pm_inj, forall_eq]
        refine ⟨fun _ => ⟨?_, ?_⟩, fun z => absurd (Nat.le_refl _) z⟩
        · cases p
          · exact Or.inl rfl
          · exact Or.inr rfl
        · have := k h5 f35
          unfold partB at this
          rw [← ep] at this
          exact this
      | succ r ih =>
        intro m p hr ep
        rw [m_X12_doPart_57]
        have next : ∀ p' : Bool, p' = (p || (net (aF x) (bRows (aD x) (aB x) c 0) (m / 6) (m % 6) != net (aF x) (bRows (aD x) (honS x i) c 0) (m / 6) (m % 6))) → m_X12_doPart_99 (fun v3 v4 hh => m_X12_doPart_57 (r + 1) Q v3 v4 hh) Q (n32 m) (n32 (if p' then 1 else 0)) h5 := by
          intro p' e'
          unfold m_X12_doPart_99
          simp (disch := omega) only [↓m1_pm, lit32, n32_add, n32_mul, n32_ix, n32_lt, n32_le, n32_eq, n32_in, pm_ix, pm_in, pm_eqn, n_eqpm, pm_ltn, n_ltpm, pm_len, n_lepm, pm_inj, forall_eq]
          refine ih (m + 1) p' (by omega) ?_
          rw [List.range_succ, List.any_append, ← ep, e']
          simp
        unfold m_X12_doPart_94
        refine ⟨fun z => ?_, fun _ => ?_⟩
        · rw [show (48 : Int32) = n32 48 from rfl, n32_le (by omega) (by omega)] at z; omega
        · cases p with
          | true => exact ⟨fun _ => next true rfl, fun z => absurd z (by decide)⟩
          | false =>
            refine ⟨fun z => absurd (by decide) z, fun _ => ⟨vpI (by omega) (by decide), ?_⟩⟩
            rw [(div6 (k := m) (by omega)).2, (div6 (k := m) (by omega)).1, n32_ix (by omega), e106' m (by omega)]
            refine q_netOf (dd := 0) I5.1 A5 (bRows_ok K hin).1 (by omega) (by omega) (by omega) ?_
            have a1 := bR_abs K I.inB I.b6 c 0 (m / 6) (m % 6) 0
            have a2 := bR_abs K hin hl c 0 (m / 6) (m % 6) 0
            rw [netG0] at a1 a2 ⊢
            rw [show (0 : Int32) = n32 0 from rfl, lgc_eq (by omega) (by omega) (by omega) (by omega)]
            refine ⟨fun z => next false ?_, fun z => next true ?_⟩
            · simp [z]
            · simp [z]
    exact ⟨_, main 48 0 false rfl rfl⟩
  have main : ∀ (r m : Nat) (h3 : Hp), r + m = 48 → fr S106 h2 h3 → (∀ j, j < m → hJ h3 106 j = z64 (net (aF x) (bRows (aD x) (aB x) c 0) (j / 6) (j % 6))) → m_X12_doPart_11 (r + 1) (m_X12_doPart_42 Q) Q (n32 i) (n32 c) (n32 m) h3 := by
    intro r
    induction r with
    | zero =>
      intro m h3 hr f3 e
      obtain rfl : m = 48 := by omega
      rw [m_X12_doPart_11]
      exact ⟨fun _ => half h3 (f12.trans (f3.mono S3)) e, fun z => absurd (by decide) z⟩
    | succ r ih =>
      intro m h3 hr f3 e
      rw [m_X12_doPart_11]
      refine ⟨fun z => ?_, fun _ => ?_⟩
      · rw [show (48 : Int32) = n32 48 from rfl, n32_le (by omega) (by omega)] at z; omega
      · rw [(div6 (k := m) (by omega)).2, (div6 (k := m) (by omega)).1]
        have hF : ∀ k, k < 8 → hI h3 52 k = n32 (aF x k) ∧ aF x k < 8 := fun k hk => by rw [f3.I (by unfold S106; omega)]; exact I2.1 k hk
        refine q_netOf (dd := 0) hF (A2.fr f3 (by unfold S106; omega) (by unfold S106; omega)) (bRows_ok K I.inB).1 (by omega) (by omega) (by omega) ?_
        rw [netG0, n32_ix (by omega)]
        refine ⟨vpI (by omega) (by decide), fun x10 e10 => ?_⟩
        rw [e10, show n32 m + 1 = n32 (m + 1) from n32_add m 1]
        refine ih (m + 1) _ (by omega) (fr_wJ f3 _ (by unfold S106; omega)) (fun j hj => ?_)
        rw [hJ_wJ]
        by_cases q : j = m
        · subst q; rw [if_pos ⟨rfl, rfl⟩]
        · rw [if_neg (by omega)]; exact e j (by omega)
  exact ⟨_, main 48 0 h2 rfl (fr.rf _ _) (fun j hj => by omega)⟩
def ansParts (x : Ab) (v : Int32) : Int32 := match argN v (aH x).length with
  | none => -1
  | some i => if pop (bEvs (aD x) (aB x)) + bChs (aD x) (aB x) ≤ 8 ∧ pop (bEvs (aD x) (honS x i)) + bChs (aD x) (honS x i) ≤ 8 then
      (if partB x (aB x) (honS x i) 0 then -2 else pm (opN (fsome (fun e => if partB x (aB x) (honS x i) (2 ^ e) then some e else none) 0 5))) else -1
set_option maxHeartbeats 4000000 in
set_option maxRecDepth 100000 in
theorem R_parts {x : Ab} {v : Int32} {h : Hp} {Q : Int32 → Hp → Prop} (I : InvR x h) (K : OkA x) (k : ∀ h', fr Scr h h' → Q (ansParts x v) h') : m_X12_parts v h Q := by
  unfold m_X12_parts
  unfold ansParts at k
  obtain ⟨e88, l6, hH⟩ := id I.2.2.2.2.2.2.2.2.2
  rw [e88]
  refine q_below (by omega) (fun e => ?_) (fun i hi e1 e2 => ?_)
  · rw [e] at k; exact ⟨fun z => absurd rfl z, fun _ => k h (fr.rf _ _)⟩
  · rw [e2] at k
    subst e1
    dsimp only at k
    refine ⟨fun _ => ?_, fun z => absurd z (by decide)⟩
    refine q_bundle I (fun h1 f1 L1 => ?_)
    have I1 := I.fr (f1.mono SLs_Scr)
    obtain ⟨hin, hl⟩ := I.inH hi
    have hand : ∀ (b : Int32), (∀ h2, fr Scr h h2 → InvR x h2 → LstIs (honS x i) h2 → (b = 0 → Q (-1) h2) ∧ (¬ b = 0 → m_X12_isLookedAt h2 (fun (x12 : Int32) (h13 : Hp) => (¬ x12 = 0 → m_X12_doPart (n32 i) 0 h13 (fun (x14 : Int32) (h15 : Hp) => (x14 = 0 → ∃ n57, m_X12_parts_57 n57 Q (n32 i) 0 h15) ∧ (¬ x14 = 0 → Q (-2) h15))) ∧ (x12 = 0 → Q (-1) h13)))) → m_X12_honestAtHand (n32 i) h1 (fun (h11 : Hp) => (b = 0 → Q (-1) h11) ∧ (¬ b = 0 → m_X12_isLookedAt h11 (fun (x12 : Int32) (h13 : Hp) => (¬ x12 = 0 → m_X12_doPart (n32 i) 0 h13 (fun (x14 : Int32) (h15 : Hp) => (x14 = 0 → ∃ n57, m_X12_parts_57 n57 Q (n32 i) 0 h15) ∧ (¬ x14 = 0 → Q (-2) h15))) ∧ (x12 = 0 → Q (-1) h13)))) := by
      intro b hb
      refine q_honest I1 hi (fun h2 f2 L2 => hb h2 ((f1.mono SLs_Scr).trans (f2.mono SLs_Scr)) (I1.fr (f2.mono SLs_Scr)) L2)
    refine q_looked I1 K I.inB L1 (fun q => ?_) (fun q => ?_)
    · refine hand 1 (fun h2 f2 I2 L2 => ⟨fun z => absurd z (by decide), fun _ => ?_⟩)
      refine q_looked I2 K hin L2 (fun q2 => ?_) (fun q2 => ?_)
      · refine ⟨fun _ => ?_, fun z => absurd z (by decide)⟩
        unfold looked at q q2
        rw [if_pos ⟨q, q2⟩] at k
        refine q_doPart (c := 0) I2 K hi (by decide) (fun h3 f3 => ?_)
        have f23 : fr Scr h h3 := f2.trans (f3.mono SPt_Scr)
        cases hp : partB x (aB x) (honS x i) 0 with
        | true =>
          rw [hp] at k
          exact ⟨fun z => absurd z (by decide), fun _ => k h3 f23⟩
        | false =>
          rw [hp] at k
          refine ⟨fun _ => ?_, fun z => absurd (by decide) z⟩
          have main : ∀ (r e : Nat) (h4 : Hp), r + e = 5 → fr Scr h h4 → fsome (fun e => if partB x (aB x) (honS x i) (2 ^ e) then some e else none) e 5 = fsome (fun e => if partB x (aB x) (honS x i) (2 ^ e) then some e else none) 0 5 → m_X12_parts_57 (r + 1) Q (n32 i) (n32 e) h4 := by
            intro r
            induction r with
            | zero =>
              intro e h4 hr f4 es
              obtain rfl : e = 5 := by omega
              rw [m_X12_parts_57]
              rw [fsome_end (by omega)] at es
              have := k h4 f4
              rw [← es] at this
              exact ⟨fun _ => this, fun z => absurd (by decide) z⟩
            | succ r ih =>
              intro e h4 hr f4 es
              rw [m_X12_parts_57]
              have I4 := I.fr f4
              have hp2 : 2 ^ e ≤ 2 ^ 4 := pw_le (by omega)
              refine ⟨fun z => ?_, fun _ => ?_⟩
              · rw [show (5 : Int32) = n32 5 from rfl, n32_le (by omega) (by omega)] at z; omega
              · rw [show (1 : Int32) = n32 1 from rfl, show (31 : Int32) = n32 31 from rfl, shl1 (by omega)]
                refine q_doPart I4 K hi (by omega) (fun h5 f5 => ?_)
                cases hq : partB x (aB x) (honS x i) (2 ^ e) with
                | true =>
                  refine ⟨fun z => absurd z (by decide), fun _ => ?_⟩
                  rw [fsome_yes (v := e) (by omega) (by rw [hq]; rfl)] at es
                  have := k h5 (f4.trans (f5.mono SPt_Scr))
                  rw [← es] at this
                  exact this
                | false =>
                  refine ⟨fun _ x3 e3 => ?_, fun z => absurd (by decide) z⟩
                  rw [e3, n32_add]
                  exact ih (e + 1) h5 (by omega) (f4.trans (f5.mono SPt_Scr)) (by rw [← fsome_no (by omega) (by rw [hq]; rfl)]; exact es)
          exact ⟨_, main 5 0 h3 rfl f23 rfl⟩
      · refine ⟨fun z => absurd rfl z, fun _ => ?_⟩
        have := k h2 f2
        unfold looked at q2
        rw [if_neg (fun z => q2 z.2)] at this
        exact this
    · refine hand 0 (fun h2 f2 I2 L2 => ⟨fun _ => ?_, fun z => absurd rfl z⟩)
      have := k h2 f2
      unfold looked at q
      rw [if_neg (fun z => q z.1)] at this
      exact this
