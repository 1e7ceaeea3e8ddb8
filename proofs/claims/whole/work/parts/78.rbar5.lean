/-! THE MODEL: a statement is read, whole -/
def b2 (T : List Nat) (s : PS) : PS × Nat := sFrm T (sMust T wBar s)
def b3 (T : List Nat) (s : PS) : PS × Nat := sOfT T (b2 T s).1
def isThen (T : List Nat) : PS → Bool
  | .inl _ => false
  | .inr t => isW T t wThen
def sNx (T : List Nat) : PS → PS
  | .inl e => .inl e
  | .inr t => .inr (nxt T t)
def b5 (T : List Nat) (s : PS) : PS × Nat := sFrm T (sNx T (b3 T s).1)
def b6 (T : List Nat) (s : PS) : PS × Nat := sOfT T (b5 T s).1
def b7 (T : List Nat) (s : PS) : PS × Nat := tieL T (T.length + 1) 0 (b6 T s).1
def b8 (T : List Nat) (s : PS) : PS × Nat := sWit T (b7 T s).1
def brS (T : List Nat) (s : PS) : PS := if isThen T (b3 T s).1 then sEnd T 59 (b8 T s).1 else sEnd T 59 (b3 T s).1
def brR (T : List Nat) (s : PS) : Rec := fun j => if j = 0 then (b2 T s).2 else if j = 1 then (b3 T s).2 else if isThen T (b3 T s).1 then (if j = 2 then 1 else if j = 3 then (b5 T s).2 else if j = 4 then (b6 T s).2 else if j = 5 then (b7 T s).2 else (b8 T s).2) else 0
theorem brR_ok (T : List Nat) (s : PS) : okStm (brR T s) := by
  have h2 : (b2 T s).2 < 5 := sFrm_lt
  have h3 : (b3 T s).2 < 7 := sOfT_lt
  have h5 : (b5 T s).2 < 5 := sFrm_lt
  have h6 : (b6 T s).2 < 7 := sOfT_lt
  have h7 : (b7 T s).2 < 8 := tieL_lt _ _ _ (by decide)
  have h8 : (b8 T s).2 < 10001 := sWit_lt
  unfold okStm brR
  by_cases q : isThen T (b3 T s).1 = true
  · simp [q]; omega
  · simp [q]; omega
def SBs (i a k : Nat) : Prop := SPr a k ∨ 93 ≤ a ∧ a ≤ 99 ∧ k = i
theorem sEnd_ok {T : List Nat} {c : Nat} : ∀ {s : PS}, okP (sEnd T c s) → okP s
  | .inl _, h => h
  | .inr _, _ => trivial
theorem isThen_ok {T : List Nat} : ∀ {s : PS}, isThen T s = true → ∃ t, s = .inr t ∧ isW T t wThen = true
  | .inl _, h => absurd h (by show ¬ false = true; decide)
  | .inr t, h => ⟨t, rfl, h⟩
set_option maxHeartbeats 4000000 in
set_option maxRecDepth 100000 in
theorem q_readBar {T : List Nat} {i : Nat} {s : PS} {h : Hp} {Q : Hp → Prop} (hi : i < 240) (P : PM T s h) (k : ∀ h', fr (SBs i) h h' → PM T (brS T s) h' → (okP (brS T s) → RStm (brR T s) h' i) → Q h') : m_X12_readBar (n32 i) h Q := by
  unfold m_X12_readBar
  have hx : ix (n32 i) = i := n32_ix (by omega)
  have SP : ∀ a k, SPr a k → SBs i a k := fun _ _ h => Or.inl h
  rw [show (1503 : Int64) = z64 (w27 wBar : Nat) from by decide, hx]
  refine q_must wBar (by decide) (by decide) P (fun h1 f1 P1 => ?_)
  refine q_form P1 (fun h2 v2 f2 P2 o2 => ⟨vpI hi (by decide), ?_⟩)
  have fa : fr (fun a k => a = 93 ∧ k = i) h2 (wI h2 93 i v2) := fr_wI (fr.rf _ _) _ ⟨rfl, rfl⟩
  have a93 : hI (wI h2 93 i v2) 93 i = v2 := by rw [hI_wI, if_pos ⟨rfl, rfl⟩]
  refine q_of (P2.mv fa (by omega) (by omega)) (fun h3 v3 f3 P3 o3 => ⟨vpI hi (by decide), ?_⟩)
  have fb : fr (fun a k => a = 94 ∧ k = i) h3 (wI h3 94 i v3) := fr_wI (fr.rf _ _) _ ⟨rfl, rfl⟩
  have a94 : hI (wI h3 94 i v3) 94 i = v3 := by rw [hI_wI, if_pos ⟨rfl, rfl⟩]
  have b93 : hI (wI h3 94 i v3) 93 i = v2 := by rw [fb.I (by omega), f3.I (by unfold SPr; omega)]; exact a93
  have P4 : PM T (b3 T s).1 (wI h3 94 i v3) := P3.mv fb (by omega) (by omega)
  have F4 : fr (SBs i) h (wI h3 94 i v3) := ((((f1.trans f2).mono SP).trans (fa.mono (by unfold SBs; omega))).trans (f3.mono SP)).trans (fb.mono (by unfold SBs; omega))
  have o3' : okP (b3 T s).1 → v2 = n32 (b2 T s).2 ∧ v3 = pm (b3 T s).2 := fun o => ⟨o2 (sOfT_ok o), o3 o⟩
  generalize wI h3 94 i v3 = h4 at a94 b93 P4 F4
  -- the three cells of what comes second
  have top : ∀ (bit : Nat), bit < 2 → bit = (if isThen T (b3 T s).1 then 1 else 0) → m_X12_readBar_54 Q (n32 i) (n32 i) (n32 bit) h4 := by
    intro bit hbit ebit
    unfold m_X12_readBar_54
    have eb : n32 bit &&& 1 = n32 bit := by rw [show (1 : Int32) = n32 1 from rfl, n32_and (by omega) (by decide), show bit &&& 1 = bit by rw [Nat.and_one_is_mod]; omega]
    rw [hx, eb]
    refine ⟨vpI hi (by decide), vpI hi (by decide), vpI hi (by decide), vpI hi (by decide), ?_⟩
    have fc : fr (fun a k => 97 ≤ a ∧ a ≤ 99 ∧ k = i) h4 (wI (wI (wI h4 99 i (n32 bit)) 97 i 0) 98 i (-1)) := fr_wI (fr_wI (fr_wI (fr.rf _ _) _ (by omega)) _ (by omega)) _ (by omega)
    have c99 : hI (wI (wI (wI h4 99 i (n32 bit)) 97 i 0) 98 i (-1)) 99 i = n32 bit := by rw [hI_wI, if_neg (by omega), hI_wI, if_neg (by omega), hI_wI, if_pos ⟨rfl, rfl⟩]
    have c97 : hI (wI (wI (wI h4 99 i (n32 bit)) 97 i 0) 98 i (-1)) 97 i = n32 0 := by rw [hI_wI, if_neg (by omega), hI_wI, if_pos ⟨rfl, rfl⟩]; rfl
    have c98 : hI (wI (wI (wI h4 99 i (n32 bit)) 97 i 0) 98 i (-1)) 98 i = -1 := by rw [hI_wI, if_pos ⟨rfl, rfl⟩]
    generalize wI (wI (wI h4 99 i (n32 bit)) 97 i 0) 98 i (-1) = h5 at fc c99 c97 c98
    have P5 := P4.mv fc (by omega) (by omega)
    have F5 : fr (SBs i) h h5 := F4.trans (fc.mono (by unfold SBs; omega))
    have c93 : hI h5 93 i = v2 := by rw [fc.I (by omega)]; exact b93
    have c94 : hI h5 94 i = v3 := by rw [fc.I (by omega)]; exact a94
    rw [c99, show (0 : Int32) = n32 0 from rfl, n32_eq (by omega) (by decide)]
    by_cases q : isThen T (b3 T s).1 = true
    · rw [if_pos q] at ebit
      refine ⟨fun z => absurd z (by omega), fun _ => ?_⟩
      obtain ⟨t, et, -⟩ := isThen_ok q
      have P5' := P5
      rw [et] at P5'
      refine q_nx P5' (fun h6 f6 P6 => ?_)
      have P6' : PM T (sNx T (b3 T s).1) h6 := by rw [et]; exact P6
      refine q_form P6' (fun h7 v7 f7 P7 o7 => ⟨vpI hi (by decide), ?_⟩)
      have fd : fr (fun a k => a = 95 ∧ k = i) h7 (wI h7 95 i v7) := fr_wI (fr.rf _ _) _ ⟨rfl, rfl⟩
      have d95 : hI (wI h7 95 i v7) 95 i = v7 := by rw [hI_wI, if_pos ⟨rfl, rfl⟩]
      refine q_of (P7.mv fd (by omega) (by omega)) (fun h8 v8 f8 P8 o8 => ⟨vpI hi (by decide), ?_⟩)
      have fe : fr (fun a k => a = 96 ∧ k = i) h8 (wI h8 96 i v8) := fr_wI (fr.rf _ _) _ ⟨rfl, rfl⟩
      have e96 : hI (wI h8 96 i v8) 96 i = v8 := by rw [hI_wI, if_pos ⟨rfl, rfl⟩]
      have e95 : hI (wI h8 96 i v8) 95 i = v7 := by rw [fe.I (by omega), f8.I (by unfold SPr; omega)]; exact d95
      have lo : ∀ c, 93 ≤ c → c ≤ 99 → c ≠ 95 → c ≠ 96 → hI (wI h8 96 i v8) c i = hI h5 c i := fun c c1 c2 c3 c4 => by
        rw [fe.I (by omega), f8.I (by unfold SPr; omega), fd.I (by omega), f7.I (by unfold SPr; omega), f6.I (by unfold SPr; omega)]
      have P9 : PM T (b6 T s).1 (wI h8 96 i v8) := P8.mv fe (by omega) (by omega)
      have F9 : fr (SBs i) h (wI h8 96 i v8) := ((((F5.trans (f6.mono SP)).trans (f7.mono SP)).trans (fd.mono (by unfold SBs; omega))).trans (f8.mono SP)).trans (fe.mono (by unfold SBs; omega))
      generalize wI h8 96 i v8 = h9 at e96 e95 lo P9 F9
      refine ⟨T.length + 2, q_ties hi (T.length + 1) 0 (b6 T s).1 h9 (fun t' _ => by omega) P9 (by decide) (by rw [lo 97 (by decide) (by decide) (by decide) (by decide)]; exact c97) (fun hA fA PA eA => ?_)⟩
      refine q_bar131 (s := (b7 T s).1) hi PA (by rw [fA.I (by unfold STi SPr; omega), lo 98 (by decide) (by decide) (by decide) (by decide)]; exact c98) (fun hB fB PB oB => ?_)
      have eS : brS T s = sEnd T 59 (b8 T s).1 := by unfold brS; rw [if_pos q]
      refine k hB ((F9.trans (fA.mono (by unfold STi SBs SPr; omega))).trans (fB.mono (by unfold SWi SBs SPr; omega))) (by rw [eS]; exact PB) (fun o => ?_)
      rw [eS] at o
      have u8 : okP (b8 T s).1 := sEnd_ok o
      have u7 : okP (b7 T s).1 := sWit_ok u8
      have u6 : okP (b6 T s).1 := tieL_ok _ _ _ u7
      have u5 : okP (b5 T s).1 := sOfT_ok u6
      have u3 : okP (b3 T s).1 := by rw [et]; trivial
      obtain ⟨w2, w3⟩ := o3' u3
      have g : ∀ c, 93 ≤ c → c ≤ 99 → c ≠ 97 → c ≠ 98 → hI hB c i = hI h9 c i := fun c c1 c2 c3 c4 => by
        rw [fB.I (by unfold SWi SPr; omega), fA.I (by unfold STi SPr; omega)]
      unfold RStm brR
      simp only [q, if_true, Nat.reduceEqDiff, if_false, reduceIte]
      refine ⟨?_, ?_, ?_, ?_, ?_, fun _ => ⟨?_, ?_⟩⟩
      · rw [g 93 (by decide) (by decide) (by decide) (by decide), lo 93 (by decide) (by decide) (by decide) (by decide), c93, w2]
      · rw [g 94 (by decide) (by decide) (by decide) (by decide), lo 94 (by decide) (by decide) (by decide) (by decide), c94, w3]
      · rw [g 99 (by decide) (by decide) (by decide) (by decide), lo 99 (by decide) (by decide) (by decide) (by decide), c99, ebit]
      · rw [fB.I (by unfold SWi SPr; omega)]; exact eA
      · exact oB u8
      · rw [g 95 (by decide) (by decide) (by decide) (by decide), e95, o7 u5]; rfl
      · rw [g 96 (by decide) (by decide) (by decide) (by decide), e96, o8 u6]; rfl
    · rw [if_neg q] at ebit
      refine ⟨fun _ => ?_, fun z => absurd ebit z⟩
      have eS : brS T s = sEnd T 59 (b3 T s).1 := by unfold brS; rw [if_neg q]
      refine q_bar166 P5 (fun hB fB PB => k hB (F5.trans (fB.mono SP)) (by rw [eS]; exact PB) (fun o => ?_))
      rw [eS] at o
      obtain ⟨w2, w3⟩ := o3' (sEnd_ok o)
      have g : ∀ c, 93 ≤ c → c ≤ 99 → hI hB c i = hI h5 c i := fun c c1 c2 => by rw [fB.I (by unfold SPr; omega)]
      unfold RStm brR
      simp only [q, if_false, Nat.reduceEqDiff, reduceIte]
      refine ⟨?_, ?_, ?_, ?_, ?_, fun z => absurd z (by decide)⟩
      · rw [g 93 (by decide) (by decide), c93, w2]
      · rw [g 94 (by decide) (by decide), c94, w3]
      · rw [g 99 (by decide) (by decide), c99, ebit]; first | rfl | simp [q] | simp
      · rw [g 97 (by decide) (by decide), c97]; first | rfl | simp [q] | simp
      · rw [g 98 (by decide) (by decide), c98]; rfl
  cases hs : (b3 T s).1 with
  | inl e =>
    rw [hs] at P4 top
    have t0 := top 0 (by decide) rfl
    exact ⟨fun _ => t0, fun z => absurd z P4.bad⟩
  | inr t =>
    rw [hs] at P4 top
    refine ⟨fun z => absurd P4.2.1 z, fun _ => ?_⟩
    rw [show (399641 : Int64) = z64 (w27 wThen : Nat) from by decide]
    refine q_is wThen P4.2.2.2.1 P4.2.2.2.2 (by decide) (by decide) (fun q => ⟨fun _ => ?_, fun z => absurd rfl z⟩) (fun q => ⟨fun z => absurd z (by decide), fun _ => ?_⟩)
    · exact top 0 (by decide) (by show 0 = if isW T t wThen then 1 else 0; rw [q]; rfl)
    · exact top 1 (by decide) (by show 1 = if isW T t wThen then 1 else 0; rw [q]; rfl)
