/-! THE MODEL: plain; whether two parts are alike -/
theorem lf_bnd {b : Nat} {s : St} (O : OkS b s) {i : Nat} (h1 : b ≤ i) (h2 : i < sN s) (k4 : sD s 58 i < 4) : sD s 64 i < 10000 ∧ sD s 65 i < 10000 ∧ sD s 66 i < 10000 ∧ sD s 67 i < 10000 ∧ sD s 68 i < 10000 ∧ sD s 69 i < 10000 ∧ sD s 70 i < 10000 := by
  rcases O.2.2.2.2.2.2.2.2.2.2 i h1 h2 with ⟨k, e⟩ | ⟨k, r, e, A, B⟩
  · omega
  · obtain ⟨-, -, a1, a2, a3, a4, a5, a6, a7, -⟩ := A
    obtain ⟨-, b1, b2, -, b3, b4, b5, b6, b7, -⟩ := B
    omega
def DyB (nd : Nat → Nat → Nat) (X : Fg) (a e : Nat) : Prop := ∀ j, a ≤ j → j < e → nd 58 j = 4 → X.2.2 j ≤ 400 * (nd 62 j - j)
theorem SG_bnd {b : Nat} {s : St} {X : Fg} (O : OkS b s) (hb : sN s ≤ 2304) : ∀ a e u q, Fo (sD s) a e u q → b ≤ a → e ≤ sN s → DyB (sD s) X a e → ∀ p, p < 2 → ∀ v ∈ SG (sD s) X p a e, v < 2147483648 := by
  refine Fo_ind (fun a u q => ?_) (fun a e u q g f1 f2 f3 f4 f5 f6 f7 f8 i1 i2 i3 => ?_)
  · intro _ _ _ p _ v hv
    rw [SG_nil] at hv; exact absurd hv (by simp)
  · intro ha he D p hp v hv
    obtain ⟨g1, g2, g3, g4⟩ := id g
    have no := O.2.2.2.2.2.2.2.1 a ha (by omega)
    obtain ⟨o1, -, o3, o4, o5, o6, o7, o8, -⟩ := no
    rw [SG_cons g, List.mem_append] at hv
    rcases hv with hv | hv
    · by_cases n1 : X.1 a = true
      · rw [if_pos n1] at hv; exact absurd hv (by simp)
      · rw [if_neg n1] at hv
        by_cases n2 : X.2.1 a = true
        · rw [if_pos n2, List.mem_append] at hv
          rcases hv with hv | hv
          · exact i1 (by omega) (by omega) (fun j j1 j2 => D j (by omega) (by omega)) p hp v hv
          · exact i2 (by omega) (by omega) (fun j j1 j2 => D j (by omega) (by omega)) p hp v hv
        · rw [if_neg n2] at hv
          unfold vsG at hv
          by_cases k4 : sD s 58 a < 4
          · rw [if_pos k4] at hv
            have e59 := o8 k4
            have bb := lf_bnd O ha (by omega) k4
            simp only [List.mem_cons, List.not_mem_nil, or_false] at hv
            omega
          · rw [if_neg k4] at hv
            simp only [List.mem_cons, List.mem_append, List.not_mem_nil, or_false] at hv
            rcases hv with hv | hv | hv | hv | hv | hv
            · omega
            · omega
            · split at hv
              · rename_i q4
                have := D a (Nat.le_refl _) g1 q4
                omega
              · omega
            · exact i1 (by omega) (by omega) (fun j j1 j2 => D j (by omega) (by omega)) 0 (by omega) v hv
            · exact i2 (by omega) (by omega) (fun j j1 j2 => D j (by omega) (by omega)) _ (by split <;> omega) v hv
            · omega
    · exact i3 (by omega) he (fun j j1 j2 => D j (by omega) j2) p hp v hv
theorem sgv_inj {a b : Nat} (ha : a < 2147483648) (hb : b < 2147483648) : sgv a = sgv b ↔ a = b := by
  have m9 : ∀ k, k < 2147483648 → ¬ n32 k = -9 := by
    intro k hk e
    have := congrArg Int32.toInt e
    rw [n32_toInt hk] at this
    have e9 : (-9 : Int32).toInt = -9 := rfl
    omega
  cases a with
  | zero =>
    cases b with
    | zero => simp
    | succ b => exact ⟨fun z => absurd z.symm (m9 b (by omega)), fun z => by omega⟩
  | succ a =>
    cases b with
    | zero => exact ⟨fun z => absurd z (m9 a (by omega)), fun z => by omega⟩
    | succ b =>
      show n32 a = n32 b ↔ _
      rw [n32_eq (by omega) (by omega)]; omega
theorem q_laysOut {d a0 L P u q : Nat} {s : St} {X : Fg} {hd : Nat → Nat} {h : Hp} {Q : Int32 → Hp → Prop} (R : RD (96 * d) s h) (F : FgM (96 * d) s X h) (hP : P ≤ 800) (hL : L ≤ sN s) (h0 : 96 * d ≤ a0) (Fo0 : Fo (sD s) a0 L u q) (hu : u ≤ a0)
    (kc : 7 ∈ SA (sD s) hd X a0 L → ∀ h', fr SLy h h' → lowS P h h' → Q (-1) h')
    (k : 7 ∉ SA (sD s) hd X a0 L → ∀ h', fr SLy h h' → lowS P h h' → (SG (sD s) X 0 a0 L).length ≤ 456 → (∀ j, j < (SG (sD s) X 0 a0 L).length → hI h' 77 (P + j) = sgv ((SG (sD s) X 0 a0 L).getD j 0)) → Q (n32 (SG (sD s) X 0 a0 L).length) h') : m_X12_laysOut (n32 d) (n32 a0) (n32 L) (n32 P) h Q := by
  have hl := R.lt
  have hN := R.1.2.2.1
  have hle := Fo_le Fo0
  unfold m_X12_laysOut
  have f1 : fr SLy h (wI (wI h 51 45 0) 51 47 0) := fr_wI (fr_wI (fr.rf _ _) _ (by unfold SLy; omega)) _ (by unfold SLy; omega)
  have w1 : lowS P h (wI (wI h 51 45 0) 51 47 0) := fun j hj => by rw [hI_wI, if_neg (by omega), hI_wI, if_neg (by omega)]
  have G1 : SgM P [] [] (wI (wI h 51 45 0) 51 47 0) := by
    refine ⟨?_, fun j hj => absurd hj (by simp), ?_, trivial⟩
    · rw [hI_wI, if_neg (by omega), hI_wI, if_pos ⟨rfl, rfl⟩]; rfl
    · rw [hI_wI, if_pos ⟨rfl, rfl⟩]; rfl
  generalize wI (wI h 51 45 0) 51 47 0 = h1 at f1 w1 G1
  have r12 : (rem (sL s) a0).length ≤ 12 := Nat.le_trans (List.length_filter_le _ _) R.1.2.2.2.2.2.1
  have sl := SG_len (X := X) R.1 _ _ _ _ Fo0 h0 hL 0
  refine ⟨1 + (L - a0), ?_⟩
  refine q_lay13 hP hL h0 (by omega) a0 L u q Fo0 (Nat.le_refl _) (Nat.le_refl _) 0 [] [] 1 h1 [] [] (fun n hn => by rw [clb, if_pos (by omega)]) (fun n hn => Nat.zero_le _) (fun x hx => absurd hx (by simp)) (fun x hx => absurd hx (by simp)) (by simp; omega) (R.mv f1 (by unfold SLy; omega)) (F.mv f1 (by unfold SLy; omega)) G1 (fun x hx => absurd hx (by simp)) (by simp) rfl (fun z h' f' w' => kc z h' (f1.trans f') (w1.trans w')) (fun z m' h' S1 cl1 l1 f' w' G' b' c' e' => ?_) _ (Nat.le_refl _)
  obtain ⟨m', rfl⟩ : ∃ n, m' = n + 1 := ⟨m' - 1, by omega⟩
  rw [m_X12_laysOut_13, n32_le (by omega) (by omega)]
  refine ⟨fun _ => ?_, fun y => absurd (Nat.le_refl _) y⟩
  rw [List.nil_append] at e'
  have ee : cu (sD s) L S1 cl1 = (SG (sD s) X 0 a0 L, []) := e'
  have el := cu_len (sD s) L cl1 S1
  rw [ee] at el
  have el' : (SG (sD s) X 0 a0 L).length = S1.length + cl1.length := by simpa using el
  have eT := cu_end (sD s) L cl1 S1 _ ee
  unfold m_X12_laysOut_284 m_X12_closesUp
  refine ⟨cl1.length + 1, q_closesAll hP cl1 S1 h' _ G' c' (by omega) (Nat.le_refl _) (fun h2 f2 w2 G2 => ?_)⟩
  rw [← eT] at G2
  rw [G2.1]
  exact k z h2 ((f1.trans f').trans f2) ((w1.trans w').trans w2) (by omega) G2.2.1
set_option maxHeartbeats 4000000 in
set_option maxRecDepth 100000 in
theorem q_alike72 {A B : List Nat} {h : Hp} {Q : Int32 → Hp → Prop} (hA : ∀ v ∈ A, v < 2147483648) (hB : ∀ v ∈ B, v < 2147483648) (hl : A.length = B.length) (h8 : A.length ≤ 456) (eA : ∀ j, j < A.length → hI h 77 j = sgv (A.getD j 0)) (eB : ∀ j, j < B.length → hI h 77 (800 + j) = sgv (B.getD j 0)) (k1 : A = B → Q 1 h) (k0 : A ≠ B → Q 0 h) :
    ∀ (r j : Nat), r + j = A.length → (∀ i, i < j → A.getD i 0 = B.getD i 0) → m_X12_areAlike_72 (r + 1) Q (n32 A.length) (n32 j) h := by
  have gm : ∀ {l : List Nat} {j}, j < l.length → l.getD j 0 ∈ l := by
    intro l j hj
    rw [List.getD_eq_getElem?_getD, List.getElem?_eq_getElem hj]
    exact List.getElem_mem hj
  intro r
  induction r with
  | zero =>
    intro j hr hs
    rw [m_X12_areAlike_72, n32_le (by omega) (by omega)]
    refine ⟨fun _ => k1 ?_, fun z => absurd (by omega) z⟩
    refine List.ext_getElem hl (fun i i1 i2 => ?_)
    have := hs i (by omega)
    rw [List.getD_eq_getElem?_getD, List.getD_eq_getElem?_getD, List.getElem?_eq_getElem i1, List.getElem?_eq_getElem i2] at this
    exact this
  | succ r ih =>
    intro j hr hs
    have hj : j < A.length := by omega
    have hj' : j < B.length := by omega
    rw [m_X12_areAlike_72, n32_le (by omega) (by omega), show (800 : Int32) = n32 800 from rfl, n32_add, n32_ix (by omega), n32_ix (by omega), eA j hj, eB j hj', sgv_inj (hA _ (gm hj)) (hB _ (gm hj'))]
    refine ⟨fun z => absurd z (by omega), fun _ => ⟨vpI (by omega) (by decide), vpI (by omega) (by decide), fun z x1 e1 => ?_, fun z => k0 (fun y => z (by rw [y]))⟩⟩
    rw [e1, show n32 j + 1 = n32 (j + 1) from n32_add _ 1]
    refine ih (j + 1) (by omega) (fun i hi => ?_)
    rcases Nat.lt_or_ge i j with q | q
    · exact hs i q
    · rw [show i = j by omega]; exact z
set_option maxHeartbeats 4000000 in
set_option maxRecDepth 100000 in
theorem q_areAlike {d i : Nat} {s : St} {X : Fg} {hd : Nat → Nat} {h : Hp} {Q : Int32 → Hp → Prop} (R : RD (96 * d) s h) (F : FgM (96 * d) s X h) (hi : 96 * d ≤ i) (g : Gd (sD s) i (sN s)) (F1 : Fo (sD s) (i + 1) (md (sD s) i) (i + 1) 0) (F2 : Fo (sD s) (md (sD s) i) (sD s 62 i) (i + 1) 1) (D : DyB (sD s) X (i + 1) (sD s 62 i)) (hne : ¬ (SA (sD s) hd X (i + 1) (md (sD s) i) = [] ∧ SA (sD s) hd X (md (sD s) i) (sD s 62 i) = []))
    (k0 : ¬ (SA (sD s) hd X (i + 1) (md (sD s) i) = SA (sD s) hd X (md (sD s) i) (sD s 62 i) ∧ 7 ∉ SA (sD s) hd X (i + 1) (md (sD s) i)) → ∀ h', fr SLy h h' → Q 0 h')
    (k1 : SA (sD s) hd X (i + 1) (md (sD s) i) = SA (sD s) hd X (md (sD s) i) (sD s 62 i) ∧ 7 ∉ SA (sD s) hd X (i + 1) (md (sD s) i) → sD s 63 i ≠ 0 → ∀ h', fr SLy h h' → Q 1 h') : m_X12_areAlike (n32 d) (n32 i) h Q := by
  obtain ⟨g1, g2, g3, g4⟩ := id g
  have hl := R.lt
  unfold m_X12_areAlike
  obtain ⟨r1, r2, r3, r4, r5, r6⟩ := R.tb hi g1
  have n63 := (R.1.2.2.2.2.2.2.2.1 i hi g1).2.2.2.2.2.2.2.2.2.2.1
  have vi : vp_in (n32 i) 2304 := vpI (by omega) (by decide)
  rw [n32_ix (by omega), r6]
  refine ⟨vi, fun z => ⟨vi, ?_⟩, fun z => ?_⟩
  · have z' : sD s 63 i ≠ 0 := by have := (pm_ge0 (by omega)).mp z; omega
    have em : md (sD s) i = sD s 63 i - 1 := by unfold md; rw [if_neg z']
    rw [pm_n32 (by omega), ← em, show n32 i + 1 = n32 (i + 1) from n32_add _ 1]
    have b1 := SG_bnd (X := X) R.1 hl _ _ _ _ F1 (by omega) (by omega) (fun j j1 j2 => D j j1 (by omega)) 0 (by omega)
    have b2 := SG_bnd (X := X) R.1 hl _ _ _ _ F2 (by omega) (by omega) (fun j j1 j2 => D j (by omega) j2) 0 (by omega)
    refine q_laysOut (P := 0) (hd := hd) R F (by omega) (by omega) (by omega) F1 (Nat.le_refl _) (fun c7 h1 f1 w1 => ?_) (fun c7 h1 f1 w1 l1 e1 => ?_)
    · refine ⟨fun y => absurd y (by decide), fun _ => ?_⟩
      unfold m_X12_areAlike_55
      exact ⟨fun y => absurd rfl y, fun _ => ⟨fun y => absurd y (by decide), fun _ => k0 (fun y => y.2 c7) h1 f1⟩⟩
    · refine ⟨fun _ => ⟨vi, vi, ?_⟩, fun y => absurd ?_ y⟩
      · have R1 := R.mv f1 (by unfold SLy; omega)
        have FF := F.mv f1 (by unfold SLy; omega)
        obtain ⟨t1, t2, t3, t4, t5, t6⟩ := R1.tb hi g1
        rw [t5, t6, pm_n32 (by omega), ← em]
        refine q_laysOut (P := 800) (hd := hd) R1 FF (by omega) (by omega) (by omega) F2 (by omega) (fun c7' h2 f2 w2 => ?_) (fun c7' h2 f2 w2 l2 e2 => ?_)
        · unfold m_X12_areAlike_55
          have kk := k0 (fun y => y.2 (by rw [y.1]; exact c7')) h2 (f1.trans f2)
          exact ⟨fun _ => kk, fun y => absurd y.symm (by rw [n32_m1' (by omega)]; simp)⟩
        · unfold m_X12_areAlike_55
          rw [n32_eq (by omega) (by omega)]
          have both : SG (sD s) X 0 (i + 1) (md (sD s) i) = SG (sD s) X 0 (md (sD s) i) (sD s 62 i) ↔ SA (sD s) hd X (i + 1) (md (sD s) i) = SA (sD s) hd X (md (sD s) i) (sD s 62 i) := by
            have v1 := SA_vp (hd := hd) (X := X) _ _ _ _ F1
            have v2 := SA_vp (hd := hd) (X := X) _ _ _ _ F2
            have u1 := SG_vp (X := X) 0 _ _ _ _ F1
            have u2 := SG_vp (X := X) 0 _ _ _ _ F2
            rw [v1] at c7
            rw [v2] at c7'
            constructor
            · intro y
              rw [u1, u2] at y
              have := SG_inj (hd := hd) _ _ _ 0 [] [] (VP_ok F1) (VP_ok F2) c7 c7' (Nat.le_refl _) (by simp) (by simp) (by rw [y])
              rw [v1, v2]; exact this.1
            · intro y
              rw [v1, v2] at y
              rw [u1, u2]
              exact SA_inj _ _ _ 0 (VP_ok F1) (VP_ok F2) c7 (Nat.le_refl _) y
          refine ⟨fun y => k0 (fun w => y (by rw [both.mpr w.1])) h2 (f1.trans f2), fun y => ⟨fun _ => ?_, fun w => absurd ?_ w⟩⟩
          · refine ⟨(SG (sD s) X 0 (i + 1) (md (sD s) i)).length + 1, q_alike72 b1 b2 y l1 (fun j hj => ?_) e2 (fun w => k1 ⟨both.mp w, c7⟩ z' h2 (f1.trans f2)) (fun w => k0 (fun v => w (both.mpr v.1)) h2 (f1.trans f2)) _ 0 (by omega) (fun i hi => by omega)⟩
            rw [w2 j (by omega)]
            have := e1 j hj
            rw [Nat.zero_add] at this
            exact this
          · rw [show (0 : Int32) = n32 0 from rfl, n32_le (by omega) (by omega)]; omega
      · rw [show (0 : Int32) = n32 0 from rfl, n32_le (by omega) (by omega)]; omega
  · have z' : sD s 63 i = 0 := by
      rcases Nat.eq_zero_or_pos (sD s 63 i) with q | q
      · exact q
      · exact absurd ((pm_ge0 (by omega)).mpr q) z
    have em : md (sD s) i = sD s 62 i := by unfold md; rw [if_pos z']
    refine k0 (fun y => hne ?_) h (fr.rf _ _)
    have e2 : SA (sD s) hd X (md (sD s) i) (sD s 62 i) = [] := by rw [em, SA_nil]
    exact ⟨y.1.trans e2, e2⟩
