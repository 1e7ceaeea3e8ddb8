/-! THE MODEL: plain, whole -/
theorem n32_m1pm (a : Nat) : n32 a + -1 = pm a := by
  cases a with
  | zero => decide
  | succ a =>
    have := n32_dec (a := a + 1) (by omega)
    rw [show pm 0 = -1 from rfl] at this
    rw [this]; rfl
theorem n32_s1pm (a : Nat) : n32 a - 1 = pm a := by
  rw [show n32 a - 1 = n32 a + -1 from Int32.sub_eq_add_neg _ _]; exact n32_m1pm a
theorem outS'.trans {X Y Z : Fg} {a e a' e' a2 e2 : Nat} (h1 : outS' X Y a e) (h2 : outS' Y Z a' e') (l1 : a2 ≤ a) (l2 : e ≤ e2) (l3 : a2 ≤ a') (l4 : e' ≤ e2) : outS' X Z a2 e2 := fun j hj => by
  have z1 := h1 j (by omega)
  have z2 := h2 j (by omega)
  exact ⟨z2.1.trans z1.1, z2.2.1.trans z1.2.1, z2.2.2.trans z1.2.2⟩
theorem outS'.on {X Y : Fg} {a e a' e' : Nat} (h : outS' X Y a e) (l : e' ≤ a ∨ e ≤ a') : sameOn X Y a' e' := fun j j1 j2 => h j (by omega)
set_option maxHeartbeats 4000000 in
set_option maxRecDepth 100000 in
theorem q_plain66 {d : Nat} {s : St} {hd : Nat → Nat} {v2 : Int32} {k94 : Int32 → Int32 → Hp → Prop} {Q : Int32 → Hp → Prop} :
    ∀ a e u q, Fo (sD s) a e u q → 96 * d ≤ a → e ≤ sN s → ∀ (m c : Nat) (h : Hp) (X : Fg), RD (96 * d) s h → FgM (96 * d) s X h → (∀ j, a ≤ j → j < e → X.1 j = false ∧ X.2.1 j = false) → hI h 51 41 = n32 c →
      (∀ m' h' X', m ≤ m' → fr SSi h h' → FgM (96 * d) s X' h' → outS' X X' a e → (∀ j, sD s 58 j < 4 → X'.2.1 j = X.2.1 j) → SA (sD s) hd X' a e = FC (sD s) hd a e → DyB (sD s) X' a e → hI h' 51 41 = n32 (c + FS (sD s) hd a e) → m_X12_plain_66 m' k94 Q (n32 d) v2 (pm a) h') →
      ∀ m', m + (e - a) ≤ m' → m_X12_plain_66 m' k94 Q (n32 d) v2 (pm e) h := by
  refine Fo_ind (fun a u q => ?_) (fun a e u q g f1 f2 f3 f4 f5 f6 f7 f8 i1 i2 i3 => ?_)
  · intro ha he m c h X R F cl e41 k m' hm
    refine k m' h X (by omega) (fr.rf _ _) F (fun j _ => ⟨rfl, rfl, rfl⟩) (fun _ _ => rfl) ?_ (fun j j1 j2 => by omega) ?_
    · rw [SA_nil, FC_nil]
    · rw [FS_nil]; exact e41
  · intro ha he m c h X R F cl e41 k m' hm
    obtain ⟨g1, g2, g3, g4⟩ := id g
    have hl := R.lt
    have fs := FS_cons (hd := hd) g
    have fcc := FC_cons (hd := hd) g
    refine i3 (by omega) he (m + (sD s 62 a - a)) c h X R F (fun j j1 j2 => cl j (by omega) j2) e41 (fun m1 h1 X1 l1 r1 F1 o1 p1 a1 D1 c1 => ?_) m' (by omega)
    have R1 := R.mv r1 (by unfold SSi SLy SPl; omega)
    refine i2 (by omega) (by omega) (m + (md (sD s) a - a)) _ h1 X1 R1 F1 (fun j j1 j2 => by have z := o1 j (by omega); rw [z.1, z.2.1]; exact cl j (by omega) (by omega)) c1 (fun m2 h2 X2 l2 r2 F2 o2 p2 a2 D2 c2 => ?_) m1 (by omega)
    have R2 := R1.mv r2 (by unfold SSi SLy SPl; omega)
    refine i1 (by omega) (by omega) (m + 1) _ h2 X2 R2 F2 (fun j j1 j2 => by have z := o1 j (by omega); have z2 := o2 j (by omega); rw [z2.1, z2.2.1, z.1, z.2.1]; exact cl j (by omega) (by omega)) c2 (fun m3 h3 X3 l3 r3 F3 o3 p3 a3 D3 c3 => ?_) m2 (by omega)
    have R3 := R2.mv r3 (by unfold SSi SLy SPl; omega)
    have rr := (r1.trans r2).trans r3
    obtain ⟨m3, rfl⟩ : ∃ n, m3 = n + 1 := ⟨m3 - 1, by omega⟩
    have oo : outS' X X3 (a + 1) e := (o1.trans o2 (a2 := md (sD s) a) (e2 := e) (by omega) (by omega) (by omega) (by omega)).trans o3 (by omega) (by omega) (by omega) (by omega)
    have ca : X3.1 a = false ∧ X3.2.1 a = false := by
      have z := oo a (by omega)
      rw [z.1, z.2.1]; exact cl a (Nat.le_refl _) g1
    have a2' : SA (sD s) hd X3 (md (sD s) a) (sD s 62 a) = FC (sD s) hd (md (sD s) a) (sD s 62 a) := by
      rw [SA_same _ _ _ _ f7 (o3.on (by omega))]; exact a2
    have a1' : SA (sD s) hd X3 (sD s 62 a) e = FC (sD s) hd (sD s 62 a) e := by
      rw [SA_same _ _ _ _ f8 (o3.on (by omega)), SA_same _ _ _ _ f8 (o2.on (by omega))]; exact a1
    have D3' : DyB (sD s) X3 (a + 1) e := by
      intro j j1 j2 jq
      rcases Nat.lt_or_ge j (md (sD s) a) with z | z
      · exact D3 j j1 z jq
      · rw [(o3 j (by omega)).2.2]
        rcases Nat.lt_or_ge j (sD s 62 a) with z' | z'
        · exact D2 j z z' jq
        · rw [(o2 j (by omega)).2.2]; exact D1 j z' j2 jq
    rw [m_X12_plain_66, pmS, show (96 : Int32) = n32 96 from rfl, n32_mul, n32_lt (by omega) (by omega)]
    refine ⟨fun z => absurd z (by omega), fun _ => ?_⟩
    unfold m_X12_plain_88
    refine q_isLeaf R3 ha (by omega) (fun k4 => ?_) (fun k4 => ?_)
    · refine ⟨fun z => absurd rfl z, fun _ => ?_⟩
      refine q_simplifies (hd := hd) R3 F3 ha ⟨by omega, g2, g3, by omega⟩ k4 f5 f6 f7 ca.1 ca.2 (fun j j1 j2 => D3' j j1 (by omega)) c3 (fun h4 X4 r4 F4 o4 p4 a4 D4 c4 => ?_)
      intro x6 e6
      rw [e6, n32_m1pm]
      rw [a3, a2'] at a4 c4
      have gE : Gd (sD s) a (sD s 62 a) := ⟨by omega, g2, g3, Nat.le_refl _⟩
      rw [SA_cons gE, SA_nil, List.append_nil] at a4
      refine k m3 h4 X4 (by omega) (rr.trans r4) F4 (oo.trans o4 (by omega) (by omega) (by omega) (by omega)) (fun j hj => (((p4 j hj).trans (p3 j hj)).trans (p2 j hj)).trans (p1 j hj)) ?_ ?_ ?_
      · rw [SA_cons g, a4, fcc, if_neg (by omega), SA_same _ _ _ _ f8 (o4.on (by omega)), a1']
      · intro j j1 j2 jq
        rcases Nat.lt_or_ge j (sD s 62 a) with z | z
        · exact D4 j j1 z jq
        · rw [(o4 j (by omega)).2.2]; exact D3' j (by omega) j2 jq
      · rw [c4, fs, if_neg (by omega)]
        congr 1
        omega
    · refine ⟨fun _ => ?_, fun z => absurd z (by decide)⟩
      intro x6 e6
      rw [e6, n32_m1pm]
      have e1 := (f4 k4).1
      have em : md (sD s) a = sD s 62 a := by omega
      refine k m3 h3 X3 (by omega) rr F3 (fun j hj => oo j (by omega)) (fun j hj => ((p3 j hj).trans (p2 j hj)).trans (p1 j hj)) ?_ (fun j j1 j2 jq => D3' j (by by_cases z : j = a; (subst z; omega); omega) j2 jq) ?_
      · rw [SA_cons g, if_neg (by rw [ca.1]; simp), if_neg (by rw [ca.2]; simp), a1', fcc, if_pos k4]
        unfold vsC
        rw [if_pos k4]
      · rw [c3, fs, if_pos k4]
        have y1 : FS (sD s) hd (md (sD s) a) (sD s 62 a) = 0 := by rw [em, FS_nil]
        have y2 : FS (sD s) hd (a + 1) (md (sD s) a) = 0 := by rw [em, e1, FS_nil]
        rw [y1, y2]
        congr 1
        omega
theorem cnt_gr {k t : Nat} {f s : List Nat} (hk : 4 ≤ k) (h6 : k < 6 → s = []) : (grC k t f s).count 0 = f.count 0 + s.count 0 := by
  unfold grC
  split
  · rename_i q
    rw [h6 q]
    simp [List.count_cons]
    omega
  · simp [List.count_cons, List.count_append]
    omega
set_option maxHeartbeats 4000000 in
set_option maxRecDepth 100000 in
theorem q_plain102 {d : Nat} {s : St} {X : Fg} {hd : Nat → Nat} {v2 : Int32} {h : Hp} {k178 : Int32 → Int32 → Hp → Prop} {Q : Int32 → Hp → Prop} (R : RD (96 * d) s h) (F : FgM (96 * d) s X h) (d24 : d < 24) (lt : ∀ j, 96 * d ≤ j → j < sN s → sD s 58 j < 4 → X.2.1 j = false) (e53 : hI h 53 d = n32 (sN s - 96 * d)) :
    ∀ a e u q, Fo (sD s) a e u q → 96 * d ≤ a → e ≤ sN s → ∀ (m c : Nat), (∀ m', m ≤ m' → m_X12_plain_102 m' k178 Q (n32 d) v2 (n32 (c + (SA (sD s) hd X a e).count 0)) (n32 e) h) → ∀ m', m + (e - a) ≤ m' → m_X12_plain_102 m' k178 Q (n32 d) v2 (n32 c) (n32 a) h := by
  have hl := R.lt
  have hN := R.1.2.2.1
  have hb := R.1.2.1
  refine Fo_ind (fun a u q => ?_) (fun a e u q g f1 f2 f3 f4 f5 f6 f7 f8 i1 i2 i3 => ?_)
  · intro ha he m c k m' hm
    have := k m' (by omega)
    rw [SA_nil] at this
    exact this
  · intro ha he m c k m' hm
    obtain ⟨g1, g2, g3, g4⟩ := id g
    obtain ⟨m', rfl⟩ : ∃ n, m' = n + 1 := ⟨m' - 1, by omega⟩
    obtain ⟨x1, x2, x3⟩ := F a ha (by omega)
    obtain ⟨r1, r2, r3, r4, r5, r6⟩ := R.tb ha (show a < sN s by omega)
    rw [m_X12_plain_102, n32_ix (by omega), e53, show (96 : Int32) = n32 96 from rfl, n32_mul, n32_add, n32_le (by omega) (by omega), n32_sub (by omega), n32_ix (by omega), x1]
    refine ⟨vpI d24 (by decide), fun z => absurd z (by omega), fun _ => ⟨vpI (by omega) (by decide), fun x2' e2' => ?_⟩⟩
    subst e2'
    rw [SA_cons g, List.count_append] at k
    have vi : vp_in (n32 a) 2304 := vpI (by omega) (by decide)
    have jump : fgb (X.1 a) = 0 → ∀ t, (∀ m', m ≤ m' → m_X12_plain_102 m' k178 Q (n32 d) v2 (n32 (c + t + (SA (sD s) hd X (a + 1) (md (sD s) a)).count 0 + (SA (sD s) hd X (md (sD s) a) (sD s 62 a)).count 0 + (SA (sD s) hd X (sD s 62 a) e).count 0)) (n32 e) h) → ∀ z : Int32, z = n32 (c + t) → m_X12_plain_173 (fun (v1 : Int32) (v2 : Int32) (v3 : Int32) (v4 : Int32) hh => m_X12_plain_102 m' k178 Q v1 v2 v3 v4 hh) k178 Q (n32 d) v2 z (n32 (a + 1)) h := by
      intro y t kk z ez
      unfold m_X12_plain_173
      rw [ez]
      refine i1 (by omega) (by omega) (m + (e - sD s 62 a) + (sD s 62 a - md (sD s) a)) (c + t) (fun m1 l1 => ?_) m' (by omega)
      refine i2 (by omega) (by omega) (m + (e - sD s 62 a)) _ (fun m2 l2 => ?_) m1 l1
      exact i3 (by omega) he m _ (fun m3 l3 => kk m3 l3) m2 l2
    by_cases n1 : X.1 a = true
    · have y : ¬ fgb (X.1 a) = 0 := by rw [fgb0, n1]; simp
      rw [if_pos n1] at k
      refine ⟨fun _ => ?_, fun z => absurd z y⟩
      unfold m_X12_plain_151 m_X12_plain_152 m_X12_plain_173
      intro y1 ey
      rw [ey, show n32 c + 0 = n32 (c + 0) from n32_add c 0, n32_ix (by omega), r5]
      refine ⟨fun z => absurd z y, fun _ => ⟨vi, ?_⟩⟩
      refine i3 (by omega) he m c (fun m1 l1 => ?_) m' (by omega)
      have := k m1 l1
      simpa using this
    · have y : fgb (X.1 a) = 0 := fgb0.mpr (by simpa using n1)
      rw [if_neg n1] at k
      refine ⟨fun z => absurd y z, fun _ => ?_⟩
      refine q_isLeaf R ha (by omega) (fun k4 => ⟨fun _ => ?_, fun z => absurd rfl z⟩) (fun k4 => ⟨fun z => absurd z (by decide), fun _ => ?_⟩)
      · unfold m_X12_plain_151 m_X12_plain_152
        intro y1 ey
        refine ⟨fun _ => ?_, fun z => absurd y z⟩
        rw [show n32 a + 1 = n32 (a + 1) from n32_add _ 1]
        refine jump y 0 (fun m1 l1 => ?_) y1 (by rw [ey]; exact n32_add c 0)
        have kk := k m1 l1
        by_cases n2 : X.2.1 a = true
        · rw [if_pos n2, List.count_append] at kk
          rw [show c + 0 + List.count 0 (SA (sD s) hd X (a + 1) (md (sD s) a)) + List.count 0 (SA (sD s) hd X (md (sD s) a) (sD s 62 a)) + List.count 0 (SA (sD s) hd X (sD s 62 a) e) = c + (List.count 0 (SA (sD s) hd X (a + 1) (md (sD s) a)) + List.count 0 (SA (sD s) hd X (md (sD s) a) (sD s 62 a)) + List.count 0 (SA (sD s) hd X (sD s 62 a) e)) by omega]
          exact kk
        · rw [if_neg n2] at kk
          unfold vsC at kk
          rw [if_neg (by omega), cnt_gr k4 (fun q => by have : md (sD s) a = sD s 62 a := by unfold md; rw [if_pos (f5 q)]
                                                        rw [this, SA_nil])] at kk
          rw [show c + 0 + List.count 0 (SA (sD s) hd X (a + 1) (md (sD s) a)) + List.count 0 (SA (sD s) hd X (md (sD s) a) (sD s 62 a)) + List.count 0 (SA (sD s) hd X (sD s 62 a) e) = c + (List.count 0 (SA (sD s) hd X (a + 1) (md (sD s) a)) + List.count 0 (SA (sD s) hd X (md (sD s) a) (sD s 62 a)) + List.count 0 (SA (sD s) hd X (sD s 62 a) e)) by omega]
          exact kk
      · have e1 := (f4 k4).1
        have em : md (sD s) a = sD s 62 a := by omega
        unfold m_X12_plain_152
        intro y1 ey
        refine ⟨fun _ => ?_, fun z => absurd y z⟩
        rw [show n32 a + 1 = n32 (a + 1) from n32_add _ 1]
        unfold m_X12_plain_173
        rw [ey, show n32 c + 1 = n32 (c + 1) from n32_add _ 1, ← e1]
        refine i3 (by omega) he m (c + 1) (fun m1 l1 => ?_) m' (by omega)
        have kk := k m1 l1
        rw [if_neg (by rw [lt a ha (by omega) k4]; simp)] at kk
        unfold vsC at kk
        rw [if_pos k4, show List.count 0 (lfC (sD s) a) = 1 by unfold lfC; simp [List.count_cons]] at kk
        rw [Nat.add_assoc]; exact kk
theorem q_plain26 {k52 : Int32 → Int32 → Hp → Prop} {Q : Int32 → Hp → Prop} {v1 v2 : Int32} {h0 : Hp} (k : ∀ h', fr SSi h0 h' → (∀ j, j < 96 → hI h' 74 j = fgb false ∧ hI h' 75 j = fgb false) → hI h' 51 41 = hI h0 51 41 → k52 v1 v2 h') :
    ∀ (r j : Nat) (h : Hp), r + j = 96 → fr SSi h0 h → (∀ i, i < j → hI h 74 i = fgb false ∧ hI h 75 i = fgb false) → hI h 51 41 = hI h0 51 41 → m_X12_plain_26 (r + 1) k52 Q v1 v2 (n32 j) h := by
  intro r
  induction r with
  | zero =>
    intro j h hr f e e41
    rw [m_X12_plain_26, show (96 : Int32) = n32 96 from rfl, n32_le (by decide) (by omega)]
    exact ⟨fun _ => k h f (fun i hi => e i (by omega)) e41, fun z => absurd (by omega) z⟩
  | succ r ih =>
    intro j h hr f e e41
    rw [m_X12_plain_26, show (96 : Int32) = n32 96 from rfl, n32_le (by decide) (by omega), n32_ix (by omega), i01]
    refine ⟨fun z => absurd z (by omega), fun _ => ⟨vpI (by omega) (by decide), vpI (by omega) (by decide), fun x1 e1 => ?_⟩⟩
    rw [e1, show n32 j + 1 = n32 (j + 1) from n32_add _ 1]
    refine ih (j + 1) _ (by omega) (fr_wI (fr_wI f _ (by unfold SSi; omega)) _ (by unfold SSi; omega)) (fun i hi => ?_) ?_
    · by_cases q : i = j
      · subst q
        refine ⟨?_, ?_⟩
        · rw [hI_wI, if_neg (by omega), hI_wI, if_pos ⟨rfl, rfl⟩]
        · rw [hI_wI, if_pos ⟨rfl, rfl⟩]
      · refine ⟨?_, ?_⟩
        · rw [hI_wI, if_neg (by omega), hI_wI, if_neg (by omega)]; exact (e i (by omega)).1
        · rw [hI_wI, if_neg (by omega), hI_wI, if_neg (by omega)]; exact (e i (by omega)).2
    · rw [hI_wI, if_neg (by omega), hI_wI, if_neg (by omega)]; exact e41
/-- all deals' nodes are whole trees -/
def OkF (x : Ab) : Prop := ∀ d, d < (aD x).length → Fo (sD (dS (aD x) d)) (96 * d) (sN (dS (aD x) d)) 0 0
def ansPlain (hd : Nat → Nat → Nat) (x : Ab) (v1 v2 : Int32) : Int32 := match argN v1 (aD x).length, argN v2 2 with
  | some d, some w => if w = 0 then n32 (FS (sD (dS (aD x) d)) (hd d) (96 * d) (sN (dS (aD x) d))) else n32 ((FC (sD (dS (aD x) d)) (hd d) (96 * d) (sN (dS (aD x) d))).count 0)
  | _, _ => -1
theorem SSi_Scr : ∀ a k, SSi a k → Scr a k := by unfold SSi SLy SPl Scr Last; omega
set_option maxHeartbeats 4000000 in
set_option maxRecDepth 100000 in
theorem R_plain {x : Ab} {hd : Nat → Nat → Nat} {v1 v2 : Int32} {h : Hp} {Q : Int32 → Hp → Prop} (I : InvR x h) (K : OkA x) (T : OkF x) (k : ∀ h', fr Scr h h' → Q (ansPlain hd x v1 v2) h') : m_X12_plain v1 v2 h Q := by
  unfold m_X12_plain
  unfold ansPlain at k
  have d24 := I.2.1.2.1
  refine q_isDeal I.2.1 (fun e => ?_) (fun d hd1 e1 e2 => ?_)
  · rw [e] at k; exact ⟨fun _ => k h (fr.rf _ _), fun z => absurd rfl z⟩
  · rw [e2] at k
    subst e1
    refine ⟨fun z => absurd z (by decide), fun _ => ?_⟩
    refine q_upto (hi := 1) (by decide) (fun e => ?_) (fun w hw e3 e4 => ?_)
    · rw [e] at k; exact ⟨fun z => absurd rfl z, fun _ => k h (fr.rf _ _)⟩
    · rw [e4] at k
      subst e3
      dsimp only at k
      refine ⟨fun _ => ?_, fun z => absurd z (by decide)⟩
      have f0 : fr SSi h (wI h 51 41 0) := fr_wI (fr.rf _ _) _ (by unfold SSi; omega)
      have e41 : hI (wI h 51 41 0) 51 41 = n32 0 := by rw [hI_wI, if_pos ⟨rfl, rfl⟩]; rfl
      generalize wI h 51 41 0 = h0 at f0 e41
      refine ⟨97, q_plain26 (h0 := h0) (fun h1 f1 c1 e1 => ?_) 96 0 h0 (by omega) (fr.rf _ _) (fun i hi => by omega) rfl⟩
      have fA := f0.trans f1
      have I1 := I.fr (fA.mono SSi_Scr)
      have R1 := I1.rd K hd1
      generalize hs : dS (aD x) d = s at k R1
      have Fo0 : Fo (sD s) (96 * d) (sN s) 0 0 := by rw [← hs]; exact T d hd1
      have e53 : hI h1 53 d = n32 (sN s - 96 * d) := by rw [← hs]; exact (I1.2.1.2.2 d hd1).1
      have hN := R1.1.2.2.1
      have hb := R1.1.2.1
      have hl := R1.lt
      unfold m_X12_plain_52
      rw [n32_ix (by omega), e53, show (96 : Int32) = n32 96 from rfl, n32_mul, n32_add, show 96 * d + (sN s - 96 * d) = sN s by omega, n32_s1pm]
      refine ⟨vpI (by omega) (by decide), fun x11 e11 => ?_⟩
      rw [e11]
      have ex : ∀ i, ∃ n : Nat, hI h1 76 (i - 96 * d) = n32 n := fun i => ex_n32 _
      let X : Fg := (fun _ => false, fun _ => false, fun i => Classical.choose (ex i))
      have FX : FgM (96 * d) s X h1 := fun i i1 i2 => ⟨(c1 (i - 96 * d) (by omega)).1, (c1 (i - 96 * d) (by omega)).2, Classical.choose_spec (ex i)⟩
      refine ⟨1 + (sN s - 96 * d), q_plain66 (hd := hd d) (96 * d) (sN s) 0 0 Fo0 (Nat.le_refl _) (Nat.le_refl _) 1 0 h1 X R1 FX (fun _ _ _ => ⟨rfl, rfl⟩) (by rw [e1]; exact e41) (fun m2 h2 X2 l2 f2 F2 o2 p2 a2 D2 c2 => ?_) _ (Nat.le_refl _)⟩
      obtain ⟨m2, rfl⟩ : ∃ n, m2 = n + 1 := ⟨m2 - 1, by omega⟩
      rw [m_X12_plain_66, show (96 : Int32) = n32 96 from rfl, n32_mul, pm_ltn (by omega) (by omega)]
      refine ⟨fun _ => ?_, fun z => absurd (by omega) z⟩
      unfold m_X12_plain_94
      intro x5 e5
      rw [e5, show (96 : Int32) = n32 96 from rfl, n32_mul, show (0 : Int32) = n32 0 from rfl]
      have fB := fA.trans f2
      have I2 := I.fr (fB.mono SSi_Scr)
      have R2 : RD (96 * d) s h2 := R1.mv f2 (by unfold SSi SLy SPl; omega)
      have e53' : hI h2 53 d = n32 (sN s - 96 * d) := by rw [← hs]; exact (I2.2.1.2.2 d hd1).1
      refine ⟨1 + (sN s - 96 * d), q_plain102 (hd := hd d) R2 F2 (by omega) (fun j j1 j2 j3 => p2 j j3) e53' (96 * d) (sN s) 0 0 Fo0 (Nat.le_refl _) (Nat.le_refl _) 1 0 (fun m3 l3 => ?_) _ (Nat.le_refl _)⟩
      obtain ⟨m3, rfl⟩ : ∃ n, m3 = n + 1 := ⟨m3 - 1, by omega⟩
      rw [m_X12_plain_102, n32_ix (by omega), e53', show (96 : Int32) = n32 96 from rfl, n32_mul, n32_add, show 96 * d + (sN s - 96 * d) = sN s by omega]
      refine ⟨vpI (by omega) (by decide), fun _ => ?_, fun z => absurd (Int32.le_refl _) z⟩
      unfold m_X12_plain_178
      have kk := k h2 (fB.mono SSi_Scr)
      rw [a2, Nat.zero_add, show (0 : Int32) = n32 0 from rfl, n32_eq (by omega) (by decide), c2, Nat.zero_add]
      refine ⟨fun z => ?_, fun z => ?_⟩
      · rw [if_neg z] at kk; exact kk
      · rw [if_pos z] at kk; exact kk
