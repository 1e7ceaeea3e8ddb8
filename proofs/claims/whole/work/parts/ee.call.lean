/-! THE CLASS: parts are read, one after the other -/
set_option maxHeartbeats 4000000 in
set_option maxRecDepth 100000 in
theorem c_readPart {T : List Nat} {a b n n0 d m0 m1 : Nat} {r : Nat ⊕ List Ev} {RA : Int32 → Hp → (Int32 → Hp → Prop) → Prop} {t : Tk} {E : List Ev} {h : Hp} {Q : Int32 → Hp → Prop} (ha : 108 ≤ a) (hd : d ≤ 6) (H : d < 6 → RAS T b a r (d + 1) RA) (hm : mac T b (n + 1) 0 t E = some r) (J : RdJ T a b 0 n0 d m0 m1 E t h) (C : CxC (ctx (sK (run b E))) h) (K : PrtK T b a r n0 d m0 t E h Q) : m_X2_readPart RA (n32 d) h Q := by
  unfold m_X2_readPart
  have J0 := J
  have K0 := K
  obtain ⟨kb, kg⟩ := K
  obtain ⟨G, W, len, R, P, D, Z⟩ := J
  have rm := R.room G.1.2.2.2.1 hd
  have l8 := pl_le T t KNDS
  have l8' : KNDS.length = 8 := rfl
  have KB : PrtK T b a r n0 d m0 t E h (fun (x3 : Int32) (h4 : Hp) => bz x3 ∧ Q x3 h4) := ⟨fun h' e er P' w => ⟨Or.inl rfl, kb h' e er P' w⟩, fun h' n' t' E' m1 q1 q2 q3 q4 q5 q6 q7 => ⟨Or.inr rfl, kg h' n' t' E' m1 q1 q2 q3 q4 q5 q6 q7⟩⟩
  refine c_placeIn (v := 0) (by decide) P.1 P.2.2.1 P.2.2.2 ?_
  have eR : rowW 0 = KNDS := rfl
  rw [eR]
  have lf : ∀ kd, kd < 4 → pl T t KNDS = kd + 1 → m_X2_readLeaf (n32 kd) h (fun (x3 : Int32) (h4 : Hp) => bz x3 ∧ Q x3 h4) := by
    intro kd hk pk
    have hm2 := hm
    rw [mac, if_neg (by omega), if_pos (by omega), pk, show kd + 1 - 1 = kd from rfl] at hm2
    have t0 : t.1 ≠ 0 := by have := pl_kind (T := T) (t := t) (row := KNDS) (by omega); omega
    refine c_readLeaf ha hk G W P C D Z (by omega) (fun h' e es P' f' e2 => ⟨Or.inl rfl, ?_⟩) (fun h' t' es P' f' C' D' Z' => ⟨Or.inr rfl, ?_⟩)
    · rw [es] at hm2
      injection hm2 with hm2
      exact kb h' e hm2.symm P' ⟨f'.mono (SRd.le (by omega)), n0 + (shR b E).2.1.length, by rw [e2]; exact Z.2.1, by omega, by omega⟩
    · rw [es] at hm2
      have A := adv_leaf (kd := kd) (s := run b E) P.2.2.2 t0 t' es
      have ok7 : okP (l7 T kd t).1 ∧ (sL (run b E)).length ≠ 12 := by
        unfold lfS at es
        split at es
        · exact absurd es (by simp)
        · rename_i q; rw [es]; exact ⟨trivial, q⟩
      have Lin := lfR_in hk ok7.1
      have g6 : (sK (run b E)).length ≤ 6 := G.1.2.2.2.2.1
      refine kg h' n t' (E ++ [(0, lfR T kd t)]) (m1 + 1) hm2 (by have := A.2; omega) ⟨?_, ?_, ?_, ?_, P', ?_, ?_⟩ C' ?_ ?_ (f'.mono (SRd.le (by omega)))
      · rw [run_snoc]; exact G.leaf ok7.2
      · rw [run_snoc]; exact W.leaf g6 Lin G.1.2.1
      · rw [run_snoc, stp_leaf]; exact len
      · rw [run_snoc, stp_leaf, shR_snoc]
        have es2 : shp (run b E) (shR b E) (0, lfR T kd t) = ((shR b E).1, (shR b E).2.1 ++ lfCe (lfR T kd t), (shR b E).2.2) := by unfold shp; rw [if_pos rfl]
        rw [es2]
        have := R.leaf hd Lin
        show RmI d m0 (m1 + 1) n0 ((shR b E).2.1 ++ lfCe (lfR T kd t)) (sL (run b E) ++ [_]).length
        rw [List.length_append]
        exact this
      · rw [run_snoc]; exact D'
      · rw [shR_snoc]; exact Z'
      · rw [run_snoc, stp_leaf]; rfl
      · rw [shR_snoc]; unfold shp; rw [if_pos rfl]
  have pk1 : pl T t KNDS ≠ 0 → pm (pl T t KNDS) = n32 (pl T t KNDS - 1) := fun z => pm_n32 (by omega)
  have pv : ∀ k : Nat, k < 100 → (pm (pl T t KNDS) = n32 k ↔ pl T t KNDS = k + 1) := fun k hk => pm_eqn (by omega) (by omega)
  rw [show (0 : Int32) = n32 0 from rfl, show (1 : Int32) = n32 1 from rfl, show (2 : Int32) = n32 2 from rfl, show (3 : Int32) = n32 3 from rfl, show (4 : Int32) = n32 4 from rfl, show (5 : Int32) = n32 5 from rfl, show (6 : Int32) = n32 6 from rfl, show (7 : Int32) = n32 7 from rfl, pv 0 (by decide), pv 1 (by decide), pv 2 (by decide), pv 3 (by decide), pv 4 (by decide), pv 5 (by decide), pv 6 (by decide), pv 7 (by decide)]
  have lf' : ∀ kd, kd < 4 → pl T t KNDS = kd + 1 → m_X2_readLeaf (pm (pl T t KNDS)) h (fun (x3 : Int32) (h4 : Hp) => bz x3 ∧ Q x3 h4) := fun kd hk pk => by
    have := lf kd hk pk
    rw [pk, pmS]; exact this
  refine ⟨fun z => lf' 0 (by decide) z, fun z0 => ⟨fun z => lf' 1 (by decide) z, fun z1 => ⟨fun z => lf' 2 (by decide) z, fun z2 => ⟨fun z => lf' 3 (by decide) z, fun z3 => ⟨fun z => c_readAfter ha hd H hm z J0 C KB, fun z4 => ⟨fun z => c_readTimes ha hd H hm z J0 C KB, fun z5 => ⟨fun z => c_readIf ha hd H hm z J0 C KB, fun z6 => ⟨fun z => c_readChoice ha hd H hm z J0 C KB, fun z7 => ?_⟩⟩⟩⟩⟩⟩⟩⟩
  have p0 : pl T t KNDS = 0 := by omega
  rw [mac, if_pos p0] at hm
  injection hm with hm
  exact c_refuse P (fun h' f' P' => ⟨Or.inl rfl, kb h' _ hm.symm P' ⟨f'.mono (SCm_SRd _ _), n0 + (shR b E).2.1.length, by rw [f'.I (by unfold SCm; omega)]; exact Z.2.1, by omega, by omega⟩⟩)
set_option maxHeartbeats 4000000 in
set_option maxRecDepth 100000 in
theorem c_allLoop {T : List Nat} {a b n0 d m0 : Nat} {r : Nat ⊕ List Ev} {RA : Int32 → Hp → (Int32 → Hp → Prop) → Prop} {t0 : Tk} {E0 : List Ev} {h0 : Hp} {Q : Int32 → Hp → Prop} (ha : 108 ≤ a) (hd : d ≤ 6) (H : d < 6 → RAS T b a r (d + 1) RA) (kb : ∀ h' e, r = .inl e → CM T (.inl e) h' → WkB a n0 h0 h' → Q 0 h')
    (kg : ∀ h' n' t' E' m1, mac T b n' 1 t' E' = some r → t'.1 ≠ 44 → t0.2.1 ≤ t'.2.1 → RdJ T a b 1 n0 d m0 m1 E' t' h' → CxC (ctx (sK (run b E0))) h' → sK (run b E') = sK (run b E0) → (shR b E').1 = (shR b E0).1 → fr (SRd a n0) h0 h' → Q 1 h') :
    ∀ (q i n m1 : Nat) (t : Tk) (E : List Ev) (h : Hp), q + i = 600 → i ≤ t.2.1 → t0.2.1 ≤ t.2.1 → mac T b n 0 t E = some r → RdJ T a b 0 n0 d m0 m1 E t h → CxC (ctx (sK (run b E0))) h → sK (run b E) = sK (run b E0) → (shR b E).1 = (shR b E0).1 → fr (SRd a n0) h0 h → m_X2_readAll_2 RA (q + 1) (m_X2_readAll_46 RA Q) Q (n32 d) (n32 i) h := by
  intro q
  induction q with
  | zero =>
    intro i n m1 t E h hq hi ht hm J C sk sh f
    rw [m_X2_readAll_2, show (600 : Int32) = n32 600 from rfl, n32_le (by omega) (by omega)]
    refine ⟨fun _ => ?_, fun z => absurd (by omega) z⟩
    obtain ⟨G, W, len, R, P, D, Z⟩ := J
    have rm := R.room G.1.2.2.2.1 hd
    unfold m_X2_readAll_46
    have t6 := P.1.2.1
    have tl := P.2.2.2.le
    have p0 : pl T t KNDS = 0 := by
      unfold pl
      by_cases z : t.1 = 1
      · have := tl.2.2.1 (by omega); omega
      · rw [if_neg z]
    cases n with
    | zero => rw [mac] at hm; exact absurd hm (by simp)
    | succ n =>
      rw [mac, if_pos p0] at hm
      injection hm with hm
      exact c_refuse P (fun h' f' P' => ⟨Or.inl rfl, kb h' _ hm.symm P' ⟨f.trans (f'.mono (SCm_SRd _ _)), n0 + (shR b E).2.1.length, by rw [f'.I (by unfold SCm; omega)]; exact Z.2.1, by omega, by omega⟩⟩)
  | succ q ih =>
    intro i n m1 t E h hq hi ht hm J C sk sh f
    rw [m_X2_readAll_2, show (600 : Int32) = n32 600 from rfl, n32_le (by omega) (by omega)]
    refine ⟨fun z => absurd z (by omega), fun _ => ?_⟩
    cases n with
    | zero => rw [mac] at hm; exact absurd hm (by simp)
    | succ n =>
      have C' : CxC (ctx (sK (run b E))) h := by rw [sk]; exact C
      refine c_readPart ha hd H hm J C' ⟨fun h' e er P' w => ⟨fun y => absurd rfl y, fun _ => kb h' e er P' ⟨f.trans w.1, w.2⟩⟩, fun h4 n' t' E' m1' hm' le J4 C4 sk4 sh4 f4 => ⟨fun _ => ?_, fun y => absurd y one0⟩⟩
      rw [sk] at C4
      have J4' := J4
      obtain ⟨G, W, len, R, P, D, Z⟩ := J4
      rw [show m_X10_isSign 44 = m_X10_isSign (n32 44) from rfl]
      refine c_isSign (by decide) P ?_
      by_cases z : t'.1 = 44
      · rw [decide_eq_true z]
        refine ⟨fun _ => ?_, fun y => absurd y one0⟩
        have nf := nxt_from P.2.2.2
        have tl := P.2.2.2.le.2.2.1 (by omega)
        refine c_adv P (fun h8 f8 P8 => ?_)
        intro x9 e9
        rw [e9, show n32 i + 1 = n32 (i + 1) from n32_add _ 1]
        cases n' with
        | zero => rw [mac] at hm'; exact absurd hm' (by simp)
        | succ n' =>
          rw [mac, if_pos z] at hm'
          refine ih (i + 1) n' m1' (nxt T t') E' h8 (by omega) (by omega) (by omega) hm' ⟨G.come, W, len, R, P8, D.mv f8 (by unfold SCm; omega) (by unfold SCm; omega), Z.mvS f8⟩ (C4.mv f8 (by unfold SCm; omega)) (sk4.trans sk) (sh4.trans sh) ((f.trans f4).trans (f8.mono (SCm_SRd _ _)))
      · rw [decide_eq_false z]
        exact ⟨fun y => absurd rfl y, fun _ => kg h4 n' t' E' m1' hm' z (by omega) J4' C4 (sk4.trans sk) (sh4.trans sh) (f.trans f4)⟩
set_option maxHeartbeats 4000000 in
set_option maxRecDepth 100000 in
theorem c_readAll {T : List Nat} {a b : Nat} {r : Nat ⊕ List Ev} (ha : 108 ≤ a) : ∀ (fu d : Nat), fu + d = 8 → d ≤ 6 → RAS T b a r d (fun v1 h Q => m_X2_readAllR fu v1 h Q) := by
  intro fu
  induction fu with
  | zero => intro d h1 h2; omega
  | succ fu ih =>
    intro d h1 h2 n n0 m0 t E h Q hm J C hz kb kg
    show m_X2_readAllR (fu + 1) (n32 d) h Q
    rw [m_X2_readAllR]
    unfold m_X2_readAll
    refine ⟨600 + 1, ?_⟩
    exact c_allLoop (t0 := t) (E0 := E) (h0 := h) ha h2 (fun d6 => ih (d + 1) (by omega) (by omega)) kb kg 600 0 n 0 t E h (by omega) (Nat.zero_le _) (Nat.le_refl _) hm J C rfl rfl (fr.rf _ _)
