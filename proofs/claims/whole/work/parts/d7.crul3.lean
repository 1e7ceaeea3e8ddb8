/-! THE CLASS: statements, one after the other -/
def SRr (a q k : Nat) : Prop := SCm q k ∨ q = a ∧ k = 1 ∨ q = a + 1
def RRes (T : List Nat) (mx a : Nat) (r : Nat ⊕ List Rec) (h0 h : Hp) (v : Int32) : Prop := fr (SRr a) h0 h ∧ match r with
  | .inl e => v = 0 ∧ CM T (.inl e) h
  | .inr L => v = 1 ∧ CRul L h a ∧ L.length ≤ mx
theorem CStm.mvi {r : Rec} {h h' : Hp} {c i : Nat} (C : CStm r h c i) (e : ∀ k, 6 * i ≤ k → k < 6 * i + 6 → hI h' c k = hI h c k) : CStm r h' c i := by
  obtain ⟨a1, a2, a3, a4, a5, a6⟩ := C
  exact ⟨by rw [e _ (by omega) (by omega)]; exact a1, by rw [e _ (by omega) (by omega)]; exact a2, by rw [e _ (by omega) (by omega)]; exact a3, fun q => by rw [e _ (by omega) (by omega)]; exact a4 q, by rw [e _ (by omega) (by omega)]; exact a5, by rw [e _ (by omega) (by omega)]; exact a6⟩
set_option maxHeartbeats 4000000 in
set_option maxRecDepth 100000 in
theorem c_rr52 {T : List Nat} {a mx fe i : Nat} {L : List Rec} {r : Nat ⊕ List Rec} {t : Tk} {h0 h : Hp} {Q : Int32 → Hp → Prop} (K : ∀ h' v, RRes T mx a r h0 h' v → Q v h') (hi : i < 100) (hf : fe < 100) (eL : L.length = i) (lm : i ≤ mx) (hr : r = if i < fe then .inl t.2.1 else if t.1 = 0 then .inr L else .inl t.2.1) (f : fr (SRr a) h0 h) (P : CM T (.inr t) h) (e1 : hI h a 1 = n32 i) (hR : ∀ k, k < i → CStm (L.getD k rec0) h (a + 1) k ∧ okStm (L.getD k rec0)) : m_X6_readRules_52 Q a (n32 fe) h := by
  unfold m_X6_readRules_52
  have bad : r = .inl t.2.1 → m_X6_readRules_67 Q h := by
    intro er
    unfold m_X6_readRules_67
    refine c_refuse P (fun h' f' P' => ⟨fun _ => K h' 0 ⟨f.trans (f'.mono (fun _ _ z => Or.inl z)), ?_⟩, fun z => absurd rfl z⟩)
    rw [er]; exact ⟨rfl, P'⟩
  rw [e1, n32_lt (by omega) (by omega)]
  refine ⟨fun z => bad (by rw [hr, if_pos z]), fun z => ?_⟩
  rw [if_neg z] at hr
  refine c_isAtEnd P ?_
  by_cases q : t.1 = 0
  · rw [if_pos q] at hr
    rw [decide_eq_true q]
    refine ⟨fun _ => K h 1 ⟨f, ?_⟩, fun y => absurd y (by decide)⟩
    rw [hr]
    exact ⟨rfl, ⟨by rw [eL]; exact e1, fun k hk => hR k (by omega)⟩, by omega⟩
  · rw [if_neg q] at hr
    rw [decide_eq_false q]
    exact ⟨fun y => absurd rfl y, fun _ => bad hr⟩
set_option maxHeartbeats 4000000 in
set_option maxRecDepth 100000 in
theorem c_rules {T : List Nat} {a mx fe : Nat} {r : Nat ⊕ List Rec} {h0 : Hp} {Q : Int32 → Hp → Prop} (ha : 108 ≤ a) (hm : mx ≤ 16) (hf : fe ≤ 1) (h1m : 1 ≤ mx) (K : ∀ h' v, RRes T mx a r h0 h' v → Q v h') :
    ∀ (n i m : Nat) (L : List Rec) (t : Tk) (h : Hp), n + i = mx → L.length = i → (if i < fe ∧ t.1 = 0 then r = .inl t.2.1 else bars T mx m (.inr t) L = some r) → fr (SRr a) h0 h → CM T (.inr t) h → hI h a 1 = n32 i → (∀ k, k < i → CStm (L.getD k rec0) h (a + 1) k ∧ okStm (L.getD k rec0)) → m_X6_readRules_8 (n + 1) (m_X6_readRules_52 Q) Q a (n32 fe) (n32 mx) (n32 i) h := by
  intro n
  induction n with
  | zero =>
    intro i m L t h hn eL hb f P e1 hR
    rw [m_X6_readRules_8, n32_le (by omega) (by omega)]
    refine ⟨fun _ => c_rr52 K (by omega) (by omega) eL (by omega) ?_ f P e1 hR, fun z => absurd (by omega) z⟩
    rw [if_neg (by omega)] at hb
    rw [if_neg (by omega)]
    cases m with
    | zero => rw [bars] at hb; exact absurd hb (by simp)
    | succ m =>
      rw [bars] at hb
      by_cases q : t.1 = 0
      · rw [if_pos q] at hb ⊢; injection hb with hb; exact hb.symm
      · rw [if_neg q, if_pos (by omega)] at hb
        rw [if_neg q]; injection hb with hb; exact hb.symm
  | succ n ih =>
    intro i m L t h hn eL hb f P e1 hR
    rw [m_X6_readRules_8, n32_le (by omega) (by omega)]
    refine ⟨fun z => absurd z (by omega), fun _ => ?_⟩
    refine c_isAtEnd P ?_
    by_cases q : t.1 = 0
    · rw [decide_eq_true q]
      refine ⟨fun _ => c_rr52 K (by omega) (by omega) eL (by omega) ?_ f P e1 hR, fun y => absurd y (by decide)⟩
      by_cases qi : i < fe
      · rw [if_pos ⟨qi, q⟩] at hb
        rw [if_pos qi]; exact hb
      · rw [if_neg (fun z => qi z.1)] at hb
        rw [if_neg qi, if_pos q]
        cases m with
        | zero => rw [bars] at hb; exact absurd hb (by simp)
        | succ m => rw [bars, if_pos q] at hb; injection hb with hb; exact hb.symm
    · rw [decide_eq_false q]
      rw [if_neg (fun z => q z.2)] at hb
      refine ⟨fun y => absurd rfl y, fun _ => ?_⟩
      rw [show n32 i * 6 = n32 (6 * i) by rw [show (6 : Int32) = n32 6 from rfl, n32_mul, Nat.mul_comm]]
      cases m with
      | zero => rw [bars] at hb; exact absurd hb (by simp)
      | succ m =>
        rw [bars, if_neg q, if_neg (by omega)] at hb
        refine c_readStatement ha (by omega) P (fun h2 f2 P2 o2 => ?_)
        have f02 : fr (SRr a) h0 h2 := f.trans (f2.mono (by unfold SRs SRr SCm; omega))
        cases hs : brS T (.inr t) with
        | inl e =>
          rw [hs] at hb P2
          refine ⟨fun z => absurd rfl z, fun _ => K h2 0 ⟨f02, ?_⟩⟩
          cases m with
          | zero => rw [bars] at hb; exact absurd hb (by simp)
          | succ m => rw [bars] at hb; injection hb with hb; rw [← hb]; exact ⟨rfl, P2⟩
        | inr t2 =>
          rw [hs] at hb P2 o2
          have c2 := o2 trivial
          refine ⟨fun _ => ?_, fun z => absurd z one0⟩
          intro x9 e9
          have y1 : hI h2 a 1 = n32 i := by rw [f2.I (by unfold SRs SCm; omega)]; exact e1
          rw [e9, y1, show n32 i + 1 = n32 (i + 1) from n32_add _ 1]
          have f3 : fr (fun b k => b = a ∧ k = 1) h2 (wI h2 a 1 (n32 (i + 1))) := fr_wI (fr.rf _ _) _ ⟨rfl, rfl⟩
          have z1 : hI (wI h2 a 1 (n32 (i + 1))) a 1 = n32 (i + 1) := by rw [hI_wI, if_pos ⟨rfl, rfl⟩]
          generalize wI h2 a 1 (n32 (i + 1)) = h3 at f3 z1
          refine ih (i + 1) m (L ++ [brR T (.inr t)]) t2 h3 (by omega) (by rw [List.length_append, List.length_singleton]; omega) ?_ (f02.trans (f3.mono (by unfold SRr; omega))) (P2.mv f3 (by omega) (by omega)) z1 (fun j hj => ?_)
          · rw [if_neg (by omega)]; exact hb
          · by_cases qj : j = i
            · subst qj
              have := getD_rec_at (L := L) (e := brR T (.inr t))
              rw [eL] at this
              rw [this]
              exact ⟨c2.mvi (fun k _ _ => f3.I (by omega)), brR_ok T _⟩
            · rw [getD_rec_lt (by omega)]
              obtain ⟨R1, R2⟩ := hR j (by omega)
              exact ⟨R1.mvi (fun k k1 k2 => by rw [f3.I (by omega), f2.I (by unfold SRs SCm; omega)]), R2⟩
set_option maxHeartbeats 4000000 in
set_option maxRecDepth 100000 in
theorem c_readRules {T : List Nat} {a mx fe m : Nat} {t : Tk} {r : Nat ⊕ List Rec} {h : Hp} {Q : Int32 → Hp → Prop} (ha : 108 ≤ a) (hm : mx ≤ 16) (hf : fe ≤ 1) (h1m : 1 ≤ mx) (hb : if 0 < fe ∧ t.1 = 0 then r = .inl t.2.1 else bars T mx m (.inr t) [] = some r) (P : CM T (.inr t) h) (K : ∀ h' v, RRes T mx a r h h' v → Q v h') : m_X6_readRules a (n32 fe) (n32 mx) h Q := by
  unfold m_X6_readRules
  have f3 : fr (fun b k => b = a ∧ k = 1) h (wI h a 1 0) := fr_wI (fr.rf _ _) _ ⟨rfl, rfl⟩
  have z1 : hI (wI h a 1 0) a 1 = n32 0 := by rw [hI_wI, if_pos ⟨rfl, rfl⟩]; rfl
  generalize wI h a 1 0 = h3 at f3 z1
  exact ⟨mx + 1, c_rules ha hm hf h1m K mx 0 m [] t h3 rfl rfl hb (f3.mono (by unfold SRr; omega)) (P.mv f3 (by omega) (by omega)) z1 (fun k hk => absurd hk (by omega))⟩
set_option maxHeartbeats 4000000 in
set_option maxRecDepth 100000 in
theorem c_open {x : Ab} {n : Nat} {h : Hp} {Q : Hp → Prop} (hn : n ≤ (aT x).length) (C : CTape x h) (k : ∀ h', fr (fun a k => a = 2 ∧ 2 ≤ k ∧ k ≤ 6) h h' → CM (txt x n) (.inr (tok (txt x n) 0)) h' → Q h') : m_X10_open (n32 n) h Q := by
  unfold m_X10_open
  obtain ⟨c1, c2, c3⟩ := C
  have tl := txt_len (x := x) (n := n) hn
  rw [c1, if_neg (fun z => by rw [n32_lt (by omega) (by omega)] at z; omega)]
  have f1 : fr (fun a k => a = 2 ∧ 2 ≤ k ∧ k ≤ 6) h (wI (wI (wI h 2 3 (n32 n)) 2 6 0) 2 2 (-1)) := fr_wI (fr_wI (fr_wI (fr.rf _ _) _ (by omega)) _ (by omega)) _ (by omega)
  have e3 : hI (wI (wI (wI h 2 3 (n32 n)) 2 6 0) 2 2 (-1)) 2 3 = n32 n := by rw [hI_wI, if_neg (by omega), hI_wI, if_neg (by omega), hI_wI, if_pos ⟨rfl, rfl⟩]
  have e6 : hI (wI (wI (wI h 2 3 (n32 n)) 2 6 0) 2 2 (-1)) 2 6 = n32 0 := by rw [hI_wI, if_neg (by omega), hI_wI, if_pos ⟨rfl, rfl⟩]; rfl
  have e2 : hI (wI (wI (wI h 2 3 (n32 n)) 2 6 0) 2 2 (-1)) 2 2 = -1 := by rw [hI_wI, if_pos ⟨rfl, rfl⟩]
  generalize wI (wI (wI h 2 3 (n32 n)) 2 6 0) 2 2 (-1) = h1 at f1 e3 e6 e2
  have R : CTt (txt x n) h1 := by
    refine ⟨by rw [tl]; exact e3, by omega, fun j hj => ?_⟩
    have ej : (txt x n).getD j 0 = (aT x).getD j 0 := by
      unfold txt
      rw [List.getD_eq_getElem?_getD, List.getElem?_take, if_pos (by omega), ← List.getD_eq_getElem?_getD]
    rw [ej, f1.I (by omega)]
    exact c3 j (by omega)
  refine c_advance R (Nat.zero_le _) e6 (fun h2 f2 M => k h2 (f1.trans (f2.mono (by unfold STc; omega))) ⟨R.mv f2 (by unfold STc; omega) (by unfold STc; omega), by rw [f2.I (by unfold STc; omega)]; exact e2, M, ⟨0, Nat.zero_le _, rfl⟩⟩)
