/-! THE CLASS: after, times -/
theorem shp_end {s : St} {z : Sh} {f : Rec} {l : List Rec} {g : SFr} {zl : List SFr} {r : Rec} (h : sK s = f :: l) (hz : z.1 = g :: zl) : shp s z (9, r) = (zl, g.2.1 ++ cloC (f 0) g.1 (shA f g z.2.1) (shB f z.2.1), z.2.2 + cloS (f 0) g.1 (shA f g z.2.1) (shB f z.2.1)) := by
  obtain ⟨z1, z2, z3⟩ := z
  have hz' : z1 = g :: zl := hz
  subst hz'
  unfold shp
  rw [if_neg (by show ¬ 9 = 0; decide), if_neg (by show ¬ 9 < 8; decide), h]
  rfl
theorem shp_two {s : St} {z : Sh} {f : Rec} {l : List Rec} {g : SFr} {zl : List SFr} {r : Rec} (h : sK s = f :: l) (hz : z.1 = g :: zl) : shp s z (8, r) = ((g.1, g.2.1, z.2.1) :: zl, [], z.2.2) := by
  obtain ⟨z1, z2, z3⟩ := z
  have hz' : z1 = g :: zl := hz
  subst hz'
  unfold shp
  rw [if_neg (by show ¬ 8 = 0; decide), if_neg (by show ¬ 8 < 8; decide), h]
  rfl
theorem shp_opn {s : St} {z : Sh} {kd : Nat} {r : Rec} (h4 : 4 ≤ kd) (h7 : kd ≤ 7) : shp s z (kd, r) = ((r 0, z.2.1, []) :: z.1, [], z.2.2) := by
  unfold shp; rw [if_neg (by show ¬ kd = 0; omega), if_pos (by show kd < 8; omega)]
theorem gN_6 {T : List Nat} {t : Tk} : (gN T 6 t).2 < 5 := by show (sEvt T (.inr (nxt T t))).2 < 5; exact sEvt_lt
theorem grp_mac {T : List Nat} {b n kd : Nat} {t : Tk} {E : List Ev} {r : Nat ⊕ List Ev} (hm : mac T b (n + 1) 0 t E = some r) (h4 : 4 ≤ kd) (pk : pl T t KNDS = kd + 1) : (∀ e, grS T kd t (run b E) = .inl e → r = .inl e) ∧ ∀ t', grS T kd t (run b E) = .inr t' → mac T b n 0 t' (E ++ [gEv T kd t]) = some r := by
  rw [mac, if_neg (by omega), if_neg (by omega), pk, show kd + 1 - 1 = kd from rfl] at hm
  refine ⟨fun e he => ?_, fun t' ht => ?_⟩
  · rw [he] at hm; injection hm with hm; exact hm.symm
  · rw [ht] at hm; exact hm
theorem blkP_grp {T : List Nat} {b n kd n0 d m0 m1 : Nat} {t t2 : Tk} {E : List Ev} {r : Nat ⊕ List Ev} (hm : mac T b (n + 1) 0 t E = some r) (h4 : 4 ≤ kd) (h7 : kd ≤ 7) (pk : pl T t KNDS = kd + 1) (hc : ¬ (kd = 7 ∧ sC (run b E) = 3)) (ok : (gN T kd t).1 = .inr t2) (G : GI b (run b E) 0) (W : W9 b (run b E)) (hd : (sK (run b E)).length = d) (R : RmI d m0 m1 n0 (shR b E).2.1 (sL (run b E)).length) : BlkP T b r (n0 + (shR b E).2.1.length + 3) d (m0 + m1) (E ++ [gEv T kd t]) t2 := by
  obtain ⟨M1, M2⟩ := grp_mac hm h4 pk
  have eg : grS T kd t (run b E) = sOpen T d (.inr t2) := by unfold grS; rw [if_neg hc, hd, ok]
  rw [eg] at M1 M2
  refine ⟨M1, fun t1 e1 => ?_⟩
  have g6 : (sK (run b E)).length ≤ 6 := G.1.2.2.2.2.1
  have g3 : sC (run b E) ≤ 3 := G.1.2.2.2.2.2.1
  have n6 : d ≠ 6 := sOpen_d (T := T) (s := .inr t2) (by rw [e1]; trivial)
  refine ⟨by omega, ⟨n, M2 t1 e1⟩, ?_, ?_, ?_, ?_⟩
  · rw [run_snoc]
    exact G.grp h4 h7 (by omega) hc (fun q => by subst q; exact gN_6)
  · rw [run_snoc]
    exact W.grp (by omega) h4 h7 (fun q => by subst q; have := gN_4 (T := T) (t := t); show (gN T 4 t).2 < 400; omega) (fun q => by subst q; have := gN_5 (T := T) (t := t); show (gN T 5 t).2 < 10; omega) (fun q => by subst q; exact gN_6) (fun q => by omega) G.1.2.1
  · rw [run_snoc]
    unfold gEv
    rw [stp_open h4 h7]
    show (_ :: sK (run b E)).length = d + 1
    rw [List.length_cons, hd]
  · rw [run_snoc]
    unfold gEv
    rw [stp_open h4 h7]
    exact R.inn (by omega)
def PrtK (T : List Nat) (b a : Nat) (r : Nat ⊕ List Ev) (n0 d m0 : Nat) (t : Tk) (E : List Ev) (h : Hp) (Q : Int32 → Hp → Prop) : Prop :=
  (∀ h' e, r = .inl e → CM T (.inl e) h' → WkB a n0 h h' → Q 0 h') ∧ ∀ h' n' t' E' m1, mac T b n' 1 t' E' = some r → t.2.1 ≤ t'.2.1 → RdJ T a b 1 n0 d m0 m1 E' t' h' → CxC (ctx (sK (run b E))) h' → sK (run b E') = sK (run b E) → (shR b E').1 = (shR b E).1 → fr (SRd a n0) h h' → Q 1 h'
/-- the state once a group is closed -/
theorem close_pure {T : List Nat} {a b n0 d m0 m1 mf n1 n2 k tn : Nat} {E2 : List Ev} {t' : Tk} {c f1 s1 : List Nat} {f : Rec} {l : List Rec} {g : SFr} {zl : List SFr} {L0 L1 ms : Nat} {h h' : Hp} (J : RdJ T a b 1 n2 (d + 1) (m0 + m1 + mf) ms E2 t' h ∨ RdJ T a b 1 n1 (d + 1) (m0 + m1) mf E2 t' h) (hd : d < 6) (hk : 4 ≤ k) (hk7 : k ≤ 7) (ht : tn < 10000) (h4 : k = 4 → tn < 400)
    (R : RmI d m0 m1 n0 c L0) (F : RmI (d + 1) (m0 + m1) mf n1 f1 L1) (S : RmI (d + 1) (m0 + m1 + mf) ms n2 s1 (sL (run b E2)).length) (hL : L1 ≤ 12) (K2 : sK (run b E2) = f :: l) (f0 : f 0 = k) (zz : (shR b E2).1 = g :: zl) (g1 : g.1 = tn) (gc : g.2.1 = c) (eA : shA f g (shR b E2).2.1 = f1) (eB : shB f (shR b E2).2.1 = s1) (P : CM T (.inr t') h') (D : DlC a (run b E2) h') (e0 : hI h' 5 0 = n32 ((shR b E2).2.2 + cloS k tn f1 s1)) (e2 : hI h' 5 2 = n32 (n0 + c.length + (cloC k tn f1 s1).length)) (C1 : Cel n0 c h') (C2 : Cel (n0 + c.length) (cloC k tn f1 s1) h') :
    RdJ T a b 1 n0 d m0 (m1 + (mf + ms)) (E2 ++ [(9, rec0)]) t' h' ∧ sK (run b (E2 ++ [(9, rec0)])) = l ∧ (shR b (E2 ++ [(9, rec0)])).1 = zl := by
  have GW : GI b (run b E2) 1 ∧ W9 b (run b E2) ∧ (sK (run b E2)).length = d + 1 := by
    rcases J with J | J
    · exact ⟨J.1, J.2.1, J.2.2.1⟩
    · exact ⟨J.1, J.2.1, J.2.2.1⟩
  obtain ⟨G, W, len⟩ := GW
  have es := shp_end (r := rec0) K2 zz
  rw [f0, g1, gc, eA, eB] at es
  have G' := G.end (r := rec0) K2
  have W' := W.end (r := rec0) K2
  have L12 : (sL (run b E2)).length ≤ 12 := G.1.2.2.2.1
  unfold RdJ
  rw [run_snoc, shR_snoc, es]
  rw [stp_end K2] at G' W' ⊢
  rw [K2, List.length_cons] at len
  refine ⟨⟨G', W', by show l.length = d; omega, R.close F S hd hL L12 hk hk7 ht h4, P, D, e0, ?_, Cel.app C1 C2⟩, rfl, rfl⟩
  show hI h' 5 2 = n32 (n0 + (c ++ cloC k tn f1 s1).length)
  rw [e2, List.length_append, Nat.add_assoc]
set_option maxHeartbeats 4000000 in
set_option maxRecDepth 100000 in
theorem c_close1 {T : List Nat} {a b n0 d m0 m1 mf k tn : Nat} {E2 : List Ev} {t' : Tk} {c : List Nat} {f : Rec} {l : List Rec} {zl : List SFr} {L0 : Nat} {h : Hp} {Q : Hp → Prop} (ha : 108 ≤ a) (hk : k = 4 ∨ k = 5) (ht : tn < 400) (hd : d < 6) (R : RmI d m0 m1 n0 c L0) (J : RdJ T a b 1 (n0 + c.length + 3) (d + 1) (m0 + m1) mf E2 t' h) (K2 : sK (run b E2) = f :: l) (f0 : f 0 = k) (f2 : f 2 = 0) (zz : (shR b E2).1 = (tn, c, []) :: zl) (d0 : hI h 6 (n0 + c.length) = ce k) (d1 : hI h 6 (n0 + c.length + 1) = n32 tn) (Cc : Cel n0 c h)
    (kk : ∀ h', fr (SSh (n0 + c.length)) h h' → RdJ T a b 1 n0 d m0 (m1 + (mf + 0)) (E2 ++ [(9, rec0)]) t' h' → sK (run b (E2 ++ [(9, rec0)])) = l → (shR b (E2 ++ [(9, rec0)])).1 = zl → Q h') : m_X8_endOne (n32 (n0 + c.length)) h Q := by
  have J' := J
  obtain ⟨G, W, len, Rm, P, D, Z⟩ := J
  have L12 : (sL (run b E2)).length ≤ 12 := G.1.2.2.2.1
  have rm := Rm.room L12 (by omega)
  refine c_endOne (m := (shR b E2).2.2) (B := WfB (d + 1)) hk (by omega) (by have := WfB_le (d + 1); omega) d0 d1 Z.2.2 Rm.2.2.2 Z.1 Z.2.1 (by omega) (fun h' f' x0 x2 xc => ?_)
  obtain ⟨q1, q2, q3⟩ := close_pure (n1 := n0 + c.length + 3) (s1 := []) (f1 := (shR b E2).2.1) (g := (tn, c, [])) (Or.inr J') hd (by omega) (by omega) (by omega) (fun _ => ht) R Rm (R.two Rm) L12 K2 f0 zz rfl rfl (by unfold shA; rw [if_pos f2]) (by unfold shB; rw [if_pos f2]) (P.mv f' (by unfold SSh; omega) (by unfold SSh; omega)) (D.mv f' (by unfold SSh; omega) (by unfold SSh; omega)) x0 x2 (Cc.mv f' (by unfold SSh; omega)) xc
  exact kk h' f' q1 q2 q3
theorem isTwo_no {T : List Nat} {f : Rec} {t : Tk} (h : f 2 = 1 ∨ f 0 = 4 ∨ f 0 = 5) : ¬ isTwo T f t = true := by
  unfold isTwo
  intro z
  simp only [Bool.and_eq_true, Bool.or_eq_true, beq_iff_eq] at z
  omega
theorem mac_end9 {T : List Nat} {b n : Nat} {t : Tk} {E : List Ev} {r : Nat ⊕ List Ev} {f : Rec} {l : List Rec} (hm : mac T b n 1 t E = some r) (h : t.1 = 125) (K : sK (run b E) = f :: l) (no : ¬ isTwo T f (nxt T t) = true) : ∃ n', mac T b n' 1 (nxt T t) (E ++ [(9, rec0)]) = some r := by
  cases n with
  | zero => rw [mac] at hm; exact absurd hm (by simp)
  | succ n =>
    rw [mac, if_neg (by omega), K] at hm
    dsimp only at hm
    rw [if_pos h, if_neg no] at hm
    exact ⟨n, hm⟩
