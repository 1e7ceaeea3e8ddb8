/-! THE MODEL: a group opens -/
def sOpen (T : List Nat) (d : Nat) : PS → PS
  | .inl e => .inl e
  | .inr t => if t.1 = 123 ∧ d ≠ 6 then .inr (nxt T t) else .inl t.2.1
theorem sOpen_ok {T : List Nat} {d : Nat} : ∀ {s : PS}, okP (sOpen T d s) → okP s
  | .inl _, h => h
  | .inr _, _ => trivial
theorem sOpen_d {T : List Nat} {d : Nat} : ∀ {s : PS}, okP (sOpen T d s) → d ≠ 6
  | .inl _, h => absurd h (fun z => z)
  | .inr t, h => by
    revert h
    show okP (if _ then _ else _) → _
    split
    · rename_i q; exact fun _ => q.2
    · exact fun h => absurd h (fun z => z)
def SOp (d a k : Nat) : Prop := SPr a k ∨ a = 51 ∧ k = 32 ∨ (a = 72 ∨ a = 73) ∧ k = d
set_option maxHeartbeats 4000000 in
set_option maxRecDepth 100000 in
theorem q_opens {T : List Nat} {d i p : Nat} {ps : PS} {h : Hp} {Q : Hp → Prop} (P : PM T ps h) (e32 : hI h 51 32 = n32 d) (hd : d ≤ 6) (k : ∀ h', fr (SOp d) h h' → PM T (sOpen T d ps) h' → (okP (sOpen T d ps) → hI h' 51 32 = n32 (d + 1) ∧ hI h' 72 d = n32 i ∧ hI h' 73 d = n32 p) → Q h') : m_X12_opens (n32 i) (n32 p) h Q := by
  unfold m_X12_opens
  cases ps with
  | inl e => exact ⟨fun z => absurd z P.bad, fun _ => k h (fr.rf _ _) P (fun o => absurd o (fun z => z))⟩
  | inr t =>
    have hk := P.2.2.2.2.kind
    unfold sOpen at k
    dsimp only at k
    refine ⟨fun _ => ?_, fun z => absurd P.2.1 z⟩
    have bad : ¬ (t.1 = 123 ∧ d ≠ 6) → m_X12_opens_26 Q h := by
      intro q
      rw [if_neg q] at k
      exact q_errs P (fun h' f' P' => k h' (f'.mono (fun _ _ h => Or.inl h)) P' (fun o => absurd o (fun z => z)))
    rw [P.2.2.2.1.2.2.1, show (123 : Int32) = n32 123 from rfl, n32_eq (by omega) (by decide), e32, show (6 : Int32) = n32 6 from rfl, n32_eq (by omega) (by decide), n32_ix (by omega)]
    refine ⟨fun z => bad (fun y => z y.1), fun z1 => ⟨fun z2 => ?_, fun z => bad (fun y => y.2 z)⟩⟩
    rw [if_pos ⟨z1, z2⟩] at k
    have a1 : hI (wI h 72 d (n32 i)) 51 32 = n32 d := by rw [hI_wI, if_neg (by omega)]; exact e32
    rw [a1, n32_ix (by omega)]
    have a2 : hI (wI (wI h 72 d (n32 i)) 73 d (n32 p)) 51 32 = n32 d := by rw [hI_wI, if_neg (by omega)]; exact a1
    rw [a2, show n32 d + 1 = n32 (d + 1) from n32_add _ 1]
    refine ⟨vpI (by omega) (by decide), vpI (by omega) (by decide), ?_⟩
    have f1 : fr (fun a k => a = 51 ∧ k = 32 ∨ (a = 72 ∨ a = 73) ∧ k = d) h (wI (wI (wI h 72 d (n32 i)) 73 d (n32 p)) 51 32 (n32 (d + 1))) := fr_wI (fr_wI (fr_wI (fr.rf _ _) _ (by omega)) _ (by omega)) _ (by omega)
    have b32 : hI (wI (wI (wI h 72 d (n32 i)) 73 d (n32 p)) 51 32 (n32 (d + 1))) 51 32 = n32 (d + 1) := by rw [hI_wI, if_pos ⟨rfl, rfl⟩]
    have b72 : hI (wI (wI (wI h 72 d (n32 i)) 73 d (n32 p)) 51 32 (n32 (d + 1))) 72 d = n32 i := by rw [hI_wI, if_neg (by omega), hI_wI, if_neg (by omega), hI_wI, if_pos ⟨rfl, rfl⟩]
    have b73 : hI (wI (wI (wI h 72 d (n32 i)) 73 d (n32 p)) 51 32 (n32 (d + 1))) 73 d = n32 p := by rw [hI_wI, if_neg (by omega), hI_wI, if_pos ⟨rfl, rfl⟩]
    generalize wI (wI (wI h 72 d (n32 i)) 73 d (n32 p)) 51 32 (n32 (d + 1)) = h1 at f1 b32 b72 b73
    refine q_nx (P.mv f1 (by omega) (by omega)) (fun h' f' P' => k h' ((f1.mono (fun _ _ h => Or.inr h)).trans (f'.mono (fun _ _ h => Or.inl h))) P' (fun _ => ⟨?_, ?_, ?_⟩))
    · rw [f'.I (by unfold SPr; omega)]; exact b32
    · rw [f'.I (by unfold SPr; omega)]; exact b72
    · rw [f'.I (by unfold SPr; omega)]; exact b73
def sEvt (T : List Nat) : PS → PS × Nat
  | .inl e => (.inl e, 0)
  | .inr t => if pl T t EVTS = 0 then (.inl t.2.1, 0) else (.inr (nxt T t), pl T t EVTS - 1)
theorem sEvt_lt {T : List Nat} : ∀ {s : PS}, (sEvt T s).2 < 5
  | .inl _ => by show 0 < 5; decide
  | .inr t => by
    have := pl_le T t EVTS
    have e : EVTS.length = 5 := rfl
    show (if _ then _ else _ : PS × Nat).2 < 5
    split
    · show 0 < 5; decide
    · show _ - 1 < 5; omega
/-- a group's number -/
def gN (T : List Nat) (kd : Nat) (t : Tk) : PS × Nat := if kd = 4 then sNum T 0 399 (.inr (nxt T t)) else if kd = 5 then sNum T 0 9 (.inr (nxt T t)) else if kd = 6 then sEvt T (.inr (nxt T t)) else sHnd T 0 (.inr (nxt T t))
def grS (T : List Nat) (kd : Nat) (t : Tk) (s : St) : PS := if kd = 7 ∧ sC s = 3 then .inl t.2.1 else sOpen T (sK s).length (gN T kd t).1
def gEv (T : List Nat) (kd : Nat) (t : Tk) : Ev := (kd, fun _ => (gN T kd t).2)
theorem opened_3 (s : St) (k n : Nat) : opened s k n 3 = sN s := by unfold opened; repeat (first | rfl | split)
theorem opened_2 (s : St) (k n : Nat) : opened s k n 2 = 0 := by unfold opened; repeat (first | rfl | split)
theorem opened_0 {s : St} {k n : Nat} (h : 4 ≤ k) (h7 : k ≤ 7) : opened s k n 0 = k := by
  unfold opened
  split
  · rename_i q; rw [q]; rfl
  · split
    · rename_i q; rw [q]; rfl
    · split
      · rename_i q; rw [q]; rfl
      · show 7 = k; omega
theorem opened_1 {s : St} {k n : Nat} (h : 4 ≤ k) (h7 : k ≤ 7) : opened s k n 1 = if k = 7 then sC s else n := by
  unfold opened
  split
  · rename_i q; subst q; rfl
  · split
    · rename_i q; subst q; rfl
    · split
      · rename_i q; subst q; rfl
      · rw [if_pos (by omega)]; rfl
theorem stp_open {s : St} {k : Nat} {r : Rec} (h : 4 ≤ k) (h7 : k ≤ 7) : stp s (k, r) = (opened s k (r 0) :: sK s, sL s, (if k = 7 then sC s + 1 else sC s, if k = 6 then sE s ||| 2 ^ r 0 else sE s, sN s + 1), up2 (newNd s k) 59 (sN s) (opened s k (r 0) 1)) := by
  unfold stp
  rw [if_neg (show ¬ (k, r).1 = 0 by show ¬ k = 0; omega), if_pos (show (k, r).1 < 8 by show k < 8; omega)]
def SGr (i a k : Nat) : Prop := SPr a k ∨ (a = 59 ∨ a = 64) ∧ k = i ∨ a = 51 ∧ (k = 35 ∨ k = 36)
theorem SGr_SDl {b i : Nat} (h : b ≤ i) : ∀ a k, SGr i a k → SDl b i a k := by unfold SGr SPr SDl; omega
theorem SOp_SDl {b i d : Nat} : ∀ a k, SOp d a k → SDl b i a k := by unfold SOp SPr SDl; omega
/-- a group's node holds what was said -/
def GrF (T : List Nat) (kd : Nat) (t : Tk) (s : St) (h : Hp) : Prop := hI h 59 (sN s) = n32 (if kd = 7 then sC s else (gN T kd t).2) ∧ hI h 51 35 = n32 (if kd = 7 then sC s + 1 else sC s) ∧ hI h 51 36 = n32 (if kd = 6 then sE s ||| 2 ^ (gN T kd t).2 else sE s) ∧ (kd = 7 → hI h 64 (sN s) = n32 (gN T kd t).2)
set_option maxHeartbeats 4000000 in
set_option maxRecDepth 100000 in
theorem q_grEnd {T : List Nat} {b kd : Nat} {t : Tk} {s : St} {h h1 h2 : Hp} {Q : Hp → Prop} (h4 : 4 ≤ kd) (h7 : kd ≤ 7) (D : DM b s h) (G : GB b s 0) (f1 : fr (SNw (sN s)) h h1) (e33 : hI h1 51 33 = n32 (sN s + 1 - b)) (N1 : NdM s kd (sN s) h1)
    (k : ∀ h', fr (SDl b (sN s)) h h' → PM T (sOpen T (sK s).length (gN T kd t).1) h' → (okP (sOpen T (sK s).length (gN T kd t).1) → DM b (stp s (gEv T kd t)) h' ∧ (kd = 7 → hI h' 64 (sN s) = n32 (gN T kd t).2)) → Q h')
    (f2 : fr (SGr (sN s)) h1 h2) (P2 : PM T (gN T kd t).1 h2) (F : okP (gN T kd t).1 → GrF T kd t s h2) : m_X12_readGroup_154 Q (n32 (sN s)) h2 := by
  unfold m_X12_readGroup_154
  obtain ⟨d1, d2, d3, d4, d5, d6, d7, d8⟩ := D
  obtain ⟨g0, g1, g2, g3, g4, g5, g6⟩ := G
  rw [if_pos rfl] at g2
  have e32 : hI h2 51 32 = n32 (sK s).length := by rw [f2.I (by unfold SGr SPr; omega), f1.I (by unfold SNw; omega)]; exact d6
  refine q_opens (i := sN s) (p := 0) P2 e32 g4 (fun h3 f3 P3 o3 => ?_)
  have fA : fr (SDl b (sN s)) h h3 := ((f1.mono (SNw_SDl g1)).trans (f2.mono (SGr_SDl g1))).trans (f3.mono SOp_SDl)
  refine k h3 fA P3 (fun o => ?_)
  obtain ⟨x32, x72, x73⟩ := o3 o
  obtain ⟨F1, F2, F3, F4⟩ := F (sOpen_ok o)
  have hd6 := sOpen_d o
  obtain ⟨n1, n2, n3, n4, n5, n6⟩ := N1
  refine ⟨?_, fun z => by rw [f3.I (by unfold SOp SPr; omega)]; exact F4 z⟩
  have low : ∀ c j, 58 ≤ c → c ≤ 70 → j ≠ sN s → hI h3 c j = hI h c j := by
    intro c j c1 c2 hj
    rw [f3.I (by unfold SOp SPr; omega), f2.I (by unfold SGr SPr; omega), f1.I (by unfold SNw; omega)]
  have at1 : ∀ c, 58 ≤ c → c ≤ 63 → c ≠ 59 → hI h3 c (sN s) = hI h1 c (sN s) := by
    intro c c1 c2 c3
    rw [f3.I (by unfold SOp SPr; omega), f2.I (by unfold SGr SPr; omega)]
  unfold gEv
  rw [stp_open h4 h7]
  refine ⟨?_, ?_, ?_, ?_, ?_, x32, ?_, fun j j1 j2 => ?_⟩
  · rw [f3.I (by unfold SOp SPr; omega), f2.I (by unfold SGr SPr; omega), f1.I (by unfold SNw; omega)]; exact d1
  · rw [f3.I (by unfold SOp SPr; omega), f2.I (by unfold SGr SPr; omega)]; exact e33
  · rw [f3.I (by unfold SOp SPr; omega), f2.I (by unfold SGr SPr; omega), f1.I (by unfold SNw; omega)]; exact d3
  · rw [f3.I (by unfold SOp SPr; omega)]; exact F2
  · rw [f3.I (by unfold SOp SPr; omega)]; exact F3
  · refine ⟨?_, ?_, ?_⟩
    · rw [opened_3]; exact x72
    · rw [opened_2]; exact x73
    · exact ((d7.mv f1 (Nat.le_refl _) (fun k _ => by unfold SNw; omega)).mv f2 (Nat.le_refl _) (fun k _ => by unfold SGr SPr; omega)).mv f3 (Nat.le_refl _) (fun k hk => by unfold SOp SPr; omega)
  · have j2' : j < sN s + 1 := j2
    by_cases q : j = sN s
    · subst q
      obtain ⟨a1, a2, a3, a4, a5, a6⟩ := newNd_at s kd
      unfold RNode
      show hI h3 58 (sN s) = n32 (up2 (newNd s kd) 59 (sN s) (opened s kd (gN T kd t).2 1) 58 (sN s)) ∧ hI h3 59 (sN s) = n32 (up2 (newNd s kd) 59 (sN s) (opened s kd (gN T kd t).2 1) 59 (sN s)) ∧ hI h3 60 (sN s) = pm (up2 (newNd s kd) 59 (sN s) (opened s kd (gN T kd t).2 1) 60 (sN s)) ∧ hI h3 61 (sN s) = n32 (up2 (newNd s kd) 59 (sN s) (opened s kd (gN T kd t).2 1) 61 (sN s)) ∧ hI h3 62 (sN s) = n32 (up2 (newNd s kd) 59 (sN s) (opened s kd (gN T kd t).2 1) 62 (sN s)) ∧ hI h3 63 (sN s) = pm (up2 (newNd s kd) 59 (sN s) (opened s kd (gN T kd t).2 1) 63 (sN s)) ∧ (up2 (newNd s kd) 59 (sN s) (opened s kd (gN T kd t).2 1) 58 (sN s) < 4 → _)
      rw [up2_if, if_neg (by omega), up2_if, if_pos ⟨rfl, rfl⟩, up2_if, if_neg (by omega), up2_if, if_neg (by omega), up2_if, if_neg (by omega), up2_if, if_neg (by omega), a1, a3, a4, a5, a6, opened_1 h4 h7, at1 58 (by decide) (by decide) (by decide), at1 60 (by decide) (by decide) (by decide), at1 61 (by decide) (by decide) (by decide), at1 62 (by decide) (by decide) (by decide), at1 63 (by decide) (by decide) (by decide)]
      refine ⟨n1, ?_, n3, n4, n5, n6, fun z => absurd z (by omega)⟩
      rw [f3.I (by unfold SOp SPr; omega)]; exact F1
    · refine (d8 j j1 (by omega)).mvd (fun c => ?_) (fun c c1 c2 => low c j c1 c2 q)
      show up2 (newNd s kd) 59 (sN s) (opened s kd (gN T kd t).2 1) c j = sD s c j
      rw [up2_if, if_neg (by omega), newNd_ne q]
