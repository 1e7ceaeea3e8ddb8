/-! THE MODEL: a leaf is read, whole -/
def SDl (b i a k : Nat) : Prop := 58 ≤ a ∧ a ≤ 63 ∧ b ≤ k ∨ 64 ≤ a ∧ a ≤ 70 ∧ i ≤ k ∨ a = 72 ∨ a = 73 ∨ a = 51 ∧ (k = 22 ∨ 24 ≤ k ∧ k ≤ 29 ∨ 32 ≤ k ∧ k ≤ 36)
theorem SPr_SDl (b i : Nat) : ∀ a k, SPr a k → SDl b i a k := by unfold SPr SDl; omega
theorem SNw_SDl {b i : Nat} (h : b ≤ i) : ∀ a k, SNw i a k → SDl b i a k := by unfold SNw SDl; omega
theorem SLf_SDl {b i : Nat} (h : b ≤ i) : ∀ a k, SLf i a k → SDl b i a k := by unfold SLf SPr SDl; omega
theorem RNode.mvd {s s' : St} {h h' : Hp} {j : Nat} (R : RNode s h j) (e : ∀ c, sD s' c j = sD s c j) (f : ∀ c, 58 ≤ c → c ≤ 70 → hI h' c j = hI h c j) : RNode s' h' j := by
  unfold RNode at R ⊢
  rw [e, e, e, e, e, e, e, e, e, e, e, e, e, f 58 (by decide) (by decide), f 59 (by decide) (by decide), f 60 (by decide) (by decide), f 61 (by decide) (by decide), f 62 (by decide) (by decide), f 63 (by decide) (by decide), f 64 (by decide) (by decide), f 65 (by decide) (by decide), f 66 (by decide) (by decide), f 67 (by decide) (by decide), f 68 (by decide) (by decide), f 69 (by decide) (by decide), f 70 (by decide) (by decide)]
  exact R
theorem newNd_ne {s : St} {k c j : Nat} (h : j ≠ sN s) : newNd s k c j = sD s c j := by
  unfold newNd
  simp only [up2_if, h, and_false, if_false]
theorem newNd_at (s : St) (k : Nat) : newNd s k 58 (sN s) = k ∧ newNd s k 59 (sN s) = 0 ∧ newNd s k 60 (sN s) = topUp (sK s) ∧ newNd s k 61 (sN s) = topPart (sK s) ∧ newNd s k 62 (sN s) = sN s + 1 ∧ newNd s k 63 (sN s) = 0 := by
  unfold newNd
  simp [up2_if]
theorem leafNd_ne {nd : Nat → Nat → Nat} {r : Rec} {i c j : Nat} (h : j ≠ i) : leafNd nd r i c j = nd c j := by
  unfold leafNd
  simp only [up2_if, h, and_false, if_false]
theorem leafNd_lo {nd : Nat → Nat → Nat} {r : Rec} {i c : Nat} (h : c < 64) : leafNd nd r i c i = nd c i := by
  unfold leafNd
  simp only [up2_if]
  rw [if_neg (by omega), if_neg (by omega), if_neg (by omega), if_neg (by omega), if_neg (by omega), if_neg (by omega), if_neg (by omega)]
theorem leafNd_at (nd : Nat → Nat → Nat) (r : Rec) (i : Nat) : leafNd nd r i 64 i = r 1 ∧ leafNd nd r i 65 i = r 2 ∧ leafNd nd r i 66 i = r 3 ∧ leafNd nd r i 67 i = r 4 ∧ leafNd nd r i 68 i = r 5 ∧ leafNd nd r i 69 i = r 6 ∧ leafNd nd r i 70 i = r 7 := by
  unfold leafNd
  simp [up2_if]
theorem stp_leaf (s : St) (r : Rec) : stp s (0, r) = (sK s, sL s ++ [leafRec (ctx (sK s)) r (sN s)], (sC s, sE s, sN s + 1), leafNd (newNd s (r 0)) r (sN s)) := rfl
def lfS (T : List Nat) (kd : Nat) (t : Tk) (s : St) : PS := if (sL s).length = 12 then .inl t.2.1 else (l7 T kd t).1
set_option maxHeartbeats 4000000 in
set_option maxRecDepth 100000 in
theorem q_readLeaf {T : List Nat} {b kd : Nat} {t : Tk} {s : St} {h : Hp} {Q : Hp → Prop} (hk : kd < 4) (P : PM T (.inr t) h) (D : DM b s h) (G : GB b s 0) (k : ∀ h', fr (SDl b (sN s)) h h' → PM T (lfS T kd t s) h' → (okP (lfS T kd t s) → DM b (stp s (0, lfR T kd t)) h') → Q h') : m_X12_readLeaf (n32 kd) h Q := by
  unfold m_X12_readLeaf
  obtain ⟨g0, g1, g2, g3, g4, g5, g6⟩ := id G
  rw [if_pos rfl] at g2
  unfold lfS at k
  rw [D.2.2.1, show (12 : Int32) = n32 12 from rfl, n32_eq (by omega) (by decide)]
  refine ⟨fun z => ?_, fun z => ?_⟩
  · rw [if_neg z] at k
    refine q_newNode D G (fun h1 f1 e33 N1 => ?_)
    have e34 : hI h1 51 34 = n32 (sL s).length := by rw [f1.I (by unfold SNw; omega)]; exact D.2.2.1
    rw [e34, show n32 (sL s).length + 1 = n32 ((sL s).length + 1) from n32_add _ 1]
    have f2 : fr (fun a k => a = 51 ∧ k = 34) h1 (wI h1 51 34 (n32 ((sL s).length + 1))) := fr_wI (fr.rf _ _) _ ⟨rfl, rfl⟩
    have g34 : hI (wI h1 51 34 (n32 ((sL s).length + 1))) 51 34 = n32 ((sL s).length + 1) := by rw [hI_wI, if_pos ⟨rfl, rfl⟩]
    have P2 : PM T (.inr t) (wI h1 51 34 (n32 ((sL s).length + 1))) := (P.mv f1 (by unfold SNw; omega) (by unfold SNw; omega)).mv f2 (by omega) (by omega)
    generalize wI h1 51 34 (n32 ((sL s).length + 1)) = h2 at f2 g34 P2
    have hi : sN s < 2304 := by omega
    have fin : ∀ h', LfP T (sN s) h2 (lfR T kd t) 7 (l7 T kd t).1 h' → Q h' := by
      intro h' L
      obtain ⟨fL, PL, vL⟩ := L
      have fA : fr (SDl b (sN s)) h h' := ((f1.mono (SNw_SDl g1)).trans (f2.mono (by unfold SDl; omega))).trans (fL.mono (SLf_SDl g1))
      refine k h' fA PL (fun o => ?_)
      have v := vL o
      obtain ⟨d1, d2, d3, d4, d5, d6, d7, d8⟩ := D
      obtain ⟨n1, n2, n3, n4, n5, n6⟩ := N1
      have low : ∀ c j, 58 ≤ c → c ≤ 70 → j ≠ sN s → hI h' c j = hI h c j := by
        intro c j c1 c2 hj
        rw [fL.I (by unfold SLf SPr; omega), f2.I (by omega), f1.I (by unfold SNw; omega)]
      have at1 : ∀ c, 58 ≤ c → c ≤ 63 → hI h' c (sN s) = hI h1 c (sN s) := by
        intro c c1 c2
        rw [fL.I (by unfold SLf SPr; omega), f2.I (by omega)]
      have hd : ∀ q, 30 ≤ q → q ≠ 33 → q ≠ 34 → hI h' 51 q = hI h 51 q := by
        intro q q1 q2 q3
        rw [fL.I (by unfold SLf SPr; omega), f2.I (by omega), f1.I (by unfold SNw; omega)]
      rw [stp_leaf]
      refine ⟨?_, ?_, ?_, ?_, ?_, ?_, ?_, fun j j1 j2 => ?_⟩
      · rw [hd 37 (by decide) (by decide) (by decide)]; exact d1
      · rw [fL.I (by unfold SLf SPr; omega), f2.I (by omega)]; exact e33
      · rw [fL.I (by unfold SLf SPr; omega), g34]; show _ = n32 (sL s ++ [_]).length; rw [List.length_append]; rfl
      · rw [hd 35 (by decide) (by decide) (by decide)]; exact d4
      · rw [hd 36 (by decide) (by decide) (by decide)]; exact d5
      · rw [hd 32 (by decide) (by decide) (by decide)]; exact d6
      · exact ((d7.mv f1 (Nat.le_refl _) (fun k _ => by unfold SNw; omega)).mv f2 (Nat.le_refl _) (fun k _ => by omega)).mv fL (Nat.le_refl _) (fun k _ => by unfold SLf SPr; omega)
      · have j2' : j < sN s + 1 := j2
        by_cases q : j = sN s
        · subst q
          obtain ⟨a1, a2, a3, a4, a5, a6⟩ := newNd_at s kd
          obtain ⟨b1, b2, b3, b4, b5, b6, b7⟩ := leafNd_at (newNd s kd) (lfR T kd t) (sN s)
          show RNode (sK s, _, _, leafNd (newNd s kd) (lfR T kd t) (sN s)) h' (sN s)
          unfold RNode
          show hI h' 58 (sN s) = n32 (leafNd (newNd s kd) (lfR T kd t) (sN s) 58 (sN s)) ∧ hI h' 59 (sN s) = n32 (leafNd (newNd s kd) (lfR T kd t) (sN s) 59 (sN s)) ∧ hI h' 60 (sN s) = pm (leafNd (newNd s kd) (lfR T kd t) (sN s) 60 (sN s)) ∧ hI h' 61 (sN s) = n32 (leafNd (newNd s kd) (lfR T kd t) (sN s) 61 (sN s)) ∧ hI h' 62 (sN s) = n32 (leafNd (newNd s kd) (lfR T kd t) (sN s) 62 (sN s)) ∧ hI h' 63 (sN s) = pm (leafNd (newNd s kd) (lfR T kd t) (sN s) 63 (sN s)) ∧ (leafNd (newNd s kd) (lfR T kd t) (sN s) 58 (sN s) < 4 → hI h' 64 (sN s) = n32 (leafNd (newNd s kd) (lfR T kd t) (sN s) 64 (sN s)) ∧ hI h' 65 (sN s) = n32 (leafNd (newNd s kd) (lfR T kd t) (sN s) 65 (sN s)) ∧ hI h' 66 (sN s) = n32 (leafNd (newNd s kd) (lfR T kd t) (sN s) 66 (sN s)) ∧ hI h' 67 (sN s) = n32 (leafNd (newNd s kd) (lfR T kd t) (sN s) 67 (sN s)) ∧ hI h' 68 (sN s) = n32 (leafNd (newNd s kd) (lfR T kd t) (sN s) 68 (sN s)) ∧ hI h' 69 (sN s) = n32 (leafNd (newNd s kd) (lfR T kd t) (sN s) 69 (sN s)) ∧ hI h' 70 (sN s) = n32 (leafNd (newNd s kd) (lfR T kd t) (sN s) 70 (sN s)))
          rw [leafNd_lo (by decide), leafNd_lo (by decide), leafNd_lo (by decide), leafNd_lo (by decide), leafNd_lo (by decide), leafNd_lo (by decide), a1, a2, a3, a4, a5, a6, b1, b2, b3, b4, b5, b6, b7, at1 58 (by decide) (by decide), at1 59 (by decide) (by decide), at1 60 (by decide) (by decide), at1 61 (by decide) (by decide), at1 62 (by decide) (by decide), at1 63 (by decide) (by decide)]
          exact ⟨n1, n2, n3, n4, n5, n6, fun _ => ⟨v 0 (by decide), v 1 (by decide), v 2 (by decide), v 3 (by decide), v 4 (by decide), v 5 (by decide), v 6 (by decide)⟩⟩
        · refine (d8 j j1 (by omega)).mvd (fun c => ?_) (fun c c1 c2 => low c j c1 c2 q)
          show leafNd (newNd s kd) (lfR T kd t) (sN s) c j = sD s c j
          rw [leafNd_ne q, newNd_ne q]
    refine q_nx P2 (fun h3 f3 P3 => ?_)
    have L3 : LfP T (sN s) h2 (lfR T kd t) 0 (.inr (nxt T t)) h3 := ⟨f3.mono (fun _ _ h => Or.inl h), P3, fun _ j hj => by omega⟩
    refine q_hand (nt := 0) P3 (fun _ => ⟨rfl, by decide⟩) (fun h4 f4 P4 => ⟨?_, ?_, ?_⟩)
    · exact vpI hi (by decide)
    · exact vpI hi (by decide)
    rw [n32_ix (by omega)]
    have L4 : LfP T (sN s) h2 (lfR T kd t) 0 (l1 T t).1 h4 := L3.pr f4 P4 sHnd_ok
    have L5 : LfP T (sN s) h2 (lfR T kd t) 1 (l1 T t).1 (wI h4 64 (sN s) (n32 (l1 T t).2)) := L4.wr (by decide) (fun _ => rfl)
    have e64 : hI (wI h4 64 (sN s) (n32 (sHnd T 0 (.inr (nxt T t))).2)) 64 (sN s) = n32 (l1 T t).2 := by rw [hI_wI, if_pos ⟨rfl, rfl⟩]; rfl
    rw [e64]
    have hl1 : (l1 T t).2 < 8 := sHnd_lt
    refine q_hand (nt := (l1 T t).2 + 1) L5.2.1 (fun _ => ⟨rfl, by omega⟩) (fun h6 f6 P6 => ⟨vpI hi (by decide), ?_⟩)
    have L6 : LfP T (sN s) h2 (lfR T kd t) 1 (l2 T t).1 h6 := L5.pr f6 P6 sHnd_ok
    have L7 : LfP T (sN s) h2 (lfR T kd t) 2 (l2 T t).1 (wI h6 65 (sN s) (n32 (l2 T t).2)) := L6.wr (by decide) (fun _ => rfl)
    refine q_thing L7.2.1 (fun h8 v8 f8 P8 o8 => ⟨vpI hi (by decide), ?_⟩)
    have L8 : LfP T (sN s) h2 (lfR T kd t) 2 (l3 T t).1 h8 := L7.pr f8 P8 sThg_ok
    have L9 : LfP T (sN s) h2 (lfR T kd t) 3 (l3 T t).1 (wI h8 66 (sN s) v8) := L8.wr (by decide) o8
    refine q_num (lo := 0) (hi := 9999) L9.2.1 (fun _ => ⟨rfl, by decide⟩) rfl (by decide) (fun h10 f10 P10 => ⟨vpI hi (by decide), vpI hi (by decide), ?_⟩)
    have L10 : LfP T (sN s) h2 (lfR T kd t) 3 (l4 T t).1 h10 := L9.pr f10 P10 sNum_ok
    have L11 : LfP T (sN s) h2 (lfR T kd t) 4 (l4 T t).1 (wI h10 67 (sN s) (n32 (l4 T t).2)) := L10.wr (by decide) (fun _ => rfl)
    rw [show (2 : Int32) = n32 2 from rfl, n32_lt (by omega) (by decide)]
    refine ⟨fun z2 => ?_, fun z2 => ?_⟩
    · have e5 : l5 T kd t = ((l4 T t).1, 0) := by unfold l5; rw [if_pos z2]
      refine q_leaf118 hk hi ?_ fin
      rw [e5]
      exact L11.wr (by decide) (fun _ => by show _ = n32 (l5 T kd t).2; rw [e5]; rfl)
    · have e5 : l5 T kd t = sNum T 0 9999 (sMust T wFor (l4 T t).1) := by unfold l5; rw [if_neg z2]
      have L12 : LfP T (sN s) h2 (lfR T kd t) 4 (l4 T t).1 (wI (wI h10 67 (sN s) (n32 (l4 T t).2)) 68 (sN s) 0) := by
        have f : fr (fun a k => a = 68 ∧ k = sN s) (wI h10 67 (sN s) (n32 (l4 T t).2)) (wI (wI h10 67 (sN s) (n32 (l4 T t).2)) 68 (sN s) 0) := fr_wI (fr.rf _ _) _ ⟨rfl, rfl⟩
        exact ⟨L11.1.trans (f.mono (fun a k h => Or.inr (by omega))), L11.2.1.mv f (by omega) (by omega), fun z j hj => by rw [f.I (by omega)]; exact L11.2.2 z j hj⟩
      rw [show (4797 : Int64) = z64 (w27 wFor : Nat) from by decide]
      refine q_must wFor (by decide) (by decide) L12.2.1 (fun h13 f13 P13 => ?_)
      have L13 := L12.pr f13 P13 sMust_ok
      refine q_num (lo := 0) (hi := 9999) P13 (fun _ => ⟨rfl, by decide⟩) rfl (by decide) (fun h14 f14 P14 => ⟨vpI hi (by decide), ?_⟩)
      have L14 := L13.pr f14 P14 sNum_ok
      refine q_leaf118 hk hi ?_ fin
      rw [e5]
      exact L14.wr (by decide) (fun _ => by show _ = n32 (l5 T kd t).2; rw [e5])
  · rw [if_pos z] at k
    refine q_errs P (fun h' f' P' => k h' (f'.mono (SPr_SDl b (sN s))) P' (fun o => absurd o (fun q => q)))
