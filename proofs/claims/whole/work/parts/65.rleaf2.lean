/-! THE MODEL: a leaf is read, the rest -/
theorem LfP.jk {T : List Nat} {i n : Nat} {h0 h : Hp} {r : Rec} {s : PS} {v : Int32} (L : LfP T i h0 r n s h) (hn : n ≤ 6) : LfP T i h0 r n s (wI h 70 i v) := by
  have f : fr (fun a k => a = 70 ∧ k = i) h (wI h 70 i v) := fr_wI (fr.rf _ _) _ ⟨rfl, rfl⟩
  refine ⟨L.1.trans (f.mono (fun a k h => Or.inr (by omega))), L.2.1.mv f (by omega) (by omega), fun z j hj => ?_⟩
  rw [f.I (by omega)]; exact L.2.2 z j hj
theorem LfP.more {T : List Nat} {i n : Nat} {h0 h : Hp} {r : Rec} {s : PS} (L : LfP T i h0 r n s h) (e : okP s → hI h (64 + n) i = n32 (r (n + 1))) : LfP T i h0 r (n + 1) s h :=
  ⟨L.1, L.2.1, fun z j hj => by
    by_cases q : j = n
    · rw [q]; exact e z
    · exact L.2.2 z j (by omega)⟩
theorem l6_lt (T : List Nat) (kd : Nat) (t : Tk) : (l6 T kd t).2 ≤ 399 := sNum_lt
set_option maxHeartbeats 4000000 in
set_option maxRecDepth 100000 in
theorem q_leaf196 {T : List Nat} {i kd : Nat} {t : Tk} {h0 h : Hp} {Q : Hp → Prop} (hk : kd < 4) (hi : i < 2304) (L3 : kd = 3 → LfP T i h0 (lfR T kd t) 6 (l6 T kd t).1 h) (L7 : kd ≠ 3 → LfP T i h0 (lfR T kd t) 7 (l7 T kd t).1 h) (k : ∀ h', LfP T i h0 (lfR T kd t) 7 (l7 T kd t).1 h' → Q h') : m_X12_readLeaf_196 Q (n32 kd) (n32 i) h := by
  unfold m_X12_readLeaf_196
  rw [show (3 : Int32) = n32 3 from rfl, n32_eq (by omega) (by decide), n32_ix (by omega)]
  refine ⟨fun z => k h (L7 z), fun z => ?_⟩
  have L := L3 z
  rw [show (40187 : Int64) = z64 (w27 wBack : Nat) from by decide]
  refine q_must wBack (by decide) (by decide) L.2.1 (fun h2 f2 P2 => ⟨vpI (by omega) (by decide), ?_⟩)
  have L2 := L.pr f2 P2 sMust_ok
  have hl := l6_lt T kd t
  refine q_num (lo := (l6 T kd t).2) (hi := 399) P2 (fun o => ⟨?_, by omega⟩) rfl (by decide) (fun h4 f4 P4 => ⟨vpI (by omega) (by decide), ?_⟩)
  · exact L2.2.2 o 5 (by decide)
  · have L4 := L2.pr f4 P4 sNum_ok
    have e7 : l7 T kd t = sNum T (l6 T kd t).2 399 (sMust T wBack (l6 T kd t).1) := by unfold l7; rw [if_neg (by omega), if_pos z]
    refine k _ ?_
    rw [e7]
    exact L4.wr (by decide) (fun _ => by show _ = n32 (l7 T kd t).2; rw [e7])
set_option maxHeartbeats 4000000 in
set_option maxRecDepth 100000 in
theorem q_leaf118 {T : List Nat} {i kd : Nat} {t : Tk} {h0 h : Hp} {Q : Hp → Prop} (hk : kd < 4) (hi : i < 2304) (L : LfP T i h0 (lfR T kd t) 5 (l5 T kd t).1 h) (k : ∀ h', LfP T i h0 (lfR T kd t) 7 (l7 T kd t).1 h' → Q h') : m_X12_readLeaf_118 Q (n32 kd) (n32 i) h := by
  unfold m_X12_readLeaf_118
  rw [n32_ix (by omega), show (47 : Int64) = z64 (w27 wAt : Nat) from by decide]
  refine q_must wAt (by decide) (by decide) L.2.1 (fun h6 f6 P6 => ?_)
  have L6 := L.pr f6 P6 sMust_ok
  refine q_num (lo := 0) (hi := 399) P6 (fun o => ⟨rfl, by decide⟩) rfl (by decide) (fun h8 f8 P8 => ⟨vpI (by omega) (by decide), vpI (by omega) (by decide), vpI (by omega) (by decide), ?_⟩)
  have L8 : LfP T i h0 (lfR T kd t) 5 (l6 T kd t).1 h8 := L6.pr f8 P8 sNum_ok
  have P8' : PM T (l6 T kd t).1 h8 := P8
  have ev : n32 (sNum T 0 399 (sMust T wAt (l5 T kd t).1)).2 = n32 (l6 T kd t).2 := rfl
  rw [ev]
  have L9 : LfP T i h0 (lfR T kd t) 6 (l6 T kd t).1 (wI h8 69 i (n32 (l6 T kd t).2)) := L8.wr (by decide) (fun _ => rfl)
  have e69 : hI (wI h8 69 i (n32 (l6 T kd t).2)) 69 i = n32 (l6 T kd t).2 := by rw [hI_wI, if_pos ⟨rfl, rfl⟩]
  rw [e69]
  have L10 : LfP T i h0 (lfR T kd t) 6 (l6 T kd t).1 (wI (wI h8 69 i (n32 (l6 T kd t).2)) 70 i (n32 (l6 T kd t).2)) := L9.jk (by decide)
  have e70 : hI (wI (wI h8 69 i (n32 (l6 T kd t).2)) 70 i (n32 (l6 T kd t).2)) 70 i = n32 (l6 T kd t).2 := by rw [hI_wI, if_pos ⟨rfl, rfl⟩]
  generalize wI (wI h8 69 i (n32 (l6 T kd t).2)) 70 i (n32 (l6 T kd t).2) = h9 at L10 e70
  have hl := l6_lt T kd t
  rw [show (2 : Int32) = n32 2 from rfl, n32_eq (by omega) (by decide)]
  refine ⟨fun z => ?_, fun z => ?_⟩
  · refine q_leaf196 hk hi (fun _ => L10) (fun z3 => ?_) k
    have e7 : l7 T kd t = l6 T kd t := by unfold l7; rw [if_neg z, if_neg z3]
    have := L10.more (fun _ => by show hI h9 70 i = n32 (l7 T kd t).2; rw [e7]; exact e70)
    rw [e7]; exact this
  · have e7 : l7 T kd t = sPaid T (l6 T kd t).2 (l6 T kd t).1 := by unfold l7; rw [if_pos z]
    have same : l7 T kd t = ((l6 T kd t).1, (l6 T kd t).2) → m_X12_readLeaf_196 Q (n32 kd) (n32 i) h9 := by
      intro e
      refine q_leaf196 hk hi (fun _ => L10) (fun z3 => ?_) k
      have := L10.more (fun _ => by show hI h9 70 i = n32 (l7 T kd t).2; rw [e]; exact e70)
      rw [e]; exact this
    cases hs : (l6 T kd t).1 with
    | inl e =>
      have P9 := L10.2.1
      rw [hs] at P9
      rw [hs] at e7
      have sm := same (by rw [e7, hs]; rfl)
      exact ⟨fun _ => sm, fun z => absurd z P9.bad⟩
    | inr t' =>
      have P9 := L10.2.1
      rw [hs] at P9
      rw [hs] at e7
      unfold sPaid at e7
      dsimp only at e7
      refine ⟨fun z => absurd P9.2.1 z, fun _ => ?_⟩
      rw [show (315904 : Int64) = z64 (w27 wPaid : Nat) from by decide]
      refine q_is wPaid P9.2.2.2.1 P9.2.2.2.2 (by decide) (by decide) (fun q => ?_) (fun q => ?_)
      · rw [q, if_neg (by decide)] at e7
        exact ⟨fun _ => same (by rw [e7, hs]), fun z => absurd rfl z⟩
      · rw [q, if_pos rfl] at e7
        refine ⟨fun z => absurd z (by decide), fun _ => ?_⟩
        refine q_nx P9 (fun h12 f12 P12 => ⟨vpI (by omega) (by decide), ?_⟩)
        have L12 := L10.pr f12 P12 (fun _ => by rw [hs]; trivial)
        refine q_num (lo := (l6 T kd t).2) (hi := 399) P12 (fun o => ⟨?_, by omega⟩) rfl (by decide) (fun h14 f14 P14 => ⟨vpI (by omega) (by decide), ?_⟩)
        · exact L12.2.2 o 5 (by decide)
        · have L14 := L12.pr f14 P14 sNum_ok
          refine q_leaf196 hk hi (fun z3 => by omega) (fun z3 => ?_) k
          rw [e7]
          exact L14.wr (by decide) (fun _ => by show _ = n32 (l7 T kd t).2; rw [e7])
