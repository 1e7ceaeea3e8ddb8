/-! THE MODEL: what changes it -/
def RefC (a _k : Nat) : Prop := 51 ≤ a ∧ a ≤ 107
theorem Scr_RefC : ∀ a k, Scr a k → RefC a k := by unfold Scr RefC; omega
theorem RFam.mv {x : Ab} {h h' : Hp} (R : RFam x h) (f : ∀ k, hI h' 52 k = hI h 52 k) : RFam x h' := fun k hk => by rw [f k]; exact R k hk
theorem RDeals.mv {x : Ab} {h h' : Hp} (R : RDeals x h) (f1 : hI h' 51 1 = hI h 51 1) (f : ∀ a k, 53 ≤ a → a ≤ 70 → hI h' a k = hI h a k) : RDeals x h' := by
  refine ⟨by rw [f1]; exact R.1, R.2.1, fun d hd => ?_⟩
  obtain ⟨a1, a2, a3, a4, a5, a6⟩ := R.2.2 d hd
  refine ⟨?_, ?_, ?_, ?_, ?_, fun i h1 h2 => ?_⟩
  · rw [f 53 d (by omega) (by omega)]; exact a1
  · rw [f 54 d (by omega) (by omega)]; exact a2
  · rw [f 55 d (by omega) (by omega)]; exact a3
  · rw [f 56 d (by omega) (by omega)]; exact a4
  · rw [f 57 d (by omega) (by omega)]; exact a5
  · have := a6 i h1 h2
    unfold RNode at this ⊢
    rw [f 58 i (by omega) (by omega), f 59 i (by omega) (by omega), f 60 i (by omega) (by omega), f 61 i (by omega) (by omega), f 62 i (by omega) (by omega), f 63 i (by omega) (by omega), f 64 i (by omega) (by omega), f 65 i (by omega) (by omega), f 66 i (by omega) (by omega), f 67 i (by omega) (by omega), f 68 i (by omega) (by omega), f 69 i (by omega) (by omega), f 70 i (by omega) (by omega)]
    exact this
theorem RTape.mv {x : Ab} {h h' : Hp} (R : RTape x h) (f1 : hI h' 51 21 = hI h 51 21) (f : ∀ k, hI h' 71 k = hI h 71 k) : RTape x h' := ⟨by rw [f1]; exact R.1, R.2.1, fun k hk => by rw [f k]; exact R.2.2 k hk⟩
theorem stm_mv2 {st : Rec} {h h' : Hp} {i : Nat} (S : RStm st h i) (f : ∀ a k, 93 ≤ a → a ≤ 99 → hI h' a k = hI h a k) : RStm st h' i := by
  unfold RStm at S ⊢
  rw [f 93 i (by omega) (by omega), f 94 i (by omega) (by omega), f 95 i (by omega) (by omega), f 96 i (by omega) (by omega), f 97 i (by omega) (by omega), f 98 i (by omega) (by omega), f 99 i (by omega) (by omega)]
  exact S
theorem RLaws.mv {x : Ab} {h h' : Hp} (R : RLaws x h) (f1 : hI h' 51 67 = hI h 51 67) (f2 : ∀ k, hI h' 91 k = hI h 91 k) (f : ∀ a k, 93 ≤ a → a ≤ 99 → hI h' a k = hI h a k) : RLaws x h' :=
  ⟨by rw [f1]; exact R.1, R.2.1, fun l hl => ⟨by rw [f2 l]; exact (R.2.2 l hl).1, (R.2.2 l hl).2.1, fun k hk => ⟨stm_mv2 ((R.2.2 l hl).2.2 k hk).1 f, ((R.2.2 l hl).2.2 k hk).2⟩⟩⟩
theorem RWords.mv {x : Ab} {h h' : Hp} (R : RWords x h) (f1 : hI h' 51 68 = hI h 51 68) (f2 : ∀ k, hI h' 92 k = hI h 92 k) (f : ∀ a k, 93 ≤ a → a ≤ 99 → hI h' a k = hI h a k) : RWords x h' :=
  ⟨by rw [f1]; exact R.1, R.2.1, fun l hl => ⟨by rw [f2 l]; exact (R.2.2 l hl).1, (R.2.2 l hl).2.1, fun k hk => ⟨stm_mv2 ((R.2.2 l hl).2.2 k hk).1 f, ((R.2.2 l hl).2.2 k hk).2⟩⟩⟩
theorem RBun.mv {x : Ab} {h h' : Hp} (R : RBun x h) (f1 : hI h' 51 54 = hI h 51 54) (f : ∀ k, hI h' 84 k = hI h 84 k) : RBun x h' := ⟨by rw [f1]; exact R.1, R.2.1, fun k hk => by rw [f k]; exact R.2.2.1 k hk, R.2.2.2⟩
theorem ROff.mv {x : Ab} {h h' : Hp} (R : ROff x h) (f1 : hI h' 51 83 = hI h 51 83) (f : ∀ k, hI h' 102 k = hI h 102 k) : ROff x h' := ⟨by rw [f1]; exact R.1, R.2.1, fun k hk => by rw [f k]; exact R.2.2.1 k hk, R.2.2.2⟩
theorem RHon.mv {x : Ab} {h h' : Hp} (R : RHon x h) (f1 : hI h' 51 88 = hI h 51 88) (f2 : ∀ k, hI h' 104 k = hI h 104 k) (f : ∀ k, hI h' 105 k = hI h 105 k) : RHon x h' :=
  ⟨by rw [f1]; exact R.1, R.2.1, fun i hi => ⟨by rw [f2 i]; exact (R.2.2 i hi).1, (R.2.2 i hi).2.1, fun k hk => by rw [f]; exact (R.2.2 i hi).2.2.1 k hk, (R.2.2 i hi).2.2.2⟩⟩
-- the state's places, set
def stF (x : Ab) (v : Nat → Nat) : Ab := (v, x.2)
def stD (x : Ab) (v : List Dl) : Ab := (aF x, v, x.2.2)
def stL (x : Ab) (v : List (List Rec)) : Ab := (aF x, aD x, v, x.2.2.2)
def stW (x : Ab) (v : List (List Rec)) : Ab := (aF x, aD x, aL x, v, x.2.2.2.2)
def stB (x : Ab) (v : List Nat) : Ab := (aF x, aD x, aL x, aW x, v, x.2.2.2.2.2)
def stO (x : Ab) (v : List Nat) : Ab := (aF x, aD x, aL x, aW x, aB x, v, x.2.2.2.2.2.2)
def stH (x : Ab) (v : List (List Nat)) : Ab := (aF x, aD x, aL x, aW x, aB x, aO x, v, x.2.2.2.2.2.2.2)
def stT (x : Ab) (v : List Nat) : Ab := (aF x, aD x, aL x, aW x, aB x, aO x, aH x, v, x.2.2.2.2.2.2.2.2)
def stQ (x : Ab) (v : Nat) : Ab := (aF x, aD x, aL x, aW x, aB x, aO x, aH x, aT x, v)
def nxFamily (x : Ab) (v1 v2 : Int32) : Ab := match argN v1 8, argN v2 8 with
  | some a, some f => stF x (fun k => if k = a then f else aF x k)
  | _, _ => x
def ansFamily (v1 v2 : Int32) : Int32 := match argN v1 8, argN v2 8 with
  | some _, some _ => 1
  | _, _ => 0
set_option maxHeartbeats 4000000 in
set_option maxRecDepth 100000 in
theorem R_family {x : Ab} {v1 v2 : Int32} {h : Hp} {Q : Int32 → Hp → Prop} (I : InvR x h) (k : ∀ h', fr RefC h h' → InvR (nxFamily x v1 v2) h' → Q (ansFamily v1 v2) h') : m_X12_family v1 v2 h Q := by
  unfold m_X12_family
  unfold ansFamily nxFamily at k
  refine q_upto (hi := 7) (by decide) (fun e => ?_) (fun a ha e1 e2 => ?_)
  · rw [e] at k; exact ⟨fun _ => k h (fr.rf _ _) I, fun z => absurd rfl z⟩
  · rw [e2] at k
    refine ⟨fun z => absurd z (by decide), fun _ => ?_⟩
    refine q_upto (hi := 7) (by decide) (fun e => ?_) (fun f hf e3 e4 => ?_)
    · rw [e] at k; exact ⟨fun z => absurd rfl z, fun _ => k h (fr.rf _ _) I⟩
    · rw [e4] at k
      subst e1; subst e3
      refine ⟨fun _ => ⟨vpI (by omega) (by decide), ?_⟩, fun z => absurd z (by decide)⟩
      rw [n32_ix (by omega)]
      refine k _ (fr_wI (fr.rf _ _) _ (by unfold RefC; omega)) ?_
      obtain ⟨r1, r2, r3, r4, r4', r5, r6, r7, r8, r9⟩ := I
      have o : ∀ b j, b ≠ 52 → hI (wI h 52 a (n32 f)) b j = hI h b j := fun b j hb => by rw [hI_wI, if_neg (fun z => hb z.1)]
      refine ⟨fun j hj => ?_, r2.mv (o _ _ (by decide)) (fun b j h1 h2 => o b j (by omega)), r3.mv (o _ _ (by decide)) (fun j => o _ _ (by decide)), by rw [o _ _ (by decide)]; exact r4, r4', r5.mv (o _ _ (by decide)) (fun j => o _ _ (by decide)) (fun b j h1 h2 => o b j (by omega)), r6.mv (o _ _ (by decide)) (fun j => o _ _ (by decide)) (fun b j h1 h2 => o b j (by omega)), r7.mv (o _ _ (by decide)) (fun j => o _ _ (by decide)), r8.mv (o _ _ (by decide)) (fun j => o _ _ (by decide)), r9.mv (o _ _ (by decide)) (fun j => o _ _ (by decide)) (fun j => o _ _ (by decide))⟩
      show hI _ 52 j = n32 (if j = a then f else aF x j) ∧ (if j = a then f else aF x j) < 8
      rw [hI_wI]
      by_cases q : j = a
      · rw [if_pos ⟨rfl, q⟩, if_pos q]; exact ⟨rfl, by omega⟩
      · rw [if_neg (fun z => q z.2), if_neg q]; exact r1 j hj
def ansFault (x : Ab) : Int32 := pm (aQ x)
theorem R_fault {x : Ab} {h : Hp} {Q : Int32 → Hp → Prop} (I : InvR x h) (k : Q (ansFault x) h) : m_X12_fault h Q := by
  unfold m_X12_fault
  rw [I.2.2.2.1]
  exact k
def nxAdd (x : Ab) (v : Int32) : Ab := match argN v (aD x).length with
  | some d => if (aB x).length = 6 ∨ d ∈ aB x then x else stB x (aB x ++ [d])
  | none => x
def ansAdd (x : Ab) (v : Int32) : Int32 := match argN v (aD x).length with
  | some d => if (aB x).length = 6 ∨ d ∈ aB x then -1 else n32 ((aB x).length + 1)
  | none => -1
theorem RRow.app {c : Nat} {l : List Nat} {d : Nat} {h h' : Hp} (R : RRow c l h) (e : ∀ k, hI h' c k = if k = l.length then n32 d else hI h c k) : RRow c (l ++ [d]) h' := by
  intro k hk
  rw [List.length_append, List.length_singleton] at hk
  rw [e k]
  by_cases q : k = l.length
  · rw [if_pos q, q, getD_app_at]
  · rw [if_neg q, getD_app_lt (by omega)]; exact R k (by omega)
theorem nd_snoc {l : List Nat} {d : Nat} (h : l.Nodup) (hd : d ∉ l) : (l ++ [d]).Nodup := by
  rw [List.nodup_append]
  refine ⟨h, by simp, fun a ha b hb => ?_⟩
  rw [List.mem_singleton] at hb
  rintro rfl
  exact hd (hb ▸ ha)
theorem in_snoc {x : Ab} {l : List Nat} {d : Nat} (h : inD x l) (hd : d < (aD x).length) : inD x (l ++ [d]) := by
  intro e he
  rw [List.mem_append, List.mem_singleton] at he
  rcases he with he | rfl
  · exact h e he
  · exact hd
set_option maxHeartbeats 4000000 in
set_option maxRecDepth 100000 in
theorem R_add {x : Ab} {v : Int32} {h : Hp} {Q : Int32 → Hp → Prop} (I : InvR x h) (k : ∀ h', fr RefC h h' → InvR (nxAdd x v) h' → Q (ansAdd x v) h') : m_X12_add v h Q := by
  unfold m_X12_add
  unfold ansAdd nxAdd at k
  have hnd := I.2.1.2.1
  refine q_isDeal I.2.1 (fun e => ?_) (fun d hd e1 e2 => ?_)
  · rw [e] at k; exact ⟨fun _ => k h (fr.rf _ _) I, fun z => absurd rfl z⟩
  · rw [e2] at k
    subst e1
    dsimp only at k
    refine ⟨fun z => absurd z (by decide), fun _ => ?_⟩
    obtain ⟨b1, b2, b3, b4, b5⟩ := id I.2.2.2.2.2.2.2.1
    have main : ∀ (rest pre : List Nat), aB x = pre ++ rest → d ∉ pre → (aB x).length ≠ 6 → m_X12_add_21 (rest.length + 1) (m_X12_add_47 Q) Q (n32 d) (n32 pre.length) h := by
      intro rest
      induction rest with
      | nil =>
        intro pre e hp h6
        rw [List.append_nil] at e
        rw [List.length_nil, m_X12_add_21]
        have hl : pre.length = (aB x).length := by rw [e]
        refine ⟨fun _ => ?_, fun z => ?_⟩
        · unfold m_X12_add_47
          rw [if_neg (by rintro (q | q); exact h6 q; exact hp (e ▸ q)), if_neg (by rintro (q | q); exact h6 q; exact hp (e ▸ q))] at k
          simp (disch := omega) only [↓m1_pm, lit32, n32_add, n32_mul, n32_ix, n32_lt, n32_le, n32_eq, n32_in, pm_ix, pm_in, pm_eqn, n_eqpm, pm_ltn, n_ltpm, pm_len, n_lepm, pm_inj, forall_eq, b1, hI_wI, hI_wJ, hI_wR, hJ_wJ, hJ_wI, hJ_wR, hR_wR, hR_wI, hR_wJ, Nat.reduceEqDiff, false_and, and_false, if_false, if_true, ite_true, ite_false, reduceIte, and_self]
          refine ⟨by omega, k _ (fr_wI (fr_wI (fr.rf _ _) _ (by unfold RefC; omega)) _ (by unfold RefC; omega)) ?_⟩
          obtain ⟨r1, r2, r3, r4, r4', r5, r6, r7, r8, r9⟩ := I
          have o : ∀ b j, b ≠ 84 → ¬ (b = 51 ∧ j = 54) → hI (wI (wI h 84 (aB x).length (n32 d)) 51 54 (n32 ((aB x).length + 1))) b j = hI h b j := fun b j h1 h2 => by rw [hI_wI, if_neg h2, hI_wI, if_neg (fun z => h1 z.1)]
          refine ⟨r1.mv (fun j => o _ _ (by decide) (by omega)), r2.mv (o _ _ (by decide) (by omega)) (fun b j h1 h2 => o b j (by omega) (by omega)), r3.mv (o _ _ (by decide) (by omega)) (fun j => o _ _ (by decide) (by omega)), by rw [o _ _ (by decide) (by omega)]; exact r4, r4', r5.mv (o _ _ (by decide) (by omega)) (fun j => o _ _ (by decide) (by omega)) (fun b j h1 h2 => o b j (by omega) (by omega)), r6.mv (o _ _ (by decide) (by omega)) (fun j => o _ _ (by decide) (by omega)) (fun b j h1 h2 => o b j (by omega) (by omega)), ⟨?_, ?_, ?_, in_snoc b4 hd, nd_snoc b5 (fun q => hp (e ▸ q))⟩, r8.mv (o _ _ (by decide) (by omega)) (fun j => o _ _ (by decide) (by omega)), r9.mv (o _ _ (by decide) (by omega)) (fun j => o _ _ (by decide) (by omega)) (fun j => o _ _ (by decide) (by omega))⟩
          · rw [hI_wI, if_pos ⟨rfl, rfl⟩]
            show _ = n32 (aB x ++ [d]).length
            simp
          · show (aB x ++ [d]).length ≤ 6
            simp; omega
          · show RRow 84 (aB x ++ [d]) _
            refine b3.app (fun j => ?_)
            rw [hI_wI, if_neg (by omega), hI_wI]
            simp
        · rw [b1, n32_le (by omega) (by omega)] at z; omega
      | cons c rest ih =>
        intro pre e hp h6
        have hlen : (aB x).length = pre.length + (rest.length + 1) := by rw [e]; simp
        have e84 : hI h 84 pre.length = n32 c := by rw [e] at b3; exact b3.mid
        have hc := b4 c (by rw [e]; simp)
        rw [List.length_cons, m_X12_add_21]
        simp (disch := omega) only [↓m1_pm, lit32, n32_add, n32_mul, n32_ix, n32_lt, n32_le, n32_eq, n32_in, pm_ix, pm_in, pm_eqn, n_eqpm, pm_ltn, n_ltpm, pm_len, n_lepm, pm_inj, forall_eq, b1, e84]
        refine ⟨fun z => absurd z (by omega), fun _ => ⟨by omega, fun q => ?_, fun q => ?_⟩⟩
        · have := ih (pre ++ [c]) (by rw [e]; simp) (by
            rw [List.mem_append, List.mem_singleton]
            rintro (z | z)
            · exact hp z
            · exact q z.symm) h6
          rw [List.length_append, List.length_singleton] at this
          exact this
        · have hin : d ∈ aB x := by rw [e, ← q]; simp
          rw [if_pos (Or.inr hin), if_pos (Or.inr hin)] at k
          exact k h (fr.rf _ _) I
    refine ⟨fun q => ⟨_, main (aB x) [] rfl (by simp) ?_⟩, fun q => ?_⟩
    · intro z
      rw [b1, z] at q
      exact q rfl
    · have h6 : (aB x).length = 6 := by
        rw [b1, show (6 : Int32) = n32 6 from rfl, n32_eq (by omega) (by decide)] at q
        exact q
      rw [if_pos (Or.inl h6), if_pos (Or.inl h6)] at k
      exact k h (fr.rf _ _) I
def ansClear (x : Ab) : Int32 := n32 (aB x).length
theorem R_clear {x : Ab} {h : Hp} {Q : Int32 → Hp → Prop} (I : InvR x h) (k : ∀ h', fr RefC h h' → InvR (stB x []) h' → Q (ansClear x) h') : m_X12_clear h Q := by
  unfold m_X12_clear
  rw [I.2.2.2.2.2.2.2.1.1]
  intro x1 e1
  rw [e1]
  refine k _ (fr_wI (fr.rf _ _) _ (by unfold RefC; omega)) ?_
  obtain ⟨r1, r2, r3, r4, r4', r5, r6, r7, r8, r9⟩ := I
  have o : ∀ b j, ¬ (b = 51 ∧ j = 54) → hI (wI h 51 54 0) b j = hI h b j := fun b j h2 => by rw [hI_wI, if_neg h2]
  refine ⟨r1.mv (fun j => o _ _ (by omega)), r2.mv (o _ _ (by omega)) (fun b j h1 h2 => o b j (by omega)), r3.mv (o _ _ (by omega)) (fun j => o _ _ (by omega)), by rw [o _ _ (by omega)]; exact r4, r4', r5.mv (o _ _ (by omega)) (fun j => o _ _ (by omega)) (fun b j h1 h2 => o b j (by omega)), r6.mv (o _ _ (by omega)) (fun j => o _ _ (by omega)) (fun b j h1 h2 => o b j (by omega)), ⟨rfl, by show 0 ≤ 6; decide, fun j hj => by simp [stB, aB] at hj, fun d hd => by simp [stB, aB] at hd, by simp [stB, aB]⟩, r8.mv (o _ _ (by omega)) (fun j => o _ _ (by omega)), r9.mv (o _ _ (by omega)) (fun j => o _ _ (by omega)) (fun j => o _ _ (by omega))⟩
