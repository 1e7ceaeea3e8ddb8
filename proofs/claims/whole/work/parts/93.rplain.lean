/-! THE MODEL: plain; parts that are left -/
theorem ex_n32 (v : Int32) : ∃ n : Nat, v = n32 n := by
  refine ⟨v.toBitVec.toNat, ?_⟩
  apply Int32.toBitVec_inj.mp
  rw [n32_bv]
  simp
def fgb (c : Bool) : Int32 := if c then 1 else 0
theorem fgb0 {c : Bool} : fgb c = 0 ↔ c = false := by cases c <;> simp [fgb]
def FgM (b : Nat) (s : St) (X : Fg) (h : Hp) : Prop := ∀ i, b ≤ i → i < sN s → hI h 74 (i - b) = fgb (X.1 i) ∧ hI h 75 (i - b) = fgb (X.2.1 i) ∧ hI h 76 (i - b) = n32 (X.2.2 i)
theorem FgM.mv {b : Nat} {s : St} {X : Fg} {h h' : Hp} {S : Nat → Nat → Prop} (F : FgM b s X h) (f : fr S h h') (n : ∀ k, ¬ S 74 k ∧ ¬ S 75 k ∧ ¬ S 76 k) : FgM b s X h' := by
  intro i h1 h2
  rw [f.I (n _).1, f.I (n _).2.1, f.I (n _).2.2]
  exact F i h1 h2
theorem RD.mv {b : Nat} {s : St} {h h' : Hp} {S : Nat → Nat → Prop} (R : RD b s h) (f : fr S h h') (n : ∀ a k, 58 ≤ a → a ≤ 70 → ¬ S a k) : RD b s h' :=
  ⟨R.1, R.2.1, fun i h1 h2 => (R.2.2 i h1 h2).mvd (fun _ => rfl) (fun c c1 c2 => f.I (n c i (by omega) (by omega)))⟩
theorem RD.tb {b : Nat} {s : St} {h : Hp} (R : RD b s h) {i : Nat} (h1 : b ≤ i) (h2 : i < sN s) : hI h 58 i = n32 (sD s 58 i) ∧ hI h 59 i = n32 (sD s 59 i) ∧ hI h 60 i = pm (sD s 60 i) ∧ hI h 61 i = n32 (sD s 61 i) ∧ hI h 62 i = n32 (sD s 62 i) ∧ hI h 63 i = pm (sD s 63 i) := by
  obtain ⟨a1, a2, a3, a4, a5, a6, -⟩ := R.2.2 i h1 h2
  exact ⟨a1, a2, a3, a4, a5, a6⟩
def SPl (a k : Nat) : Prop := a = 51 ∧ (k = 42 ∨ k = 43)
def lstI (o : Int32) (l : List Nat) : Int32 := l.foldl (fun _ x => n32 x) o
set_option maxHeartbeats 4000000 in
set_option maxRecDepth 100000 in
theorem q_partsLeft8 {d : Nat} {s : St} {X : Fg} {L : Nat} {Q : Int32 → Hp → Prop} (hL : L ≤ sN s) : ∀ a e u q, Fo (sD s) a e u q → 96 * d ≤ a → e ≤ L → ∀ (m c : Nat) (h : Hp), RD (96 * d) s h → FgM (96 * d) s X h → hI h 51 42 = n32 c →
    (∀ m' h', m ≤ m' → fr SPl h h' → hI h' 51 42 = n32 (c + (VP (sD s) X a e).length) → hI h' 51 43 = lstI (hI h 51 43) (VP (sD s) X a e) → m_X12_partsLeft_8 m' Q (n32 d) (n32 L) (n32 e) h') → ∀ m', m + (e - a) ≤ m' → m_X12_partsLeft_8 m' Q (n32 d) (n32 L) (n32 a) h := by
  refine Fo_ind (fun a u q => ?_) (fun a e u q g f1 f2 f3 f4 f5 f6 f7 f8 i1 i2 i3 => ?_)
  · intro ha he m c h R F e42 k m' hm
    refine k m' h (by omega) (fr.rf _ _) ?_ ?_
    · rw [VP_nil]; exact e42
    · rw [VP_nil]; rfl
  · intro ha he m c h R F e42 k m' hm
    obtain ⟨g1, g2, g3, g4⟩ := id g
    have hl := R.lt
    have hN := R.1.2.2.1
    have ga : a < sN s := by omega
    obtain ⟨m', rfl⟩ : ∃ n, m' = n + 1 := ⟨m' - 1, by omega⟩
    obtain ⟨F1, F2, F3⟩ := F a ha ga
    obtain ⟨r1, r2, r3, r4, r5, r6⟩ := R.tb ha ga
    have i96 : a - 96 * d < 96 := by omega
    have ek : n32 a - (96 * n32 d) = n32 (a - 96 * d) := by rw [show (96 : Int32) = n32 96 from rfl, n32_mul, n32_sub (by omega)]
    rw [m_X12_partsLeft_8, n32_le (by omega) (by omega)]
    refine ⟨fun z => absurd z (by omega), fun _ => ?_⟩
    intro x1 ex
    rw [ek] at ex
    subst ex
    rw [n32_ix (by omega)]
    rw [VP_cons g] at k
    refine ⟨vpI i96 (by decide), ?_⟩
    rw [F1]
    by_cases n1 : X.1 a = true
    · rw [if_pos n1] at k
      have y : ¬ fgb (X.1 a) = 0 := by rw [fgb0, n1]; simp
      refine ⟨fun _ => ?_, fun z => absurd z y⟩
      unfold m_X12_partsLeft_59 m_X12_partsLeft_79 m_X12_partsLeft_93
      rw [n32_ix (by omega), F1, n32_ix (by omega), r5]
      refine ⟨vpI i96 (by decide), fun _ => ⟨vpI (by omega) (by decide), ?_⟩, fun z => absurd z y⟩
      exact i3 (by omega) he m c h R F e42 k m' (by omega)
    · rw [if_neg n1] at k
      have y : fgb (X.1 a) = 0 := fgb0.mpr (by simpa using n1)
      refine ⟨fun z => absurd y z, fun _ => ⟨vpI i96 (by decide), ?_⟩⟩
      rw [F2]
      by_cases n2 : X.2.1 a = true
      · rw [if_pos n2] at k
        have y2 : ¬ fgb (X.2.1 a) = 0 := by rw [fgb0, n2]; simp
        refine ⟨fun _ => ?_, fun z => absurd z y2⟩
        unfold m_X12_partsLeft_59 m_X12_partsLeft_93
        rw [n32_ix (by omega), F1, F2, show n32 a + 1 = n32 (a + 1) from n32_add _ 1]
        refine ⟨vpI i96 (by decide), fun z => absurd y z, fun _ => ⟨vpI i96 (by decide), fun _ => ?_, fun z => absurd z y2⟩⟩
        refine i1 (by omega) (by omega) (m + (e - sD s 62 a) + (sD s 62 a - md (sD s) a)) c h R F e42 (fun m1 h1 l1 fr1 c1 o1 => ?_) m' (by omega)
        refine i2 (by omega) (by omega) (m + (e - sD s 62 a)) _ h1 (R.mv fr1 (by unfold SPl; omega)) (F.mv fr1 (by unfold SPl; omega)) c1 (fun m2 h2 l2 fr2 c2 o2 => ?_) m1 (by omega)
        refine i3 (by omega) he m _ h2 ((R.mv fr1 (by unfold SPl; omega)).mv fr2 (by unfold SPl; omega)) ((F.mv fr1 (by unfold SPl; omega)).mv fr2 (by unfold SPl; omega)) c2 (fun m3 h3 l3 fr3 c3 o3 => ?_) m2 (by omega)
        refine k m3 h3 l3 ((fr1.trans fr2).trans fr3) ?_ ?_
        · rw [c3, List.length_append, List.length_append]; congr 1; omega
        · rw [o3, o2, o1]; unfold lstI; rw [List.foldl_append, List.foldl_append]
      · rw [if_neg n2] at k
        have y2 : fgb (X.2.1 a) = 0 := fgb0.mpr (by simpa using n2)
        refine ⟨fun z => absurd y2 z, fun _ => ?_⟩
        rw [e42, show n32 c + 1 = n32 (c + 1) from n32_add _ 1]
        have fr1 : fr SPl h (wI (wI h 51 42 (n32 (c + 1))) 51 43 (n32 a)) := fr_wI (fr_wI (fr.rf _ _) _ (by unfold SPl; omega)) _ (by unfold SPl; omega)
        have c1 : hI (wI (wI h 51 42 (n32 (c + 1))) 51 43 (n32 a)) 51 42 = n32 (c + 1) := by rw [hI_wI, if_neg (by omega), hI_wI, if_pos ⟨rfl, rfl⟩]
        have o1 : hI (wI (wI h 51 42 (n32 (c + 1))) 51 43 (n32 a)) 51 43 = n32 a := by rw [hI_wI, if_pos ⟨rfl, rfl⟩]
        generalize wI (wI h 51 42 (n32 (c + 1))) 51 43 (n32 a) = h1 at fr1 c1 o1
        have R1 := R.mv fr1 (by unfold SPl; omega)
        have FF1 := F.mv fr1 (by unfold SPl; omega)
        obtain ⟨G1, G2, G3⟩ := FF1 a ha ga
        unfold m_X12_partsLeft_59 m_X12_partsLeft_79 m_X12_partsLeft_93
        rw [n32_ix (by omega), G1, G2, n32_ix (by omega), (R1.tb ha ga).2.2.2.2.1]
        refine ⟨vpI i96 (by decide), fun z => absurd y z, fun _ => ⟨vpI i96 (by decide), fun z => absurd y2 z, fun _ => ⟨vpI (by omega) (by decide), ?_⟩⟩⟩
        refine i3 (by omega) he m (c + 1) h1 R1 FF1 c1 (fun m3 h3 l3 fr3 c3 o3 => ?_) m' (by omega)
        refine k m3 h3 l3 (fr1.trans fr3) ?_ ?_
        · rw [c3, List.length_append, List.length_singleton]; congr 1; omega
        · rw [o3, o1]; unfold lstI; rw [List.foldl_append]; rfl
/-- parts left of a group -/
theorem q_partsLeft {d i u q : Nat} {s : St} {X : Fg} {h : Hp} {Q : Int32 → Hp → Prop} (R : RD (96 * d) s h) (F : FgM (96 * d) s X h) (hi : 96 * d ≤ i) (g : Gd (sD s) i (sN s)) (F1 : Fo (sD s) (i + 1) (md (sD s) i) u 0) (F2 : Fo (sD s) (md (sD s) i) (sD s 62 i) q 1)
    (k : ∀ h', fr SPl h h' → hI h' 51 43 = lstI (hI h 51 43) (VP (sD s) X (i + 1) (md (sD s) i) ++ VP (sD s) X (md (sD s) i) (sD s 62 i)) → Q (n32 ((VP (sD s) X (i + 1) (md (sD s) i)).length + (VP (sD s) X (md (sD s) i) (sD s 62 i)).length)) h') : m_X12_partsLeft (n32 d) (n32 (i + 1)) (n32 (sD s 62 i)) h Q := by
  obtain ⟨g1, g2, g3, g4⟩ := id g
  have hl := R.lt
  unfold m_X12_partsLeft
  have fr0 : fr SPl h (wI h 51 42 0) := fr_wI (fr.rf _ _) _ (by unfold SPl; omega)
  have c0 : hI (wI h 51 42 0) 51 42 = n32 0 := by rw [hI_wI, if_pos ⟨rfl, rfl⟩]; rfl
  have o0 : hI (wI h 51 42 0) 51 43 = hI h 51 43 := by rw [hI_wI, if_neg (by omega)]
  generalize wI h 51 42 0 = h0 at fr0 c0 o0
  have R0 := R.mv fr0 (by unfold SPl; omega)
  have FF0 := F.mv fr0 (by unfold SPl; omega)
  refine ⟨1 + (sD s 62 i - md (sD s) i) + (md (sD s) i - (i + 1)), ?_⟩
  refine q_partsLeft8 (L := sD s 62 i) g4 _ _ _ _ F1 (by omega) g3 (1 + (sD s 62 i - md (sD s) i)) 0 h0 R0 FF0 c0 (fun m1 h1 l1 fr1 c1 o1 => ?_) _ (Nat.le_refl _)
  refine q_partsLeft8 (L := sD s 62 i) g4 _ _ _ _ F2 (by omega) (Nat.le_refl _) 1 _ h1 (R0.mv fr1 (by unfold SPl; omega)) (FF0.mv fr1 (by unfold SPl; omega)) c1 (fun m2 h2 l2 fr2 c2 o2 => ?_) m1 (by omega)
  obtain ⟨m2, rfl⟩ : ∃ n, m2 = n + 1 := ⟨m2 - 1, by omega⟩
  rw [m_X12_partsLeft_8, n32_le (by omega) (by omega), c2]
  refine ⟨fun _ => ?_, fun z => absurd (Nat.le_refl _) z⟩
  rw [Nat.zero_add]
  refine k h2 ((fr0.trans fr1).trans fr2) ?_
  rw [o2, o1, o0]
  unfold lstI
  rw [List.foldl_append]
