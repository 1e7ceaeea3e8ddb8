/-! THE CLASS: a day's end, whole -/
theorem BkA.congr {sq sq' : Nat → List (Nat × Int)} {up up' : Nat → Nat} {h : Hp} (B : BkA sq up h) (e : ∀ f, f < 8 → sq' f = sq f ∧ up' f = up f) : BkA sq' up' h := by
  obtain ⟨bg, rs, sp, b1, b2, b3, e15, e16, e17, F⟩ := B
  exact ⟨bg, rs, sp, b1, b2, b3, e15, e16, e17, fun f hf => by rw [(e f hf).1, (e f hf).2]; exact F f hf⟩
theorem BkA.mv {sq : Nat → List (Nat × Int)} {up : Nat → Nat} {S : Nat → Nat → Prop} {h h' : Hp} (B : BkA sq up h) (f : fr S h h') (n1 : ∀ k, 15 ≤ k → k ≤ 17 → ¬ S 14 k) (n2 : ∀ a k, (a = 21 ∨ a = 22 ∨ a = 24 ∨ a = 25) → ¬ S a k) : BkA sq up h' := by
  obtain ⟨bg, rs, sp, b1, b2, b3, e15, e16, e17, F⟩ := B
  refine ⟨bg, rs, sp, b1, b2, b3, ?_, ?_, ?_, fun j hj => (F j hj).mv rfl rfl rfl (f.J (n2 21 j (by omega))) (f.J (n2 22 j (by omega))) (f.I (n2 24 j (by omega))) (f.I (n2 25 j (by omega)))⟩
  · rw [f.I (n1 15 (by omega) (by omega))]; exact e15
  · rw [f.I (n1 16 (by omega) (by omega))]; exact e16
  · rw [f.I (n1 17 (by omega) (by omega))]; exact e17
def PrA (L : List Nat) (h : Hp) : Prop := hI h 14 6 = n32 L.length ∧ L.length ≤ 8 ∧ (∀ k, k < L.length → hI h 17 k = n32 (L.getD k 0)) ∧ (∀ f ∈ L, f < 8) ∧ L.Nodup
theorem PrA.mv {L : List Nat} {S : Nat → Nat → Prop} {h h' : Hp} (A : PrA L h) (f : fr S h h') (n1 : ¬ S 14 6) (n2 : ∀ k, ¬ S 17 k) : PrA L h' := ⟨by rw [f.I n1]; exact A.1, A.2.1, fun k hk => by rw [f.I (n2 k)]; exact A.2.2.1 k hk, A.2.2.2⟩
theorem PrA.mid {pre rest : List Nat} {p : Nat} {h : Hp} (A : PrA (pre ++ p :: rest) h) : hI h 17 pre.length = n32 p ∧ p < 8 ∧ pre.length < 8 ∧ p ∉ pre := by
  have hl := A.2.1
  simp only [List.length_append, List.length_cons] at hl
  have e := A.2.2.1 pre.length (by simp)
  rw [getD_mid] at e
  have nd := A.2.2.2.2
  rw [List.nodup_append] at nd
  exact ⟨e, A.2.2.2.1 p (by simp), by omega, fun z => nd.2.2 p z p (by simp) rfl⟩
def DyA (T : Nat → Int) (h : Hp) : Prop := ∀ f, f < 8 → hJ h 23 f = z64 (T f)
def SDe (a k : Nat) : Prop := 21 ≤ a ∧ a ≤ 25 ∨ a = 14 ∧ (k = 15 ∨ k = 16 ∨ k = 17)
theorem SBk_SDe (f : Nat) : ∀ a k, SBk f a k → SDe a k := by unfold SBk SDe; omega
set_option maxHeartbeats 4000000 in
set_option maxRecDepth 100000 in
theorem c_endDay {L : List Nat} {T : Nat → Int} {sq : Nat → List (Nat × Int)} {up : Nat → Nat} {v : Int32} {dy : Nat} {h : Hp} {Q : Hp → Prop} (Pr : PrA L h) (D : DyA T h) (Z : ∀ f, f < 8 → f ∉ L → T f = 0) (B : BkA sq up h) (Tb : ∀ f, f < 8 → -3000000000000 ≤ T f ∧ T f ≤ 3000000000000) (Sb : ∀ f, f < 8 → -9000000000000000 ≤ sumS (sq f) ∧ sumS (sq f) ≤ 9000000000000000) (hv : ∀ f, f < 8 → T f ≠ 0 → v = n32 dy) (hd : dy < 3000) (hl : ∀ f, f < 8 → sq f ≠ [] → lastS (sq f) ≤ dy)
    (k : ∀ h' ub, fr SDe h h' → DyA (fun _ => 0) h' → ub < 256 → (∀ b, b < 8 → ub.testBit b = decide (0 < T b)) → BkA (fun f => sq f ++ (if T f = 0 then [] else [(dy, T f)])) (fun f => if sq f = [] ∧ T f ≠ 0 then ub else up f) h' → Q h') : m_X5_endDay v h Q := by
  have l8 := Pr.2.1
  -- the second walk
  have two : ∀ (ub : Nat), ub < 256 → (∀ b, b < 8 → ub.testBit b = decide (0 < T b)) → ∀ (rest pre : List Nat) (h1 : Hp), L = pre ++ rest → fr SDe h h1 → DyA (fun f => if f ∈ pre then 0 else T f) h1 → BkA (fun f => if f ∈ pre then sq f ++ (if T f = 0 then [] else [(dy, T f)]) else sq f) (fun f => if f ∈ pre ∧ sq f = [] ∧ T f ≠ 0 then ub else up f) h1 → m_X5_endDay_47 (rest.length + 1) Q v (n32 ub) (n32 pre.length) h1 := by
    intro ub hub hubt rest
    induction rest with
    | nil =>
      intro pre h1 e f1 D1 B1
      rw [List.append_nil] at e
      have P1 := Pr.mv f1 (by unfold SDe; omega) (by unfold SDe; omega)
      rw [m_X5_endDay_47, P1.1, e, n32_le (by rw [← e]; omega) (by rw [← e]; omega)]
      refine ⟨fun _ => ?_, fun z => absurd (Nat.le_refl _) z⟩
      refine k h1 ub f1 (fun f hf => ?_) hub hubt (B1.congr (fun f hf => ?_))
      · rw [D1 f hf]
        dsimp only
        by_cases q : f ∈ pre
        · rw [if_pos q]
        · rw [if_neg q, Z f hf (by rw [e]; exact q)]
      · by_cases q : f ∈ pre
        · rw [if_pos q]
          refine ⟨rfl, ?_⟩
          by_cases y : sq f = [] ∧ T f ≠ 0
          · rw [if_pos y, if_pos ⟨q, y⟩]
          · rw [if_neg y, if_neg (fun w => y w.2)]
        · have z := Z f hf (by rw [e]; exact q)
          rw [if_neg q, if_pos z, List.append_nil, if_neg (show ¬ (sq f = [] ∧ T f ≠ 0) from fun w => w.2 z), if_neg (show ¬ (f ∈ pre ∧ sq f = [] ∧ T f ≠ 0) from fun w => q w.1)]
          exact ⟨rfl, rfl⟩
    | cons p rest ih =>
      intro pre h1 e f1 D1 B1
      have P1 := Pr.mv f1 (by unfold SDe; omega) (by unfold SDe; omega)
      have P1' := P1
      rw [e] at P1'
      obtain ⟨e17, p8, pl, pn⟩ := P1'.mid
      have el : L.length = pre.length + (rest.length + 1) := by rw [e]; simp
      have Dp : hJ h1 23 p = z64 (T p) := by
        have := D1 p p8
        dsimp only at this
        rw [if_neg pn] at this; exact this
      have tb := Tb p p8
      rw [m_X5_endDay_47, P1.1, n32_le (by omega) (by omega), n32_ix (by omega), e17, n32_ix (by omega), Dp, show (0 : Int64) = z64 0 from rfl, show (0 : Int32) = n32 0 from rfl, lgc_eq (by omega) (by omega) (by omega) (by omega)]
      unfold m_X5_endDay_83
      have nx := ih (pre ++ [p])
      rw [List.length_append] at nx
      refine ⟨fun z => absurd z (by omega), fun _ => ⟨vpI pl (by decide), vpI p8 (by decide), fun z x1 e1 => ?_, fun z => ⟨vpI pl (by decide), ?_⟩⟩⟩
      · rw [e1, show n32 pre.length + 1 = n32 (pre.length + 1) from n32_add _ 1]
        refine nx h1 (by rw [e]; simp) f1 (fun f hf => ?_) (B1.congr (fun f hf => ?_))
        · rw [D1 f hf]
          dsimp only
          by_cases q : f = p
          · subst q; rw [if_neg pn, if_pos (by simp), z]
          · have : (f ∈ pre ++ [p]) ↔ f ∈ pre := by simp [q]
            simp only [this]
        · by_cases q : f = p
          · subst q
            rw [if_pos (by simp), if_neg pn, if_pos z, List.append_nil, if_neg (fun w => w.2.2 z), if_neg (fun w => w.2.2 z)]
            exact ⟨rfl, rfl⟩
          · have : (f ∈ pre ++ [p]) ↔ f ∈ pre := by simp [q]
            simp only [this]
            exact ⟨trivial, trivial⟩
      · rw [hv p p8 z]
        have sp : (if p ∈ pre then sq p ++ (if T p = 0 then [] else [(dy, T p)]) else sq p) = sq p := if_neg pn
        refine c_book B1 p8 Dp z tb (by rw [sp]; exact Sb p p8) hd (by rw [sp]; exact hl p p8) (fun h2 f2 D2 B2 => ?_)
        intro x1 e1
        rw [e1, show n32 pre.length + 1 = n32 (pre.length + 1) from n32_add _ 1]
        rw [hv p p8 z] at nx
        refine nx h2 (by rw [e]; simp) (f1.trans (f2.mono (SBk_SDe p))) (fun f hf => ?_) (B2.congr (fun f hf => ?_))
        · dsimp only
          by_cases q : f = p
          · subst q; rw [if_pos (by simp)]; exact D2
          · have : (f ∈ pre ++ [p]) ↔ f ∈ pre := by simp [q]
            simp only [this]
            rw [f2.J (by unfold SBk; omega)]
            exact D1 f hf
        · rw [sp]
          by_cases q : f = p
          · subst q
            rw [if_pos (by simp), if_pos rfl, if_neg z]
            refine ⟨rfl, ?_⟩
            by_cases y : sq f = []
            · rw [if_pos ⟨by simp, y, z⟩, if_pos ⟨rfl, y⟩]
            · rw [if_neg (fun w => y w.2.1), if_neg (fun w => y w.2), if_neg (fun w => y w.2.1)]
          · have : (f ∈ pre ++ [p]) ↔ f ∈ pre := by simp [q]
            rw [if_neg q, if_neg (show ¬ (f = p ∧ sq p = []) from fun w => q w.1)]
            simp only [this]
            exact ⟨trivial, trivial⟩
  -- the first walk
  have one : ∀ (rest pre : List Nat) (u : Nat), L = pre ++ rest → u < 256 → (∀ b, b < 8 → u.testBit b = decide (b ∈ pre ∧ 0 < T b)) → m_X5_endDay_4 (rest.length + 1) (m_X5_endDay_45 Q) Q v (n32 u) (n32 pre.length) h := by
    intro rest
    induction rest with
    | nil =>
      intro pre u e hu hub
      rw [List.append_nil] at e
      rw [m_X5_endDay_4, Pr.1, e, n32_le (by rw [← e]; omega) (by rw [← e]; omega)]
      refine ⟨fun _ => ?_, fun z => absurd (Nat.le_refl _) z⟩
      unfold m_X5_endDay_45
      have ubt : ∀ b, b < 8 → u.testBit b = decide (0 < T b) := by
        intro b hb
        rw [hub b hb]
        by_cases q : b ∈ pre
        · simp [q]
        · have z := Z b hb (by rw [e]; exact q)
          simp [q, z]
      exact ⟨_, two u hu ubt L [] h rfl (fr.rf _ _) (fun f hf => by dsimp only; rw [if_neg (by simp)]; exact D f hf) (B.congr (fun f hf => by rw [if_neg (by simp), if_neg (by simp)]; exact ⟨rfl, rfl⟩))⟩
    | cons p rest ih =>
      intro pre u e hu hub
      have P1' := Pr
      rw [e] at P1'
      obtain ⟨e17, p8, pl, pn⟩ := P1'.mid
      have el : L.length = pre.length + (rest.length + 1) := by rw [e]; simp
      have tb := Tb p p8
      have pp := pw_le (show p ≤ 7 by omega)
      rw [m_X5_endDay_4, Pr.1, n32_le (by omega) (by omega), n32_ix (by omega), e17, n32_ix (by omega), D p p8, show (0 : Int64) = z64 0 from rfl, show (0 : Int32) = n32 0 from rfl, lgc_le (by omega) (by omega) (by omega) (by omega)]
      unfold m_X5_endDay_39
      have nx := ih (pre ++ [p])
      rw [List.length_append] at nx
      refine ⟨fun z => absurd z (by omega), fun _ => ⟨vpI pl (by decide), vpI p8 (by decide), fun z x1 e1 => ?_, fun z => ⟨vpI pl (by decide), fun x5 e5 x1 e1 => ?_⟩⟩⟩
      · rw [e1, show n32 pre.length + 1 = n32 (pre.length + 1) from n32_add _ 1]
        refine nx u (by rw [e]; simp) hu (fun b hb => ?_)
        rw [hub b hb]
        by_cases q : b = p
        · subst q; simp [pn]; omega
        · simp [q]
      · rw [show (1 : Int32) = n32 1 from rfl, show (31 : Int32) = n32 31 from rfl, shl1 (by omega), n32_or (by omega) (by omega)] at e5
        rw [e1, e5, show n32 pre.length + 1 = n32 (pre.length + 1) from n32_add _ 1]
        refine nx (u ||| 2 ^ p) (by rw [e]; simp) (or_256 hu p8) (fun b hb => ?_)
        rw [tb_or, hub b hb]
        by_cases q : b = p
        · subst q; simp; omega
        · have : ¬ p = b := fun w => q w.symm
          simp [q, this]
  exact ⟨_, one L [] 0 rfl (by decide) (fun b hb => by simp)⟩
