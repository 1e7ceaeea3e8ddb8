/-! THE CLASS: a day's end -/
theorem tb_or (b f j : Nat) : (b ||| 2 ^ f).testBit j = (b.testBit j || decide (f = j)) := by rw [Nat.testBit_or, Nat.testBit_two_pow]
theorem or_256 {b f : Nat} (hb : b < 256) (hf : f < 8) : b ||| 2 ^ f < 256 := by
  have := pw_le (show f ≤ 7 by omega)
  exact Nat.or_lt_two_pow (n := 8) hb (by omega)
theorem and_bit (b f : Nat) : (b &&& 2 ^ f = 0) ↔ b.testBit f = false := by
  constructor
  · intro h
    have e := congrArg (fun n => n.testBit f) h
    simpa [Nat.testBit_and, Nat.testBit_two_pow] using e
  · intro h
    apply Nat.eq_of_testBit_eq
    intro j
    rw [Nat.testBit_and, Nat.testBit_two_pow]
    by_cases q : f = j
    · subst q; simp [h]
    · simp [q]
def FmB (s : List (Nat × Int)) (u f bg rs sp : Nat) (h : Hp) : Prop := bg.testBit f = decide (s ≠ []) ∧ rs.testBit f = rise s ∧ sp.testBit f = decide (s ≠ [] ∧ lendDay s = none) ∧ hJ h 21 f = z64 (sumS s) ∧ hJ h 22 f = z64 (outS 0 0 s) ∧ (s ≠ [] → hI h 24 f = n32 (lastS s) ∧ hI h 25 f = n32 u)
def BkA (sq : Nat → List (Nat × Int)) (up : Nat → Nat) (h : Hp) : Prop := ∃ bg rs sp, bg < 256 ∧ rs < 256 ∧ sp < 256 ∧ hI h 14 15 = n32 bg ∧ hI h 14 16 = n32 rs ∧ hI h 14 17 = n32 sp ∧ ∀ f, f < 8 → FmB (sq f) (up f) f bg rs sp h
def SBk (f a k : Nat) : Prop := (21 ≤ a ∧ a ≤ 25 ∧ k = f) ∨ a = 14 ∧ (k = 15 ∨ k = 16 ∨ k = 17)
theorem FmB.mv {s : List (Nat × Int)} {u f bg rs sp bg' rs' sp' : Nat} {h h' : Hp} (F : FmB s u f bg rs sp h) (e1 : bg'.testBit f = bg.testBit f) (e2 : rs'.testBit f = rs.testBit f) (e3 : sp'.testBit f = sp.testBit f) (j1 : hJ h' 21 f = hJ h 21 f) (j2 : hJ h' 22 f = hJ h 22 f) (i1 : hI h' 24 f = hI h 24 f) (i2 : hI h' 25 f = hI h 25 f) : FmB s u f bg' rs' sp' h' := by
  unfold FmB at F ⊢
  rw [e1, e2, e3, j1, j2, i1, i2]; exact F
/-- the last steps of a booking -/
theorem c_book147 {f dy : Nat} {g : Int} {h : Hp} {Q : Hp → Prop} (hf : f < 8) (k : Q (wI (wJ h 21 f (hJ h 21 f + z64 g)) 24 f (n32 dy))) : m_X5_book_147 Q (n32 f) (n32 dy) (z64 g) h := by
  unfold m_X5_book_147
  rw [n32_ix (by omega)]
  exact ⟨vpI hf (by decide), vpI hf (by decide), vpI hf (by decide), k⟩
set_option maxHeartbeats 4000000 in
set_option maxRecDepth 100000 in
theorem c_book {sq : Nat → List (Nat × Int)} {up : Nat → Nat} {f dy ub : Nat} {g : Int} {h : Hp} {Q : Hp → Prop} (B : BkA sq up h) (hf : f < 8) (hg : hJ h 23 f = z64 g) (g0 : g ≠ 0) (gb : -3000000000000 ≤ g ∧ g ≤ 3000000000000) (sb : -9000000000000000 ≤ sumS (sq f) ∧ sumS (sq f) ≤ 9000000000000000) (hd : dy < 3000) (hl : sq f ≠ [] → lastS (sq f) ≤ dy)
    (k : ∀ h', fr (SBk f) h h' → hJ h' 23 f = z64 0 → BkA (fun j => if j = f then sq f ++ [(dy, g)] else sq j) (fun j => if j = f ∧ sq f = [] then ub else up j) h' → Q h') : m_X5_book (n32 f) (n32 dy) (n32 ub) h Q := by
  obtain ⟨bg, rs, sp, b1, b2, b3, e15, e16, e17, F⟩ := B
  obtain ⟨F1, F2, F3, F4, F5, F6⟩ := F f hf
  have pf := pw_le (show f ≤ 7 by omega)
  -- the common end
  have fin : ∀ (bg' sp' : Nat) (h1 : Hp), fr (SBk f) h h1 → bg' < 256 → sp' < 256 → hI h1 14 15 = n32 bg' → hI h1 14 16 = n32 rs → hI h1 14 17 = n32 sp' → hJ h1 23 f = z64 0 → hJ h1 21 f = hJ h 21 f → hJ h1 22 f = z64 (outS 0 0 (sq f ++ [(dy, g)])) → bg'.testBit f = true → (∀ j, j ≠ f → bg'.testBit j = bg.testBit j ∧ sp'.testBit j = sp.testBit j) → (hI h1 25 f = n32 (if sq f = [] then ub else up f)) → (sp'.testBit f = if sq f = [] then decide (0 < g) else sp.testBit f) → m_X5_book_105 Q (n32 f) (n32 dy) (n32 (2 ^ f)) (z64 g) h1 := by
    intro bg' sp' h1 f1 c1 c2 c15 c16 c17 c23 c21 c22 cb co c25 cs
    have done : ∀ (rs' sp2 : Nat) (h2 : Hp), fr (SBk f) h h2 → rs' < 256 → sp2 < 256 → hI h2 14 15 = n32 bg' → hI h2 14 16 = n32 rs' → hI h2 14 17 = n32 sp2 → hJ h2 23 f = z64 0 → hJ h2 21 f = hJ h 21 f → hJ h2 22 f = z64 (outS 0 0 (sq f ++ [(dy, g)])) → hI h2 25 f = n32 (if sq f = [] then ub else up f) → (∀ j, j ≠ f → rs'.testBit j = rs.testBit j ∧ sp2.testBit j = sp'.testBit j) → rs'.testBit f = rise (sq f ++ [(dy, g)]) → sp2.testBit f = decide (lendDay (sq f ++ [(dy, g)]) = none) → m_X5_book_147 Q (n32 f) (n32 dy) (z64 g) h2 := by
      intro rs' sp2 h2 f2 d1 d2 d15 d16 d17 d23 d21 d22 d25 dof drs dsp
      refine c_book147 hf ?_
      rw [d21, F4, z64_add]
      refine k _ (fr_wI (fr_wJ f2 _ (by unfold SBk; omega)) _ (by unfold SBk; omega)) ?_ ⟨bg', rs', sp2, c1, d1, d2, ?_, ?_, ?_, fun j hj => ?_⟩
      · rw [hJ_wI, hJ_wJ, if_neg (by omega)]; exact d23
      · rw [hI_wI, if_neg (by omega), hI_wJ]; exact d15
      · rw [hI_wI, if_neg (by omega), hI_wJ]; exact d16
      · rw [hI_wI, if_neg (by omega), hI_wJ]; exact d17
      · by_cases q : j = f
        · subst q
          dsimp only
          rw [if_pos rfl]
          refine ⟨?_, drs, ?_, ?_, ?_, fun _ => ⟨?_, ?_⟩⟩
          · rw [cb]; simp
          · rw [dsp]; simp
          · rw [hJ_wI, hJ_wJ, if_pos ⟨rfl, rfl⟩, sumS_app]
          · rw [hJ_wI, hJ_wJ, if_neg (by omega)]; exact d22
          · rw [hI_wI, if_pos ⟨rfl, rfl⟩, lastS_app]
          · rw [hI_wI, if_neg (by omega), hI_wJ, d25]
            by_cases z : sq j = []
            · rw [if_pos z, if_pos ⟨rfl, z⟩]
            · rw [if_neg z, if_neg (fun y => z y.2)]
        · dsimp only
          rw [if_neg q, if_neg (fun y => q y.1)]
          refine (F j hj).mv (co j q).1 (dof j q).1 ((dof j q).2.trans (co j q).2) ?_ ?_ ?_ ?_
          · rw [hJ_wI, hJ_wJ, if_neg (by omega), f2.J (by unfold SBk; omega)]
          · rw [hJ_wI, hJ_wJ, if_neg (by omega), f2.J (by unfold SBk; omega)]
          · rw [hI_wI, if_neg (by omega), hI_wJ, f2.I (by unfold SBk; omega)]
          · rw [hI_wI, if_neg (by omega), hI_wJ, f2.I (by unfold SBk; omega)]
    have ld : decide (lendDay (sq f ++ [(dy, g)]) = none) = (sp'.testBit f || (decide (sq f ≠ []) && (rise (sq f) && decide (g < 0)))) := by
      by_cases z : sq f = []
      · rw [cs, if_pos z, z]
        have := lendDay_one (dy, g)
        simp only [List.nil_append, this]
        simp
      · rw [cs, if_neg z, F3]
        have := lendDay_app (q := (dy, g)) z
        simp only [this]
        simp [z]
    unfold m_X5_book_105
    rw [show (0 : Int64) = z64 0 from rfl, show (0 : Int32) = n32 0 from rfl, lgc_le (by omega) (by omega) (by omega) (by omega), c16, c17, n32_and (by omega) (by omega), n32_eq (Nat.lt_of_le_of_lt Nat.and_le_left (by omega)) (by decide), and_bit, n32_or (by omega) (by omega), n32_or (by omega) (by omega), F2]
    refine ⟨fun z => ⟨fun z2 => ?_, fun z2 => ?_⟩, fun z => ?_⟩
    · refine done rs sp' h1 f1 b2 c2 c15 c16 c17 c23 c21 c22 c25 (fun j hj => ⟨rfl, rfl⟩) ?_ ?_
      · rw [F2, rise_app, z2]; simp; omega
      · rw [ld, z2]; simp
    · have z2' : rise (sq f) = true := by simpa using z2
      have zn : sq f ≠ [] := by rintro y; rw [y] at z2'; cases z2'
      refine done rs (sp' ||| 2 ^ f) _ (fr_wI f1 _ (by unfold SBk; omega)) b2 (or_256 c2 hf) ?_ ?_ ?_ ?_ ?_ ?_ ?_ (fun j hj => ⟨rfl, by rw [tb_or]; simp; omega⟩) ?_ ?_
      · rw [hI_wI, if_neg (by omega)]; exact c15
      · rw [hI_wI, if_neg (by omega)]; exact c16
      · rw [hI_wI, if_pos ⟨rfl, rfl⟩]
      · rw [hJ_wI]; exact c23
      · rw [hJ_wI]; exact c21
      · rw [hJ_wI]; exact c22
      · rw [hI_wI, if_neg (by omega)]; exact c25
      · rw [F2, rise_app, z2']; simp
      · rw [ld, tb_or, z2']
        have : g < 0 := by omega
        simp [zn, this]
    · refine done (rs ||| 2 ^ f) sp' _ (fr_wI f1 _ (by unfold SBk; omega)) (or_256 b2 hf) c2 ?_ ?_ ?_ ?_ ?_ ?_ ?_ (fun j hj => ⟨by rw [tb_or]; simp; omega, rfl⟩) ?_ ?_
      · rw [hI_wI, if_neg (by omega)]; exact c15
      · rw [hI_wI, if_pos ⟨rfl, rfl⟩]
      · rw [hI_wI, if_neg (by omega)]; exact c17
      · rw [hJ_wI]; exact c23
      · rw [hJ_wI]; exact c21
      · rw [hJ_wI]; exact c22
      · rw [hI_wI, if_neg (by omega)]; exact c25
      · rw [tb_or, rise_app]
        have : 0 < g := by omega
        simp [this]
      · rw [ld]
        have : ¬ g < 0 := by omega
        simp [this]
  unfold m_X5_book
  intro x1 e1
  rw [show (1 : Int32) = n32 1 from rfl, show (31 : Int32) = n32 31 from rfl, shl1 (by omega)] at e1
  subst e1
  rw [n32_ix (by omega)]
  refine ⟨vpI hf (by decide), fun x2 e2 => ⟨vpI hf (by decide), ?_⟩⟩
  rw [hg] at e2
  subst e2
  have fa : fr (SBk f) h (wJ h 23 f 0) := fr_wJ (fr.rf _ _) _ (by unfold SBk; omega)
  have a23 : hJ (wJ h 23 f 0) 23 f = z64 0 := by rw [hJ_wJ, if_pos ⟨rfl, rfl⟩]; rfl
  have a21 : hJ (wJ h 23 f 0) 21 f = hJ h 21 f := by rw [hJ_wJ, if_neg (by omega)]
  have a22 : hJ (wJ h 23 f 0) 22 f = z64 (outS 0 0 (sq f)) := by rw [hJ_wJ, if_neg (by omega)]; exact F5
  have a15 : hI (wJ h 23 f 0) 14 15 = n32 bg := by rw [hI_wJ]; exact e15
  have a16 : hI (wJ h 23 f 0) 14 16 = n32 rs := by rw [hI_wJ]; exact e16
  have a17 : hI (wJ h 23 f 0) 14 17 = n32 sp := by rw [hI_wJ]; exact e17
  have a24 : hI (wJ h 23 f 0) 24 f = hI h 24 f := by rw [hI_wJ]
  have a25 : hI (wJ h 23 f 0) 25 f = hI h 25 f := by rw [hI_wJ]
  generalize wJ h 23 f 0 = ha at fa a23 a21 a22 a15 a16 a17 a24 a25
  have oa := outS_app (sq f) 0 0 (dy, g)
  rw [Int.zero_add] at oa
  dsimp only at oa
  rw [a15, n32_and (by omega) (by omega), show (0 : Int32) = n32 0 from rfl, n32_eq (Nat.lt_of_le_of_lt Nat.and_le_left (by omega)) (by decide), and_bit, F1, a21, F4, show (0 : Int64) = z64 0 from rfl, lgc_ge (by omega) (by omega) (by omega) (by omega), lgc_le (by omega) (by omega) (by omega) (by omega), n32_or (by omega) (by omega)]
  refine ⟨fun z => ⟨vpI hf (by decide), fun z2 => ?_, fun z2 => ⟨vpI hf (by decide), vpI hf (by decide), vpI hf (by decide), vpI hf (by decide), ?_⟩⟩, fun z => ⟨vpI hf (by decide), fun z2 => ?_, fun z2 => ?_⟩⟩
  · have zn : sq f ≠ [] := by simpa using z
    rw [if_neg (by omega), Int.add_zero] at oa
    refine fin bg sp ha fa b1 b3 a15 a16 a17 a23 a21 (by rw [oa]; exact a22) (by rw [F1]; simp [zn]) (fun j hj => ⟨rfl, rfl⟩) ?_ ?_
    · rw [a25, if_neg zn]; exact (F6 zn).2
    · rw [if_neg zn]
  · have zn : sq f ≠ [] := by simpa using z
    have le := hl zn
    rw [a22, a24, (F6 zn).1, n32_sub le, n32_long (by omega), z64_mul, z64_sub]
    rw [if_pos (by omega), if_neg zn] at oa
    refine fin bg sp _ (fr_wJ fa _ (by unfold SBk; omega)) b1 b3 ?_ ?_ ?_ ?_ ?_ ?_ (by rw [F1]; simp [zn]) (fun j hj => ⟨rfl, rfl⟩) ?_ ?_
    · rw [hI_wJ]; exact a15
    · rw [hI_wJ]; exact a16
    · rw [hI_wJ]; exact a17
    · rw [hJ_wJ, if_neg (by omega)]; exact a23
    · rw [hJ_wJ, if_neg (by omega)]; exact a21
    · rw [hJ_wJ, if_pos ⟨rfl, rfl⟩, oa]
      congr 1
      have ec : ((dy - lastS (sq f) : Nat) : Int) = (dy : Int) - lastS (sq f) := by omega
      rw [ec, Int.neg_mul, Int.sub_eq_add_neg]
    · rw [hI_wJ, a25, if_neg zn]; exact (F6 zn).2
    · rw [if_neg zn]
  · have zn : sq f = [] := by simpa using z
    have oe : outS 0 0 (sq f ++ [(dy, g)]) = outS 0 0 (sq f) := by rw [oa, zn]; simp [sumS]
    refine fin (bg ||| 2 ^ f) sp _ (fr_wI (fr_wI fa _ (by unfold SBk; omega)) _ (by unfold SBk; omega)) (or_256 b1 hf) b3 ?_ ?_ ?_ ?_ ?_ ?_ (by rw [tb_or]; simp) (fun j hj => ⟨by rw [tb_or]; simp; omega, rfl⟩) ?_ ?_
    · rw [hI_wI, if_neg (by omega), hI_wI, if_pos ⟨rfl, rfl⟩]
    · rw [hI_wI, if_neg (by omega), hI_wI, if_neg (by omega)]; exact a16
    · rw [hI_wI, if_neg (by omega), hI_wI, if_neg (by omega)]; exact a17
    · rw [hJ_wI, hJ_wI]; exact a23
    · rw [hJ_wI, hJ_wI]; exact a21
    · rw [hJ_wI, hJ_wI, oe]; exact a22
    · rw [hI_wI, if_pos ⟨rfl, rfl⟩, if_pos zn]
    · rw [if_pos zn, F3, zn]; simp; omega
  · have zn : sq f = [] := by simpa using z
    have oe : outS 0 0 (sq f ++ [(dy, g)]) = outS 0 0 (sq f) := by rw [oa, zn]; simp [sumS]
    have fb : fr (SBk f) h (wI (wI ha 14 15 (n32 (bg ||| 2 ^ f))) 25 f (n32 ub)) := fr_wI (fr_wI fa _ (by unfold SBk; omega)) _ (by unfold SBk; omega)
    have d15 : hI (wI (wI ha 14 15 (n32 (bg ||| 2 ^ f))) 25 f (n32 ub)) 14 15 = n32 (bg ||| 2 ^ f) := by rw [hI_wI, if_neg (by omega), hI_wI, if_pos ⟨rfl, rfl⟩]
    have d16 : hI (wI (wI ha 14 15 (n32 (bg ||| 2 ^ f))) 25 f (n32 ub)) 14 16 = n32 rs := by rw [hI_wI, if_neg (by omega), hI_wI, if_neg (by omega)]; exact a16
    have d17 : hI (wI (wI ha 14 15 (n32 (bg ||| 2 ^ f))) 25 f (n32 ub)) 14 17 = n32 sp := by rw [hI_wI, if_neg (by omega), hI_wI, if_neg (by omega)]; exact a17
    have d25 : hI (wI (wI ha 14 15 (n32 (bg ||| 2 ^ f))) 25 f (n32 ub)) 25 f = n32 ub := by rw [hI_wI, if_pos ⟨rfl, rfl⟩]
    have dj : hJ (wI (wI ha 14 15 (n32 (bg ||| 2 ^ f))) 25 f (n32 ub)) = hJ ha := by rw [hJ_wI, hJ_wI]
    generalize wI (wI ha 14 15 (n32 (bg ||| 2 ^ f))) 25 f (n32 ub) = hb at fb d15 d16 d17 d25 dj
    rw [d17, n32_or (by omega) (by omega)]
    refine fin (bg ||| 2 ^ f) (sp ||| 2 ^ f) _ (fr_wI fb _ (by unfold SBk; omega)) (or_256 b1 hf) (or_256 b3 hf) ?_ ?_ ?_ ?_ ?_ ?_ (by rw [tb_or]; simp) (fun j hj => ⟨by rw [tb_or]; simp; omega, by rw [tb_or]; simp; omega⟩) ?_ ?_
    · rw [hI_wI, if_neg (by omega)]; exact d15
    · rw [hI_wI, if_neg (by omega)]; exact d16
    · rw [hI_wI, if_pos ⟨rfl, rfl⟩]
    · rw [hJ_wI, dj]; exact a23
    · rw [hJ_wI, dj]; exact a21
    · rw [hJ_wI, dj, oe]; exact a22
    · rw [hI_wI, if_neg (by omega), if_pos zn]; exact d25
    · rw [if_pos zn, tb_or]
      have : 0 < g := by omega
      simp [this]
