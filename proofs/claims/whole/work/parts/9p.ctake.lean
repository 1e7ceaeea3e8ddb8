/-! THE CLASS: the rows of a bundle by days; one entry -/
def bh (m bf : Nat) : Nat := m % 32 + m / 32 * 2 ^ bf * 32
def enR (F : Nat → Nat) (bf : Nat) (q : Rec) : Rec := fun j => if j = 0 then q 0 else if j = 1 then F (q 1) else if j = 2 then F (q 2) else if j = 3 then q 3 else if j = 4 then bh (q 4) bf else if j = 5 then bh (q 5) bf else q 6
def keepB (F : Nat → Nat) (q : Rec) : Bool := decide (F (q 1) ≠ F (q 2) ∧ q 6 ≠ 0)
theorem bh_lt {m bf : Nat} (hm : m < 256) (hb : bf ≤ 18) : bh m bf < 67108864 := by
  unfold bh
  have p := pw_le hb
  have : m / 32 * 2 ^ bf ≤ 7 * 2 ^ 18 := Nat.mul_le_mul (by omega) p
  omega
theorem n32_bh {m bf : Nat} (hm : m < 256) (hb : bf ≤ 18) : (n32 m &&& 31) ||| ((n32 m &&& (31 ^^^ (-1))) <<< (n32 bf &&& 31)) = n32 (bh m bf) := by
  have p := pw_le hb
  have p0 := Nat.two_pow_pos bf
  have b1 : m / 32 * 2 ^ bf ≤ 7 * 2 ^ 18 := Nat.mul_le_mul (by omega) p
  have b2 : m / 32 * 32 * 2 ^ bf = m / 32 * 2 ^ bf * 32 := by rw [Nat.mul_right_comm]
  rw [show ((31 : Int32) ^^^ (-1)) = -32 from by decide, n32_hi (by omega), show (31 : Int32) = n32 31 from rfl, n32_shl (by omega) (by omega), n32_and (by omega) (by decide), show (31 : Nat) = 2 ^ 5 - 1 from rfl, Nat.and_two_pow_sub_one_eq_mod, b2, n32_or (by omega) (by omega), or_hi (by omega)]
  unfold bh
  congr 1
  omega
theorem bh_ps {c m v bf : Nat} : (own c bf &&& m = v) ↔ (c &&& bh m bf = bh v bf) := by
  have lo : ∀ m j, j < 5 → (bh m bf).testBit j = m.testBit j := by
    intro m j hj
    unfold bh
    rw [show m % 32 + m / 32 * 2 ^ bf * 32 = 2 ^ 5 * (m / 32 * 2 ^ bf) + m % 32 by omega, Nat.testBit_two_pow_mul_add _ (by omega : m % 32 < 2 ^ 5), if_pos hj, show (32 : Nat) = 2 ^ 5 from rfl, Nat.testBit_mod_two_pow]
    simp [hj]
  have hi : ∀ m j, 5 ≤ j → (bh m bf).testBit j = (decide (5 + bf ≤ j) && m.testBit (j - bf)) := by
    intro m j hj
    unfold bh
    rw [show m % 32 + m / 32 * 2 ^ bf * 32 = 2 ^ 5 * (m / 32 * 2 ^ bf) + m % 32 by omega, Nat.testBit_two_pow_mul_add _ (by omega : m % 32 < 2 ^ 5), if_neg (by omega), Nat.mul_comm (m / 32), Nat.testBit_two_pow_mul, show (32 : Nat) = 2 ^ 5 from rfl, Nat.testBit_div_two_pow]
    by_cases q : 5 + bf ≤ j
    · rw [show j - 5 - bf + 5 = j - bf by omega]
      simp [q, show bf ≤ j - 5 by omega]
    · simp [q, show ¬ bf ≤ j - 5 by omega]
  rw [tb_eq, tb_eq]
  constructor
  · intro h j
    rw [Nat.testBit_and]
    rcases Nat.lt_or_ge j 5 with q | q
    · rw [lo m j q, lo v j q, ← own_lo (c := c) (bf := bf) q, ← Nat.testBit_and]; exact h j
    · rw [hi m j q, hi v j q]
      by_cases q2 : 5 + bf ≤ j
      · have := h (j - bf)
        rw [Nat.testBit_and, show j - bf = 5 + (j - bf - 5) by omega, own_hi, show 5 + bf + (j - bf - 5) = j by omega, show 5 + (j - bf - 5) = j - bf by omega] at this
        simp [q2]; exact this
      · simp [q2]
  · intro h j
    rw [Nat.testBit_and]
    rcases Nat.lt_or_ge j 5 with q | q
    · have := h j
      rw [Nat.testBit_and, lo m j q, lo v j q] at this
      rw [own_lo q]; exact this
    · have := h (j + bf)
      rw [Nat.testBit_and, hi m _ (by omega), hi v _ (by omega), show j + bf - bf = j by omega] at this
      simp only [show 5 + bf ≤ j + bf by omega, decide_true, Bool.true_and] at this
      rw [show j = 5 + (j - 5) by omega, own_hi, show 5 + bf + (j - 5) = j + bf by omega, show 5 + (j - 5) = j by omega]
      exact this
/-- entries as they stand -/
def EnB (E : List Rec) (h : Hp) : Prop := hI h 14 3 = n32 E.length ∧ E.length ≤ 216 ∧ ∀ k, k < E.length → (∀ j, j < 6 → hI h 15 (6 * k + j) = n32 ((E.getD k rec0) j)) ∧ hJ h 16 k = z64 ((E.getD k rec0) 6 : Nat)
def btB (E : List Rec) : Nat := E.foldl (fun b e => b ||| e 4) 0
def tdB (E : List Rec) : Nat := E.foldl (fun b e => b ||| (2 ^ e 1 ||| 2 ^ e 2)) 0
theorem btB_app (E : List Rec) (e : Rec) : btB (E ++ [e]) = btB E ||| e 4 := by unfold btB; rw [List.foldl_append]; rfl
theorem tdB_app (E : List Rec) (e : Rec) : tdB (E ++ [e]) = tdB E ||| (2 ^ e 1 ||| 2 ^ e 2) := by unfold tdB; rw [List.foldl_append]; rfl
def EnOk (e : Rec) : Prop := e 0 < 3000 ∧ e 1 < 8 ∧ e 2 < 8 ∧ e 3 < 6 ∧ e 4 < 67108864 ∧ e 5 < 67108864 ∧ e 6 ≤ 10000000000 ∧ e 1 ≠ e 2 ∧ 0 < e 6
theorem enR_ok {F : Nat → Nat} {bf : Nat} {q : Rec} (O : CrOk q) (hF : ∀ k, k < 8 → F k < 8) (hb : bf ≤ 18) (hk : keepB F q = true) : EnOk (enR F bf q) := by
  unfold keepB at hk
  obtain ⟨k1, k2⟩ := of_decide_eq_true hk
  exact ⟨O.1, hF _ O.2.1, hF _ O.2.2.1, O.2.2.2.1, bh_lt O.2.2.2.2.1 hb, bh_lt O.2.2.2.2.2.1 hb, O.2.2.2.2.2.2.1, k1, by show 0 < q 6; omega⟩
def SEn (a k : Nat) : Prop := a = 15 ∨ a = 16 ∨ a = 14 ∧ (k = 3 ∨ k = 4)
theorem btB_lt : ∀ {E : List Rec} {b : Nat}, b < 67108864 → (∀ e ∈ E, EnOk e) → E.foldl (fun b e => b ||| e 4) b < 67108864
  | [], b, h, _ => h
  | e :: E, b, h, o => by
    rw [List.foldl_cons]
    exact btB_lt (Nat.or_lt_two_pow (n := 26) h (o e (by simp)).2.2.2.2.1) (fun q hq => o q (by simp [hq]))
theorem c_putLast {E : List Rec} {e : Rec} {a k : Nat} {h hd' : Hp} {Q : Hp → Prop} (A : EnB E h) (Ab : hI h 14 4 = n32 (btB E)) (Ok : ∀ e ∈ E, EnOk e) (h216 : E.length < 216) (h108 : 108 ≤ a) (he4 : e 4 < 67108864) (fd : fr SEn h hd') (g0 : ∀ j, j < 6 * E.length → hI hd' 15 j = hI h 15 j) (g1 : ∀ j, j < 6 → hI hd' 15 (6 * E.length + j) = n32 (e j)) (g14 : ∀ j, hI hd' 14 j = hI h 14 j) (jd : hJ hd' = hJ h) (w6 : hJ h (a + 3) k = z64 (e 6 : Nat))
    (kk : ∀ h', fr SEn h h' → EnB (E ++ [e]) h' → hI h' 14 4 = n32 (btB (E ++ [e])) → Q h') :
    vp_in (hI (wI hd' 14 4 (hI hd' 14 4 ||| hI hd' 15 (6 * E.length + 4))) 14 3) 216 ∧ Q (wI (wJ (wI hd' 14 4 (hI hd' 14 4 ||| hI hd' 15 (6 * E.length + 4))) 16 (ix (hI (wI hd' 14 4 (hI hd' 14 4 ||| hI hd' 15 (6 * E.length + 4))) 14 3)) (hJ (wI hd' 14 4 (hI hd' 14 4 ||| hI hd' 15 (6 * E.length + 4))) (a + 3) k)) 14 3 (hI (wJ (wI hd' 14 4 (hI hd' 14 4 ||| hI hd' 15 (6 * E.length + 4))) 16 (ix (hI (wI hd' 14 4 (hI hd' 14 4 ||| hI hd' 15 (6 * E.length + 4))) 14 3)) (hJ (wI hd' 14 4 (hI hd' 14 4 ||| hI hd' 15 (6 * E.length + 4))) (a + 3) k)) 14 3 + n32 1)) := by
  have btl : btB E < 67108864 := btB_lt (by decide) Ok
  have A1 := A.1
  have d4 := g1 4 (by decide)
  rw [g14, Ab, d4, n32_or (by omega) (by omega)]
  have fe : fr SEn h (wI hd' 14 4 (n32 (btB E ||| e 4))) := fr_wI fd _ (by unfold SEn; omega)
  have ge : ∀ j, hI (wI hd' 14 4 (n32 (btB E ||| e 4))) 15 j = hI hd' 15 j := by
    intro j; rw [hI_wI, if_neg (by omega)]
  have ge3 : hI (wI hd' 14 4 (n32 (btB E ||| e 4))) 14 3 = n32 E.length := by rw [hI_wI, if_neg (by omega), g14]; exact A1
  have ge4 : hI (wI hd' 14 4 (n32 (btB E ||| e 4))) 14 4 = n32 (btB E ||| e 4) := by rw [hI_wI, if_pos ⟨rfl, rfl⟩]
  have je : hJ (wI hd' 14 4 (n32 (btB E ||| e 4))) = hJ h := by rw [hJ_wI]; exact jd
  generalize wI hd' 14 4 (n32 (btB E ||| e 4)) = he at fe ge ge3 ge4 je
  rw [hI_wJ, ge3, n32_ix (show E.length < 2147483648 by omega), je, w6, n32_add]
  refine ⟨vpI h216 (by decide), ?_⟩
  refine kk _ (fr_wI (fr_wJ fe _ (by unfold SEn; omega)) _ (by unfold SEn; omega)) ⟨?_, ?_, fun m hm => ⟨fun j hj => ?_, ?_⟩⟩ ?_
  · rw [hI_wI, if_pos ⟨rfl, rfl⟩, List.length_append, List.length_singleton]
  · rw [List.length_append, List.length_singleton]; omega
  · rw [List.length_append, List.length_singleton] at hm
    rw [hI_wI, if_neg (by omega), hI_wJ, ge]
    by_cases y : m = E.length
    · subst y
      rw [getD_app_at]; exact g1 j hj
    · rw [getD_app_lt (by omega), g0 _ (by omega)]
      exact (A.2.2 m (by omega)).1 j hj
  · rw [List.length_append, List.length_singleton] at hm
    rw [hJ_wI, hJ_wJ]
    by_cases y : m = E.length
    · rw [if_pos ⟨rfl, y⟩, y, getD_app_at]
    · rw [if_neg (by omega), getD_app_lt (by omega), je]
      exact (A.2.2 m (by omega)).2
  · rw [hI_wI, if_neg (by omega), hI_wJ, ge4, btB_app]
set_option maxHeartbeats 4000000 in
set_option maxRecDepth 100000 in
theorem c_putEntry {x : Ab} {da : Nat → Nat} {d k bf : Nat} {q : Rec} {E : List Rec} {h : Hp} {Q : Int32 → Hp → Prop} (V : CVw x da h) (K : OkA x) (hd : d < (aD x).length) (R : RwA h (da d) k q) (O : CrOk q) (hk : k < 36) (hb : bf ≤ 18) (A : EnB E h) (Ab : hI h 14 4 = n32 (btB E)) (Ok : ∀ e ∈ E, EnOk e) (h216 : E.length < 216)
    (k1 : keepB (aF x) q = true → ∀ h', fr SEn h h' → EnB (E ++ [enR (aF x) bf q]) h' → hI h' 14 4 = n32 (btB (E ++ [enR (aF x) bf q])) → Q (n32 (2 ^ aF x (q 1) ||| 2 ^ aF x (q 2))) h') (k0 : keepB (aF x) q = false → Q 0 h) : m_X5_putEntry (da d) (n32 k) (n32 bf) h Q := by
  obtain ⟨w0, w1, w2, w3, w4, w5, w6⟩ := R
  have o0 := O.1; have o1 := O.2.1; have o2 := O.2.2.1; have o3 := O.2.2.2.1; have o4 := O.2.2.2.2.1; have o5 := O.2.2.2.2.2.1; have o6 := O.2.2.2.2.2.2.1
  have f1 := V.1 (q 1) o1
  have f2 := V.1 (q 2) o2
  have h108 := (V.2.2 d hd).2
  unfold m_X5_putEntry
  intro x1 e1
  rw [show (6 : Int32) = n32 6 from rfl, n32_mul, Nat.mul_comm k 6] at e1
  subst e1
  rw [show (1 : Int32) = n32 1 from rfl, show (2 : Int32) = n32 2 from rfl, n32_add, n32_add, n32_ix (by omega), n32_ix (by omega), w1, w2, n32_ix (by omega), n32_ix (by omega), f1.1, f2.1]
  refine ⟨vpI (by omega) (by decide), vpI o1 (by decide), fun x2 e2 => ⟨vpI (by omega) (by decide), vpI o2 (by decide), fun x3 e3 => ?_⟩⟩
  subst e2; subst e3
  have A1 := A.1
  rw [n32_eq (by omega) (by omega), n32_ix (by omega), w6, show (0 : Int64) = z64 0 from rfl, show (0 : Int32) = n32 0 from rfl, lgc_eq (by omega) (by omega) (by omega) (by omega), A1, show (216 : Int32) = n32 216 from rfl, n32_lt (by omega) (by decide)]
  refine ⟨fun z => k0 (by unfold keepB; simp [z]), fun z => ⟨vpI hk (by decide), fun z2 => k0 (by unfold keepB; simp; omega), fun z2 => ⟨fun _ => ?_, fun z3 => absurd h216 z3⟩⟩⟩
  have kp : keepB (aF x) q = true := by unfold keepB; simp [z]; omega
  intro x4 e4
  rw [show (6 : Int32) = n32 6 from rfl, n32_mul, Nat.mul_comm E.length 6] at e4
  subst e4
  rw [show (3 : Int32) = n32 3 from rfl, show (4 : Int32) = n32 4 from rfl, show (5 : Int32) = n32 5 from rfl]
  simp only [n32_add, Nat.add_zero]
  rw [n32_ix (show 6 * k < 2147483648 by omega), n32_ix (show 6 * E.length < 2147483648 by omega), n32_ix (show 6 * E.length + 1 < 2147483648 by omega), n32_ix (show 6 * E.length + 2 < 2147483648 by omega), n32_ix (show 6 * E.length + 3 < 2147483648 by omega), n32_ix (show 6 * k + 3 < 2147483648 by omega), w0]
  have far : ∀ h', fr SEn h h' → ∀ j, hI h' (da d + 2) j = hI h (da d + 2) j := fun h' f j => f.I (by unfold SEn; omega)
  have fa : fr SEn h (wI (wI (wI h 15 (6 * E.length) (n32 (q 0))) 15 (6 * E.length + 1) (n32 (aF x (q 1)))) 15 (6 * E.length + 2) (n32 (aF x (q 2)))) := fr_wI (fr_wI (fr_wI (fr.rf _ _) _ (by unfold SEn; omega)) _ (by unfold SEn; omega)) _ (by unfold SEn; omega)
  have ga : ∀ j, hI (wI (wI (wI h 15 (6 * E.length) (n32 (q 0))) 15 (6 * E.length + 1) (n32 (aF x (q 1)))) 15 (6 * E.length + 2) (n32 (aF x (q 2)))) 15 j = if j = 6 * E.length + 2 then n32 (aF x (q 2)) else if j = 6 * E.length + 1 then n32 (aF x (q 1)) else if j = 6 * E.length then n32 (q 0) else hI h 15 j := by
    intro j
    rw [hI_wI, hI_wI, hI_wI]
    simp only [true_and]
  have g14 : ∀ j, hI (wI (wI (wI h 15 (6 * E.length) (n32 (q 0))) 15 (6 * E.length + 1) (n32 (aF x (q 1)))) 15 (6 * E.length + 2) (n32 (aF x (q 2)))) 14 j = hI h 14 j := by
    intro j
    rw [hI_wI, if_neg (by omega), hI_wI, if_neg (by omega), hI_wI, if_neg (by omega)]
  have ja : hJ (wI (wI (wI h 15 (6 * E.length) (n32 (q 0))) 15 (6 * E.length + 1) (n32 (aF x (q 1)))) 15 (6 * E.length + 2) (n32 (aF x (q 2)))) = hJ h := by rw [hJ_wI, hJ_wI, hJ_wI]
  generalize wI (wI (wI h 15 (6 * E.length) (n32 (q 0))) 15 (6 * E.length + 1) (n32 (aF x (q 1)))) 15 (6 * E.length + 2) (n32 (aF x (q 2))) = ha at fa ga g14 ja
  rw [far ha fa, w3]
  refine ⟨vpI (by omega) (by decide), vpI (by omega) (by decide), vpI (by omega) (by decide), vpI (by omega) (by decide), vpI (by omega) (by decide), vpI (by omega) (by decide), vpI (by omega) (by decide), ?_⟩
  have fb : fr SEn h (wI ha 15 (6 * E.length + 3) (n32 (q 3))) := fr_wI fa _ (by unfold SEn; omega)
  have gb : ∀ j, hI (wI ha 15 (6 * E.length + 3) (n32 (q 3))) 15 j = if j = 6 * E.length + 3 then n32 (q 3) else hI ha 15 j := by
    intro j; rw [hI_wI]; simp only [true_and]
  have gb14 : ∀ j, hI (wI ha 15 (6 * E.length + 3) (n32 (q 3))) 14 j = hI h 14 j := by
    intro j; rw [hI_wI, if_neg (by omega)]; exact g14 j
  have jb : hJ (wI ha 15 (6 * E.length + 3) (n32 (q 3))) = hJ h := by rw [hJ_wI]; exact ja
  generalize wI ha 15 (6 * E.length + 3) (n32 (q 3)) = hb' at fb gb gb14 jb
  unfold m_X5_bitsBehind
  rw [far hb' fb, n32_ix (show 6 * k + 4 < 2147483648 by omega), w4, n32_bh o4 hb, n32_ix (show 6 * E.length + 4 < 2147483648 by omega)]
  refine ⟨vpI (by omega) (by decide), vpI (by omega) (by decide), ?_⟩
  have fc : fr SEn h (wI hb' 15 (6 * E.length + 4) (n32 (bh (q 4) bf))) := fr_wI fb _ (by unfold SEn; omega)
  have gc : ∀ j, hI (wI hb' 15 (6 * E.length + 4) (n32 (bh (q 4) bf))) 15 j = if j = 6 * E.length + 4 then n32 (bh (q 4) bf) else hI hb' 15 j := by
    intro j; rw [hI_wI]; simp only [true_and]
  have gc14 : ∀ j, hI (wI hb' 15 (6 * E.length + 4) (n32 (bh (q 4) bf))) 14 j = hI h 14 j := by
    intro j; rw [hI_wI, if_neg (by omega)]; exact gb14 j
  have jc : hJ (wI hb' 15 (6 * E.length + 4) (n32 (bh (q 4) bf))) = hJ h := by rw [hJ_wI]; exact jb
  generalize wI hb' 15 (6 * E.length + 4) (n32 (bh (q 4) bf)) = hc at fc gc gc14 jc
  rw [far hc fc, n32_ix (show 6 * k + 5 < 2147483648 by omega), w5, n32_bh o5 hb, n32_ix (show 6 * E.length + 5 < 2147483648 by omega)]
  have fd : fr SEn h (wI hc 15 (6 * E.length + 5) (n32 (bh (q 5) bf))) := fr_wI fc _ (by unfold SEn; omega)
  have gd : ∀ j, hI (wI hc 15 (6 * E.length + 5) (n32 (bh (q 5) bf))) 15 j = if j = 6 * E.length + 5 then n32 (bh (q 5) bf) else hI hc 15 j := by
    intro j; rw [hI_wI]; simp only [true_and]
  have gd14 : ∀ j, hI (wI hc 15 (6 * E.length + 5) (n32 (bh (q 5) bf))) 14 j = hI h 14 j := by
    intro j; rw [hI_wI, if_neg (by omega)]; exact gc14 j
  have jd : hJ (wI hc 15 (6 * E.length + 5) (n32 (bh (q 5) bf))) = hJ h := by rw [hJ_wI]; exact jc
  have g0 : ∀ j, j < 6 * E.length → hI (wI hc 15 (6 * E.length + 5) (n32 (bh (q 5) bf))) 15 j = hI h 15 j := by
    intro j hj
    rw [gd, if_neg (by omega), gc, if_neg (by omega), gb, if_neg (by omega), ga, if_neg (by omega), if_neg (by omega), if_neg (by omega)]
  have g1 : ∀ j, j < 6 → hI (wI hc 15 (6 * E.length + 5) (n32 (bh (q 5) bf))) 15 (6 * E.length + j) = n32 (enR (aF x) bf q j) := by
    intro j hj
    rcases (show j = 0 ∨ j = 1 ∨ j = 2 ∨ j = 3 ∨ j = 4 ∨ j = 5 by omega) with rfl | rfl | rfl | rfl | rfl | rfl
    · rw [gd, if_neg (by omega), gc, if_neg (by omega), gb, if_neg (by omega), ga, if_neg (by omega), if_neg (by omega), if_pos (by omega)]; rfl
    · rw [gd, if_neg (by omega), gc, if_neg (by omega), gb, if_neg (by omega), ga, if_neg (by omega), if_pos rfl]; rfl
    · rw [gd, if_neg (by omega), gc, if_neg (by omega), gb, if_neg (by omega), ga, if_pos rfl]; rfl
    · rw [gd, if_neg (by omega), gc, if_neg (by omega), gb, if_pos rfl]; rfl
    · rw [gd, if_neg (by omega), gc, if_pos rfl]; rfl
    · rw [gd, if_pos rfl]; rfl
  have fin := c_putLast (Q := fun h' => Q ((1 <<< (n32 (aF x (q 1)) &&& 31)) ||| (1 <<< (n32 (aF x (q 2)) &&& 31))) h') (e := enR (aF x) bf q) (a := da d) (k := k) A Ab Ok h216 h108 (bh_lt o4 hb) fd g0 g1 gd14 jd w6 (fun h' f' A' b' => by
    rw [show (1 : Int32) = n32 1 from rfl, show (31 : Int32) = n32 31 from rfl, shl1 (by omega), shl1 (by omega), n32_or (by have := pw_le (show aF x (q 1) ≤ 7 by omega); omega) (by have := pw_le (show aF x (q 2) ≤ 7 by omega); omega)]
    exact k1 kp h' f' A' b')
  exact ⟨vpI (by omega) (by decide), vpI (by omega) (by decide), vpI hk (by decide), fin⟩
