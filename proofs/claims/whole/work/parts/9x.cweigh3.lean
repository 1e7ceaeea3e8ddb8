/-! THE CLASS: a bundle is weighed by a code, the walk -/
/-- the coin of what came till now is of days till here -/
def dvOk (C : List Rec) (dv : Nat) : Prop := (dv = 0 → ∀ e ∈ C, e 3 ≠ 0) ∧ (dv ≠ 0 → ∀ e ∈ C, e 3 = 0 → e 0 + 1 ≤ dv) ∧ dv ≤ 3000
theorem sqU_end {C : List Rec} {dv m f : Nat} (O : dvOk C dv) (hm : dv ≤ m) : sqU C f m = sqU C f (dv - 1) ++ (if nE C f 0 dv = 0 then [] else [(dv - 1, nE C f 0 dv)]) := by
  obtain ⟨o1, o2, -⟩ := O
  by_cases z : dv = 0
  · subst z
    have e1 := sqU_far (C := C) (f := f) (m := 0) (fun e he y => absurd y (o1 rfl e he)) m
    rw [Nat.zero_add] at e1
    have e2 : nE C f 0 0 = 0 := nE_none (fun e he y => o1 rfl e he y.1)
    rw [e1, e2, if_pos rfl, List.append_nil]
  · have e1 := sqU_far (C := C) (f := f) (m := dv) (fun e he y => by have := o2 z e he y; omega) (m - dv)
    rw [show dv + (m - dv) = m by omega] at e1
    have e2 := sqU_succ C f (dv - 1)
    rw [show dv - 1 + 1 = dv by omega] at e2
    rw [e1, e2]
theorem c_dayEnd {E C : List Rec} {dv m : Nat} {h : Hp} {Q : Hp → Prop} (A : EnA E h) (hc : ∀ e ∈ C, e ∈ E) (hC : ∀ e ∈ C, EnOk e) (hl : C.length ≤ 216) (O : dvOk C dv) (hm : dv ≤ m) (D : DyA (fun f => nE C f 0 dv) h) {up : Nat → Nat} (B : BkA (fun f => sqU C f (dv - 1)) up h) (U : upOk C (fun f => sqU C f (dv - 1)) up)
    (k : ∀ h', fr SDe h h' → DyA (fun _ => 0) h' → (∃ up', BkA (fun f => sqU C f m) up' h' ∧ upOk C (fun f => sqU C f m) up') → Q h') : m_X5_endDay (pm dv) h Q := by
  obtain ⟨o1, o2, o3⟩ := id O
  have ab : ∀ f t dd, -2160000000000 ≤ nE C f t dd ∧ nE C f t dd ≤ 2160000000000 := fun f t dd => by
    have := nE_abs f t dd hC; omega
  have z0 : dv = 0 → ∀ f, f < 8 → nE C f 0 dv = 0 := fun z f _ => by
    subst z; exact nE_none (fun e he y => o1 rfl e he y.1)
  refine c_endDay (dy := dv - 1) A.pr D (fun f hf hp => nE_off_prs hf hp hc) B (fun f _ => by have := ab f 0 dv; omega) (fun f _ => ?_) (fun f hf z => ?_) (by omega) (fun f _ z => by have := sqU_last z; omega) (fun h' ub f' D' u1 u2 B' => ?_)
  · have s := sqU_sum C f (b := 2160000000000) (fun dd => ab f 0 dd) (dv - 1)
    have : (((dv - 1 : Nat) : Int)) ≤ 3000 := by omega
    omega
  · have : dv ≠ 0 := fun w => z (z0 w f hf)
    exact pm_n32 (by omega)
  · exact k h' f' D' ⟨_, B'.congr (fun f hf => ⟨sqU_end O hm, rfl⟩), U.day u1 u2 z0 (fun f => sqU_end O hm)⟩
theorem SDe_SWg : ∀ a k, SDe a k → SWg a k := by unfold SDe SWg; omega
theorem EnA.mv {E : List Rec} {S : Nat → Nat → Prop} {h h' : Hp} (A : EnA E h) (f : fr S h h') (n1 : ¬ S 14 3 ∧ ¬ S 14 4 ∧ ¬ S 14 6) (n2 : ∀ k, ¬ S 15 k ∧ ¬ S 16 k ∧ ¬ S 17 k) : EnA E h' :=
  ⟨A.1.mv f n1.1 (fun k => ⟨(n2 k).1, (n2 k).2.1⟩), by rw [f.I n1.2.1]; exact A.2.1, by rw [f.I n1.2.2]; exact A.2.2.1, fun k hk => by rw [f.I (n2 k).2.2]; exact A.2.2.2 k hk⟩
/-- what a weighing leaves, but for what isn't even -/
def WgF (C : List Rec) (h : Hp) : Prop := (∀ f t, f < 8 → t < 6 → t ≠ 0 → hJ h 19 (6 * f + t) = z64 (nE C f t 0)) ∧ DyA (fun _ => 0) h ∧ ∃ up, BkA (fun f => sqU C f 3000) up h ∧ upOk C (fun f => sqU C f 3000) up
theorem two_JR {h : Hp} {a p q : Nat} {m : Int} {A : Nat → Int} {R : Nat → Prop} (S : ∀ j, R j → hJ h a j = z64 (A j)) (hp : R p) (hq : R q) : ∀ j, R j → hJ (wJ (wJ h a p (z64 (A p) - z64 m)) a q (hJ (wJ h a p (z64 (A p) - z64 m)) a q + z64 m)) a j = z64 (A j + ((if j = q then m else 0) - (if j = p then m else 0))) := by
  intro j hj
  have e1 : ∀ i, R i → hJ (wJ h a p (z64 (A p) - z64 m)) a i = z64 (A i - (if i = p then m else 0)) := by
    intro i hi
    rw [hJ_wJ]
    by_cases y : i = p
    · rw [if_pos ⟨rfl, y⟩, if_pos y, y, z64_sub]
    · rw [if_neg (fun w => y w.2), if_neg y, Int.sub_zero]; exact S i hi
  rw [hJ_wJ, e1 q hq, z64_add]
  by_cases y : j = q
  · rw [if_pos ⟨rfl, y⟩, if_pos y, y]; congr 1; omega
  · rw [if_neg (fun w => y w.2), if_neg y, e1 j hj]; congr 1; omega
/-- coin passes today -/
theorem c_w127 {E pre rest : List Rec} {e : Rec} {c : Int32} {T : Nat → Int} {h : Hp} {v2 : Int32} {k43 : Int32 → Int32 → Int32 → Hp → Prop} {k240 : Int32 → Hp → Prop} {Q : Hp → Prop} (A : EnB E h) (eq : E = pre ++ e :: rest) (O : EnOk e) (D : DyA T h)
    (k : ∀ h', fr (fun a _ => a = 23) h h' → DyA (fun f => T f + shE f e) h' → k43 c v2 (n32 (pre.length + 1)) h') : m_X5_weigh_127 k43 k240 Q c v2 (n32 pre.length) (n32 (6 * pre.length)) h := by
  obtain ⟨r1, r2, r3⟩ := A.row eq
  obtain ⟨o0, o1, o2, o3, o4, o5, o6, o12, o60⟩ := O
  have c1 := r1 1 (by omega)
  have c2 := r1 2 (by omega)
  unfold m_X5_weigh_127 m_X5_weigh_234
  rw [show (1 : Int32) = n32 1 from rfl, show (2 : Int32) = n32 2 from rfl, n32_add, n32_add, n32_ix (show 6 * pre.length + 1 < 2147483648 by omega), n32_ix (show 6 * pre.length + 2 < 2147483648 by omega), c1, n32_ix (show e 1 < 2147483648 by omega), n32_ix (show pre.length < 2147483648 by omega), r2, D (e 1) o1, hI_wJ, c2, n32_ix (show e 2 < 2147483648 by omega)]
  have e16 : hJ (wJ h 23 (e 1) (z64 (T (e 1)) - z64 (e 6 : Nat))) 16 pre.length = z64 (e 6 : Nat) := by rw [hJ_wJ, if_neg (by omega)]; exact r2
  rw [e16]
  refine ⟨vpI (by omega) (by decide), vpI o1 (by decide), vpI r3 (by decide), vpI o1 (by decide), vpI (by omega) (by decide), vpI o2 (by decide), vpI r3 (by decide), vpI o2 (by decide), fun x5 e5 => ?_⟩
  rw [e5, n32_add]
  refine k _ (fr_wJ (fr_wJ (fr.rf (fun a _ => a = 23) h) _ rfl) _ rfl) (fun f hf => ?_)
  rw [two_JR (R := fun j => j < 8) (A := T) D o1 o2 f hf]
  dsimp only
  congr 2
  unfold shE
  by_cases y1 : e 2 = f
  · by_cases y2 : e 1 = f
    · rw [if_pos y1, if_pos y2, if_pos y1.symm, if_pos y2.symm]
    · rw [if_pos y1, if_neg y2, if_pos y1.symm, if_neg (fun w => y2 w.symm)]
  · by_cases y2 : e 1 = f
    · rw [if_neg y1, if_pos y2, if_neg (fun w => y1 w.symm), if_pos y2.symm]
    · rw [if_neg y1, if_neg y2, if_neg (fun w => y1 w.symm), if_neg (fun w => y2 w.symm)]
set_option maxHeartbeats 4000000 in
set_option maxRecDepth 100000 in
theorem c_weighLoop {E : List Rec} {c : Nat} {h0 : Hp} {Q : Hp → Prop} (A0 : EnA E h0) (Sd : E.Pairwise (fun a b => a 0 ≤ b 0)) (Ok : ∀ e ∈ E, EnOk e) (hc : c < 2147483648)
    (kE : ∀ h', fr SWg h0 h' → WgF (E.filter (psB c)) h' → m_X5_findUneven h' (fun (h4 : Hp) => Q h4)) :
    ∀ (rest pre : List Rec) (dv : Nat) (h : Hp), E = pre ++ rest → fr SWg h0 h → WgI (pre.filter (psB c)) dv h → dvOk (pre.filter (psB c)) dv → (dv ≠ 0 → ∃ e ∈ pre, e 0 + 1 = dv) → m_X5_weigh_43 (rest.length + 1) (m_X5_weigh_240 Q) Q (n32 c) (pm dv) (n32 pre.length) h := by
  intro rest
  induction rest with
  | nil =>
    intro pre dv h e f W O X
    rw [List.append_nil] at e
    have A := A0.mv f (by unfold SWg; omega) (by unfold SWg; omega)
    have l := A.1.2.1
    rw [m_X5_weigh_43, A.1.1, e, n32_le (by rw [← e]; omega) (by rw [← e]; omega)]
    refine ⟨fun _ => ?_, fun z => absurd (Nat.le_refl _) z⟩
    unfold m_X5_weigh_240
    obtain ⟨w1, w2, up, w3, w4⟩ := W
    have hsub : ∀ q ∈ pre.filter (psB c), q ∈ E := fun q hq => by rw [e]; exact (List.mem_filter.mp hq).1
    have hll := List.length_filter_le (psB c) pre
    rw [← e] at hll
    refine c_dayEnd (m := 3000) A hsub (fun q hq => Ok q (hsub q hq)) (by rw [e] at l; have := List.length_filter_le (psB c) pre; omega) O O.2.2 w2 w3 w4 (fun h1 f1 D1 B1 => ?_)
    refine kE h1 (f.trans (f1.mono SDe_SWg)) ⟨fun g t hg ht h0' => ?_, D1, ?_⟩
    · rw [f1.J (by unfold SDe; omega), e]; exact w1 g t hg ht h0'
    · rw [e]; exact B1
  | cons e rest ih =>
    intro pre dv h eq f W O X
    have A := A0.mv f (by unfold SWg; omega) (by unfold SWg; omega)
    have el : E.length = pre.length + (rest.length + 1) := by rw [eq]; simp
    have l := A.1.2.1
    obtain ⟨r1, r2, r3⟩ := A.1.row eq
    have oe := Ok e (by rw [eq]; simp)
    obtain ⟨o0, o1, o2, o3, o4, o5, o6, o12, o60⟩ := id oe
    obtain ⟨w1, w2, up, w3, w4⟩ := id W
    have srt : ∀ q ∈ pre, q 0 ≤ e 0 := by
      rw [eq, List.pairwise_append] at Sd
      exact fun q hq => Sd.2.2 q hq e (by simp)
    have c0 := r1 0 (by omega); have c1 := r1 1 (by omega); have c2 := r1 2 (by omega); have c3 := r1 3 (by omega); have c4 := r1 4 (by omega); have c5 := r1 5 (by omega)
    rw [Nat.add_zero] at c0
    have hsub : ∀ q ∈ pre.filter (psB c), q ∈ E := fun q hq => by rw [eq]; simp [(List.mem_filter.mp hq).1]
    have nx := ih (pre ++ [e])
    rw [List.length_append, List.filter_append] at nx
    rw [m_X5_weigh_43, A.1.1, n32_le (by omega) (by omega)]
    refine ⟨fun z => absurd z (by omega), fun _ => ?_⟩
    intro x6 e6
    rw [show (6 : Int32) = n32 6 from rfl, n32_mul, Nat.mul_comm pre.length 6] at e6
    subst e6
    rw [show (4 : Int32) = n32 4 from rfl, show (5 : Int32) = n32 5 from rfl, n32_add, n32_add, n32_ix (show 6 * pre.length + 4 < 2147483648 by omega), n32_ix (show 6 * pre.length + 5 < 2147483648 by omega), c4, c5, n32_and hc (by omega), n32_eq (Nat.lt_of_le_of_lt Nat.and_le_left hc) (by omega)]
    refine ⟨vpI (by omega) (by decide), vpI (by omega) (by decide), fun p => ?_, fun p => ?_⟩
    · -- it passes
      have pt : psB c e = true := by unfold psB; exact decide_eq_true p
      have ef : List.filter (psB c) [e] = [e] := by rw [List.filter_cons, if_pos pt]; rfl
      rw [ef] at nx
      rw [show (3 : Int32) = n32 3 from rfl, n32_add, n32_ix (show 6 * pre.length + 3 < 2147483648 by omega), c3]
      refine ⟨vpI (by omega) (by decide), fun x7 e7 => ?_⟩
      subst e7
      rw [show (0 : Int32) = n32 0 from rfl, n32_eq (by omega) (by decide)]
      refine ⟨fun nz => ?_, fun cz => ?_⟩
      · -- a thing
        rw [show (1 : Int32) = n32 1 from rfl, show (2 : Int32) = n32 2 from rfl, show (6 : Int32) = n32 6 from rfl, n32_add, n32_add, n32_ix (show 6 * pre.length + 1 < 2147483648 by omega), n32_ix (show 6 * pre.length + 2 < 2147483648 by omega), c1, n32_mul, n32_add, n32_ix (show e 1 * 6 + e 3 < 2147483648 by omega), n32_ix (show pre.length < 2147483648 by omega), r2, hI_wJ, c2, n32_mul, n32_add, n32_ix (show e 2 * 6 + e 3 < 2147483648 by omega)]
        have s19 : ∀ j, (j < 48 ∧ j % 6 ≠ 0) → hJ h 19 j = z64 (nE (pre.filter (psB c)) (j / 6) (j % 6) 0) := by
          intro j hj
          have := w1 (j / 6) (j % 6) (by omega) (by omega) hj.2
          rw [show 6 * (j / 6) + j % 6 = j by omega] at this
          exact this
        have h1 : hJ h 19 (e 1 * 6 + e 3) = z64 (nE (pre.filter (psB c)) ((e 1 * 6 + e 3) / 6) ((e 1 * 6 + e 3) % 6) 0) := s19 _ ⟨by omega, by omega⟩
        rw [h1]
        have e16 : hJ (wJ h 19 (e 1 * 6 + e 3) (z64 (nE (pre.filter (psB c)) ((e 1 * 6 + e 3) / 6) ((e 1 * 6 + e 3) % 6) 0) - z64 (e 6 : Nat))) 16 pre.length = z64 (e 6 : Nat) := by rw [hJ_wJ, if_neg (by omega)]; exact r2
        rw [e16]
        refine ⟨vpI (by omega) (by decide), vpI (by omega) (by decide), vpI r3 (by decide), vpI (by omega) (by decide), vpI (by omega) (by decide), vpI (by omega) (by decide), vpI r3 (by decide), vpI (by omega) (by decide), ?_⟩
        unfold m_X5_weigh_234
        intro x5 e5
        rw [e5, show n32 pre.length + 1 = n32 (pre.length + 1) from n32_add _ 1]
        have TJ := two_JR (h := h) (a := 19) (p := e 1 * 6 + e 3) (q := e 2 * 6 + e 3) (m := (e 6 : Nat)) (R := fun j => j < 48 ∧ j % 6 ≠ 0) (A := fun j => nE (pre.filter (psB c)) (j / 6) (j % 6) 0) s19 ⟨by omega, by omega⟩ ⟨by omega, by omega⟩
        have fr2 : fr (fun a _ => a = 19) h (wJ (wJ h 19 (e 1 * 6 + e 3) (z64 (nE (pre.filter (psB c)) ((e 1 * 6 + e 3) / 6) ((e 1 * 6 + e 3) % 6) 0) - z64 (e 6 : Nat))) 19 (e 2 * 6 + e 3) (hJ (wJ h 19 (e 1 * 6 + e 3) (z64 (nE (pre.filter (psB c)) ((e 1 * 6 + e 3) / 6) ((e 1 * 6 + e 3) % 6) 0) - z64 (e 6 : Nat))) 19 (e 2 * 6 + e 3) + z64 (e 6 : Nat))) := fr_wJ (fr_wJ (fr.rf (fun a _ => a = 19) h) _ rfl) _ rfl
        generalize wJ (wJ h 19 (e 1 * 6 + e 3) (z64 (nE (pre.filter (psB c)) ((e 1 * 6 + e 3) / 6) ((e 1 * 6 + e 3) % 6) 0) - z64 (e 6 : Nat))) 19 (e 2 * 6 + e 3) (hJ (wJ h 19 (e 1 * 6 + e 3) (z64 (nE (pre.filter (psB c)) ((e 1 * 6 + e 3) / 6) ((e 1 * 6 + e 3) % 6) 0) - z64 (e 6 : Nat))) 19 (e 2 * 6 + e 3) + z64 (e 6 : Nat)) = h2 at TJ fr2
        have off : ∀ g dd, nE (pre.filter (psB c) ++ [e]) g 0 dd = nE (pre.filter (psB c)) g 0 dd := fun g dd => nE_off (fun w => nz w.1)
        have sqe : ∀ g m, sqU (pre.filter (psB c) ++ [e]) g m = sqU (pre.filter (psB c)) g m := fun g m => sqU_same (fun d _ => off g (d + 1))
        refine nx dv h2 (by rw [eq]; simp) (f.trans (fr2.mono (by unfold SWg; omega))) ⟨fun g t hg ht h0' => ?_, fun g hg => ?_, up, (w3.mv fr2 (by omega) (by omega)).congr (fun g _ => ⟨sqe g _, rfl⟩), fun g hg q s hs => ?_⟩ ⟨fun z q hq => ?_, fun z q hq hq3 => ?_, O.2.2⟩ (fun z => ?_)
        · rw [TJ (6 * g + t) ⟨by omega, by omega⟩]
          rw [show (6 * g + t) / 6 = g by omega, show (6 * g + t) % 6 = t by omega, nE_app, nE_one]
          congr 2
          unfold shE
          by_cases et : e 3 = t
          · rw [if_pos (show e 3 = t ∧ (0 = 0 ∨ e 0 + 1 = 0) from ⟨et, Or.inl rfl⟩)]
            have k2 : (6 * g + t = e 2 * 6 + e 3) ↔ e 2 = g := by omega
            have k1 : (6 * g + t = e 1 * 6 + e 3) ↔ e 1 = g := by omega
            by_cases y1 : e 2 = g
            · by_cases y2 : e 1 = g
              · rw [if_pos (k2.mpr y1), if_pos (k1.mpr y2), if_pos y1, if_pos y2]
              · rw [if_pos (k2.mpr y1), if_neg (fun w => y2 (k1.mp w)), if_pos y1, if_neg y2]
            · by_cases y2 : e 1 = g
              · rw [if_neg (fun w => y1 (k2.mp w)), if_pos (k1.mpr y2), if_neg y1, if_pos y2]
              · rw [if_neg (fun w => y1 (k2.mp w)), if_neg (fun w => y2 (k1.mp w)), if_neg y1, if_neg y2]
          · rw [if_neg (show ¬ (e 3 = t ∧ (0 = 0 ∨ e 0 + 1 = 0)) from fun w => et w.1), if_neg (show ¬ (6 * g + t = e 2 * 6 + e 3) by omega), if_neg (show ¬ (6 * g + t = e 1 * 6 + e 3) by omega)]; rfl
        · rw [fr2.J (by omega), w2 g hg]
          dsimp only
          rw [off]
        · dsimp only at hs
          rw [sqe] at hs
          obtain ⟨u1, u2⟩ := w4 g hg q s hs
          exact ⟨u1, fun b hb => by rw [u2 b hb, off]⟩
        · rw [List.mem_append, List.mem_singleton] at hq
          rcases hq with hq | rfl
          · exact O.1 z q hq
          · exact nz
        · rw [List.mem_append, List.mem_singleton] at hq
          rcases hq with hq | rfl
          · exact O.2.1 z q hq hq3
          · exact absurd hq3 nz
        · obtain ⟨q, hq1, hq2⟩ := X z
          exact ⟨q, by simp [hq1], hq2⟩
      · -- coin
        rw [n32_add, Nat.add_zero, n32_ix (show 6 * pre.length < 2147483648 by omega), c0]
        have e1' : (n32 (e 0) = pm dv) ↔ e 0 + 1 = dv := n_eqpm (by omega) (by have := O.2.2; omega)
        have dvle : dv ≤ e 0 + 1 := by
          by_cases z : dv = 0
          · omega
          · obtain ⟨q, hq1, hq2⟩ := X z
            have := srt q hq1; omega
        refine ⟨vpI (by omega) (by decide), fun y => ?_, fun y => ?_⟩
        · -- the same day
          have yd := e1'.mp y
          refine c_w127 A.1 eq oe w2 (fun h2 f2 D2 => ?_)
          have off : ∀ g t dd, ¬ (0 = t ∧ (dd = 0 ∨ dv = dd)) → nE (pre.filter (psB c) ++ [e]) g t dd = nE (pre.filter (psB c)) g t dd := fun g t dd w => nE_off (fun v => w ⟨by rw [← cz]; exact v.1, by rw [← yd]; exact v.2⟩)
          have sqe : ∀ g, sqU (pre.filter (psB c) ++ [e]) g (dv - 1) = sqU (pre.filter (psB c)) g (dv - 1) := fun g => sqU_same (fun d hd => off g 0 (d + 1) (by omega))
          refine nx dv h2 (by rw [eq]; simp) (f.trans (f2.mono (by unfold SWg; omega))) ⟨fun g t hg ht h0' => ?_, fun g hg => ?_, up, (w3.mv f2 (by omega) (by omega)).congr (fun g _ => ⟨sqe g, rfl⟩), fun g hg q s hs => ?_⟩ ⟨fun z => absurd z (by omega), fun z q hq hq3 => ?_, O.2.2⟩ (fun z => ⟨e, by simp, yd⟩)
          · rw [f2.J (by omega), w1 g t hg ht h0', off g t 0 (fun w => h0' w.1.symm)]
          · rw [D2 g hg]
            dsimp only
            rw [nE_app, nE_one, if_pos ⟨cz, Or.inr yd⟩]
          · dsimp only at hs
            rw [sqe] at hs
            obtain ⟨u1, u2⟩ := w4 g hg q s hs
            have ql := (sqU_mem (C := pre.filter (psB c)) (f := g) (m := dv - 1) (q := q) (by rw [hs]; simp)).1
            exact ⟨u1, fun b hb => by rw [u2 b hb, off b 0 (q.1 + 1) (by omega)]⟩
          · rw [List.mem_append, List.mem_singleton] at hq
            rcases hq with hq | rfl
            · exact O.2.1 z q hq hq3
            · omega
        · -- another day
          have yd : ¬ e 0 + 1 = dv := fun w => y (e1'.mpr w)
          have hll := List.length_filter_le (psB c) pre
          refine c_dayEnd (m := e 0) A hsub (fun q hq => Ok q (hsub q hq)) (by omega) O (by omega) w2 w3 w4 (fun h2 f2 D2 B2 => ?_)
          obtain ⟨up2, B2, U2⟩ := B2
          have A2 := A.mv f2 (by unfold SDe; omega) (by unfold SDe; omega)
          refine ⟨vpI (by omega) (by decide), fun x10 e10 => ?_⟩
          have c0' := (A2.1.row eq).1 0 (by omega)
          rw [Nat.add_zero] at c0'
          rw [c0'] at e10
          subst e10
          refine c_w127 A2.1 eq oe D2 (fun h3 f3 D3 => ?_)
          have zero : ∀ g, nE (pre.filter (psB c)) g 0 (e 0 + 1) = 0 := by
            intro g
            refine nE_none (fun q hq w => ?_)
            by_cases z : dv = 0
            · exact O.1 z q hq w.1
            · have := O.2.1 z q hq w.1; omega
          have off : ∀ g t dd, ¬ (0 = t ∧ (dd = 0 ∨ e 0 + 1 = dd)) → nE (pre.filter (psB c) ++ [e]) g t dd = nE (pre.filter (psB c)) g t dd := fun g t dd w => nE_off (fun v => w ⟨by rw [← cz]; exact v.1, v.2⟩)
          have sqe : ∀ g, sqU (pre.filter (psB c) ++ [e]) g (e 0) = sqU (pre.filter (psB c)) g (e 0) := fun g => sqU_same (fun d hd => off g 0 (d + 1) (by omega))
          have fr3 := (f.trans (f2.mono SDe_SWg)).trans (f3.mono (S' := SWg) (by unfold SWg; omega))
          rw [show n32 (e 0) = pm (e 0 + 1) from rfl]
          refine nx (e 0 + 1) h3 (by rw [eq]; simp) fr3 ⟨fun g t hg ht h0' => ?_, fun g hg => ?_, up2, (B2.mv f3 (by omega) (by omega)).congr (fun g _ => ⟨sqe g, rfl⟩), fun g hg q s hs => ?_⟩ ⟨fun z => absurd z (by omega), fun z q hq hq3 => ?_, by omega⟩ (fun z => ⟨e, by simp, rfl⟩)
          · rw [f3.J (by omega), f2.J (by unfold SDe; omega), w1 g t hg ht h0', off g t 0 (fun w => h0' w.1.symm)]
          · rw [D3 g hg]
            dsimp only
            rw [nE_app, nE_one, if_pos ⟨cz, Or.inr rfl⟩, zero]
          · have hs' : sqU (pre.filter (psB c)) g (e 0) = q :: s := by rw [← sqe]; exact hs
            obtain ⟨u1, u2⟩ := U2 g hg q s hs'
            have ql := (sqU_mem (C := pre.filter (psB c)) (f := g) (m := e 0) (q := q) (by rw [hs']; simp)).1
            exact ⟨u1, fun b hb => by rw [u2 b hb, off b 0 (q.1 + 1) (by omega)]⟩
          · rw [List.mem_append, List.mem_singleton] at hq
            rcases hq with hq | rfl
            · by_cases z0 : dv = 0
              · exact absurd hq3 (O.1 z0 q hq)
              · have := O.2.1 z0 q hq hq3; omega
            · exact Nat.le_refl _
    · -- it doesn't pass
      have pf : psB c e = false := by unfold psB; exact decide_eq_false p
      have ef : List.filter (psB c) [e] = [] := by rw [List.filter_cons, if_neg (by rw [pf]; simp)]; rfl
      rw [ef, List.append_nil] at nx
      unfold m_X5_weigh_234
      intro x5 e5
      rw [e5, show n32 pre.length + 1 = n32 (pre.length + 1) from n32_add _ 1]
      refine nx dv h (by rw [eq]; simp) f W O (fun z => ?_)
      obtain ⟨q, hq1, hq2⟩ := X z
      exact ⟨q, by simp [hq1], hq2⟩
