/-! THE CLASS: entries by a code, and what families have of them -/
def shE (f : Nat) (e : Rec) : Int := (if e 2 = f then (e 6 : Int) else 0) - (if e 1 = f then (e 6 : Int) else 0)
/-- a sum over entries: of a thing, on a day (one more; 0: all) -/
def nE (C : List Rec) (f t dd : Nat) : Int := (C.map (fun e => if e 3 = t ∧ (dd = 0 ∨ e 0 + 1 = dd) then shE f e else 0)).sum
theorem nE_app (C D : List Rec) (f t dd : Nat) : nE (C ++ D) f t dd = nE C f t dd + nE D f t dd := by unfold nE; rw [List.map_append, List.sum_append]
theorem nE_one (e : Rec) (f t dd : Nat) : nE [e] f t dd = if e 3 = t ∧ (dd = 0 ∨ e 0 + 1 = dd) then shE f e else 0 := by
  unfold nE; rw [List.map_cons, List.map_nil, List.sum_cons, List.sum_nil, Int.add_zero]
theorem perm_sum {α : Type} {l m : List α} (f : α → Int) (p : l.Perm m) : (l.map f).sum = (m.map f).sum := by
  induction p with
  | nil => rfl
  | cons a _ ih => rw [List.map_cons, List.map_cons, List.sum_cons, List.sum_cons, ih]
  | swap a b l => simp only [List.map_cons, List.sum_cons]; omega
  | trans _ _ h1 h2 => exact h1.trans h2
theorem nE_perm {C D : List Rec} (p : C.Perm D) (f t dd : Nat) : nE C f t dd = nE D f t dd := perm_sum _ p
theorem nE_flat {L : List Nat} {g : Nat → List Rec} {f t dd : Nat} : nE (L.flatMap g) f t dd = (L.map (fun i => nE (g i) f t dd)).sum := by
  induction L with
  | nil => rfl
  | cons j L ih => rw [List.flatMap_cons, nE_app, List.map_cons, List.sum_cons, ih]
theorem netG_flat {F : Nat → Nat} {L : List Nat} {g : Nat → List Rec} {f t dd : Nat} : netG F (L.flatMap g) f t dd = (L.map (fun i => netG F (g i) f t dd)).sum := by
  induction L with
  | nil => rfl
  | cons j L ih => rw [List.flatMap_cons, netG_app, List.map_cons, List.sum_cons, ih]
theorem bRows_flat (D : List Dl) (c : Nat) : ∀ (l : List Nat) (bf : Nat), bRows D l c bf = (List.range l.length).flatMap (fun i => dlRows (dL D (l.getD i 0)) (own c (bf + bChs D (l.take i))))
  | [], _ => rfl
  | d :: l, bf => by
    rw [bRows, bRows_flat D c l, List.length_cons, List.range_succ_eq_map, List.flatMap_cons]
    congr 1
    rw [List.flatMap_map]
    refine fm_congr (fun i _ => ?_)
    show dlRows (dL D (l.getD i 0)) _ = dlRows (dL D (l.getD i 0)) (own c (bf + bChs D (d :: l.take i)))
    congr 2
    simp [bChs]; omega
theorem psE {F : Nat → Nat} {c bf : Nat} {q : Rec} : psB c (enR F bf q) = psB (own c bf) q := by
  unfold psB
  have := bh_ps (c := c) (m := q 4) (v := q 5) (bf := bf)
  by_cases z : own c bf &&& q 4 = q 5
  · rw [decide_eq_true z]; exact decide_eq_true (this.mp z)
  · rw [decide_eq_false z]; exact decide_eq_false (fun y => z (this.mpr y))
theorem one_deal {F : Nat → Nat} {c bf f t dd : Nat} : ∀ (R : List Rec), nE (((R.filter (keepB F)).map (enR F bf)).filter (psB c)) f t dd = netG F ((R.filter (psB (own c bf))).map un) f t dd
  | [] => rfl
  | q :: R => by
    have ih := one_deal (F := F) (c := c) (bf := bf) (f := f) (t := t) (dd := dd) R
    obtain ⟨u0, u1, u2, u3, u4⟩ := un_f q
    have val : netG F [un q] f t dd = if q 3 = t ∧ (dd = 0 ∨ q 0 + 1 = dd) then ((if F (q 2) = f then (q 6 : Int) else 0) - (if F (q 1) = f then (q 6 : Int) else 0)) else 0 := by
      unfold netG
      rw [List.map_cons, List.map_nil, List.sum_cons, List.sum_nil, Int.add_zero]
      unfold shr
      rw [u0, u1, u2, u3, u4]
    have ec : ∀ (X : List Rec) (y : Rec), y :: X = [y] ++ X := fun _ _ => rfl
    rw [List.filter_cons (p := psB (own c bf)), List.filter_cons (p := keepB F)]
    by_cases p : psB (own c bf) q = true
    · rw [if_pos p]
      rw [List.map_cons, ec (List.map un _), netG_app, val, ← ih]
      by_cases kp : keepB F q = true
      · rw [if_pos kp, List.map_cons, List.filter_cons, psE, if_pos p, ec, nE_app, nE_one]
        rfl
      · rw [if_neg kp]
        have kf : F (q 1) = F (q 2) ∨ q 6 = 0 := by
          unfold keepB at kp
          simp only [decide_eq_true_eq, ne_eq] at kp
          omega
        have z : (if q 3 = t ∧ (dd = 0 ∨ q 0 + 1 = dd) then ((if F (q 2) = f then (q 6 : Int) else 0) - (if F (q 1) = f then (q 6 : Int) else 0)) else 0) = 0 := by
          split
          · rcases kf with kf | kf
            · rw [kf]; omega
            · rw [kf]; simp
          · rfl
        rw [z, Int.zero_add]
    · rw [if_neg p]
      by_cases kp : keepB F q = true
      · rw [if_pos kp, List.map_cons, List.filter_cons, psE, if_neg p, ih]
      · rw [if_neg kp, ih]
/-- entries by a code are the bundle's rows -/
theorem nE_rows {x : Ab} {l : List Nat} {E : List Rec} (T : TkP x l E) (c f t dd : Nat) : nE (E.filter (psB c)) f t dd = netG (aF x) (bRows (aD x) l c 0) f t dd := by
  rw [nE_perm (T.1.filter _)]
  unfold bAll
  rw [bRows_flat, netG_flat]
  have : ((List.range l.length).flatMap (fun i => ((cRows (dL (aD x) (l.getD i 0))).filter (keepB (aF x))).map (enR (aF x) (bChs (aD x) (l.take i))))).filter (psB c) = (List.range l.length).flatMap (fun i => (((cRows (dL (aD x) (l.getD i 0))).filter (keepB (aF x))).map (enR (aF x) (bChs (aD x) (l.take i)))).filter (psB c)) := by
    generalize List.range l.length = L
    induction L with
    | nil => rfl
    | cons j L ih => rw [List.flatMap_cons, List.flatMap_cons, List.filter_append, ih]
  rw [this, nE_flat]
  congr 1
  apply List.map_congr_left
  intro i _
  rw [one_deal, dl_c, Nat.zero_add]
/-- the days till m on which a family's coin isn't even -/
def sqU (C : List Rec) (f m : Nat) : List (Nat × Int) := ((List.range m).map (fun d => (d, nE C f 0 (d + 1)))).filter (fun q => q.2 != 0)
theorem sqU_succ (C : List Rec) (f m : Nat) : sqU C f (m + 1) = sqU C f m ++ (if nE C f 0 (m + 1) = 0 then [] else [(m, nE C f 0 (m + 1))]) := by
  unfold sqU
  rw [List.range_succ, List.map_append, List.filter_append, List.map_cons, List.map_nil, List.filter_cons, List.filter_nil]
  by_cases q : nE C f 0 (m + 1) = 0
  · rw [if_pos q, q]; rfl
  · rw [if_neg q, if_pos (by simpa using q)]
theorem sqU_seqN {x : Ab} {l : List Nat} {E : List Rec} (T : TkP x l E) (c f : Nat) : sqU (E.filter (psB c)) f 3000 = seqN (aF x) (bRows (aD x) l c 0) f := by
  unfold sqU seqN
  have e : (List.range 3000).map (fun d => (d, nE (E.filter (psB c)) f 0 (d + 1))) = (List.range 3000).map (fun d => (d, netD (aF x) (bRows (aD x) l c 0) f 0 d)) := List.map_congr_left (fun d _ => by rw [nE_rows T, netGD])
  rw [e]
theorem nE_none {C : List Rec} {f t dd : Nat} (h : ∀ e ∈ C, ¬ (e 3 = t ∧ (dd = 0 ∨ e 0 + 1 = dd))) : nE C f t dd = 0 := by
  induction C with
  | nil => rfl
  | cons e C ih =>
    have : e :: C = [e] ++ C := rfl
    rw [this, nE_app, nE_one, if_neg (h e (by simp)), ih (fun q hq => h q (by simp [hq]))]; rfl
theorem sqU_far {C : List Rec} {f m : Nat} (h : ∀ e ∈ C, e 3 = 0 → e 0 < m) : ∀ j, sqU C f (m + j) = sqU C f m
  | 0 => rfl
  | j + 1 => by
    rw [← Nat.add_assoc, sqU_succ, sqU_far h j, nE_none (fun e he z => by have := h e he z.1; omega), if_pos rfl, List.append_nil]
theorem sqU_same {C D : List Rec} {f : Nat} : ∀ {m : Nat}, (∀ d, d < m → nE D f 0 (d + 1) = nE C f 0 (d + 1)) → sqU D f m = sqU C f m
  | 0, _ => rfl
  | m + 1, h => by rw [sqU_succ, sqU_succ, sqU_same (fun d hd => h d (by omega)), h m (by omega)]
/-- a day comes to its end -/
theorem sqU_day {C0 C1 : List Rec} {f dy : Nat} (h0 : ∀ e ∈ C0, e 3 = 0 → e 0 < dy) (h1 : ∀ e ∈ C1, e 3 = 0 → e 0 = dy) (hd : dy < 3000) : sqU (C0 ++ C1) f 3000 = sqU C0 f 3000 ++ (if nE C1 f 0 (dy + 1) = 0 then [] else [(dy, nE C1 f 0 (dy + 1))]) := by
  have a1 := sqU_far (C := C0 ++ C1) (f := f) (m := dy + 1) (fun e he z => by
    rcases List.mem_append.mp he with y | y
    · have := h0 e y z; omega
    · have := h1 e y z; omega) (3000 - (dy + 1))
  have a2 := sqU_far (C := C0) (f := f) (m := dy) h0 (3000 - dy)
  rw [show dy + 1 + (3000 - (dy + 1)) = 3000 by omega] at a1
  rw [show dy + (3000 - dy) = 3000 by omega] at a2
  rw [a1, a2, sqU_succ]
  have z0 : nE C0 f 0 (dy + 1) = 0 := nE_none (fun e he z => by have := h0 e he z.1; omega)
  have e : sqU (C0 ++ C1) f dy = sqU C0 f dy := sqU_same (fun d hd2 => by rw [nE_app, nE_none (C := C1) (fun e he z => by have := h1 e he z.1; omega), Int.add_zero])
  rw [nE_app, z0, Int.zero_add, e]
/-! what is told of a row of days, by its last one -/
def rise (s : List (Nat × Int)) : Bool := s.any (fun q => decide (0 < q.2))
def sumS (s : List (Nat × Int)) : Int := (s.map (fun q => q.2)).sum
def lastS (s : List (Nat × Int)) : Nat := match s.getLast? with | none => 0 | some q => q.1
theorem lastS_app (s : List (Nat × Int)) (q : Nat × Int) : lastS (s ++ [q]) = q.1 := by unfold lastS; rw [List.getLast?_append]; rfl
theorem sumS_app (s : List (Nat × Int)) (q : Nat × Int) : sumS (s ++ [q]) = sumS s + q.2 := by unfold sumS; rw [List.map_append, List.sum_append]; simp
theorem rise_app (s : List (Nat × Int)) (q : Nat × Int) : rise (s ++ [q]) = (rise s || decide (0 < q.2)) := by unfold rise; rw [List.any_append]; simp
theorem noFall_app : ∀ (s : List (Nat × Int)) (a : Bool) (q : Nat × Int), noFall a (s ++ [q]) = (noFall a s && !((a || rise s) && decide (q.2 < 0)))
  | [], a, q => by simp [noFall, rise]
  | p :: s, a, q => by
    rw [List.cons_append, noFall, noFall, noFall_app s]
    have e : rise (p :: s) = (decide (0 < p.2) || rise s) := by simp [rise]
    rw [e]
    show (_ && (_ && _)) = ((_ && _) && _)
    rw [Bool.and_assoc, show decide (p.2 > 0) = decide (0 < p.2) from rfl, Bool.or_assoc]
theorem lendDay_app {s : List (Nat × Int)} {q : Nat × Int} (h : s ≠ []) : lendDay (s ++ [q]) = none ↔ (lendDay s = none ∨ (rise s = true ∧ q.2 < 0)) := by
  cases s with
  | nil => exact absurd rfl h
  | cons p s =>
    rw [List.cons_append, lendDay, lendDay, noFall_app]
    have e : rise (p :: s) = (decide (0 < p.2) || rise s) := by simp [rise]
    by_cases p0 : 0 < p.2
    · rw [if_pos p0, if_pos p0]; simp
    · rw [if_neg p0, if_neg p0, e]
      simp only [Bool.false_or]
      cases noFall false s <;> cases rise s <;> by_cases q0 : q.2 < 0 <;> simp [p0, q0]
theorem lendDay_one (q : Nat × Int) : lendDay [q] = none ↔ 0 < q.2 := by
  rw [lendDay]
  by_cases p0 : 0 < q.2
  · rw [if_pos p0]; simp [p0]
  · rw [if_neg p0]; simp [noFall, p0]
theorem lendDay_first {s : List (Nat × Int)} {d : Nat} (h : lendDay s = some d) : ∃ q t, s = q :: t ∧ q.1 = d := by
  cases s with
  | nil => cases h
  | cons q t =>
    rw [lendDay] at h
    split at h
    · cases h
    · split at h
      · injection h with h; exact ⟨q, t, rfl, h⟩
      · cases h
theorem outS_app : ∀ (s : List (Nat × Int)) (c : Int) (d : Nat) (q : Nat × Int), outS c d (s ++ [q]) = outS c d s + (if c + sumS s < 0 then -(c + sumS s) * ((q.1 : Int) - (if s = [] then d else lastS s)) else 0)
  | [], c, d, q => by simp [outS, sumS]
  | p :: s, c, d, q => by
    rw [List.cons_append, outS, outS, outS_app s, Int.add_assoc]
    have e1 : sumS (p :: s) = p.2 + sumS s := by simp [sumS]
    rw [e1, ← Int.add_assoc]
    congr 2
    by_cases hs : s = []
    · subst hs
      simp [lastS]
    · have : lastS (p :: s) = lastS s := by
        unfold lastS
        cases s with
        | nil => exact absurd rfl hs
        | cons y s => rw [List.getLast?_cons_cons]
      rw [if_neg hs, if_neg (by simp), this]
