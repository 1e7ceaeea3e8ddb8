/-! ALL SETS THAT ARE SLY, AS THEY GROW -/
theorem tb_add {s i j : Nat} (h : s < 2 ^ i) : (s + 2 ^ i).testBit j = (s.testBit j || decide (i = j)) := by
  have e : s + 2 ^ i = s ||| 2 ^ i := by
    have := Nat.two_pow_add_eq_or_of_lt h 1
    rw [Nat.mul_one] at this
    rw [Nat.add_comm, this, Nat.or_comm]
  rw [e, tb_or]
theorem or_add {s i : Nat} (h : s < 2 ^ i) : s ||| 2 ^ i = s + 2 ^ i := by
  have := Nat.two_pow_add_eq_or_of_lt h 1
  rw [Nat.mul_one] at this
  rw [Nat.add_comm, this, Nat.or_comm]
theorem popK_add {s i : Nat} (h : s < 2 ^ i) : ∀ k, popK (s + 2 ^ i) k = popK s k + (if i < k then 1 else 0)
  | 0 => by simp [popK]
  | k + 1 => by
    rw [popK_succ, popK_succ, popK_add h k, bit_mod, bit_mod, tb_add h]
    by_cases e : i = k
    · subst e
      rw [Nat.testBit_lt_two_pow h]
      simp
    · by_cases q : i < k
      · rw [if_pos q, if_pos (show i < k + 1 by omega)]; simp [e]; omega
      · rw [if_neg q, if_neg (show ¬ i < k + 1 by omega)]; simp [e]
theorem pop_add {s i : Nat} (h : s < 2 ^ i) (hi : i < 24) : pop (s + 2 ^ i) = pop s + 1 := by
  have := popK_add h 24
  rw [if_pos hi] at this
  exact this
theorem popK_or (a b : Nat) : ∀ k, popK a k ≤ popK (a ||| b) k
  | 0 => Nat.le_refl _
  | k + 1 => by
    rw [popK_succ, popK_succ, bit_mod, bit_mod, Nat.testBit_or]
    have := popK_or a b k
    cases a.testBit k <;> cases b.testBit k <;> simp <;> omega
theorem subK_ext {off : List Nat} {a b : Nat} : ∀ {j : Nat}, (∀ i, i < j → a.testBit i = b.testBit i) → subK off a j = subK off b j
  | 0, _ => rfl
  | j + 1, h => by
    rw [subK_succ, subK_succ, subK_ext (fun i hi => h i (by omega)), h j (by omega)]
theorem subK_hi {off : List Nat} {a k : Nat} (h : a < 2 ^ k) : ∀ r, subK off a (k + r) = subK off a k
  | 0 => rfl
  | r + 1 => by
    rw [← Nat.add_assoc, subK_succ, Nat.testBit_lt_two_pow (Nat.lt_of_lt_of_le h (pw_le (by omega))), if_neg (by decide), subK_hi h r]
theorem subL_lo {off : List Nat} {a k : Nat} (h : a < 2 ^ k) (hk : k ≤ off.length) : subL off a = subK off a k := by
  unfold subL
  obtain ⟨r, e⟩ := Nat.exists_eq_add_of_le hk
  rw [e]
  exact subK_hi h r
theorem subL_add {off : List Nat} {s i : Nat} (h : s < 2 ^ i) (hi : i < off.length) : subL off (s + 2 ^ i) = subL off s ++ [off.getD i 0] := by
  have h1 : s + 2 ^ i < 2 ^ (i + 1) := by rw [Nat.pow_succ]; omega
  rw [subL_lo h1 (by omega), subL_lo h (by omega), subK_succ, if_pos (by rw [tb_add h]; simp)]
  congr 1
  exact subK_ext (fun j hj => by rw [tb_add h]; simp; omega)
abbrev lkd (x : Ab) (l : List Nat) : Prop := pop (bEvs (aD x) l) + bChs (aD x) l ≤ 8
/-- neither barred nor too much -/
def okB (x : Ab) (s : Nat) : Bool := !(bars1 (aF x) (lawS x) (lvs (aD x) (subL (aO x) s))) && decide (lkd x (subL (aO x) s))
def lnO (x : Ab) (s : Nat) : Bool := loanN (aF x) (aD x) (subL (aO x) s) != 0
theorem lkd_pre {x : Ab} {l : List Nat} : ∀ {m : List Nat}, lkd x (l ++ m) → lkd x l := by
  intro m h
  unfold lkd at h ⊢
  have e : bEvs (aD x) (l ++ m) = bEvs (aD x) l ||| bEvs (aD x) m := by
    have g : ∀ (m : List Nat) (a : Nat), m.foldl (fun b d => b ||| dE (aD x) d) a = a ||| m.foldl (fun b d => b ||| dE (aD x) d) 0 := by
      intro m
      induction m with
      | nil => intro a; simp
      | cons d m ih => intro a; rw [List.foldl_cons, List.foldl_cons, ih, ih (0 ||| dE (aD x) d), Nat.zero_or, Nat.or_assoc]
    unfold bEvs
    rw [List.foldl_append, g]
  have p : pop (bEvs (aD x) l) ≤ pop (bEvs (aD x) l ||| bEvs (aD x) m) := popK_or _ _ 24
  rw [e, bChs_app] at h
  omega
theorem subK_pre (off : List Nat) (a k : Nat) : ∀ r, ∃ m, subK off a (k + r) = subK off a k ++ m
  | 0 => ⟨[], by simp⟩
  | r + 1 => by
    obtain ⟨m, e⟩ := subK_pre off a k r
    rw [← Nat.add_assoc, subK_succ, e]
    split
    · exact ⟨_, List.append_assoc _ _ _⟩
    · exact ⟨m, rfl⟩
theorem okB_iff {x : Ab} {s : Nat} : okB x s = true ↔ bars1 (aF x) (lawS x) (lvs (aD x) (subL (aO x) s)) = false ∧ lkd x (subL (aO x) s) := by
  unfold okB; simp
theorem okB_mod {x : Ab} (nd : (aO x).Nodup) {s k : Nat} (hk : k ≤ (aO x).length) (h : okB x s = true) : okB x (s % 2 ^ k) = true := by
  rw [okB_iff] at h ⊢
  have e : subL (aO x) (s % 2 ^ k) = subK (aO x) s k := by
    rw [subL_lo (Nat.mod_lt _ (Nat.two_pow_pos k)) hk]
    exact subK_ext (fun i hi => by rw [Nat.testBit_mod_two_pow]; simp [hi])
  rw [e]
  constructor
  · have h1 := (let_sub nd (Nat.le_refl _)).mp h.1
    exact (let_sub nd hk).mpr (fun i hi => h1 i (by omega))
  · obtain ⟨r, er⟩ := Nat.exists_eq_add_of_le hk
    obtain ⟨m, em⟩ := subK_pre (aO x) s k r
    have h2 := h.2
    unfold subL at h2
    rw [er, em] at h2
    exact lkd_pre h2
theorem okB_0 (x : Ab) : okB x 0 = true := by
  have e : subL (aO x) 0 = [] := by unfold subL subK; simp
  rw [okB_iff, e]
  refine ⟨?_, by unfold lkd; simp [bEvs, bChs]; decide⟩
  rw [let_iff]
  intro k _
  unfold sLet lvs
  split
  · intro r hr; simp at hr
  · exact List.Pairwise.nil
theorem okB_add {x : Ab} (nd : (aO x).Nodup) {s i : Nat} (hs : s < 2 ^ i) (hi : i < (aO x).length) (h : okB x s = true) : okB x (s + 2 ^ i) = true ↔ (∀ j, j ≤ i → (s + 2 ^ i).testBit j = true → prB x (lawS x) j i = false) ∧ lkd x (subL (aO x) (s + 2 ^ i)) := by
  rw [okB_iff] at h ⊢
  refine and_congr_left (fun _ => ?_)
  have h1 := (let_sub (n := (aO x).length) nd (Nat.le_refl _)).mp h.1
  have h2 := let_sub (x := x) (S := lawS x) (bits := s + 2 ^ i) nd (n := (aO x).length) (Nat.le_refl _)
  unfold subL
  rw [h2]
  constructor
  · intro g j hj bj
    exact g i hi (by rw [tb_add hs]; simp) j hj bj
  · intro g a ha ba b hb bb
    by_cases e : a = i
    · subst e; exact g b hb bb
    · rw [tb_add hs] at ba bb
      have sa : s.testBit a = true := by
        simp at ba
        rcases ba with ba | ba
        · exact ba
        · exact absurd ba.symm e
      have la : a < i := by
        rcases Nat.lt_or_ge a i with w | w
        · exact w
        · rw [Nat.testBit_lt_two_pow (Nat.lt_of_lt_of_le hs (pw_le w))] at sa; cases sa
      have sb : s.testBit b = true := by
        simp at bb
        rcases bb with bb | bb
        · exact bb
        · omega
      exact h1 a ha sa b hb sb
def grw (x : Ab) : Nat → Nat → Nat → List Nat
  | 0, _, _ => []
  | f + 1, nx, s => (List.range' nx ((aO x).length - nx)).flatMap (fun i => if okB x (s + 2 ^ i) then (if lnO x (s + 2 ^ i) then [s + 2 ^ i] else []) ++ grw x f (i + 1) (s + 2 ^ i) else [])
theorem low_bit {t nx : Nat} : ∀ r, ¬ t % 2 ^ (nx + r) = t % 2 ^ nx → ∃ i, nx ≤ i ∧ i < nx + r ∧ t % 2 ^ i = t % 2 ^ nx ∧ t % 2 ^ (i + 1) = t % 2 ^ i + 2 ^ i
  | 0, h => absurd rfl h
  | r + 1, h => by
    by_cases q : t % 2 ^ (nx + r) = t % 2 ^ nx
    · refine ⟨nx + r, by omega, by omega, q, ?_⟩
      have e : t % 2 ^ (nx + r + 1) = t % 2 ^ (nx + r) + 2 ^ (nx + r) * (t / 2 ^ (nx + r) % 2) := Nat.mod_pow_succ
      rw [← Nat.add_assoc, e] at h
      rw [e]
      rcases Nat.mod_two_eq_zero_or_one (t / 2 ^ (nx + r)) with w | w
      · rw [w, Nat.mul_zero, Nat.add_zero] at h; exact absurd q h
      · rw [w, Nat.mul_one]
    · obtain ⟨i, h1, h2, h3, h4⟩ := low_bit r q
      exact ⟨i, h1, by omega, h3, h4⟩
theorem mod_cut {t a b : Nat} (h : a ≤ b) : t % 2 ^ b % 2 ^ a = t % 2 ^ a := Nat.mod_mod_of_dvd t (Nat.pow_dvd_pow 2 h)
theorem grw_mem {x : Ab} (nd : (aO x).Nodup) (o10 : (aO x).length ≤ 10) : ∀ (f nx s : Nat), nx ≤ (aO x).length → s < 2 ^ nx → okB x s = true → ∀ t, t ∈ grw x f nx s ↔ (t < 2 ^ (aO x).length ∧ t % 2 ^ nx = s ∧ t ≠ s ∧ pop t ≤ pop s + f ∧ okB x t = true ∧ lnO x t = true)
  | 0, nx, s, h1, h2, h3, t => by
    unfold grw
    constructor
    · intro h; simp at h
    · rintro ⟨a1, a2, a3, a4, -⟩
      exfalso
      obtain ⟨r, er⟩ := Nat.exists_eq_add_of_le h1
      obtain ⟨i, i1, i2, i3, i4⟩ := low_bit (t := t) (nx := nx) r (by rw [← er, Nat.mod_eq_of_lt a1, a2]; exact a3)
      -- t holds a bit more than s
      have p1 : pop (t % 2 ^ (i + 1)) = pop s + 1 := by
        rw [i4, i3, a2]
        exact pop_add (Nat.lt_of_lt_of_le h2 (pw_le i1)) (by omega)
      have p2 : pop (t % 2 ^ (i + 1)) ≤ pop t := by
        have e : t = t % 2 ^ (i + 1) ||| t := by
          apply Nat.eq_of_testBit_eq
          intro j
          rw [Nat.testBit_or, Nat.testBit_mod_two_pow]
          cases t.testBit j <;> simp
        have := popK_or (t % 2 ^ (i + 1)) t 24
        rw [← e] at this
        exact this
      omega
  | f + 1, nx, s, h1, h2, h3, t => by
    rw [grw, List.mem_flatMap]
    constructor
    · rintro ⟨i, hi, ht⟩
      rw [List.mem_range'_1] at hi
      have hs : s < 2 ^ i := Nat.lt_of_lt_of_le h2 (pw_le hi.1)
      have hs1 : s + 2 ^ i < 2 ^ (i + 1) := by rw [Nat.pow_succ]; omega
      have hin : i < (aO x).length := by omega
      have pp := pop_add hs (by omega)
      have lt1 : s + 2 ^ i < 2 ^ (aO x).length := Nat.lt_of_lt_of_le hs1 (pw_le (by omega))
      have md : (s + 2 ^ i) % 2 ^ nx = s := by
        rw [Nat.add_mod, Nat.mod_eq_of_lt h2, Nat.mod_eq_zero_of_dvd (Nat.pow_dvd_pow 2 hi.1), Nat.add_zero, Nat.mod_eq_of_lt h2]
      have p0 := Nat.two_pow_pos i
      split at ht
      · rename_i ok
        rw [List.mem_append] at ht
        rcases ht with ht | ht
        · split at ht
          · rename_i ln
            rw [List.mem_singleton] at ht
            subst ht
            exact ⟨lt1, md, by omega, by omega, ok, ln⟩
          · simp at ht
        · obtain ⟨b1, b2, b3, b4, b5, b6⟩ := (grw_mem nd o10 f (i + 1) (s + 2 ^ i) (by omega) hs1 ok t).mp ht
          refine ⟨b1, ?_, ?_, by omega, b5, b6⟩
          · rw [← mod_cut (show nx ≤ i + 1 by omega), b2, md]
          · intro e
            rw [e, Nat.mod_eq_of_lt (Nat.lt_of_lt_of_le hs (pw_le (by omega)))] at b2
            omega
      · simp at ht
    · rintro ⟨a1, a2, a3, a4, a5, a6⟩
      obtain ⟨r, er⟩ := Nat.exists_eq_add_of_le h1
      obtain ⟨i, i1, i2, i3, i4⟩ := low_bit (t := t) (nx := nx) r (by rw [← er, Nat.mod_eq_of_lt a1, a2]; exact a3)
      have hs : s < 2 ^ i := Nat.lt_of_lt_of_le h2 (pw_le i1)
      have hs1 : s + 2 ^ i < 2 ^ (i + 1) := by rw [Nat.pow_succ]; omega
      have em : t % 2 ^ (i + 1) = s + 2 ^ i := by rw [i4, i3, a2]
      have ok : okB x (s + 2 ^ i) = true := by rw [← em]; exact okB_mod nd (by omega) a5
      have pp := pop_add hs (by omega)
      refine ⟨i, by rw [List.mem_range'_1]; omega, ?_⟩
      rw [if_pos ok, List.mem_append]
      by_cases e : t = s + 2 ^ i
      · left
        rw [← e, if_pos a6]
        exact List.mem_singleton.mpr rfl
      · right
        exact (grw_mem nd o10 f (i + 1) (s + 2 ^ i) (by omega) hs1 ok t).mpr ⟨a1, em, e, by omega, a5, a6⟩
theorem grw_nodup {x : Ab} (nd : (aO x).Nodup) (o10 : (aO x).length ≤ 10) : ∀ (f nx s : Nat), nx ≤ (aO x).length → s < 2 ^ nx → (grw x f nx s).Nodup
  | 0, _, _, _, _ => List.Pairwise.nil
  | f + 1, nx, s, h1, h2 => by
    have key : ∀ i, nx ≤ i → i < (aO x).length → ∀ t, t ∈ (if okB x (s + 2 ^ i) then (if lnO x (s + 2 ^ i) then [s + 2 ^ i] else []) ++ grw x f (i + 1) (s + 2 ^ i) else []) → t % 2 ^ (i + 1) = s + 2 ^ i := by
      intro i i1 i2 t ht
      have hs : s < 2 ^ i := Nat.lt_of_lt_of_le h2 (pw_le i1)
      have hs1 : s + 2 ^ i < 2 ^ (i + 1) := by rw [Nat.pow_succ]; omega
      split at ht
      · rename_i ok
        rw [List.mem_append] at ht
        rcases ht with ht | ht
        · split at ht
          · rw [List.mem_singleton] at ht
            subst ht
            exact Nat.mod_eq_of_lt hs1
          · simp at ht
        · exact ((grw_mem nd o10 f (i + 1) (s + 2 ^ i) (by omega) hs1 ok t).mp ht).2.1
      · simp at ht
    unfold List.Nodup
    rw [grw, List.pairwise_flatMap]
    constructor
    · intro i hi
      rw [List.mem_range'_1] at hi
      have hs : s < 2 ^ i := Nat.lt_of_lt_of_le h2 (pw_le hi.1)
      have hs1 : s + 2 ^ i < 2 ^ (i + 1) := by rw [Nat.pow_succ]; omega
      split
      · rename_i ok
        have g := grw_nodup nd o10 f (i + 1) (s + 2 ^ i) (by omega) hs1
        rw [List.pairwise_append]
        refine ⟨?_, g, ?_⟩
        · split
          · exact List.pairwise_singleton _ _
          · exact List.Pairwise.nil
        · intro a ha b hb
          split at ha
          · rw [List.mem_singleton] at ha
            subst ha
            exact fun e => ((grw_mem nd o10 f (i + 1) (s + 2 ^ i) (by omega) hs1 ok b).mp hb).2.2.1 e.symm
          · simp at ha
      · exact List.Pairwise.nil
    · refine List.Pairwise.imp_of_mem (fun {i j} hi hj lt a ha b hb e => ?_) (List.pairwise_lt_range' (s := nx) (n := (aO x).length - nx) (step := 1))
      rw [List.mem_range'_1] at hi hj
      have k1 := key i hi.1 (by omega) a ha
      have k2 := key j hj.1 (by omega) b hb
      have hs : s < 2 ^ i := Nat.lt_of_lt_of_le h2 (pw_le hi.1)
      have p0 := Nat.two_pow_pos i
      subst e
      have d : 2 ^ (i + 1) ∣ 2 ^ j := Nat.pow_dvd_pow 2 (by omega)
      rw [← mod_cut (show i + 1 ≤ j + 1 by omega), k2, Nat.add_mod, Nat.mod_eq_zero_of_dvd d, Nat.add_zero, Nat.mod_mod, Nat.mod_eq_of_lt (Nat.lt_of_lt_of_le hs (pw_le (by omega)))] at k1
      omega
theorem grw_sly {x : Ab} (nd : (aO x).Nodup) (o10 : (aO x).length ≤ 10) (r : Nat) : (grw x r 0 0).Perm (slyAll x r) := by
  rw [List.perm_ext_iff_of_nodup (grw_nodup nd o10 r 0 0 (Nat.zero_le _) (by decide))]
  · intro t
    rw [grw_mem nd o10 r 0 0 (Nat.zero_le _) (by decide) (okB_0 x)]
    unfold slyAll slyL
    rw [List.mem_filter, List.mem_range'_1]
    have hp := Nat.two_pow_pos (aO x).length
    unfold slyB
    simp only [Bool.and_eq_true, decide_eq_true_eq]
    have p0 : pop 0 = 0 := by decide
    constructor
    · rintro ⟨a1, -, a3, a4, a5, a6⟩
      rw [okB_iff] at a5
      exact ⟨by omega, ⟨by omega, by rw [a5.1]; rfl⟩, a6⟩
    · rintro ⟨b1, ⟨b2, b3⟩, b4⟩
      refine ⟨by omega, Nat.mod_one _, by omega, by omega, ?_, b4⟩
      rw [okB_iff]
      refine ⟨by simpa using b3, ?_⟩
      unfold lkd
      unfold loanN at b4
      split at b4
      · assumption
      · simp at b4
  · unfold slyAll slyL
    exact List.Pairwise.filter _ (List.nodup_range' (step := 1) (by decide))
