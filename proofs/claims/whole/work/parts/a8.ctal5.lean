/-! THE CLASS: the tally learns -/
def talS (x : Ab) (bs : List Nat) (l b : Nat) (cs : List Nat) : TS := (cs.foldl (prS (aF x) (aD x) bs l b false) (0, 1), cs.foldl (prS (aF x) (aD x) bs l b true) (0, 1), (cs.filter (fun c => bLend (aF x) (aD x) bs c l b)).length)
theorem prS_up (F : Nat → Nat) (D : List Dl) (bs : List Nat) (l b : Nat) (g : Bool) (s : Nat × Nat) (c : Nat) : prS F D bs l b g s c = if lendsB F (bRows D bs c 0) l b then upP g (lnP F (bRows D bs c 0) l) s else s := by unfold prS upP lnP bLend; dsimp only
theorem talS_snoc (x : Ab) (bs : List Nat) (l b : Nat) (cs : List Nat) (c : Nat) : talS x bs l b (cs ++ [c]) = nxS (aF x) (bRows (aD x) bs c 0) l b (talS x bs l b cs) := by
  unfold talS nxS
  rw [List.foldl_append, List.foldl_append, List.filter_append, List.length_append, List.foldl_cons, List.foldl_nil, List.foldl_cons, List.foldl_nil, prS_up, prS_up, List.filter_cons, List.filter_nil]
  unfold bLend
  by_cases y : lendsB (aF x) (bRows (aD x) bs c 0) l b = true
  · rw [if_pos y, if_pos y, if_pos y, if_pos y]; rfl
  · rw [if_neg y, if_neg y, if_neg y, if_neg y]; rfl
theorem talS_le (x : Ab) (bs : List Nat) (l b : Nat) (cs : List Nat) : (talS x bs l b cs).2.2 ≤ cs.length := List.length_filter_le _ _
def nt (x : Ab) (bs : List Nat) (l c : Nat) : Int := net (aF x) (bRows (aD x) bs c 0) l 0
def mn (x : Ab) (bs : List Nat) (l : Nat) : List Nat → Int
  | [] => 0
  | c :: t => t.foldl (fun s c => if nt x bs l c < s then nt x bs l c else s) (nt x bs l c)
theorem mn_snoc (x : Ab) (bs : List Nat) (l : Nat) {cs : List Nat} (h : cs ≠ []) (c : Nat) : mn x bs l (cs ++ [c]) = if nt x bs l c < mn x bs l cs then nt x bs l c else mn x bs l cs := by
  cases cs with
  | nil => exact absurd rfl h
  | cons a t => rw [List.cons_append, mn, mn, List.foldl_append]; rfl
theorem mn_bd {x : Ab} {bs : List Nat} {l : Nat} (hb : ∀ c, -3000000000000 ≤ nt x bs l c ∧ nt x bs l c ≤ 3000000000000) : ∀ cs, -3000000000000 ≤ mn x bs l cs ∧ mn x bs l cs ≤ 3000000000000
  | [] => by simp [mn]
  | c :: t => by
    rw [mn]
    have : ∀ (t : List Nat) (s : Int), -3000000000000 ≤ s → s ≤ 3000000000000 → -3000000000000 ≤ t.foldl (fun s c => if nt x bs l c < s then nt x bs l c else s) s ∧ t.foldl (fun s c => if nt x bs l c < s then nt x bs l c else s) s ≤ 3000000000000 := by
      intro t
      induction t with
      | nil => intro s h1 h2; exact ⟨h1, h2⟩
      | cons a t ih =>
        intro s h1 h2
        rw [List.foldl_cons]
        have := hb a
        split
        · exact ih _ this.1 this.2
        · exact ih _ h1 h2
    exact this t _ (hb c).1 (hb c).2
/-- where a family always has more, the least is the spec's -/
theorem mn_least {x : Ab} {bs : List Nat} {l : Nat} {cs : List Nat} (h : ∀ c ∈ cs, 0 < nt x bs l c) : cs.foldl (leastS (aF x) (aD x) bs l) 0 = mn x bs l cs := by
  cases cs with
  | nil => rfl
  | cons c t =>
    rw [mn, List.foldl_cons]
    have e0 : leastS (aF x) (aD x) bs l 0 c = nt x bs l c := by unfold leastS; rw [if_pos (Or.inl rfl)]; rfl
    rw [e0]
    have : ∀ (t : List Nat) (s : Int), 0 < s → (∀ c ∈ t, 0 < nt x bs l c) → t.foldl (leastS (aF x) (aD x) bs l) s = t.foldl (fun s c => if nt x bs l c < s then nt x bs l c else s) s := by
      intro t
      induction t with
      | nil => intros; rfl
      | cons a t ih =>
        intro s hs ha
        rw [List.foldl_cons, List.foldl_cons]
        have e : leastS (aF x) (aD x) bs l s a = if nt x bs l a < s then nt x bs l a else s := by
          show (if s = 0 ∨ nt x bs l a < s then nt x bs l a else s) = _
          by_cases y : nt x bs l a < s
          · rw [if_pos (Or.inr y), if_pos y]
          · rw [if_neg y, if_neg]
            rintro (w | w)
            · omega
            · exact y w
        rw [e]
        refine ih _ ?_ (fun c hc => ha c (by simp [hc]))
        have := ha a (by simp)
        split <;> omega
    exact this t _ (h c (by simp)) (fun c hc => h c (by simp [hc]))
def TalI (x : Ab) (bs cs : List Nat) (h : Hp) : Prop := (∀ l b, l < 8 → b < 8 → PrT (talS x bs l b cs) (8 * l + b) h) ∧ (cs ≠ [] → ∀ l, l < 8 → hJ h 29 l = z64 (mn x bs l cs))
def STn (a _k : Nat) : Prop := 27 ≤ a ∧ a ≤ 29
set_option maxHeartbeats 4000000 in
set_option maxRecDepth 100000 in
theorem c_ln59 {x : Ab} {bs cs : List Nat} {c : Nat} {v3 v4 v5 : Int32} {h0 : Hp} {k118 : Int32 → Int32 → Int32 → Int32 → Hp → Prop} {Q : Hp → Prop} (W : WgO (aF x) (bRows (aD x) bs c 0) h0) (P : LkP (bRows (aD x) bs c 0)) (hlen : cs.length < 9999) (nb : ∀ l, l < 8 → ∀ c, -3000000000000 ≤ nt x bs l c ∧ nt x bs l c ≤ 3000000000000) (k : ∀ h', fr STn h0 h' → TalI x bs (cs ++ [c]) h' → k118 v3 v4 v5 (n32 cs.length) h') :
    ∀ (r v : Nat) (h : Hp), r + v = 8 → fr STn h0 h → (∀ l b, l < 8 → b < 8 → PrT (talS x bs l b (if l < v then cs ++ [c] else cs)) (8 * l + b) h) → (∀ l, l < 8 → (l < v ∨ cs ≠ []) → hJ h 29 l = z64 (mn x bs l (if l < v then cs ++ [c] else cs))) → m_X9_learn_59 (r + 1) k118 Q v3 v4 v5 (n32 cs.length) (n32 v) h := by
  intro r
  induction r with
  | zero =>
    intro v h e f A B
    obtain rfl : v = 8 := by omega
    rw [m_X9_learn_59, show (8 : Int32) = n32 8 from rfl, n32_le (by decide) (by decide)]
    refine ⟨fun _ => k h f ⟨fun l b hl hb => ?_, fun _ l hl => ?_⟩, fun z => absurd (Nat.le_refl _) z⟩
    · have := A l b hl hb
      rw [if_pos hl] at this; exact this
    · have := B l hl (Or.inl hl)
      rw [if_pos hl] at this; exact this
  | succ r ih =>
    intro v h e f A B
    have W1 := W.mv f (by unfold STn; omega) (by unfold STn; omega)
    obtain ⟨w1, -, w3, w4, -⟩ := W1.1 v (by omega)
    have w1' : hJ h 21 v = z64 (nt x bs v c) := w1
    have nv := nb v (by omega)
    have mb := mn_bd nv cs
    -- what comes after the least is put
    have go : m_X9_learn_104 (fun (v3 v4 v5 v6 v7 : Int32) hh => m_X9_learn_59 (r + 1) k118 Q v3 v4 v5 v6 v7 hh) k118 Q v3 v4 v5 (n32 cs.length) (n32 v) (n32 v) (z64 (mn x bs v (cs ++ [c]))) h := by
      unfold m_X9_learn_104
      rw [n32_ix (by omega)]
      refine ⟨vpI (by omega) (by decide), ?_⟩
      have f1 : fr STn h (wJ h 29 v (z64 (mn x bs v (cs ++ [c])))) := fr_wJ (fr.rf _ _) _ (by unfold STn; omega)
      have f2 : fr (fun a k => a = 29 ∧ k = v) h (wJ h 29 v (z64 (mn x bs v (cs ++ [c])))) := fr_wJ (fr.rf _ _) _ ⟨rfl, rfl⟩
      have j29 : hJ (wJ h 29 v (z64 (mn x bs v (cs ++ [c])))) 29 v = z64 (mn x bs v (cs ++ [c])) := by rw [hJ_wJ, if_pos ⟨rfl, rfl⟩]
      generalize wJ h 29 v (z64 (mn x bs v (cs ++ [c]))) = h1 at f1 f2 j29
      have W2 := W1.mv f1 (by unfold STn; omega) (by unfold STn; omega)
      refine c_noteLender (S := fun b => talS x bs v b cs) W2 P (by omega) (fun b hb => ?_) (fun b hb => by have := talS_le x bs v b cs; omega) (fun h2 f3 A2 x7 e7 => ?_)
      · have := A v b (by omega) hb
        rw [if_neg (by omega)] at this
        exact ⟨this.1.mv f2 (by omega) (by omega), this.2⟩
      · rw [e7, show n32 v + 1 = n32 (v + 1) from n32_add _ 1]
        refine ih (v + 1) h2 (by omega) ((f.trans f1).trans (f3.mono (by unfold SNl STn; omega))) (fun l b hl hb => ?_) (fun l hl hor => ?_)
        · by_cases y : l = v
          · subst y
            rw [if_pos (by omega), talS_snoc]
            exact A2 b hb
          · have := A l b hl hb
            have e2 : (if l < v + 1 then cs ++ [c] else cs) = (if l < v then cs ++ [c] else cs) := by
              by_cases q : l < v
              · rw [if_pos q, if_pos (by omega)]
              · rw [if_neg q, if_neg (by omega)]
            rw [e2]
            exact ⟨(this.1.mv f2 (by omega) (by omega)).mv f3 (by unfold SNl; omega) (by unfold SNl; omega), this.2⟩
        · rw [f3.J (by unfold SNl; omega)]
          by_cases y : l = v
          · subst y
            rw [if_pos (by omega)]; exact j29
          · have e2 : (if l < v + 1 then cs ++ [c] else cs) = (if l < v then cs ++ [c] else cs) := by
              by_cases q : l < v
              · rw [if_pos q, if_pos (by omega)]
              · rw [if_neg q, if_neg (by omega)]
            rw [e2, f2.J (by omega)]
            exact B l hl (by
              rcases hor with y2 | y2
              · left; omega
              · exact Or.inr y2)
    rw [m_X9_learn_59, show (8 : Int32) = n32 8 from rfl, n32_le (by decide) (by omega), n32_ix (by omega), show (0 : Int32) = n32 0 from rfl, n32_eq (by omega) (by decide), w1']
    refine ⟨fun z => absurd z (by omega), fun _ => ⟨fun z => ⟨vpI (by omega) (by decide), vpI (by omega) (by decide), ?_⟩, fun z => ⟨vpI (by omega) (by decide), ?_⟩⟩⟩
    · have cz : cs ≠ [] := fun w => z (by rw [w]; rfl)
      have b29 := B v (by omega) (Or.inr cz)
      rw [if_neg (by omega)] at b29
      rw [b29]
      have em := mn_snoc x bs v cz c
      have cond : (z64 (nt x bs v c) < z64 (mn x bs v cs)) ↔ nt x bs v c < mn x bs v cs := z64_lt (by have := nv c; omega) (by have := nv c; omega) (by omega) (by omega)
      by_cases y : nt x bs v c < mn x bs v cs
      · rw [if_pos y] at em
        rw [if_pos (cond.mpr y), ← em]; exact go
      · rw [if_neg y] at em
        rw [if_neg (fun w => y (cond.mp w)), ← em]; exact go
    · have cz : cs = [] := List.length_eq_zero_iff.mp z
      have em : mn x bs v (cs ++ [c]) = nt x bs v c := by rw [cz]; rfl
      rw [← em]; exact go
theorem lp_tab : ∀ n : Fin 64, (10 * (n32 n.val / 8)) + (n32 n.val - n32 n.val / 8 * 8) = n32 (10 * (n.val / 8) + n.val % 8) := by decide +kernel
theorem filter_all {α : Type} {p : α → Bool} : ∀ {l : List α}, (l.filter p).length = l.length ↔ l.all p = true
  | [] => by simp
  | a :: l => by
    rw [List.filter_cons, List.all_cons]
    have hl := List.length_filter_le p l
    by_cases y : p a = true
    · rw [if_pos y, List.length_cons, List.length_cons, y, Bool.true_and, ← filter_all]; omega
    · rw [if_neg y, List.length_cons]
      constructor
      · intro z; omega
      · intro z; simp at z; exact absurd z.1 y
/-- the first pair that lends always -/
theorem c_leastPair {P : Nat → Bool} {N : Nat} {T : Nat → Nat} {h : Hp} {Q : Int32 → Hp → Prop} (hT : ∀ n, n < 64 → hI h 27 n = n32 (T n) ∧ T n < 100000 ∧ (T n = N ↔ P n = true)) (hN : N < 100000) (k : Q (pm (loanV ((List.range 64).find? P))) h) : m_X9_leastPair (n32 N) h Q := by
  unfold m_X9_leastPair
  have main : ∀ (r v : Nat), r + v = 64 → (∀ n, n < v → P n = false) → m_X9_leastPair_2 (r + 1) (m_X9_leastPair_18 Q) Q (n32 N) (n32 v) h := by
    intro r
    induction r with
    | zero =>
      intro v e no
      obtain rfl : v = 64 := by omega
      rw [m_X9_leastPair_2, show (64 : Int32) = n32 64 from rfl, n32_le (by decide) (by decide)]
      refine ⟨fun _ => ?_, fun z => absurd (Nat.le_refl _) z⟩
      have : (List.range 64).find? P = none := by
        rw [List.find?_eq_none]
        intro p hp
        rw [no p (List.mem_range.mp hp)]; simp
      rw [this] at k; exact k
    | succ r ih =>
      intro v e no
      obtain ⟨t1, t2, t3⟩ := hT v (by omega)
      rw [m_X9_leastPair_2, show (64 : Int32) = n32 64 from rfl, n32_le (by decide) (by omega), n32_ix (by omega), t1, n32_eq (by omega) (by omega)]
      refine ⟨fun z => absurd z (by omega), fun _ => ⟨vpI (by omega) (by decide), fun z x1 e1 => ?_, fun z => ?_⟩⟩
      · rw [e1, show n32 v + 1 = n32 (v + 1) from n32_add _ 1]
        refine ih (v + 1) (by omega) (fun n hn => ?_)
        by_cases y : n = v
        · subst y
          cases hp : P n with
          | false => rfl
          | true => exact absurd (t3.mpr hp) z
        · exact no n (by omega)
      · unfold m_X9_leastPair_18
        have := lp_tab ⟨v, by omega⟩
        dsimp only at this
        rw [this]
        have fs : (List.range 64).find? P = some v := by
          rw [List.find?_range_eq_some]
          exact ⟨t3.mp z, List.mem_range.mpr (by omega), fun j hj => by rw [no j hj]; rfl⟩
        rw [fs] at k
        exact k
  exact ⟨_, main 64 0 rfl (fun n hn => absurd hn (by omega))⟩
