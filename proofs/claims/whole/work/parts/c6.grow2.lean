/-! THE CLASS: the search grows -/
def OwA (x : Ab) (h : Hp) : Prop := ∀ i, i < (aO x).length → SmA h 41 (48 * i) (fun k => net (aF x) (dlRows (dL (aD x) ((aO x).getD i 0)) 0) (k / 6) (k % 6))
def GrI (x : Ab) (da : Nat → Nat) (r : Nat) (h : Hp) : Prop := CVw x da h ∧ COff x da h ∧ BrA x (lawS x) 36 0 (aO x).length h ∧ OwA x h ∧ hI h 32 6 = n32 r
def GrL (x : Ab) (da : Nat → Nat) (lv s : Nat) (h : Hp) : Prop := CRefs da 40 (subL (aO x) s) h ∧ (subL (aO x) s).length = lv ∧ SmA h 42 (48 * lv) (fun k => net (aF x) (bRows (aD x) (subL (aO x) s) 0 0) (k / 6) (k % 6))
def SfA (fl : List Nat) (h : Hp) : Prop := hI h 32 5 = n32 fl.length ∧ ∀ j, j < fl.length → hI h 34 j = n32 (fl.getD j 0)
def SGrw (lv a k : Nat) : Prop := SIl a k ∨ a = 34 ∨ a = 32 ∧ k = 5 ∨ a = 39 ∧ k = 1 ∨ a = 40 ∧ lv ≤ k ∨ a = 42 ∧ 48 * (lv + 1) ≤ k
theorem SIl_out : ∀ a k, SIl a k → 14 ≤ a ∧ a ≤ 25 ∨ a = 35 := by unfold SIl SLoan STe SWg; omega
theorem SGrw_out {lv : Nat} : ∀ a k, SGrw lv a k → (14 ≤ a ∧ a ≤ 25 ∨ a = 35) ∨ a = 34 ∨ a = 32 ∧ k = 5 ∨ a = 39 ∧ k = 1 ∨ a = 40 ∧ lv ≤ k ∨ a = 42 ∧ 48 * (lv + 1) ≤ k := fun a k z => by
  rcases z with z | z
  · exact Or.inl (SIl_out a k z)
  · exact Or.inr z
theorem SGrw_up {lv : Nat} : ∀ a k, SGrw (lv + 1) a k → SGrw lv a k := fun a k z => by
  rcases z with z | z
  · exact Or.inl z
  · exact Or.inr (by omega)
theorem GrI.mv {x : Ab} {da : Nat → Nat} {r lv : Nat} {h h' : Hp} (G : GrI x da r h) (f : fr (SGrw lv) h h') : GrI x da r h' := by
  obtain ⟨g1, g2, g3, g4, g5⟩ := G
  have n : ∀ {a k}, ¬ ((14 ≤ a ∧ a ≤ 25 ∨ a = 35) ∨ a = 34 ∨ a = 32 ∧ k = 5 ∨ a = 39 ∧ k = 1 ∨ a = 40 ∧ lv ≤ k ∨ a = 42 ∧ 48 * (lv + 1) ≤ k) → ¬ SGrw lv a k := fun w z => w (SGrw_out _ _ z)
  exact ⟨g1.mv f (fun a k z => by have := SGrw_out a k z; omega), g2.fr f (n (by omega)) (fun k => n (by omega)), g3.mv (fun i _ => f.I (n (by omega))), fun i hi k hk => by rw [f.J (n (by omega))]; exact g4 i hi k hk, by rw [f.I (n (by omega))]; exact g5⟩
theorem GrL.mv {x : Ab} {da : Nat → Nat} {lv s : Nat} {h h' : Hp} (G : GrL x da lv s h) (f : fr (SGrw lv) h h') : GrL x da lv s h' := by
  obtain ⟨g1, g2, g3⟩ := G
  have n : ∀ {a k}, ¬ ((14 ≤ a ∧ a ≤ 25 ∨ a = 35) ∨ a = 34 ∨ a = 32 ∧ k = 5 ∨ a = 39 ∧ k = 1 ∨ a = 40 ∧ lv ≤ k ∨ a = 42 ∧ 48 * (lv + 1) ≤ k) → ¬ SGrw lv a k := fun w z => w (SGrw_out _ _ z)
  exact ⟨fun k hk => by rw [f.R (n (by omega))]; exact g1 k hk, g2, fun k hk => by rw [f.J (n (by omega))]; exact g3 k hk⟩
theorem bRows0 (D : List Dl) : ∀ (l : List Nat) (bf : Nat), bRows D l 0 bf = l.flatMap (fun d => dlRows (dL D d) 0)
  | [], _ => rfl
  | d :: l, bf => by
    rw [bRows, bRows0 D l, List.flatMap_cons]
    have : own 0 bf = 0 := by unfold own; simp
    rw [this]
theorem net_put (x : Ab) (l : List Nat) (d f t : Nat) : net (aF x) (bRows (aD x) (l ++ [d]) 0 0) f t = net (aF x) (bRows (aD x) l 0 0) f t + net (aF x) (dlRows (dL (aD x) d) 0) f t := by
  rw [bRows0, bRows0, List.flatMap_append, net_app]
  simp
theorem c_gr86 {GR : Int32 → Int32 → Int32 → Hp → (Hp → Prop) → Prop} {A B : Nat → Int} {lv i : Nat} {v3 v5 : Int32} {h0 : Hp} {Q : Hp → Prop} {k139 : Int32 → Int32 → Int32 → Int32 → Hp → Prop} (SA : SmA h0 42 (48 * lv) A) (SB : SmA h0 41 (48 * i) B) (hl : lv < 6) (hi : i < 10)
    (k : ∀ h', fr (fun a k => a = 42 ∧ 48 * (lv + 1) ≤ k) h0 h' → SmA h' 42 (48 * (lv + 1)) (fun k => A k + B k) → k139 (n32 lv) v3 (n32 i) v5 h') :
    ∀ (r j : Nat) (h : Hp), r + j = 48 → fr (fun a k => a = 42 ∧ 48 * (lv + 1) ≤ k) h0 h → (∀ t, t < j → hJ h 42 (48 * (lv + 1) + t) = z64 (A t + B t)) → m_X7_grow_86 GR (r + 1) k139 Q (n32 lv) v3 (n32 i) v5 (n32 j) h := by
  intro r
  induction r with
  | zero =>
    intro j h hr f s
    rw [m_X7_grow_86, show (48 : Int32) = n32 48 from rfl, n32_le (by decide) (by omega)]
    exact ⟨fun _ => k h f (fun t ht => s t (by omega)), fun z => absurd (by omega) z⟩
  | succ r ih =>
    intro j h hr f s
    have a1 := SA j (by omega)
    have b1 := SB j (by omega)
    rw [m_X7_grow_86, show (48 : Int32) = n32 48 from rfl, n32_le (by decide) (by omega), show (1 : Int32) = n32 1 from rfl, n32_add, n32_mul, n32_mul, n32_mul, n32_add, n32_add, n32_add, n32_ix (by omega), n32_ix (by omega), n32_ix (by omega), n32_add, f.J (by omega), f.J (by omega), Nat.mul_comm lv 48, Nat.mul_comm i 48, Nat.mul_comm (lv + 1) 48, a1, b1, z64_add]
    refine ⟨fun z => absurd z (by omega), fun _ => ⟨vpI (by omega) (by decide), vpI (by omega) (by decide), vpI (by omega) (by decide), fun x8 e8 => ?_⟩⟩
    subst e8
    refine ih (j + 1) _ (by omega) (fr_wJ f _ ⟨rfl, by omega⟩) (fun t ht => ?_)
    rw [hJ_wJ]
    by_cases e : t = j
    · subst e; rw [if_pos ⟨rfl, rfl⟩]
    · rw [if_neg (by omega)]; exact s t (by omega)
theorem and_no {v m n : Nat} (hv : v < 2 ^ n) : v &&& m = 0 ↔ ∀ j, j < n → m.testBit j = true → v.testBit j = false := by
  constructor
  · intro h j _ hm
    have e := congrArg (fun w => Nat.testBit w j) h
    simp only [Nat.testBit_and, Nat.zero_testBit, hm, Bool.and_true] at e
    exact e
  · intro h
    apply Nat.eq_of_testBit_eq
    intro j
    rw [Nat.testBit_and, Nat.zero_testBit]
    rcases Nat.lt_or_ge j n with q | q
    · cases hm : m.testBit j with
      | false => simp
      | true => rw [h j q hm]; rfl
    · rw [Nat.testBit_lt_two_pow (Nat.lt_of_lt_of_le hv (pw_le q))]; rfl
theorem SfA.push {fl : List Nat} {h : Hp} {s : Nat} (A : SfA fl h) (hl : fl.length < 1024) : SfA (fl ++ [s]) (wI (wI h 34 fl.length (n32 s)) 32 5 (n32 (fl.length + 1))) := by
  refine ⟨by rw [hI_wI, if_pos ⟨rfl, rfl⟩, List.length_append, List.length_singleton], fun j hj => ?_⟩
  rw [List.length_append, List.length_singleton] at hj
  rw [hI_wI, if_neg (by omega), hI_wI]
  by_cases q : j = fl.length
  · subst q; rw [if_pos ⟨rfl, rfl⟩, getD_app_at]
  · rw [if_neg (by omega), getD_app_lt (by omega)]; exact A.2 j (by omega)
theorem SfA.mv {fl : List Nat} {S : Nat → Nat → Prop} {h h' : Hp} (A : SfA fl h) (f : fr S h h') (n1 : ¬ S 32 5) (n2 : ∀ k, ¬ S 34 k) : SfA fl h' := ⟨by rw [f.I n1]; exact A.1, fun j hj => by rw [f.I (n2 j)]; exact A.2 j hj⟩
theorem CWgh.mv {x : Ab} {S : Nat → Nat → Prop} {h h' : Hp} (W : CWgh x h) (f : fr S h h') (n : ∀ k, ¬ S 35 k) : CWgh x h' := fun s hs => by rw [f.I (n s)]; exact W s hs
theorem CTdy.mv {S : Nat → Nat → Prop} {h h' : Hp} (T : CTdy h) (f : fr S h h') (n : ∀ k, ¬ S 23 k) : CTdy h' := fun g hg => by rw [f.J (n g)]; exact T g hg
theorem subL_len {x : Ab} {s : Nat} (o10 : (aO x).length ≤ 10) : (subL (aO x) s).length ≤ (aO x).length := by
  unfold subL
  rw [subK_len]
  exact popK_le _ _
set_option maxHeartbeats 4000000 in
set_option maxRecDepth 100000 in
theorem c_grow {x : Ab} {da : Nat → Nat} {r : Nat} (K : OkA x) (M : OkM x) (r6 : r ≤ 6) : ∀ (f g : Nat), f + 1 ≤ g → ∀ (lv nx s : Nat) (fl : List Nat) (h : Hp) (Q : Hp → Prop), lv + f = r → nx ≤ (aO x).length → s < 2 ^ nx → okB x s = true → GrI x da r h → GrL x da lv s h → SfA fl h → CWgh x h → CTdy h → fl.length + (grw x f nx s).length ≤ 1023 → (∀ h', fr (SGrw lv) h h' → CWgh x h' → CTdy h' → SfA (fl ++ grw x f nx s) h' → Q h') → m_X7_growR g (n32 lv) (n32 nx) (n32 s) h Q := by
  intro f
  induction f with
  | zero =>
    intro g hg lv nx s fl h Q hr hn hs ok G L A W T hlen k
    obtain ⟨g, rfl⟩ : ∃ q, g = q + 1 := ⟨g - 1, by omega⟩
    rw [m_X7_growR]
    unfold m_X7_grow
    rw [G.2.2.2.2, n32_le (by omega) (by omega)]
    refine ⟨fun _ => k h (fr.rf _ _) W T ?_, fun z => absurd (by omega) z⟩
    unfold grw
    rw [List.append_nil]; exact A
  | succ f ih =>
    intro g hg lv nx s fl h Q hr hn hs ok G L A W T hlen k
    obtain ⟨g, rfl⟩ : ∃ q, g = q + 1 := ⟨g - 1, by omega⟩
    have O := G.2.1
    have o10 := O.2.1
    have nd := O.2.2.2.2
    have hin : ∀ s, inD x (subL (aO x) s) := fun s => sub_in (x := x) O.2.2.2.1 s (Nat.le_refl _)
    have tl : (fl ++ grw x (f + 1) nx s).length ≤ 1023 := by rw [List.length_append]; omega
    generalize htot : fl ++ grw x (f + 1) nx s = total at tl k
    rw [grw] at htot
    have main : ∀ (rr i : Nat) (fl1 : List Nat) (h1 : Hp), rr + i = (aO x).length → nx ≤ i → fr (SGrw lv) h h1 → CWgh x h1 → CTdy h1 → SfA fl1 h1 → fl1 ++ (List.range' i rr).flatMap (fun i => if okB x (s + 2 ^ i) then (if lnO x (s + 2 ^ i) then [s + 2 ^ i] else []) ++ grw x f (i + 1) (s + 2 ^ i) else []) = total → m_X7_grow_18 (fun v1 v2 v3 h Q => m_X7_growR g v1 v2 v3 h Q) (rr + 1) Q (n32 lv) (n32 s) (n32 i) h1 := by
      intro rr
      induction rr with
      | zero =>
        intro i fl1 h1 hr1 hi f1 W1 T1 A1 et
        have G1 := G.mv f1
        rw [m_X7_grow_18, G1.2.1.1, n32_le (by omega) (by omega)]
        refine ⟨fun _ => k h1 f1 W1 T1 ?_, fun z => absurd (by omega) z⟩
        rw [← et]
        simpa using A1
      | succ rr ihr =>
        intro i fl1 h1 hr1 hi f1 W1 T1 A1 et
        have G1 := G.mv f1
        have L1 := L.mv f1
        have hil : i < (aO x).length := by omega
        have si : s < 2 ^ i := Nat.lt_of_lt_of_le hs (pw_le hi)
        have si1 : s + 2 ^ i < 2 ^ (i + 1) := by rw [Nat.pow_succ]; omega
        have sn : s + 2 ^ i < 2 ^ (aO x).length := Nat.lt_of_lt_of_le si1 (pw_le (by omega))
        have s10 : 2 ^ (aO x).length ≤ 2 ^ 10 := pw_le o10
        have p0 := Nat.two_pow_pos i
        obtain ⟨ri, di, i10⟩ := G1.2.1.at hil
        rw [List.range'_succ, List.flatMap_cons, ← List.append_assoc] at et
        rw [m_X7_grow_18, G1.2.1.1, n32_le (by omega) (by omega), n32_ix (by omega)]
        refine ⟨fun z => absurd z (by omega), fun _ x9 e9 => ?_⟩
        rw [show (1 : Int32) = n32 1 from rfl, show (31 : Int32) = n32 31 from rfl, shl1 (by omega), n32_or (by omega) (by omega), or_add si] at e9
        subst e9
        have f2 : fr (SGrw lv) h1 (wI h1 39 1 (n32 lv)) := fr_wI (fr.rf _ _) _ (Or.inr (by omega))
        have B2 : CBd x da 39 (subL (aO x) s) (wI h1 39 1 (n32 lv)) := ⟨by rw [hI_wI, if_pos ⟨rfl, rfl⟩, L1.2.1], by rw [L1.2.1]; omega, L1.1, hin s⟩
        have r2 : hR (wI h1 39 1 (n32 lv)) 33 i = some (da ((aO x).getD i 0)) := ri
        have A2 : SfA fl1 (wI h1 39 1 (n32 lv)) := ⟨by rw [hI_wI, if_neg (by omega)]; exact A1.1, fun j hj => by rw [hI_wI, if_neg (by omega)]; exact A1.2 j hj⟩
        have W2 : CWgh x (wI h1 39 1 (n32 lv)) := fun t ht => by rw [hI_wI, if_neg (by omega)]; exact W1 t ht
        have T2 : CTdy (wI h1 39 1 (n32 lv)) := fun t ht => T1 t ht
        generalize wI h1 39 1 (n32 lv) = h2 at f2 B2 r2 A2 W2 T2
        refine ⟨vpI i10 (by decide), _, r2, ?_⟩
        refine c_push B2 (by rw [L1.2.1]; omega) di (fun h3 f3 B3 => ?_)
        have f3' : fr (SGrw lv) h2 h3 := f3.mono (fun a k z => Or.inr (by rw [L1.2.1] at z; omega))
        have f13 := f2.trans f3'
        have G3 := G1.mv f13
        have L3 := L1.mv f13
        have A3 := A2.mv f3 (by omega) (by omega)
        have W3 := W2.mv f3 (by omega)
        have T3 := T2.mv f3 (by omega)
        rw [← subL_add si hil] at B3
        obtain ⟨v, e36, v2, vt⟩ := G3.2.2.1 i hil
        rw [Nat.zero_add] at e36
        have p10 : 2 ^ (i + 1) ≤ 2 ^ 10 := pw_le (by omega)
        rw [e36, n32_and (by omega) (by omega), show (0 : Int32) = n32 0 from rfl, n32_eq (Nat.lt_of_le_of_lt Nat.and_le_left (by omega)) (by decide)]
        refine ⟨vpI i10 (by decide), ?_⟩
        have oka := okB_add nd si hil ok
        have bz : v &&& (s + 2 ^ i) = 0 ↔ ∀ j, j ≤ i → (s + 2 ^ i).testBit j = true → prB x (lawS x) j i = false := by
          rw [and_no v2]
          constructor
          · intro q j hj b; rw [← vt j hj]; exact q j (by omega) b
          · intro q j hj b; rw [vt j (by omega)]; exact q j (by omega) b
        -- on with the next one
        have next : ∀ (fl4 : List Nat) (h4 : Hp), fr (SGrw lv) h3 h4 → CWgh x h4 → CTdy h4 → SfA fl4 h4 → fl4 = fl1 ++ (if okB x (s + 2 ^ i) then (if lnO x (s + 2 ^ i) then [s + 2 ^ i] else []) ++ grw x f (i + 1) (s + 2 ^ i) else []) → m_X7_grow_205 (fun v1 v2 v3 h Q => m_X7_growR g v1 v2 v3 h Q) (fun (v1 : Int32) (v3 : Int32) (v4 : Int32) hh => m_X7_grow_18 (fun v1 v2 v3 h Q => m_X7_growR g v1 v2 v3 h Q) (rr + 1) Q v1 v3 v4 hh) Q (n32 lv) (n32 s) (n32 i) h4 := by
          intro fl4 h4 f4 W4 T4 A4 e4
          unfold m_X7_grow_205
          intro x1 e1
          rw [e1, show n32 i + 1 = n32 (i + 1) from n32_add _ 1]
          exact ihr (i + 1) fl4 h4 (by omega) (by omega) ((f1.trans f13).trans f4) W4 T4 A4 (by rw [e4]; exact et)
        have stay : ¬ okB x (s + 2 ^ i) = true → m_X7_grow_205 (fun v1 v2 v3 h Q => m_X7_growR g v1 v2 v3 h Q) (fun (v1 : Int32) (v3 : Int32) (v4 : Int32) hh => m_X7_grow_18 (fun v1 v2 v3 h Q => m_X7_growR g v1 v2 v3 h Q) (rr + 1) Q v1 v3 v4 hh) Q (n32 lv) (n32 s) (n32 i) h3 := fun no => next fl1 h3 (fr.rf _ _) W3 T3 A3 (by rw [if_neg no, List.append_nil])
        refine ⟨fun z => stay (fun q => z (bz.mpr (oka.mp q).1)), fun z => ?_⟩
        refine c_isLooked G3.1 K B3 (fun lk => ⟨fun _ => ⟨49, ?_⟩, fun y => absurd y (by decide)⟩) (fun lk => ⟨fun y => absurd rfl y, fun _ => stay (fun q => lk (oka.mp q).2)⟩)
        have ok1 : okB x (s + 2 ^ i) = true := oka.mpr ⟨bz.mp z, lk⟩
        rw [if_pos ok1] at et next
        refine c_gr86 L3.2.2 (G3.2.2.2.1 i hil) (by omega) i10 (fun h4 f4 S4 => ?_) 48 0 h3 rfl (fr.rf _ _) (fun t ht => absurd ht (by omega))
        have f4' : fr (SGrw lv) h3 h4 := f4.mono (fun a k z => Or.inr (by omega))
        have G4 := G3.mv f4'
        have A4 := A3.mv f4 (by omega) (by omega)
        have W4 := W3.mv f4 (by omega)
        have T4 := T3.mv f4 (by omega)
        have B4 := B3.mv f4 (by omega) (by omega)
        have len1 : (subL (aO x) (s + 2 ^ i)).length = lv + 1 := by rw [subL_add si hil, List.length_append, L1.2.1]; rfl
        have S4' : SmA h4 42 (48 * (lv + 1)) (fun k => net (aF x) (bRows (aD x) (subL (aO x) (s + 2 ^ i)) 0 0) (k / 6) (k % 6)) := fun k hk => by
          rw [S4 k hk]; dsimp only; rw [subL_add si hil, net_put]
        have Bn : Bnd (fun k => net (aF x) (bRows (aD x) (subL (aO x) (s + 2 ^ i)) 0 0) (k / 6) (k % 6)) := fun k _ => by
          have := bR_abs K (hin (s + 2 ^ i)) (by omega) 0 0 (k / 6) (k % 6) 0
          rw [netG0] at this
          exact this
        -- on to larger ones
        have deep : ∀ (fl5 : List Nat) (h5 : Hp), fr (SGrw lv) h4 h5 → CRefs da 40 (subL (aO x) (s + 2 ^ i)) h5 → SmA h5 42 (48 * (lv + 1)) (fun k => net (aF x) (bRows (aD x) (subL (aO x) (s + 2 ^ i)) 0 0) (k / 6) (k % 6)) → CWgh x h5 → CTdy h5 → SfA fl5 h5 → fl5 = fl1 ++ (if lnO x (s + 2 ^ i) then [s + 2 ^ i] else []) → m_X7_grow_192 (fun v1 v2 v3 h Q => m_X7_growR g v1 v2 v3 h Q) (fun (v1 : Int32) (v3 : Int32) (v4 : Int32) hh => m_X7_grow_18 (fun v1 v2 v3 h Q => m_X7_growR g v1 v2 v3 h Q) (rr + 1) Q v1 v3 v4 hh) Q (n32 lv) (n32 s) (n32 i) (n32 (s + 2 ^ i)) h5 := by
          intro fl5 h5 f5 R5 S5 W5 T5 A5 e5
          unfold m_X7_grow_192
          rw [show n32 i + 1 = n32 (i + 1) from n32_add _ 1, show n32 lv + 1 = n32 (lv + 1) from n32_add _ 1]
          have tl2 := tl
          rw [← et, List.length_append, List.length_append, List.length_append] at tl2
          refine ih g (by omega) (lv + 1) (i + 1) (s + 2 ^ i) fl5 h5 _ (by omega) (by omega) si1 ok1 (G4.mv f5) ⟨R5, len1, S5⟩ A5 W5 T5 (by rw [e5, List.length_append]; omega) (fun h6 f6 W6 T6 A6 => ?_)
          exact next _ h6 ((f4'.trans f5).trans (f6.mono SGrw_up)) W6 T6 A6 (by rw [e5, List.append_assoc])
        unfold m_X7_grow_139
        rw [show n32 lv + 1 = n32 (lv + 1) from n32_add _ 1, show (48 : Int32) = n32 48 from rfl, n32_mul, Nat.mul_comm (lv + 1) 48]
        refine c_mayLend S4' Bn (by omega) ?_
        have lnn : ∀ q : Bool, q = lnO x (s + 2 ^ i) → (if lnO x (s + 2 ^ i) then [s + 2 ^ i] else []) = (if q then [s + 2 ^ i] else []) := fun q e => by rw [e]
        cases hm : ((List.range 8).any (abvB (fun k => net (aF x) (bRows (aD x) (subL (aO x) (s + 2 ^ i)) 0 0) (k / 6) (k % 6))) && (List.range 8).any (blwB (fun k => net (aF x) (bRows (aD x) (subL (aO x) (s + 2 ^ i)) 0 0) (k / 6) (k % 6)))) with
        | false =>
          have n0 : lnO x (s + 2 ^ i) = false := by
            unfold lnO
            rw [bne_eq_false_iff_eq]
            refine Decidable.byContradiction (fun q => ?_)
            rw [may_ln q] at hm
            cases hm
          exact ⟨fun _ => deep fl1 h4 (fr.rf _ _) B4.2.2.1 S4' W4 T4 A4 (by rw [n0]; simp), fun y => absurd rfl y⟩
        | true =>
          refine ⟨fun y => absurd y (by decide), fun _ => ?_⟩
          refine c_isLoan G4.1 K M B4 W4 T4 sn (by omega) (fun h5 f5 W5 T5 => ?_)
          have f5' : fr (SGrw lv) h4 h5 := f5.mono (fun a k z => Or.inl z)
          have A5 := A4.mv f5 (fun z => by have := SIl_out _ _ z; omega) (fun k z => by have := SIl_out _ _ z; omega)
          have B5 := B4.mv f5 (fun z => by have := SIl_out _ _ z; omega) (fun k z => by have := SIl_out _ _ z; omega)
          have S5 : SmA h5 42 (48 * (lv + 1)) (fun k => net (aF x) (bRows (aD x) (subL (aO x) (s + 2 ^ i)) 0 0) (k / 6) (k % 6)) := fun k hk => by
            rw [f5.J (fun z => by have := SIl_out _ _ z; omega)]; exact S4' k hk
          cases hl : lnO x (s + 2 ^ i) with
          | false => exact ⟨fun _ => deep fl1 h5 f5' B5.2.2.1 S5 W5 T5 A5 (by rw [hl]; simp), fun y => absurd rfl y⟩
          | true =>
            have tl2 := tl
            rw [← et, hl, List.length_append, List.length_append, List.length_append, if_pos rfl, List.length_singleton] at tl2
            rw [A5.1, show (1024 : Int32) = n32 1024 from rfl, n32_le (by decide) (by omega), n32_ix (by omega)]
            refine ⟨fun y => absurd y (by decide), fun _ => ⟨fun y => absurd y (by omega), fun _ => ⟨vpI (by omega) (by decide), ?_⟩⟩⟩
            have e5 : hI (wI h5 34 fl1.length (n32 (s + 2 ^ i))) 32 5 = n32 fl1.length := by rw [hI_wI, if_neg (by omega)]; exact A5.1
            rw [e5, show n32 fl1.length + 1 = n32 (fl1.length + 1) from n32_add _ 1]
            refine deep (fl1 ++ [s + 2 ^ i]) _ (fr_wI (fr_wI f5' _ (Or.inr (by omega))) _ (Or.inr (by omega))) B5.2.2.1 S5 (fun t ht => ?_) (fun t ht => T5 t ht) (A5.push (by omega)) (by rw [hl]; simp)
            rw [hI_wI, if_neg (by omega), hI_wI, if_neg (by omega)]
            exact W5 t ht
    rw [m_X7_growR]
    unfold m_X7_grow
    rw [G.2.2.2.2, n32_le (by omega) (by omega), show (6 : Int32) = n32 6 from rfl, n32_lt (by omega) (by decide)]
    refine ⟨fun z => absurd z (by omega), fun _ => ⟨fun _ => ⟨_, main ((aO x).length - nx) nx fl h (by omega) (Nat.le_refl _) (fr.rf _ _) W T A htot⟩, fun z => absurd (by omega) z⟩⟩
