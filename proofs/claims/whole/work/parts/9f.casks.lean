/-! THE CLASS: small asks, and what changes little -/
theorem InvC.mvs {x : Ab} {da : Nat → Nat} {h h' : Hp} {S : Nat → Nat → Prop} (I : InvC x da h) (f : fr S h h') (nb : ∀ a k, S a k → a < 51 ∧ a ≠ 42) :
    108 ≤ hN h' ∧ ((∀ k, ¬ S 1 k) → CFam x h') ∧ (¬ S 0 4 → (∀ k, ¬ S 8 k) → CDeals x da h') ∧ (¬ S 2 1 → (∀ k, ¬ S 3 k) → CTape x h') ∧ (¬ S 0 9 → CFlt x h') ∧ (¬ S 0 6 → ¬ S 0 8 → (∀ k, ¬ S 9 k) → (∀ k, ¬ S 10 k) → CTx x h') ∧ (¬ S 11 1 → (∀ k, ¬ S 12 k) → CBun x da h') ∧ (¬ S 32 3 → (∀ k, ¬ S 33 k) → COff x da h') ∧ (¬ S 0 12 → (∀ k, ¬ S 13 k) → CHn x da h') ∧ CPln x da h' ∧ ((∀ a k, S a k → a < 26 ∨ 29 < a) → CTal x h') ∧ (¬ S 32 5 → ¬ S 32 6 → (∀ k, ¬ S 34 k) → (∀ k, ¬ S 35 k) → CSea x h') ∧ ((∀ k, ¬ S 23 k) → CTdy h' ∧ CSm h') := by
  obtain ⟨i1, i2, i3, i4, i5, i6, i7, i8, i9, i10, i11, i12, i13⟩ := I
  have n' : hN h ≤ hN h' := by rw [f.1]; exact Nat.le_refl _
  have t' : ∀ b, b < hN h → hT h' b = hT h b := fun b _ => by rw [f.2.1]
  have hi : ∀ a k, 51 ≤ a → ¬ S a k := fun a k q z => by have := nb a k z; omega
  refine ⟨by omega, fun q => i2.mv (fun k => f.I (q k)), fun q1 q2 => ?_, fun q1 q2 => i4.mv (f.I q1) (fun k => f.I (q2 k)), fun q => ⟨by rw [f.I q]; exact i5.1, i5.2⟩, fun q1 q2 q3 q4 => ?_, fun q1 q2 => i7.mv (f.I q1) (fun k => f.R (q2 k)), fun q1 q2 => i8.mv (f.I q1) (fun k => f.R (q2 k)), fun q1 q2 => ?_, ?_, fun q => ?_, fun q1 q2 q3 q4 => i12.mv (f.I q1) (f.I q2) (fun k => f.I (q3 k)) (fun k => f.I (q4 k)), fun q => ⟨fun g hg => by rw [f.J (q g)]; exact i13.1 g hg, fun j hj => by rw [f.J (fun z => (nb 42 j z).2 rfl)]; exact i13.2 j hj⟩⟩
  · exact i3.mv n' t' (f.I q1) (fun d => f.R (q2 d)) (fun a B b k b1 b2 => ⟨f.I (hi b k (by have := B.1; omega)), f.J (hi b k (by have := B.1; omega))⟩)
  · exact i6.mv n' t' (f.I q1) (f.I q2) (fun i => f.R (q3 i)) (fun i => f.R (q4 i)) (fun a B b k b1 b2 => f.I (hi b k (by have := B.1; omega)))
  · exact i9.mv n' t' (f.I q1) (fun i => f.R (q2 i)) (fun a B => ⟨fun k => f.I (hi a k (by have := B.1; omega)), fun k => f.R (hi (a + 1) k (by have := B.1; omega))⟩)
  · exact i10.mv (fun d hd k => f.I (hi _ k (by have := (i3.da hd).2.1.1; omega)))
  · have z : ∀ a k, 26 ≤ a → a ≤ 29 → ¬ S a k := fun a k h1 h2 y => by have := q a k y; omega
    exact i11.mv (fun k => f.I (z 26 k (by omega) (by omega))) (fun k => f.I (z 27 k (by omega) (by omega))) (fun k => f.J (z 28 k (by omega) (by omega))) (fun k => f.J (z 29 k (by omega) (by omega)))
theorem c_famIn {x : Ab} {da : Nat → Nat} {d : Nat} {h : Hp} {Q : Int32 → Hp → Prop} (V : CVw x da h) (K : OkA x) (hd : d < (aD x).length) (k : Q (n32 (faBits (aF x) (dL (aD x) d))) h) : m_X1_familiesIn (da d) 1 8 h Q := by
  obtain ⟨C, -⟩ := V.2.2 d hd
  have hl := K.l12 hd
  have ok : ∀ r ∈ dL (aD x) d, LfOk r := (K.1 d hd).1.2.2.2.2.2.2.1
  have fb : ∀ (l : List Rec), (∀ r ∈ l, LfOk r) → ∀ b, b < 256 → l.foldl (fun b r => b ||| (2 ^ aF x (r 1) ||| 2 ^ aF x (r 2))) b < 256 := by
    intro l
    induction l with
    | nil => intro _ b hb; exact hb
    | cons r l ih =>
      intro ho b hb
      have o := ho r (by simp)
      have f1 := K.2 (r 1) o.2.1
      have f2 := K.2 (r 2) o.2.2.1
      have p1 := pw_le (show aF x (r 1) ≤ 7 by omega)
      have p2 := pw_le (show aF x (r 2) ≤ 7 by omega)
      rw [List.foldl_cons]
      refine ih (fun q hq => ho q (by simp [hq])) _ ?_
      exact Nat.or_lt_two_pow (n := 8) hb (Nat.or_lt_two_pow (n := 8) (by omega) (by omega))
  have main : ∀ (rest pre : List Rec), dL (aD x) d = pre ++ rest → m_X1_familiesIn_4 (rest.length + 1) Q (da d) 8 1 (n32 (faBits (aF x) pre)) (n32 pre.length) h := by
    intro rest
    induction rest with
    | nil =>
      intro pre e
      rw [List.append_nil] at e
      rw [m_X1_familiesIn_4, C.l, e, n32_le (by rw [← e]; omega) (by rw [← e]; omega)]
      refine ⟨fun _ => by rw [← e]; exact k, fun z => absurd (Nat.le_refl _) z⟩
    | cons r rest ih =>
      intro pre e
      have el : (dL (aD x) d).length = pre.length + (rest.length + 1) := by rw [e]; simp
      have o := ok r (by rw [e]; simp)
      have lf : ∀ w, w < 8 → hI h (da d + 1) (8 * pre.length + w) = n32 (r w) := by
        intro w hw
        have := C.2.2.2.2.2.2.1 pre.length (by omega) w hw
        rw [e, getD_mid] at this
        exact this
      have f1 := V.1 (r 1) o.2.1
      have f2 := V.1 (r 2) o.2.2.1
      have b0 := fb pre (fun q hq => ok q (by rw [e]; simp [hq])) 0 (by decide)
      have b0' : faBits (aF x) pre < 256 := b0
      have p1 := pw_le (show aF x (r 1) ≤ 7 by omega)
      have p2 := pw_le (show aF x (r 2) ≤ 7 by omega)
      have b1 : faBits (aF x) pre ||| 2 ^ aF x (r 1) < 256 := Nat.or_lt_two_pow (n := 8) b0' (by omega)
      rw [m_X1_familiesIn_4, C.l, n32_le (by omega) (by omega), show (8 : Int32) = n32 8 from rfl, n32_mul, show (1 : Int32) = n32 1 from rfl, show (2 : Int32) = n32 2 from rfl, n32_add, n32_add, n32_ix (by omega), n32_ix (by omega), Nat.mul_comm pre.length 8, lf 1 (by omega), lf 2 (by omega), n32_ix (by have := o.2.1; omega), n32_ix (by have := o.2.2.1; omega), f1.1, f2.1]
      refine ⟨fun z => absurd z (by omega), fun _ => ⟨vpI (by omega) (by decide), vpI o.2.1 (by decide), fun x1 e1 => ⟨vpI (by omega) (by decide), vpI o.2.2.1 (by decide), fun x2 e2 x3 e3 => ?_⟩⟩⟩
      rw [show (31 : Int32) = n32 31 from rfl, shl1 (by omega), n32_or (by omega) (by omega)] at e1
      rw [e1, show (31 : Int32) = n32 31 from rfl, shl1 (by omega), n32_or (by omega) (by omega)] at e2
      rw [e2, e3, n32_add]
      have := ih (pre ++ [r]) (by rw [e]; simp)
      rw [List.length_append] at this
      have ef : faBits (aF x) (pre ++ [r]) = (faBits (aF x) pre ||| 2 ^ aF x (r 1)) ||| 2 ^ aF x (r 2) := by
        unfold faBits
        rw [List.foldl_append, List.foldl_cons, List.foldl_nil, Nat.or_assoc]
      rw [ef] at this
      exact this
  exact ⟨_, main (dL (aD x) d) [] rfl⟩
theorem C_size {x : Ab} {da : Nat → Nat} {v1 v2 : Int32} {h : Hp} {Q : Int32 → Hp → Prop} (I : InvC x da h) (K : OkA x) (k : Q (ansSize x v1 v2) h) : m_X11_size v1 v2 h Q := by
  unfold m_X11_size
  unfold ansSize at k
  have D := I.2.2.1
  have V := I.vw
  have h24 := D.2.1
  rw [D.1]
  refine c_within (by omega) (fun e => ?_) (fun d hd h31 e1 e2 => ?_)
  · rw [e] at k; exact ⟨fun z => absurd rfl z, fun _ => k⟩
  · rw [e2] at k
    subst e1
    refine ⟨fun _ => ?_, fun z => absurd z (by decide)⟩
    obtain ⟨r, B, n, C⟩ := D.da hd
    rw [n32_ix (by omega)]
    refine ⟨vpI (by omega) (by decide), da d, r, ?_⟩
    obtain ⟨c1, c2, c3, c4, c5, -⟩ := id C
    rw [c1, c2, c3, c4, c5]
    rcases arg_cases v2 6 with ⟨e, c⟩ | ⟨w, hw, hw2, rfl, e⟩
    · rw [e] at k
      have ne : ∀ j : Nat, j < 6 → ¬ v2 = n32 j := by
        intro j hj z
        rcases c with c | ⟨q, g1, g2, g3⟩
        · rw [z] at c; rw [show (0 : Int32) = n32 0 from rfl, n32_lt (by omega) (by decide)] at c; omega
        · rw [g3, n32_eq g2 (by omega)] at z; omega
      exact ⟨fun z => absurd z (ne 0 (by omega)), fun _ => ⟨fun z => absurd z (ne 1 (by omega)), fun _ => ⟨fun z => absurd z (ne 2 (by omega)), fun _ => ⟨fun z => absurd z (ne 3 (by omega)), fun _ => ⟨fun z => absurd z (ne 4 (by omega)), fun _ => ⟨fun z => absurd z (ne 5 (by omega)), fun _ => k⟩⟩⟩⟩⟩⟩
    · rw [e] at k
      dsimp only at k
      unfold sizeN at k
      rw [show (0 : Int32) = n32 0 from rfl, show (1 : Int32) = n32 1 from rfl, show (2 : Int32) = n32 2 from rfl, show (3 : Int32) = n32 3 from rfl, show (4 : Int32) = n32 4 from rfl, show (5 : Int32) = n32 5 from rfl, n32_eq hw2 (by decide), n32_eq hw2 (by decide), n32_eq hw2 (by decide), n32_eq hw2 (by decide), n32_eq hw2 (by decide), n32_eq hw2 (by decide)]
      refine ⟨fun z => ?_, fun z0 => ⟨fun z => ?_, fun z1 => ⟨fun z => ?_, fun z2 => ⟨fun z => ?_, fun z3 => ⟨fun z => ?_, fun z4 => ⟨fun z => ?_, fun z5 => absurd hw (by omega)⟩⟩⟩⟩⟩⟩
      · rw [if_pos z] at k; exact k
      · rw [if_neg z0, if_pos z] at k; exact k
      · rw [if_neg z0, if_neg z1, if_pos z] at k; exact k
      · rw [if_neg z0, if_neg z1, if_neg z2, if_pos z] at k; exact k
      · rw [if_neg z0, if_neg z1, if_neg z2, if_neg z3, if_pos z] at k
        exact c_famIn V K hd k
      · rw [if_neg z0, if_neg z1, if_neg z2, if_neg z3, if_neg z4] at k; exact k
theorem C_leaf {x : Ab} {da : Nat → Nat} {v1 v2 v3 : Int32} {h : Hp} {Q : Int32 → Hp → Prop} (I : InvC x da h) (K : OkA x) (k : Q (ansLeaf x v1 v2 v3) h) : m_X11_leaf v1 v2 v3 h Q := by
  unfold m_X11_leaf
  unfold ansLeaf at k
  have D := I.2.2.1
  have h24 := D.2.1
  rw [D.1]
  refine c_within (by omega) (fun e => ?_) (fun d hd h31 e1 e2 => ?_)
  · rw [e] at k; exact ⟨fun _ => k, fun z => absurd rfl z⟩
  · rw [e2] at k
    subst e1
    refine ⟨fun z => absurd z (by decide), fun _ => ?_⟩
    obtain ⟨r, B, n, C⟩ := D.da hd
    have hl := K.l12 hd
    rw [show (8 : Int32) = n32 8 from rfl]
    refine c_within (by omega) (fun e => ?_) (fun w hw hw2 e3 e4 => ?_)
    · rw [e] at k; exact ⟨fun z => absurd rfl z, fun _ => k⟩
    · rw [e4] at k
      subst e3
      dsimp only at k
      refine ⟨fun _ => ?_, fun z => absurd z (by decide)⟩
      rw [n32_ix (by omega)]
      refine ⟨vpI (by omega) (by decide), da d, r, ?_⟩
      rw [C.l]
      refine c_within (by omega) (fun e => ?_) (fun j hj hj2 e5 e6 => ?_)
      · rw [e] at k; exact ⟨fun _ => k, fun z => absurd rfl z⟩
      · rw [e6] at k
        subst e5
        dsimp only at k
        refine ⟨fun z => absurd z (by decide), fun _ => ?_⟩
        rw [n32_mul, n32_add, n32_ix (by omega), Nat.mul_comm j 8, C.2.2.2.2.2.2.1 j hj w hw]
        exact ⟨vpI (by omega) (by decide), k⟩
theorem C_plain {x : Ab} {da : Nat → Nat} {v1 v2 : Int32} {h : Hp} {Q : Int32 → Hp → Prop} (I : InvC x da h) (k : ∀ hd, Q (ansPlain hd x v1 v2) h) : m_X11_plain v1 v2 h Q := by
  unfold m_X11_plain
  unfold ansPlain at k
  have D := I.2.2.1
  have h24 := D.2.1
  rw [D.1]
  refine c_within (by omega) (fun e => ?_) (fun d hd h31 e1 e2 => ?_)
  · rw [e] at k; exact ⟨fun _ => k (fun _ _ => 0), fun z => absurd rfl z⟩
  · rw [e2] at k
    subst e1
    refine ⟨fun z => absurd z (by decide), fun _ => ?_⟩
    obtain ⟨r, B, n, C⟩ := D.da hd
    obtain ⟨g, p1, p2⟩ := I.2.2.2.2.2.2.2.2.2.1 d hd
    rw [show (2 : Int32) = n32 2 from rfl]
    refine c_within (by omega) (fun e => ?_) (fun w hw hw2 e3 e4 => ?_)
    · rw [e] at k; exact ⟨fun z => absurd rfl z, fun _ => k (fun _ _ => 0)⟩
    · rw [e4] at k
      subst e3
      dsimp only at k
      have kk := k (fun _ => g)
      rw [n32_ix (by omega), show (0 : Int32) = n32 0 from rfl, n32_eq (by omega) (by decide)]
      refine ⟨fun _ => ⟨fun z => ⟨vpI (by omega) (by decide), da d, r, ?_⟩, fun z => ⟨vpI (by omega) (by decide), da d, r, ?_⟩⟩, fun z => absurd z (by decide)⟩
      · rw [if_neg z] at kk; rw [p2]; exact kk
      · rw [if_pos z] at kk; rw [p1]; exact kk
theorem C_fault {x : Ab} {da : Nat → Nat} {h : Hp} {Q : Int32 → Hp → Prop} (I : InvC x da h) (k : Q (ansFault x) h) : m_X11_fault h Q := by
  unfold m_X11_fault
  rw [I.2.2.2.2.1.1]
  exact k
/-- the law in force -/
theorem c_law {x : Ab} {da : Nat → Nat} {h : Hp} {Q : Option Nat → Hp → Prop} (I : InvC x da h) (k0 : (aL x).length = 0 → Q none h) (k1 : ∀ a, (aL x).length ≠ 0 → 108 ≤ a → CRul (lawS x) h a → Q (some a) h) : m_X11_lawInForce h Q := by
  unfold m_X11_lawInForce
  obtain ⟨e6, ⟨l6, c2, -, -, c5⟩, -⟩ := I.2.2.2.2.2.1
  rw [e6, show (0 : Int32) = n32 0 from rfl, n32_eq (by omega) (by decide)]
  refine ⟨fun z => ?_, k0⟩
  rw [show (1 : Int32) = n32 1 from rfl, n32_sub (by omega), n32_ix (by omega)]
  obtain ⟨a, r, C⟩ := c5 ((aL x).length - 1) (by omega)
  exact ⟨vpI (by omega) (by decide), a, r, k1 a z (c2 _ a (by omega) r).1 C⟩
theorem C_count {x : Ab} {da : Nat → Nat} {v : Int32} {h : Hp} {Q : Int32 → Hp → Prop} (I : InvC x da h) (k : Q (ansCount x v) h) : m_X11_count v h Q := by
  unfold m_X11_count
  unfold ansCount at k
  have V := I.vw
  have B := I.2.2.2.2.2.2.1.bd
  have z1 := I.2.2.1.1
  obtain ⟨z2, ⟨l6, c2, -, -, c5⟩, z3, -⟩ := I.2.2.2.2.2.1
  have z4 := I.2.2.2.2.2.2.1.1
  have z5 := I.2.2.2.2.2.2.2.1.1
  have z6 := I.2.2.2.2.2.2.2.2.1.1
  have z9 := I.2.2.2.1.1
  rw [z1, z2, z3, z4, z5, z6, z9]
  rcases arg_cases v 10 with ⟨e, c⟩ | ⟨w, hw, hw2, rfl, e⟩
  · rw [e] at k
    have ne : ∀ j : Nat, j < 10 → ¬ v = n32 j := by
      intro j hj z
      rcases c with c | ⟨q, g1, g2, g3⟩
      · rw [z] at c; rw [show (0 : Int32) = n32 0 from rfl, n32_lt (by omega) (by decide)] at c; omega
      · rw [g3, n32_eq g2 (by omega)] at z; omega
    exact ⟨fun z => absurd z (ne 0 (by omega)), fun _ => ⟨fun z => absurd z (ne 1 (by omega)), fun _ => ⟨fun z => absurd z (ne 2 (by omega)), fun _ => ⟨fun z => absurd z (ne 3 (by omega)), fun _ => ⟨fun z => absurd z (ne 4 (by omega)), fun _ => ⟨fun z => absurd z (ne 5 (by omega)), fun _ => ⟨fun z => absurd z (ne 6 (by omega)), fun _ => ⟨fun z => absurd z (ne 7 (by omega)), fun _ => ⟨fun z => absurd z (ne 8 (by omega)), fun _ => ⟨fun z => absurd z (ne 9 (by omega)), fun _ => k⟩⟩⟩⟩⟩⟩⟩⟩⟩⟩
  · rw [e] at k
    dsimp only at k
    unfold countN at k
    have law : w = 2 → Q (n32 (lawS x).length) h → (¬ n32 (aL x).length = 0 → vp_in (n32 (aL x).length - 1) 6 ∧ ∃ b1 : Nat, hR h 9 (ix (n32 (aL x).length - 1)) = some b1 ∧ Q (hI h b1 1) h) ∧ (n32 (aL x).length = 0 → Q 0 h) := by
      intro _ kk
      refine ⟨fun z => ?_, fun z => ?_⟩
      · rw [show (0 : Int32) = n32 0 from rfl, n32_eq (by omega) (by decide)] at z
        rw [show (1 : Int32) = n32 1 from rfl, n32_sub (by omega), n32_ix (by omega)]
        obtain ⟨a, r, C⟩ := c5 ((aL x).length - 1) (by omega)
        refine ⟨vpI (by omega) (by decide), a, r, ?_⟩
        rw [C.1]; exact kk
      · rw [show (0 : Int32) = n32 0 from rfl, n32_eq (by omega) (by decide)] at z
        have : lawS x = [] := by unfold lawS; rw [List.length_eq_zero_iff.mp z]; rfl
        rw [this] at kk; exact kk
    have lit : ∀ j : Nat, j < 10 → ((n32 w = n32 j) ↔ w = j) := fun j hj => n32_eq hw2 (by omega)
    refine ⟨fun z => ?_, fun y0 => ⟨fun z => ?_, fun y1 => ⟨fun z => ?_, fun y2 => ⟨fun z => ?_, fun y3 => ⟨fun z => ?_, fun y4 => ⟨fun z => ?_, fun y5 => ⟨fun z => ?_, fun y6 => ⟨fun z => ?_, fun y7 => ⟨fun z => ?_, fun y8 => ⟨fun z => ?_, fun y9 => ?_⟩⟩⟩⟩⟩⟩⟩⟩⟩⟩
    · have := (lit 0 (by omega)).mp z; subst this; exact k
    · have := (lit 1 (by omega)).mp z; subst this; exact k
    · have := (lit 2 (by omega)).mp z; subst this; exact law rfl k
    · have := (lit 3 (by omega)).mp z; subst this; exact k
    · have := (lit 4 (by omega)).mp z; subst this; exact k
    · have := (lit 5 (by omega)).mp z; subst this; exact k
    · have := (lit 6 (by omega)).mp z; subst this; exact k
    · have := (lit 7 (by omega)).mp z; subst this; exact c_allLeaves V B k
    · have := (lit 8 (by omega)).mp z; subst this; exact c_allChoices V B k
    · have := (lit 9 (by omega)).mp z; subst this; exact k
    · have q0 : ¬ w = 0 := fun q => y0 ((lit 0 (by omega)).mpr q)
      have q1 : ¬ w = 1 := fun q => y1 ((lit 1 (by omega)).mpr q)
      have q2 : ¬ w = 2 := fun q => y2 ((lit 2 (by omega)).mpr q)
      have q3 : ¬ w = 3 := fun q => y3 ((lit 3 (by omega)).mpr q)
      have q4 : ¬ w = 4 := fun q => y4 ((lit 4 (by omega)).mpr q)
      have q5 : ¬ w = 5 := fun q => y5 ((lit 5 (by omega)).mpr q)
      have q6 : ¬ w = 6 := fun q => y6 ((lit 6 (by omega)).mpr q)
      have q7 : ¬ w = 7 := fun q => y7 ((lit 7 (by omega)).mpr q)
      have q8 : ¬ w = 8 := fun q => y8 ((lit 8 (by omega)).mpr q)
      have q9 : ¬ w = 9 := fun q => y9 ((lit 9 (by omega)).mpr q)
      omega
theorem C_codes {x : Ab} {da : Nat → Nat} {h : Hp} {Q : Int32 → Hp → Prop} (I : InvC x da h) (K : OkA x) (k : Q (ansCodes x) h) : m_X11_codes h Q := by
  unfold m_X11_codes
  unfold ansCodes at k
  have V := I.vw
  have B := I.2.2.2.2.2.2.1.bd
  refine c_isLooked V K B (fun q => ?_) (fun q => ?_)
  · rw [if_pos q] at k
    exact ⟨fun z => absurd z (by decide), fun _ => c_codesLooked V K B q k⟩
  · rw [if_neg q] at k
    exact ⟨fun _ => k, fun z => absurd rfl z⟩
