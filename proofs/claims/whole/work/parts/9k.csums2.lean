/-! THE CLASS: cost, parts -/
theorem c_pair {v1 v2 : Int32} {h : Hp} {Q : Int32 → Hp → Prop} (k1 : (∀ l b, argN v1 8 = some l → argN v2 8 = some b → l = b) → Q 0 h) (k2 : ∀ l b, l < 8 → b < 8 → l ≠ b → v1 = n32 l → v2 = n32 b → argN v1 8 = some l → argN v2 8 = some b → Q 1 h) : m_X11_isPair v1 v2 h Q := by
  unfold m_X11_isPair
  rw [show (8 : Int32) = n32 8 from rfl]
  refine c_within (by omega) (fun e => ?_) (fun l hl hl2 e1 e2 => ?_)
  · exact ⟨fun _ => k1 (fun l b h1 _ => by rw [e] at h1; cases h1), fun z => absurd rfl z⟩
  · refine ⟨fun z => absurd z (by decide), fun _ => ?_⟩
    refine c_within (by omega) (fun e => ?_) (fun b hb hb2 e3 e4 => ?_)
    · exact ⟨fun _ => k1 (fun l b _ h2 => by rw [e] at h2; cases h2), fun z => absurd rfl z⟩
    · refine ⟨fun z => absurd z (by decide), fun _ => ⟨fun z => ?_, fun z => ?_⟩⟩
      · refine k1 (fun l' b' h1 h2 => ?_)
        rw [e2] at h1; rw [e4] at h2
        injection h1 with h1; injection h2 with h2
        rw [e1, e3, n32_eq hl2 hb2] at z
        omega
      · exact k2 l b hl hb (fun y => z (by rw [e1, e3, y])) e1 e3 e2 e4
theorem C_cost {x : Ab} {da : Nat → Nat} {v1 v2 v3 : Int32} {h : Hp} {Q : Int64 → Hp → Prop} (I : InvC x da h) (K : OkA x) (k : Q (ansCost x v1 v2 v3) h) : m_X11_cost v1 v2 v3 h Q := by
  unfold m_X11_cost
  unfold ansCost bR at k
  have V := I.vw
  have B := I.2.2.2.2.2.2.1.bd
  refine c_pair (fun e => ?_) (fun l b hl hb hlb e1 e2 e3 e4 => ?_)
  · refine ⟨fun _ => ?_, fun z => absurd rfl z⟩
    cases h1 : argN v1 8 with
    | none => rw [h1] at k; exact k
    | some l =>
      cases h2 : argN v2 8 with
      | none => rw [h1, h2] at k; exact k
      | some b =>
        rw [h1, h2] at k
        have := e l b h1 h2
        cases h3 : argN v3 2 with
        | none => rw [h3] at k; exact k
        | some w => rw [h3] at k; dsimp only at k; rw [if_pos this] at k; exact k
  · rw [e3, e4] at k
    subst e1; subst e2
    refine ⟨fun z => absurd z (by decide), fun _ => ?_⟩
    rw [show (2 : Int32) = n32 2 from rfl]
    refine c_within (by omega) (fun e => ?_) (fun w hw hw2 e5 e6 => ?_)
    · rw [e] at k; exact ⟨fun z => absurd rfl z, fun _ => k⟩
    · rw [e6] at k
      subst e5
      dsimp only at k
      rw [if_neg hlb] at k
      refine ⟨fun _ => ?_, fun z => absurd z (by decide)⟩
      have nb : ∀ f, -3000000000000 ≤ net (aF x) (bRows (aD x) (aB x) 0 0) f 0 ∧ net (aF x) (bRows (aD x) (aB x) 0 0) f 0 ≤ 3000000000000 := fun f => by
        have := bR_abs K B.2.2.2 B.2.1 0 0 f 0 0
        rw [netG0] at this; exact this
      have main : ∀ (r f : Nat) (s : Int × Int × Nat), r + f = 8 → s = (List.range f).foldl (costS (aF x) (bRows (aD x) (aB x) 0 0) l b) (0, 0, 0) → 0 ≤ s.1 → s.1 ≤ 3000000000000 * f → 0 ≤ s.2.1 → s.2.1 ≤ 3000000000000 → s.2.2 ≤ 8 → m_X11_cost_32 (r + 1) (m_X11_cost_109 Q) Q (n32 l) (n32 b) (n32 w) (z64 s.1) (z64 s.2.1) (pm s.2.2) (n32 f) h := by
        intro r
        induction r with
        | zero =>
          intro f s hr es b1 b2 b3 b4 b5
          obtain rfl : f = 8 := by omega
          rw [m_X11_cost_32, show (8 : Int32) = n32 8 from rfl, n32_le (by decide) (by decide)]
          refine ⟨fun _ => ?_, fun z => absurd (Nat.le_refl _) z⟩
          unfold m_X11_cost_109
          rw [← es] at k
          rw [show (0 : Int32) = n32 0 from rfl, n32_eq hw2 (by decide)]
          refine ⟨fun z => ?_, fun z => ?_⟩
          · rw [if_neg z] at k; exact k
          · rw [if_pos z] at k; exact k
        | succ r ih =>
          intro f s hr es b1 b2 b3 b4 b5
          have N := nb f
          have es' : (List.range (f + 1)).foldl (costS (aF x) (bRows (aD x) (aB x) 0 0) l b) (0, 0, 0) = costS (aF x) (bRows (aD x) (aB x) 0 0) l b s f := by
            rw [List.range_succ, List.foldl_append, ← es]; rfl
          have nx : ∀ s', s' = costS (aF x) (bRows (aD x) (aB x) 0 0) l b s f → 0 ≤ s'.1 → s'.1 ≤ 3000000000000 * (f + 1 : Nat) → 0 ≤ s'.2.1 → s'.2.1 ≤ 3000000000000 → s'.2.2 ≤ 8 → m_X11_cost_103 (fun (v1 : Int32) (v2 : Int32) (v3 : Int32) (v4 : Int64) (v6 : Int64) (v8 : Int32) (v9 : Int32) hh => m_X11_cost_32 (r + 1) (m_X11_cost_109 Q) Q v1 v2 v3 v4 v6 v8 v9 hh) (m_X11_cost_109 Q) Q (n32 l) (n32 b) (n32 w) (z64 s'.1) (z64 s'.2.1) (pm s'.2.2) (n32 f) h := by
            intro s' e' c1 c2 c3 c4 c5
            unfold m_X11_cost_103
            intro x1 ex1
            rw [ex1, show n32 f + 1 = n32 (f + 1) from n32_add _ 1]
            exact ih (f + 1) s' (by omega) (by rw [es', e']) c1 c2 c3 c4 c5
          have zero : (f = l ∨ f = b) → m_X11_cost_51 (fun (v1 : Int32) (v2 : Int32) (v3 : Int32) (v4 : Int64) (v6 : Int64) (v8 : Int32) (v9 : Int32) hh => m_X11_cost_32 (r + 1) (m_X11_cost_109 Q) Q v1 v2 v3 v4 v6 v8 v9 hh) (m_X11_cost_109 Q) Q (n32 l) (n32 b) (n32 w) (z64 s.1) (z64 s.2.1) (pm s.2.2) (n32 f) h := by
            intro hz
            have same : s = costS (aF x) (bRows (aD x) (aB x) 0 0) l b s f := by
              unfold costS; rw [if_pos (by omega)]
            unfold m_X11_cost_51 m_X11_cost_71 m_X11_cost_87
            rw [show (0 : Int64) = z64 0 from rfl, show (0 : Int32) = n32 0 from rfl, lgc_le (by omega) (by omega) (by omega) (by omega), lgc_le (by omega) (by omega) (by omega) (by omega)]
            exact ⟨fun _ => ⟨fun _ => nx s same b1 (by omega) b3 b4 b5, fun z => absurd b3 z⟩, fun z => absurd (Int.le_refl _) z⟩
          rw [m_X11_cost_32, show (8 : Int32) = n32 8 from rfl, n32_le (by decide) (by omega), n32_eq (by omega) (by omega), n32_eq (by omega) (by omega)]
          refine ⟨fun z => absurd z (by omega), fun _ => ⟨fun z => zero (Or.inl z), fun z => ⟨fun z2 => ?_, fun z2 => zero (Or.inr z2)⟩⟩⟩
          rw [show (0 : Int32) = n32 0 from rfl, show (-1 : Int32) = pm 0 from rfl]
          refine c_sumOf V K B (by decide) (by omega) (by decide) (by decide) ?_
          rw [netG0]
          generalize hv : net (aF x) (bRows (aD x) (aB x) 0 0) f 0 = v at N
          have cs : costS (aF x) (bRows (aD x) (aB x) 0 0) l b s f = if v ≤ 0 then s else (s.1 + v, if s.2.1 < v then v else s.2.1, if s.2.1 < v then f + 1 else s.2.2) := by
            unfold costS
            rw [hv]
            by_cases q : v ≤ 0
            · rw [if_pos (by omega), if_pos q]
            · rw [if_neg (by omega), if_neg q]
          unfold m_X11_cost_71 m_X11_cost_87
          rw [show (0 : Int64) = z64 0 from rfl, show (0 : Int32) = n32 0 from rfl, lgc_le (by omega) (by omega) (by omega) (by omega), lgc_le (by omega) (by omega) (by omega) (by omega)]
          refine ⟨fun q => ⟨fun _ => ?_, fun q2 => absurd (by omega) q2⟩, fun q => ?_⟩
          · rw [if_pos q] at cs
            exact nx s cs.symm b1 (by omega) b3 b4 b5
          · rw [if_neg q] at cs
            intro x2 ex2
            rw [ex2, z64_add]
            refine ⟨fun q2 => ?_, fun q2 => ?_⟩
            · rw [if_neg (by omega), if_neg (by omega)] at cs
              exact nx (s.1 + v, s.2.1, s.2.2) cs.symm (by show 0 ≤ s.1 + v; omega) (by show s.1 + v ≤ _; omega) b3 b4 b5
            · rw [if_pos (by omega), if_pos (by omega)] at cs
              exact nx (s.1 + v, v, f + 1) cs.symm (by show 0 ≤ s.1 + v; omega) (by show s.1 + v ≤ _; omega) (by show 0 ≤ v; omega) (by show v ≤ _; omega) (by show f + 1 ≤ 8; omega)
      exact ⟨9, main 8 0 (0, 0, 0) rfl rfl (by decide) (by decide) (by decide) (by decide) (by decide)⟩
/-- sums in a row of longs -/
def SmA (h : Hp) (a base : Nat) (A : Nat → Int) : Prop := ∀ k, k < 48 → hJ h a (base + k) = z64 (A k)
theorem net_app (F : Nat → Nat) (l m : List Rec) (f t : Nat) : net F (l ++ m) f t = net F l f t + net F m f t := by unfold net; rw [List.map_append, List.sum_append]
theorem net_one (F : Nat → Nat) (r : Rec) (f t : Nat) : net F [r] f t = if r 3 = t then shr F f r else 0 := by simp [net]
set_option maxHeartbeats 4000000 in
set_option maxRecDepth 100000 in
theorem c_sumInto {x : Ab} {da : Nat → Nat} {d c a n base : Nat} {sg : Int32} {si : Int} {A : Nat → Int} {h : Hp} {Q : Hp → Prop} (V : CVw x da h) (K : OkA x) (hd : d < (aD x).length) (hc : c < 2147483648) (ha : a < 108) (ha1 : a ≠ 1) (hn : base + 48 ≤ n) (hn2 : n < 2147483648) (hs : sg.toInt64 = z64 si) (S : SmA h a base A)
    (k : ∀ h', fr (fun b j => b = a ∧ base ≤ j ∧ j < base + 48) h h' → SmA h' a base (fun k => A k + si * net (aF x) (dlRows (dL (aD x) d) c) (k / 6) (k % 6)) → Q h') : m_X5_sumInto (da d) (n32 c) sg a n (n32 base) h Q := by
  have r36 := rows_le K hd
  have main : ∀ (rs ps : List Rec) (h1 : Hp), cRows (dL (aD x) d) = ps ++ rs → fr (fun b j => b = a ∧ base ≤ j ∧ j < base + 48) h h1 → SmA h1 a base (fun k => A k + si * net (aF x) ((ps.filter (psB c)).map un) (k / 6) (k % 6)) → m_X5_sumInto_3 (rs.length + 1) Q (da d) (n32 c) sg n a (n32 base) (n32 ps.length) h1 := by
    intro rs
    induction rs with
    | nil =>
      intro ps h1 e f S1
      rw [List.append_nil] at e
      have V1 := V.mv f (by omega)
      rw [m_X5_sumInto_3, (V1.2.2 d hd).1.r, e, n32_le (by rw [← e]; omega) (by rw [← e]; omega)]
      refine ⟨fun _ => k h1 f ?_, fun z => absurd (Nat.le_refl _) z⟩
      rw [dl_c, e]; exact S1
    | cons q rs ih =>
      intro ps h1 e f S1
      have V1 := V.mv f (by omega)
      have h108 := (V1.2.2 d hd).2
      obtain ⟨R, O, h36⟩ := V1.row K hd e
      have len : (cRows (dL (aD x) d)).length = ps.length + (rs.length + 1) := by rw [e]; simp
      obtain ⟨w0, w1, w2, w3, w4, w5, w6⟩ := id R
      have o1 := O.2.1; have o2 := O.2.2.1; have o3 := O.2.2.2.1
      have f1 := V1.1 (q 1) o1
      have f2 := V1.1 (q 2) o2
      rw [m_X5_sumInto_3, (V1.2.2 d hd).1.r, n32_le (by omega) (by omega)]
      refine ⟨fun z => absurd z (by omega), fun _ => ?_⟩
      refine c_passing R O h36 hc (fun p => ⟨fun z => absurd z (by decide), fun _ => ?_⟩) (fun p => ⟨fun _ => ?_, fun z => absurd rfl z⟩)
      · intro x4 e4 
        rw [show (6 : Int32) = n32 6 from rfl, n32_mul, Nat.mul_comm ps.length 6] at e4
        subst e4
        rw [show (3 : Int32) = n32 3 from rfl, show (2 : Int32) = n32 2 from rfl, show (1 : Int32) = n32 1 from rfl, show (6 : Int32) = n32 6 from rfl]
        simp only [hI_wJ]
        rw [n32_add, n32_add, n32_add, n32_ix (by omega), n32_ix (by omega), n32_ix (by omega), w1, w2, w3, n32_ix (by omega), n32_ix (by omega), f1.1, f2.1, n32_mul, n32_mul, n32_add, n32_add]
        refine ⟨vpI (by omega) (by decide), fun x5 e5 => ?_⟩
        subst e5
        rw [n32_add, n32_add, n32_ix (by omega), n32_ix (by omega), n32_ix (by omega), show ∀ v : Int64, hJ (wJ h1 a (base + aF x (q 2) * 6 + q 3) v) (da d + 3) ps.length = hJ h1 (da d + 3) ps.length from fun v => by rw [hJ_wJ, if_neg (by omega)], w6, hs, z64_mul]
        have j2 : aF x (q 2) * 6 + q 3 < 48 := by omega
        have j1 : aF x (q 1) * 6 + q 3 < 48 := by omega
        have z2 := S1 (aF x (q 2) * 6 + q 3) j2
        have z1 := S1 (aF x (q 1) * 6 + q 3) j1
        rw [← Nat.add_assoc] at z1 z2
        dsimp only at z1 z2
        refine ⟨vpI (by omega) (by decide), vpI o2 (by decide), vpI (by omega) (by omega), vpI h36 (by decide), vpI (by omega) (by omega), vpI (by omega) (by decide), vpI o1 (by decide), vpI (by omega) (by omega), vpI h36 (by decide), vpI (by omega) (by omega), ?_⟩
        unfold m_X5_sumInto_118
        intro x1 e1
        rw [e1, show n32 ps.length + 1 = n32 (ps.length + 1) from n32_add _ 1, z2, z64_add]
        have nx := ih (ps ++ [q])
        rw [List.length_append] at nx
        refine nx _ (by rw [e]; simp) (fr_wJ (fr_wJ f _ ⟨rfl, by omega, by omega⟩) _ ⟨rfl, by omega, by omega⟩) (fun j hj => ?_)
        have pj := S1 j hj
        dsimp only at pj
        have eg : ∀ g t, net (aF x) (((ps ++ [q]).filter (psB c)).map un) g t = net (aF x) ((ps.filter (psB c)).map un) g t + (if q 3 = t then (if aF x (q 2) = g then (q 6 : Int) else 0) - (if aF x (q 1) = g then (q 6 : Int) else 0) else 0) := by
          intro g t
          obtain ⟨u0, u1, u2, u3, u4⟩ := un_f q
          rw [List.filter_append, List.map_append, net_app, List.filter_cons, if_pos p, List.filter_nil, List.map_cons, List.map_nil, net_one, u3]
          unfold shr
          rw [u1, u2, u4]
        dsimp only
        rw [eg]
        have k2 : (base + j = base + aF x (q 2) * 6 + q 3) ↔ (aF x (q 2) = j / 6 ∧ q 3 = j % 6) := by omega
        have k1 : (base + j = base + aF x (q 1) * 6 + q 3) ↔ (aF x (q 1) = j / 6 ∧ q 3 = j % 6) := by omega
        simp only [hJ_wJ]
        by_cases q2 : base + j = base + aF x (q 2) * 6 + q 3
        · obtain ⟨y1, y2⟩ := k2.mp q2
          have ej : j = aF x (q 2) * 6 + q 3 := by omega
          by_cases q1 : base + j = base + aF x (q 1) * 6 + q 3
          · obtain ⟨y3, y4⟩ := k1.mp q1
            rw [if_pos ⟨trivial, q1⟩, if_pos ⟨trivial, by omega⟩, z64_sub, if_pos y2, if_pos y1, if_pos y3, ← ej]
            congr 1
            rw [Int.sub_self, Int.add_zero]
            omega
          · rw [if_neg (fun y => q1 y.2), if_pos ⟨trivial, q2⟩, if_pos y2, if_pos y1, if_neg (fun y => q1 (k1.mpr ⟨y, y2⟩)), ← ej, Int.sub_zero, Int.mul_add, Int.add_assoc]
        · by_cases q1 : base + j = base + aF x (q 1) * 6 + q 3
          · obtain ⟨y3, y4⟩ := k1.mp q1
            have ej : j = aF x (q 1) * 6 + q 3 := by omega
            have n2 : ¬ aF x (q 2) = j / 6 := fun y => q2 (k2.mpr ⟨y, y4⟩)
            rw [if_pos ⟨trivial, q1⟩, if_neg (fun y => q2 (by omega)), z1, z64_sub, if_pos y4, if_neg n2, if_pos y3, ← ej]
            congr 1
            rw [Int.zero_sub, Int.mul_add, Int.mul_neg]
            omega
          · rw [if_neg (fun y => q1 y.2), if_neg (fun y => q2 y.2), pj]
            by_cases y4 : q 3 = j % 6
            · rw [if_pos y4, if_neg (fun y => q2 (k2.mpr ⟨y, y4⟩)), if_neg (fun y => q1 (k1.mpr ⟨y, y4⟩)), Int.sub_self, Int.add_zero]
            · rw [if_neg y4, Int.add_zero]
      · unfold m_X5_sumInto_118
        intro x1 e1
        rw [e1, show n32 ps.length + 1 = n32 (ps.length + 1) from n32_add _ 1]
        have nx := ih (ps ++ [q])
        rw [List.length_append] at nx
        refine nx h1 (by rw [e]; simp) f ?_
        rw [List.filter_append, List.filter_cons, if_neg (by rw [p]; simp), List.filter_nil, List.append_nil]
        exact S1
  refine ⟨_, main _ [] h rfl (fr.rf _ _) (fun j hj => ?_)⟩
  have : net (aF x) (([].filter (psB c)).map un) (j / 6) (j % 6) = 0 := rfl
  dsimp only
  rw [this, Int.mul_zero, Int.add_zero]
  exact S j hj
