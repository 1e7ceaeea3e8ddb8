/-! THE CLASS: same, what is poured -/
def amK (c : Nat) (rs : List Rec) (ky : Nat) : Nat := ((rs.filter (psB c)).map (fun q => if keyN q = ky then q 6 else 0)).sum
theorem amK_snoc (c : Nat) (rs : List Rec) (q : Rec) (ky : Nat) : amK c (rs ++ [q]) ky = amK c rs ky + (if psB c q = true ∧ keyN q = ky then q 6 else 0) := by
  unfold amK
  rw [List.filter_append, List.map_append, List.sum_append, List.filter_cons, List.filter_nil]
  by_cases p : psB c q = true
  · rw [if_pos p]
    by_cases y : keyN q = ky
    · rw [if_pos ⟨p, y⟩]; simp [y]
    · rw [if_neg (fun w => y w.2)]; simp [y]
  · rw [if_neg p, if_neg (fun w => p w.1)]; rfl
theorem nodup_getD {Ks : List Nat} (hn : Ks.Nodup) {s t : Nat} (hs : s < Ks.length) (ht : t < Ks.length) (e : Ks.getD s 0 = Ks.getD t 0) : s = t := by
  rw [List.getD_eq_getElem?_getD, List.getD_eq_getElem?_getD, List.getElem?_eq_getElem hs, List.getElem?_eq_getElem ht, Option.getD_some, Option.getD_some] at e
  exact (List.getElem_inj hn).mp e
set_option maxHeartbeats 4000000 in
set_option maxRecDepth 100000 in
theorem c_pour {x : Ab} {da : Nat → Nat} {d base c : Nat} {sg : Int32} {si : Int} {Ks : List Nat} {T : Nat → Int} {h : Hp} {Q : Hp → Prop} (V : CVw x da h) (K : OkA x) (hd : d < (aD x).length) (hb : base ≤ 36) (hc : c < 2147483648) (hs : sg.toInt64 = z64 si) (nd : Ks.Nodup) (l72 : Ks.length ≤ 72) (S : SlA base (cRows (dL (aD x) d)) Ks h) (A : ∀ s, s < Ks.length → hJ h 46 s = z64 (T s))
    (k : ∀ h', fr (fun a _ => a = 46) h h' → (∀ s, s < Ks.length → hJ h' 46 s = z64 (T s + si * amK c (cRows (dL (aD x) d)) (Ks.getD s 0))) → Q h') : m_X4_pour (da d) (n32 base) (n32 c) sg h Q := by
  have r36 := rows_le K hd
  unfold m_X4_pour
  have main : ∀ (rs ps : List Rec) (h1 : Hp), cRows (dL (aD x) d) = ps ++ rs → fr (fun a _ => a = 46) h h1 → (∀ s, s < Ks.length → hJ h1 46 s = z64 (T s + si * amK c ps (Ks.getD s 0))) → m_X4_pour_3 (rs.length + 1) Q (da d) (n32 base) (n32 c) sg (n32 ps.length) h1 := by
    intro rs
    induction rs with
    | nil =>
      intro ps h1 e f A1
      rw [List.append_nil] at e
      have V1 := V.mv f (by omega)
      rw [m_X4_pour_3, (V1.2.2 d hd).1.r, e, n32_le (by rw [← e]; omega) (by rw [← e]; omega)]
      exact ⟨fun _ => k h1 f (by rw [e]; exact A1), fun z => absurd (Nat.le_refl _) z⟩
    | cons q rs ih =>
      intro ps h1 e f A1
      have V1 := V.mv f (by omega)
      obtain ⟨R, O, h36⟩ := V1.row K hd e
      have len : (cRows (dL (aD x) d)).length = ps.length + (rs.length + 1) := by rw [e]; simp
      have w6 := R.2.2.2.2.2.2
      have nx := ih (ps ++ [q])
      rw [List.length_append] at nx
      obtain ⟨s0, t1, t2, t3⟩ := S ps.length (by omega)
      have e0 : (cRows (dL (aD x) d)).getD ps.length rec0 = q := by rw [e, getD_mid]
      rw [e0] at t3
      have t2' : hI h1 45 (base + ps.length) = n32 s0 := by rw [f.I (by omega)]; exact t2
      rw [m_X4_pour_3, (V1.2.2 d hd).1.r, n32_le (by omega) (by omega)]
      refine ⟨fun z => absurd z (by omega), fun _ => ?_⟩
      refine c_passing R O h36 hc (fun p => ⟨fun z => absurd z (by decide), fun _ => ?_⟩) (fun p => ⟨fun _ => ?_, fun z => absurd rfl z⟩)
      · rw [n32_add, n32_ix (show base + ps.length < 2147483648 by omega), t2', n32_ix (show s0 < 2147483648 by omega), n32_ix (show ps.length < 2147483648 by omega), A1 s0 t1, w6, hs, z64_mul, z64_add]
        refine ⟨vpI (by omega) (by decide), vpI (by omega) (by decide), vpI (by omega) (by decide), vpI (by omega) (by decide), ?_⟩
        unfold m_X4_pour_50
        intro x1 e1
        rw [e1, show n32 ps.length + 1 = n32 (ps.length + 1) from n32_add _ 1]
        refine nx _ (by rw [e]; simp) (fr_wJ f _ rfl) (fun s hs2 => ?_)
        rw [hJ_wJ, amK_snoc]
        by_cases y : s = s0
        · subst y
          rw [if_pos ⟨rfl, rfl⟩, if_pos ⟨p, t3.symm⟩, Int.natCast_add, Int.mul_add, ← Int.add_assoc]
        · have nk : ¬ keyN q = Ks.getD s 0 := fun w => y (nodup_getD nd hs2 t1 (by rw [t3, w]))
          rw [if_neg (fun w => y w.2), if_neg (fun w => nk w.2), Nat.add_zero]
          exact A1 s hs2
      · unfold m_X4_pour_50
        intro x1 e1
        rw [e1, show n32 ps.length + 1 = n32 (ps.length + 1) from n32_add _ 1]
        refine nx h1 (by rw [e]; simp) f (fun s hs2 => ?_)
        rw [amK_snoc, if_neg (fun w => by rw [p] at w; exact absurd w.1 (by simp)), Nat.add_zero]
        exact A1 s hs2
  refine ⟨_, main (cRows (dL (aD x) d)) [] h rfl (fr.rf _ _) (fun s hs2 => ?_)⟩
  rw [A s hs2]
  show z64 (T s) = z64 (T s + si * ((0 : Nat) : Int))
  simp
theorem c_isLevel {N : Nat} {T : Nat → Int} {h : Hp} {Q : Int32 → Hp → Prop} (e43 : hI h 43 3 = n32 N) (l72 : N ≤ 72) (A : ∀ s, s < N → hJ h 46 s = z64 (T s) ∧ -9000000000000 ≤ T s ∧ T s ≤ 9000000000000) (k1 : (∀ s, s < N → T s = 0) → Q 1 h) (k0 : ∀ s, s < N → T s ≠ 0 → Q 0 h) : m_X4_isLevel h Q := by
  unfold m_X4_isLevel
  have main : ∀ (r v : Nat), r + v = N → (∀ s, s < v → T s = 0) → m_X4_isLevel_2 (r + 1) Q (n32 v) h := by
    intro r
    induction r with
    | zero =>
      intro v e Z
      obtain rfl : v = N := by omega
      rw [m_X4_isLevel_2, e43, n32_le (by omega) (by omega)]
      exact ⟨fun _ => k1 Z, fun z => absurd (Nat.le_refl _) z⟩
    | succ r ih =>
      intro v e Z
      obtain ⟨a1, a2, a3⟩ := A v (by omega)
      rw [m_X4_isLevel_2, e43, n32_le (by omega) (by omega), n32_ix (by omega), a1, show (0 : Int64) = z64 0 from rfl, show (0 : Int32) = n32 0 from rfl, lgc_eq (by omega) (by omega) (by omega) (by omega)]
      refine ⟨fun z => absurd z (by omega), fun _ => ⟨vpI (by omega) (by decide), fun z x1 e1 => ?_, fun z => k0 v (by omega) z⟩⟩
      rw [e1, show n32 v + 1 = n32 (v + 1) from n32_add _ 1]
      refine ih (v + 1) (by omega) (fun s hs => ?_)
      by_cases y : s = v
      · rw [y]; exact z
      · exact Z s (by omega)
  exact ⟨_, main N 0 (by omega) (fun s hs => absurd hs (by omega))⟩
theorem amK_le {x : Ab} (K : OkA x) {d : Nat} (hd : d < (aD x).length) (c ky : Nat) : amK c (cRows (dL (aD x) d)) ky ≤ 360000000000 := by
  have r36 := rows_le K hd
  have ok : ∀ q ∈ cRows (dL (aD x) d), q 6 ≤ 10000000000 := fun q hq => ((cRows_ok (K.1 d hd).1.2.2.2.2.2.2.1).1 q hq).2.2.2.2.2.2.1
  have : ∀ (rs : List Rec), (∀ q ∈ rs, q 6 ≤ 10000000000) → ((rs.map (fun q => if keyN q = ky then q 6 else 0)).sum) ≤ 10000000000 * rs.length := by
    intro rs
    induction rs with
    | nil => intro _; simp
    | cons q rs ih =>
      intro h
      rw [List.map_cons, List.sum_cons, List.length_cons]
      have := ih (fun r hr => h r (by simp [hr]))
      have := h q (by simp)
      split <;> omega
  have h1 := this ((cRows (dL (aD x) d)).filter (psB c)) (fun q hq => ok q (List.mem_filter.mp hq).1)
  have h2 := List.length_filter_le (psB c) (cRows (dL (aD x) d))
  unfold amK
  omega
