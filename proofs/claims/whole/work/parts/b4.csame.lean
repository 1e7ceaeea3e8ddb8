/-! THE CLASS: same, the slots -/
theorem getD_apl {α : Type} {l m : List α} {k : Nat} {d : α} (h : k < l.length) : (l ++ m).getD k d = l.getD k d := by rw [List.getD_eq_getElem?_getD, List.getD_eq_getElem?_getD, List.getElem?_append_left h]
def keyN (q : Rec) : Nat := ((q 0 * 8 + q 1) * 8 + q 2) * 6 + q 3
theorem key_same {q r : Rec} (hq : q 1 < 8 ∧ q 2 < 8 ∧ q 3 < 6) (hr : r 1 < 8 ∧ r 2 < 8 ∧ r 3 < 6) : keyN q = keyN r ↔ sameK q r = true := by
  unfold keyN sameK
  rw [Bool.and_eq_true, Bool.and_eq_true, Bool.and_eq_true, beq_iff_eq, beq_iff_eq, beq_iff_eq, beq_iff_eq]
  constructor
  · intro e
    refine ⟨⟨⟨?_, ?_⟩, ?_⟩, ?_⟩ <;> omega
  · rintro ⟨⟨⟨e0, e1⟩, e2⟩, e3⟩
    rw [e0, e1, e2, e3]
def KyA (Ks : List Nat) (h : Hp) : Prop := hI h 43 3 = n32 Ks.length ∧ Ks.Nodup ∧ ∀ s, s < Ks.length → hI h 44 s = n32 (Ks.getD s 0) ∧ Ks.getD s 0 < 2000000
def SlA (base : Nat) (rs : List Rec) (Ks : List Nat) (h : Hp) : Prop := ∀ k, k < rs.length → ∃ s, s < Ks.length ∧ hI h 45 (base + k) = n32 s ∧ Ks.getD s 0 = keyN (rs.getD k rec0)
theorem c_gs73 {Ks : List Nat} {ky : Nat} {v1 : Nat} {v2 v3 : Int32} {h : Hp} {k100 : Nat → Int32 → Int32 → Int32 → Int32 → Hp → Prop} {Q : Hp → Prop} (A : KyA Ks h) (l72 : Ks.length ≤ 72) (hk : ky < 2000000) (k : ∀ s, s ≤ Ks.length → (s < Ks.length → Ks.getD s 0 = ky) → (s = Ks.length → ∀ t, t < Ks.length → Ks.getD t 0 ≠ ky) → k100 v1 v2 v3 (n32 ky) (n32 s) h) :
    ∀ (r s : Nat), r + s = Ks.length → (∀ t, t < s → Ks.getD t 0 ≠ ky) → m_X4_giveSlots_73 (r + 1) k100 Q v1 v2 v3 (n32 ky) (n32 s) h := by
  intro r
  induction r with
  | zero =>
    intro s e N
    obtain rfl : s = Ks.length := by omega
    rw [m_X4_giveSlots_73, A.1, n32_le (by omega) (by omega)]
    exact ⟨fun _ => k _ (Nat.le_refl _) (fun z => absurd z (by omega)) (fun _ => N), fun z => absurd (Nat.le_refl _) z⟩
  | succ r ih =>
    intro s e N
    obtain ⟨a1, a2⟩ := A.2.2 s (by omega)
    rw [m_X4_giveSlots_73, A.1, n32_le (by omega) (by omega), n32_ix (by omega), a1, n32_eq (by omega) (by omega)]
    refine ⟨fun z => absurd z (by omega), fun _ => ⟨vpI (by omega) (by decide), fun z => k s (by omega) (fun _ => z) (fun y => absurd y (by omega)), fun z x2 e2 => ?_⟩⟩
    rw [e2, show n32 s + 1 = n32 (s + 1) from n32_add _ 1]
    refine ih (s + 1) (by omega) (fun t ht => ?_)
    by_cases y : t = s
    · rw [y]; exact z
    · exact N t (by omega)
def SGs (base a k : Nat) : Prop := a = 44 ∨ a = 43 ∧ k = 3 ∨ a = 45 ∧ base ≤ k
set_option maxHeartbeats 4000000 in
set_option maxRecDepth 100000 in
theorem c_giveSlots {x : Ab} {da : Nat → Nat} {d base : Nat} {Ks : List Nat} {h : Hp} {Q : Hp → Prop} (V : CVw x da h) (K : OkA x) (hd : d < (aD x).length) (A : KyA Ks h) (hb : base ≤ 36) (hK : Ks.length ≤ base)
    (k : ∀ t h', fr (SGs base) h h' → KyA (Ks ++ t) h' → (Ks ++ t).length ≤ base + 36 → SlA base (cRows (dL (aD x) d)) (Ks ++ t) h' → Q h') : m_X4_giveSlots (da d) (n32 base) h Q := by
  have r36 := rows_le K hd
  unfold m_X4_giveSlots
  have main : ∀ (rs ps : List Rec) (t : List Nat) (h1 : Hp), cRows (dL (aD x) d) = ps ++ rs → fr (SGs base) h h1 → KyA (Ks ++ t) h1 → (Ks ++ t).length ≤ base + ps.length → SlA base ps (Ks ++ t) h1 → m_X4_giveSlots_2 (rs.length + 1) Q (da d) (n32 base) (n32 ps.length) h1 := by
    intro rs
    induction rs with
    | nil =>
      intro ps t h1 e f A1 lb S1
      rw [List.append_nil] at e
      have V1 := V.mv f (by unfold SGs; omega)
      rw [m_X4_giveSlots_2, (V1.2.2 d hd).1.r, e, n32_le (by rw [← e]; omega) (by rw [← e]; omega)]
      refine ⟨fun _ => k t h1 f A1 (by rw [e] at r36; omega) (by rw [e]; exact S1), fun z => absurd (Nat.le_refl _) z⟩
    | cons q rs ih =>
      intro ps t h1 e f A1 lb S1
      have V1 := V.mv f (by unfold SGs; omega)
      obtain ⟨R, O, h36⟩ := V1.row K hd e
      have len : (cRows (dL (aD x) d)).length = ps.length + (rs.length + 1) := by rw [e]; simp
      obtain ⟨w0, w1, w2, w3, -, -, -⟩ := id R
      have o0 := O.1; have o1 := O.2.1; have o2 := O.2.2.1; have o3 := O.2.2.2.1
      have nx := ih (ps ++ [q])
      rw [List.length_append] at nx
      have kb : keyN q < 2000000 := by unfold keyN; omega
      rw [m_X4_giveSlots_2, (V1.2.2 d hd).1.r, n32_le (by omega) (by omega)]
      refine ⟨fun z => absurd z (by omega), fun _ x3 e3 => ?_⟩
      rw [show (6 : Int32) = n32 6 from rfl, n32_mul, Nat.mul_comm ps.length 6] at e3
      subst e3
      rw [show (0 : Int32) = n32 0 from rfl, show (1 : Int32) = n32 1 from rfl, show (2 : Int32) = n32 2 from rfl, show (3 : Int32) = n32 3 from rfl, show (6 : Int32) = n32 6 from rfl, show (8 : Int32) = n32 8 from rfl, n32_add, n32_add, n32_add, n32_add, Nat.add_zero, n32_ix (show 6 * ps.length < 2147483648 by omega), n32_ix (show 6 * ps.length + 1 < 2147483648 by omega), n32_ix (show 6 * ps.length + 2 < 2147483648 by omega), n32_ix (show 6 * ps.length + 3 < 2147483648 by omega), w0, w1, w2, w3]
      refine ⟨vpI (by omega) (by decide), vpI (by omega) (by decide), fun x4 e4 => ⟨vpI (by omega) (by decide), vpI (by omega) (by decide), fun x5 e5 => ?_⟩⟩
      rw [e4, n32_mul, n32_add, n32_mul, n32_add, n32_mul, n32_add] at e5
      have e5' : x5 = n32 (keyN q) := e5
      subst e5'
      -- the slot is put
      have put : ∀ (t' : List Nat) (h2 : Hp) (s : Nat), (∃ u, t' = t ++ u) → fr (SGs base) h1 h2 → (∀ j, hI h2 45 j = hI h1 45 j) → KyA (Ks ++ t') h2 → (Ks ++ t').length ≤ base + (ps.length + 1) → s < (Ks ++ t').length → (Ks ++ t').getD s 0 = keyN q → m_X4_giveSlots_128 (fun (v1 : Nat) (v2 v3 : Int32) hh => m_X4_giveSlots_2 (rs.length + 1) Q v1 v2 v3 hh) Q (da d) (n32 base) (n32 ps.length) (n32 s) h2 := by
        intro t' h2 s tu f2 e45 A2 lb2 hs hg
        unfold m_X4_giveSlots_128
        rw [n32_add, n32_ix (show base + ps.length < 2147483648 by omega)]
        refine ⟨vpI (by omega) (by decide), fun x1 e1 => ?_⟩
        rw [e1, show n32 ps.length + 1 = n32 (ps.length + 1) from n32_add _ 1]
        have f3 : fr (fun a k => a = 45 ∧ k = base + ps.length) h2 (wI h2 45 (base + ps.length) (n32 s)) := fr_wI (fr.rf _ _) _ ⟨rfl, rfl⟩
        have i3 : hI (wI h2 45 (base + ps.length) (n32 s)) 45 (base + ps.length) = n32 s := by rw [hI_wI, if_pos ⟨rfl, rfl⟩]
        generalize wI h2 45 (base + ps.length) (n32 s) = h3 at f3 i3
        refine nx t' h3 (by rw [e]; simp) ((f.trans f2).trans (f3.mono (by unfold SGs; omega))) ⟨by rw [f3.I (by omega)]; exact A2.1, A2.2.1, fun j hj => by rw [f3.I (by omega)]; exact A2.2.2 j hj⟩ lb2 (fun j hj => ?_)
        rw [List.length_append, List.length_singleton] at hj
        by_cases y : j = ps.length
        · subst y
          exact ⟨s, hs, i3, by rw [hg, getD_app_at]⟩
        · obtain ⟨s', s1, s2, s3⟩ := S1 j (by omega)
          obtain ⟨u, rfl⟩ := tu
          refine ⟨s', by rw [← List.append_assoc, List.length_append]; omega, by rw [f3.I (by omega), e45]; exact s2, ?_⟩
          rw [← List.append_assoc, getD_apl s1, s3, getD_apl (by omega)]
      refine ⟨_, c_gs73 A1 (by omega) kb (fun s hs g1 g2 => ?_) (Ks ++ t).length 0 (by omega) (fun j hj => absurd hj (by omega))⟩
      unfold m_X4_giveSlots_100
      rw [A1.1, n32_eq (by omega) (by omega)]
      refine ⟨fun z => ?_, fun z => ⟨vpI (by omega) (by decide), ?_⟩⟩
      · exact put t h1 s ⟨[], by simp⟩ (fr.rf _ _) (fun _ => rfl) A1 (by omega) (by omega) (g1 (by omega))
      · have no := g2 z
        rw [n32_ix (by omega), hI_wI, if_neg (by omega), A1.1, show n32 (Ks ++ t).length + 1 = n32 ((Ks ++ t).length + 1) from n32_add _ 1]
        subst z
        have f2 : fr (SGs base) h1 (wI (wI h1 44 (Ks ++ t).length (n32 (keyN q))) 43 3 (n32 ((Ks ++ t).length + 1))) := fr_wI (fr_wI (fr.rf _ _) _ (by unfold SGs; omega)) _ (by unfold SGs; omega)
        have el : (Ks ++ (t ++ [keyN q])).length = (Ks ++ t).length + 1 := by rw [← List.append_assoc, List.length_append, List.length_singleton]
        refine put (t ++ [keyN q]) _ (Ks ++ t).length ⟨_, rfl⟩ f2 (fun j => by rw [hI_wI, if_neg (by omega), hI_wI, if_neg (by omega)]) ⟨?_, ?_, fun j hj => ?_⟩ (by omega) (by omega) ?_
        · rw [hI_wI, if_pos ⟨rfl, rfl⟩, el]
        · rw [← List.append_assoc, List.nodup_append]
          refine ⟨A1.2.1, by simp, fun a ha b hb => ?_⟩
          rw [List.mem_singleton] at hb
          subst hb
          intro eab
          obtain ⟨i, hi, hi2⟩ := List.mem_iff_getElem.mp ha
          refine no i hi ?_
          rw [List.getD_eq_getElem?_getD, List.getElem?_eq_getElem hi, Option.getD_some, hi2, eab]
        · rw [el] at hj
          rw [hI_wI, if_neg (by omega), hI_wI, ← List.append_assoc]
          by_cases y : j = (Ks ++ t).length
          · rw [if_pos ⟨rfl, y⟩, y, getD_app_at]; exact ⟨rfl, kb⟩
          · rw [if_neg (fun w => y w.2), getD_apl (by omega)]; exact A1.2.2 j (by omega)
        · rw [← List.append_assoc, getD_app_at]
  exact ⟨_, main (cRows (dL (aD x) d)) [] [] h rfl (fr.rf _ _) (by rw [List.append_nil]; exact A) (by rw [List.append_nil]; exact hK) (fun j hj => absurd hj (by simp))⟩
