/-! THE MODEL: law, word -/
def SBy (base mx a k : Nat) : Prop := SBg a k ∨ 93 ≤ a ∧ a ≤ 99 ∧ base ≤ k ∧ k < base + mx
theorem SBx_SBy (base mx : Nat) : ∀ a k, SBx base mx a k → SBy base mx a k := by unfold SBx SBy SBg SPr; omega
theorem SBy_RefC (base mx : Nat) : ∀ a k, SBy base mx a k → RefC a k := by unfold SBy SBg RefC; omega
theorem getD_ll_lt {D : List (List Rec)} {e : List Rec} {d : Nat} (h : d < D.length) : (D ++ [e]).getD d nil0 = D.getD d nil0 := by
  rw [List.getD_eq_getElem?_getD, List.getElem?_append_left h, ← List.getD_eq_getElem?_getD]
theorem getD_ll_at {D : List (List Rec)} {e : List Rec} : (D ++ [e]).getD D.length nil0 = e := by
  rw [List.getD_eq_getElem?_getD, List.getElem?_append_right (Nat.le_refl _)]
  simp
/-- a text was read, and it told no statements -/
theorem rd_inv2 {x : Ab} {h h' : Hp} {q base mx : Nat} (I : InvR x h) (f : fr (SBy base mx) h h') (hl : ∀ l k, l < (aL x).length → k < 16 → 16 * l + k < base ∨ base + mx ≤ 16 * l + k) (hw : ∀ l k, l < (aW x).length → k < 12 → 96 + 12 * l + k < base ∨ base + mx ≤ 96 + 12 * l + k) (e21 : hI h' 51 21 = 0) (e22 : hI h' 51 22 = pm q) (hq : q ≤ 601) : InvR (stQ (stT x []) q) h' := by
  obtain ⟨r1, r2, r3, r4, r4', r5, r6, r7, r8, r9⟩ := I
  have o : ∀ a k, (a = 51 ∧ (k ≤ 20 ∨ 30 ≤ k) ∨ 52 ≤ a ∧ a ≤ 92 ∨ 100 ≤ a) → hI h' a k = hI h a k := fun a k hk => f.I (by unfold SBy SBg; omega)
  refine ⟨r1.mv (fun j => o _ _ (by omega)), r2.mv (o _ _ (by omega)) (fun b j h1 h2 => o b j (by omega)), ⟨e21, Nat.zero_le _, fun k hk => absurd hk (by show ¬ k < 0; omega)⟩, e22, hq, ?_, ?_, r7.mv (o _ _ (by omega)) (fun j => o _ _ (by omega)), r8.mv (o _ _ (by omega)) (fun j => o _ _ (by omega)), r9.mv (o _ _ (by omega)) (fun j => o _ _ (by omega)) (fun j => o _ _ (by omega))⟩
  · refine ⟨by rw [o 51 67 (by omega)]; exact r5.1, r5.2.1, fun l hl' => ?_⟩
    obtain ⟨a1, a2, a3⟩ := r5.2.2 l hl'
    refine ⟨by rw [o 91 l (by omega)]; exact a1, a2, fun k hk => ?_⟩
    obtain ⟨b1, b2⟩ := a3 k hk
    have hl2 : l < (aL x).length := hl'
    have hk2 : k < ((aL x).getD l nil0).length := hk
    have a2' : ((aL x).getD l nil0).length ≤ 16 := a2
    have := hl l k hl2 (by omega)
    exact ⟨b1.mvi (fun a a1 a2 => f.I (by unfold SBy SBg; omega)), b2⟩
  · refine ⟨by rw [o 51 68 (by omega)]; exact r6.1, r6.2.1, fun l hl' => ?_⟩
    obtain ⟨a1, a2, a3⟩ := r6.2.2 l hl'
    refine ⟨by rw [o 92 l (by omega)]; exact a1, a2, fun k hk => ?_⟩
    obtain ⟨b1, b2⟩ := a3 k hk
    have hl2 : l < (aW x).length := hl'
    have hk2 : k < ((aW x).getD l nil0).length := hk
    have a2' : ((aW x).getD l nil0).length ≤ 12 := a2
    have := hw l k hl2 (by omega)
    exact ⟨b1.mvi (fun a a1 a2 => f.I (by unfold SBy SBg; omega)), b2⟩
def lwR (x : Ab) (n : Nat) : Option (Nat ⊕ List Rec) := bars (txt x n) 16 (n + 2) (.inr (tok (txt x n) 0)) []
def ansLaw (x : Ab) (v1 : Int32) : Int32 := match argN v1 ((aT x).length + 1) with
  | some n => if (aL x).length = 6 then -3 else (match lwR x n with
    | some (.inr _) => n32 (aL x).length
    | _ => -1)
  | none => -2
def nxLaw (x : Ab) (v1 : Int32) : Ab := match argN v1 ((aT x).length + 1) with
  | some n => if (aL x).length = 6 then x else (match lwR x n with
    | some (.inr L) => stL (stQ (stT x []) 0) (aL x ++ [L])
    | some (.inl e) => stQ (stT x []) (e + 1)
    | none => x)
  | none => x
set_option maxHeartbeats 4000000 in
set_option maxRecDepth 100000 in
theorem R_law12 {x : Ab} {v1 : Int32} {h : Hp} {Q : Int32 → Hp → Prop} (I : InvR x h) (k : ∀ h', fr RefC h h' → InvR (nxLaw x v1) h' → (∀ i, hI h' 64 i = hI h 64 i) → Q (ansLaw x v1) h') : m_X12_law v1 h Q := by
  unfold m_X12_law
  unfold ansLaw nxLaw at k
  obtain ⟨t1, t2, t3⟩ := id I.2.2.1
  obtain ⟨e67, l6, -⟩ := id I.2.2.2.2.2.1
  obtain ⟨e68, l12, -⟩ := id I.2.2.2.2.2.2.1
  rw [t1]
  rcases arg_cases v1 ((aT x).length + 1) with ⟨e, c⟩ | ⟨n, hn, n2, rfl, e⟩
  · rw [e] at k
    have kk := k h (fr.rf _ _) I (fun _ => rfl)
    rcases c with c | ⟨a, g1, g2, rfl⟩
    · exact ⟨fun _ => kk, fun z => absurd c z⟩
    · refine ⟨fun _ => kk, fun _ => ⟨fun z => ?_, fun _ => kk⟩⟩
      rw [n32_le g2 (by omega)] at z; omega
  · rw [e] at k
    dsimp only at k
    refine ⟨fun z => ?_, fun _ => ⟨fun _ => ?_, fun z => ?_⟩⟩
    · rw [show (0 : Int32) = n32 0 from rfl, n32_lt n2 (by decide)] at z; omega
    · rw [e67, show (6 : Int32) = n32 6 from rfl, n32_eq (by omega) (by decide)]
      refine ⟨fun z6 => ?_, fun z6 => ?_⟩
      · rw [if_neg z6, if_neg z6] at k
        refine q_begins I.2.2.1 (by omega) (fun h1 f1 e21 P1 => ?_)
        have tl := txt_len (x := x) (n := n) (by omega)
        have g1 : hI h1 51 67 = n32 (aL x).length := by rw [f1.I (by unfold SBg; omega)]; exact e67
        rw [g1, show (16 : Int32) = n32 16 from rfl, n32_mul]
        unfold m_X12_readBars
        have O0 : OkT (txt x n) (tok (txt x n) 0) := ⟨0, Nat.zero_le _, rfl⟩
        obtain ⟨r, hr⟩ := bars_ends (T := txt x n) (mx := 16) (n + 2) (.inr (tok (txt x n) 0)) [] (by omega) (fun t et => by injection et with et; subst et; exact ⟨O0, by omega⟩)
        have hr' : lwR x n = some r := hr
        rw [hr'] at k
        refine ⟨n + 3, q_bars (r := r) (h0 := h1) (T := txt x n) (base := 16 * (aL x).length) (mx := 16) (by omega) (fun h2 v3 B => ?_) (n + 2) (.inr (tok (txt x n) 0)) [] 0 h1 hr (fr.rf _ _) P1 (fun _ => ⟨rfl, Nat.zero_le _, fun j hj => absurd hj (by show ¬ j < 0; omega)⟩) (n + 3) (Nat.le_refl _)⟩
        obtain ⟨f2, B⟩ := B
        have fD : fr (SBy (16 * (aL x).length) 16) h h2 := (f1.mono (fun _ _ h => Or.inl h)).trans (f2.mono (SBx_SBy _ _))
        have x21 : hI h2 51 21 = 0 := by rw [f2.I (by unfold SBx SPr; omega)]; exact e21
        have x67 : hI h2 51 67 = n32 (aL x).length := by rw [f2.I (by unfold SBx SPr; omega)]; exact g1
        have d1 : ∀ l k, l < (aL x).length → k < 16 → 16 * l + k < 16 * (aL x).length ∨ 16 * (aL x).length + 16 ≤ 16 * l + k := fun l k h1 h2 => by omega
        have d2 : ∀ l k, l < (aW x).length → k < 12 → 96 + 12 * l + k < 16 * (aL x).length ∨ 16 * (aL x).length + 16 ≤ 96 + 12 * l + k := fun l k h1 h2 => by omega
        have low64 : ∀ i, hI h2 64 i = hI h 64 i := fun i => fD.I (by unfold SBy SBg; omega)
        unfold m_X12_readBars_41
        cases r with
        | inl e0 =>
          dsimp only at B k
          have hE := B.2.2.2
          exact ⟨fun z => absurd z B.bad, fun _ => ⟨fun z => absurd z (by decide), fun _ => k h2 (fD.mono (SBy_RefC _ _)) (rd_inv2 I fD d1 d2 x21 B.2.2.1 (by omega)) low64⟩⟩
        | inr L =>
          dsimp only at B k
          obtain ⟨⟨t', P3⟩, ev3, hL, hR⟩ := B
          have J := rd_inv2 (q := 0) I fD d1 d2 x21 P3.2.2.1 (by omega)
          refine ⟨fun _ => ⟨fun _ => ?_, fun z => ?_⟩, fun z => absurd P3.2.1 z⟩
          · rw [x67, n32_ix (by omega), ev3]
            refine ⟨vpI (by omega) (by decide), ?_⟩
            have a67 : hI (wI h2 91 (aL x).length (n32 L.length)) 51 67 = n32 (aL x).length := by rw [hI_wI, if_neg (by omega)]; exact x67
            rw [a67, show n32 (aL x).length + 1 = n32 ((aL x).length + 1) from n32_add _ 1]
            have f3 : fr (fun a k => a = 91 ∧ k = (aL x).length ∨ a = 51 ∧ k = 67) h2 (wI (wI h2 91 (aL x).length (n32 L.length)) 51 67 (n32 ((aL x).length + 1))) := fr_wI (fr_wI (fr.rf _ _) _ (by omega)) _ (by omega)
            have b67 : hI (wI (wI h2 91 (aL x).length (n32 L.length)) 51 67 (n32 ((aL x).length + 1))) 51 67 = n32 ((aL x).length + 1) := by rw [hI_wI, if_pos ⟨rfl, rfl⟩]
            have b91 : hI (wI (wI h2 91 (aL x).length (n32 L.length)) 51 67 (n32 ((aL x).length + 1))) 91 (aL x).length = n32 L.length := by rw [hI_wI, if_neg (by omega), hI_wI, if_pos ⟨rfl, rfl⟩]
            rw [b67, show n32 ((aL x).length + 1) - 1 = n32 (aL x).length by rw [show (1 : Int32) = n32 1 from rfl, n32_sub (by omega)]; rfl]
            generalize wI (wI h2 91 (aL x).length (n32 L.length)) 51 67 (n32 ((aL x).length + 1)) = h3 at f3 b67 b91
            have o : ∀ a k, a ≠ 91 → ¬ (a = 51 ∧ k = 67) → hI h3 a k = hI h2 a k := fun a k q1 q2 => f3.I (by omega)
            obtain ⟨r1, r2, r3, r4, r4', r5, r6, r7, r8, r9⟩ := J
            refine k h3 ((fD.mono (SBy_RefC _ _)).trans (f3.mono (by unfold RefC; omega))) ⟨r1.mv (fun j => o _ _ (by decide) (by omega)), r2.mv (o _ _ (by decide) (by omega)) (fun b j h1 h2 => o b j (by omega) (by omega)), r3.mv (o _ _ (by decide) (by omega)) (fun j => o _ _ (by decide) (by omega)), by rw [o 51 22 (by decide) (by omega)]; exact r4, r4', ⟨?_, ?_, fun l hl => ?_⟩, r6.mv (o _ _ (by decide) (by omega)) (fun j => o _ _ (by decide) (by omega)) (fun b j h1 h2 => o b j (by omega) (by omega)), r7.mv (o _ _ (by decide) (by omega)) (fun j => o _ _ (by decide) (by omega)), r8.mv (o _ _ (by decide) (by omega)) (fun j => o _ _ (by decide) (by omega)), r9.mv (o _ _ (by decide) (by omega)) (fun j => o _ _ (by decide) (by omega)) (fun j => o _ _ (by decide) (by omega))⟩ (fun i => by rw [o 64 i (by decide) (by omega)]; exact low64 i)
            · show hI h3 51 67 = n32 (aL x ++ [L]).length
              rw [b67, List.length_append]; rfl
            · show (aL x ++ [L]).length ≤ 6
              rw [List.length_append, List.length_singleton]; omega
            · have hl' : l < (aL x).length + 1 := by
                have : l < (aL x ++ [L]).length := hl
                rw [List.length_append, List.length_singleton] at this
                exact this
              show hI h3 91 l = n32 ((aL x ++ [L]).getD l nil0).length ∧ ((aL x ++ [L]).getD l nil0).length ≤ 16 ∧ ∀ k, k < ((aL x ++ [L]).getD l nil0).length → RStm (((aL x ++ [L]).getD l nil0).getD k rec0) h3 (16 * l + k) ∧ okStm (((aL x ++ [L]).getD l nil0).getD k rec0)
              by_cases q : l = (aL x).length
              · subst q
                rw [getD_ll_at]
                exact ⟨b91, hL, fun j hj => ⟨(hR j hj).1.mvi (fun a a1 a2 => o a _ (by omega) (by omega)), (hR j hj).2⟩⟩
              · rw [getD_ll_lt (by omega)]
                obtain ⟨a1, a2, a3⟩ := r5.2.2 l (by show l < (aL x).length; omega)
                exact ⟨by rw [f3.I (by omega)]; exact a1, a2, fun j hj => ⟨(a3 j hj).1.mvi (fun a a1 a2 => o a _ (by omega) (by omega)), (a3 j hj).2⟩⟩
          · rw [ev3] at z
            exact absurd (by rw [show (0 : Int32) = n32 0 from rfl, n32_le (by decide) (by omega)]; omega) z
      · rw [if_pos z6, if_pos z6] at k
        exact k h (fr.rf _ _) I (fun _ => rfl)
    · rw [n32_le n2 (by omega)] at z; omega
