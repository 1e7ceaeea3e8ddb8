/-! THE MODEL: word -/
def wS0 (T : List Nat) : PS := if (tok T 0).1 = 0 then .inl (tok T 0).2.1 else .inr (tok T 0)
def wdR (x : Ab) (n : Nat) : Option (Nat ⊕ List Rec) := bars (txt x n) 12 (n + 2) (wS0 (txt x n)) []
def ansWord (x : Ab) (v1 : Int32) : Int32 := match argN v1 ((aT x).length + 1) with
  | some n => if (aW x).length = 12 then -3 else (match wdR x n with
    | some (.inr _) => n32 (aW x).length
    | _ => -1)
  | none => -2
def nxWord (x : Ab) (v1 : Int32) : Ab := match argN v1 ((aT x).length + 1) with
  | some n => if (aW x).length = 12 then x else (match wdR x n with
    | some (.inr L) => stW (stQ (stT x []) 0) (aW x ++ [L])
    | some (.inl e) => stQ (stT x []) (e + 1)
    | none => x)
  | none => x
set_option maxHeartbeats 4000000 in
set_option maxRecDepth 100000 in
theorem R_word12 {x : Ab} {v1 : Int32} {h : Hp} {Q : Int32 → Hp → Prop} (I : InvR x h) (k : ∀ h', fr RefC h h' → InvR (nxWord x v1) h' → (∀ i, hI h' 64 i = hI h 64 i) → Q (ansWord x v1) h') : m_X12_word v1 h Q := by
  unfold m_X12_word
  unfold ansWord nxWord at k
  obtain ⟨t1, t2, t3⟩ := id I.2.2.1
  obtain ⟨e67, l12, -⟩ := id I.2.2.2.2.2.2.1
  obtain ⟨e68, l6, -⟩ := id I.2.2.2.2.2.1
  rw [t1]
  rcases arg_cases v1 ((aT x).length + 1) with ⟨e, c⟩ | ⟨n, hn, n2, rfl, e⟩
  · rw [e] at k
    have kk := k h (fr.rf _ _) I (fun _ => rfl)
    rcases c with c | ⟨a, g1, g2, rfl⟩
    · exact ⟨fun _ => kk, fun z => absurd c z⟩
    · refine ⟨fun _ => kk, fun _ => ⟨fun z => ?_, fun _ => kk⟩⟩
      rw [n32_le g2 (by omega)] at z; omega
  · rw [e] at k
    dsimp only at k
    refine ⟨fun z => ?_, fun _ => ⟨fun _ => ?_, fun z => ?_⟩⟩
    · rw [show (0 : Int32) = n32 0 from rfl, n32_lt n2 (by decide)] at z; omega
    · rw [e67, show (12 : Int32) = n32 12 from rfl, n32_eq (by omega) (by decide)]
      refine ⟨fun z6 => ?_, fun z6 => ?_⟩
      · rw [if_neg z6, if_neg z6] at k
        refine q_begins I.2.2.1 (by omega) (fun h1 f1 e21 P1 => ?_)
        have tl := txt_len (x := x) (n := n) (by omega)
        have O0 : OkT (txt x n) (tok (txt x n) 0) := ⟨0, Nat.zero_le _, rfl⟩
        obtain ⟨r, hr⟩ := bars_ends (T := txt x n) (mx := 12) (n + 2) (wS0 (txt x n)) [] (by omega) (fun t et => by
          unfold wS0 at et
          split at et
          · exact absurd et (by simp)
          · injection et with et; subst et; exact ⟨O0, by omega⟩)
        have hr' : wdR x n = some r := hr
        rw [hr'] at k
        have main : ∀ h1', fr SPr h1 h1' → PM (txt x n) (wS0 (txt x n)) h1' → m_X12_word_43 Q h1' := by
          intro h1' f1' P1'
          replace f1 := f1.trans (f1'.mono SPr_SBg)
          replace e21 : hI h1' 51 21 = 0 := by rw [f1'.I (by unfold SPr; omega)]; exact e21
          unfold m_X12_word_43
          have g1 : hI h1' 51 68 = n32 (aW x).length := by rw [f1.I (by unfold SBg; omega)]; exact e67
          rw [g1, show (12 : Int32) = n32 12 from rfl, show (96 : Int32) = n32 96 from rfl, n32_mul, n32_add]
          unfold m_X12_readBars
          refine ⟨n + 3, q_bars (r := r) (h0 := h1') (T := txt x n) (base := 96 + 12 * (aW x).length) (mx := 12) (by omega) (fun h2 v3 B => ?_) (n + 2) (wS0 (txt x n)) [] 0 h1' hr (fr.rf _ _) P1' (fun _ => ⟨rfl, Nat.zero_le _, fun j hj => absurd hj (by show ¬ j < 0; omega)⟩) (n + 3) (Nat.le_refl _)⟩
          obtain ⟨f2, B⟩ := B
          have fD : fr (SBy (96 + 12 * (aW x).length) 12) h h2 := (f1.mono (fun _ _ h => Or.inl h)).trans (f2.mono (SBx_SBy _ _))
          have x21 : hI h2 51 21 = 0 := by rw [f2.I (by unfold SBx SPr; omega)]; exact e21
          have x67 : hI h2 51 68 = n32 (aW x).length := by rw [f2.I (by unfold SBx SPr; omega)]; exact g1
          have d1 : ∀ l k, l < (aL x).length → k < 16 → 16 * l + k < 96 + 12 * (aW x).length ∨ 96 + 12 * (aW x).length + 12 ≤ 16 * l + k := fun l k h1 h2 => by omega
          have d2 : ∀ l k, l < (aW x).length → k < 12 → 96 + 12 * l + k < 96 + 12 * (aW x).length ∨ 96 + 12 * (aW x).length + 12 ≤ 96 + 12 * l + k := fun l k h1 h2 => by omega
          have low64 : ∀ i, hI h2 64 i = hI h 64 i := fun i => fD.I (by unfold SBy SBg; omega)
          unfold m_X12_readBars_41
          cases r with
          | inl e0 =>
            dsimp only at B k
            have hE := B.2.2.2
            exact ⟨fun z => absurd z B.bad, fun _ => ⟨fun z => absurd z (by decide), fun _ => k h2 (fD.mono (SBy_RefC _ _)) (rd_inv2 I fD d1 d2 x21 B.2.2.1 (by omega)) low64⟩⟩
          | inr L =>
            dsimp only at B k
            obtain ⟨⟨t', P3⟩, ev3, hL, hR⟩ := B
            have J := rd_inv2 (q := 0) I fD d1 d2 x21 P3.2.2.1 (by omega)
            refine ⟨fun _ => ⟨fun _ => ?_, fun z => ?_⟩, fun z => absurd P3.2.1 z⟩
            · rw [x67, n32_ix (by omega), ev3]
              refine ⟨vpI (by omega) (by decide), ?_⟩
              have a67 : hI (wI h2 92 (aW x).length (n32 L.length)) 51 68 = n32 (aW x).length := by rw [hI_wI, if_neg (by omega)]; exact x67
              rw [a67, show n32 (aW x).length + 1 = n32 ((aW x).length + 1) from n32_add _ 1]
              have f3 : fr (fun a k => a = 92 ∧ k = (aW x).length ∨ a = 51 ∧ k = 68) h2 (wI (wI h2 92 (aW x).length (n32 L.length)) 51 68 (n32 ((aW x).length + 1))) := fr_wI (fr_wI (fr.rf _ _) _ (by omega)) _ (by omega)
              have b67 : hI (wI (wI h2 92 (aW x).length (n32 L.length)) 51 68 (n32 ((aW x).length + 1))) 51 68 = n32 ((aW x).length + 1) := by rw [hI_wI, if_pos ⟨rfl, rfl⟩]
              have b91 : hI (wI (wI h2 92 (aW x).length (n32 L.length)) 51 68 (n32 ((aW x).length + 1))) 92 (aW x).length = n32 L.length := by rw [hI_wI, if_neg (by omega), hI_wI, if_pos ⟨rfl, rfl⟩]
              rw [b67, show n32 ((aW x).length + 1) - 1 = n32 (aW x).length by rw [show (1 : Int32) = n32 1 from rfl, n32_sub (by omega)]; rfl]
              generalize wI (wI h2 92 (aW x).length (n32 L.length)) 51 68 (n32 ((aW x).length + 1)) = h3 at f3 b67 b91
              have o : ∀ a k, a ≠ 92 → ¬ (a = 51 ∧ k = 68) → hI h3 a k = hI h2 a k := fun a k q1 q2 => f3.I (by omega)
              obtain ⟨r1, r2, r3, r4, r4', r5, r6, r7, r8, r9⟩ := J
              refine k h3 ((fD.mono (SBy_RefC _ _)).trans (f3.mono (by unfold RefC; omega))) ⟨r1.mv (fun j => o _ _ (by decide) (by omega)), r2.mv (o _ _ (by decide) (by omega)) (fun b j h1 h2 => o b j (by omega) (by omega)), r3.mv (o _ _ (by decide) (by omega)) (fun j => o _ _ (by decide) (by omega)), by rw [o 51 22 (by decide) (by omega)]; exact r4, r4', r5.mv (o _ _ (by decide) (by omega)) (fun j => o _ _ (by decide) (by omega)) (fun b j h1 h2 => o b j (by omega) (by omega)), ⟨?_, ?_, fun l hl => ?_⟩, r7.mv (o _ _ (by decide) (by omega)) (fun j => o _ _ (by decide) (by omega)), r8.mv (o _ _ (by decide) (by omega)) (fun j => o _ _ (by decide) (by omega)), r9.mv (o _ _ (by decide) (by omega)) (fun j => o _ _ (by decide) (by omega)) (fun j => o _ _ (by decide) (by omega))⟩ (fun i => by rw [o 64 i (by decide) (by omega)]; exact low64 i)
              · show hI h3 51 68 = n32 (aW x ++ [L]).length
                rw [b67, List.length_append]; rfl
              · show (aW x ++ [L]).length ≤ 12
                rw [List.length_append, List.length_singleton]; omega
              · have hl' : l < (aW x).length + 1 := by
                  have : l < (aW x ++ [L]).length := hl
                  rw [List.length_append, List.length_singleton] at this
                  exact this
                show hI h3 92 l = n32 ((aW x ++ [L]).getD l nil0).length ∧ ((aW x ++ [L]).getD l nil0).length ≤ 12 ∧ ∀ k, k < ((aW x ++ [L]).getD l nil0).length → RStm (((aW x ++ [L]).getD l nil0).getD k rec0) h3 (96 + 12 * l + k) ∧ okStm (((aW x ++ [L]).getD l nil0).getD k rec0)
                by_cases q : l = (aW x).length
                · subst q
                  rw [getD_ll_at]
                  exact ⟨b91, hL, fun j hj => ⟨(hR j hj).1.mvi (fun a a1 a2 => o a _ (by omega) (by omega)), (hR j hj).2⟩⟩
                · rw [getD_ll_lt (by omega)]
                  obtain ⟨a1, a2, a3⟩ := r6.2.2 l (by show l < (aW x).length; omega)
                  exact ⟨by rw [f3.I (by omega)]; exact a1, a2, fun j hj => ⟨(a3 j hj).1.mvi (fun a a1 a2 => o a _ (by omega) (by omega)), (a3 j hj).2⟩⟩
            · rw [ev3] at z
              exact absurd (by rw [show (0 : Int32) = n32 0 from rfl, n32_le (by decide) (by omega)]; omega) z
        have hk := P1.2.2.2.2.kind
        rw [P1.2.2.2.1.2.2.1, show (0 : Int32) = n32 0 from rfl, n32_eq (by omega) (by decide)]
        refine ⟨fun z => main h1 (fr.rf _ _) (by unfold wS0; rw [if_neg z]; exact P1), fun z => q_errs P1 (fun h' f' P' => main h' f' (by unfold wS0; rw [if_pos z]; exact P'))⟩
      · rw [if_pos z6, if_pos z6] at k
        exact k h (fr.rf _ _) I (fun _ => rfl)
    · rw [n32_le n2 (by omega)] at z; omega
