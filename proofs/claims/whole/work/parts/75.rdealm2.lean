/-! THE MODEL: deal, whole -/
/-- the hands of all deals' choices stand in the nodes' table -/
def InvH (x : Ab) (h : Hp) : Prop := ∀ d, d < (aD x).length → ChM (96 * d) ((aD x).getD d d0).1 h
theorem getD_dl_old {D : List Dl} {e : Dl} {d : Nat} (h : d < D.length) : (D ++ [e]).getD d d0 = D.getD d d0 := by
  rw [List.getD_eq_getElem?_getD, List.getElem?_append_left h, ← List.getD_eq_getElem?_getD]
theorem getD_dl_new {D : List Dl} {e : Dl} : (D ++ [e]).getD D.length d0 = e := by
  rw [List.getD_eq_getElem?_getD, List.getElem?_append_right (Nat.le_refl _)]
  simp
theorem GI0 {b : Nat} (h : b ≤ 2208) : GI b (run b []) 0 := ⟨⟨h, Nat.le_refl _, Nat.le_refl _, Nat.zero_le _, Nat.zero_le _, Nat.zero_le _, by show 0 < 32; decide⟩, fun f hf => absurd hf (by show ¬ f ∈ []; simp)⟩
set_option maxHeartbeats 4000000 in
set_option maxRecDepth 100000 in
theorem R_deal {x : Ab} {v1 v2 : Int32} {h : Hp} {Q : Int32 → Hp → Prop} (I : InvR x h) (K : OkA x) (k : ∀ h', fr RefC h h' → InvR (nxDeal x v1 v2) h' → (InvH x h → InvH (nxDeal x v1 v2) h') → Q (ansDeal x v1 v2) h') : m_X12_deal v1 v2 h Q := by
  unfold m_X12_deal
  unfold ansDeal nxDeal at k
  obtain ⟨t1, t2, t3⟩ := id I.2.2.1
  have d24 := I.2.1.2.1
  rw [t1]
  rcases arg_cases v1 ((aT x).length + 1) with ⟨e, c⟩ | ⟨n, hn, n2, rfl, e⟩
  · rw [e] at k
    have kk := k h (fr.rf _ _) I (fun z => z)
    rcases c with c | ⟨a, g1, g2, rfl⟩
    · exact ⟨fun _ => kk, fun z => absurd c z⟩
    · refine ⟨fun _ => kk, fun _ => ⟨fun _ => kk, fun z => ?_⟩⟩
      rw [n32_lt (by omega) g2] at z; omega
  · rw [e] at k
    refine ⟨fun z => ?_, fun _ => ⟨fun z => ?_, fun _ => ?_⟩⟩
    · rw [show (0 : Int32) = n32 0 from rfl, n32_lt n2 (by decide)] at z; omega
    · rw [n32_lt (by omega) n2] at z; omega
    refine q_upto (hi := 399) (by decide) (fun e2 => ?_) (fun g hg e3 e4 => ?_)
    · rw [e2] at k
      exact ⟨fun z => absurd rfl z, fun _ => k h (fr.rf _ _) I (fun z => z)⟩
    · rw [e4] at k
      subst e3
      dsimp only at k
      refine ⟨fun _ => ?_, fun z => absurd z (by decide)⟩
      have e51 := I.2.1.1
      rw [e51, show (24 : Int32) = n32 24 from rfl, n32_eq (by omega) (by decide)]
      refine ⟨fun z24 => ?_, fun z24 => ?_⟩
      · rw [if_neg z24, if_neg z24] at k
        refine q_begins I.2.2.1 (by omega) (fun h1 f1 e21 P1 => ?_)
        have tl := txt_len (x := x) (n := n) (by omega)
        have g1 : hI h1 51 1 = n32 (aD x).length := by rw [f1.I (by unfold SBg; omega)]; exact e51
        rw [g1, show (96 : Int32) = n32 96 from rfl, n32_mul]
        have fC : fr (fun a k => a = 51 ∧ 32 ≤ k ∧ k ≤ 37) h1 (wI (wI (wI (wI (wI (wI h1 51 37 (n32 (96 * (aD x).length))) 51 33 0) 51 32 0) 51 34 0) 51 35 0) 51 36 0) := fr_wI (fr_wI (fr_wI (fr_wI (fr_wI (fr_wI (fr.rf _ _) _ (by omega)) _ (by omega)) _ (by omega)) _ (by omega)) _ (by omega)) _ (by omega)
        have fB : fr (SAl (96 * (aD x).length)) h (wI (wI (wI (wI (wI (wI h1 51 37 (n32 (96 * (aD x).length))) 51 33 0) 51 32 0) 51 34 0) 51 35 0) 51 36 0) := (f1.mono (S' := SAl (96 * (aD x).length)) (fun _ _ h => Or.inl h)).trans (fC.mono (by unfold SAl SBg SDl; omega))
        have c37 : hI (wI (wI (wI (wI (wI (wI h1 51 37 (n32 (96 * (aD x).length))) 51 33 0) 51 32 0) 51 34 0) 51 35 0) 51 36 0) 51 37 = n32 (96 * (aD x).length) := by rw [hI_wI, if_neg (by omega), hI_wI, if_neg (by omega), hI_wI, if_neg (by omega), hI_wI, if_neg (by omega), hI_wI, if_neg (by omega), hI_wI, if_pos ⟨rfl, rfl⟩]
        have c33 : hI (wI (wI (wI (wI (wI (wI h1 51 37 (n32 (96 * (aD x).length))) 51 33 0) 51 32 0) 51 34 0) 51 35 0) 51 36 0) 51 33 = n32 0 := by rw [hI_wI, if_neg (by omega), hI_wI, if_neg (by omega), hI_wI, if_neg (by omega), hI_wI, if_neg (by omega), hI_wI, if_pos ⟨rfl, rfl⟩]; rfl
        have c32 : hI (wI (wI (wI (wI (wI (wI h1 51 37 (n32 (96 * (aD x).length))) 51 33 0) 51 32 0) 51 34 0) 51 35 0) 51 36 0) 51 32 = n32 0 := by rw [hI_wI, if_neg (by omega), hI_wI, if_neg (by omega), hI_wI, if_neg (by omega), hI_wI, if_pos ⟨rfl, rfl⟩]; rfl
        have c34 : hI (wI (wI (wI (wI (wI (wI h1 51 37 (n32 (96 * (aD x).length))) 51 33 0) 51 32 0) 51 34 0) 51 35 0) 51 36 0) 51 34 = n32 0 := by rw [hI_wI, if_neg (by omega), hI_wI, if_neg (by omega), hI_wI, if_pos ⟨rfl, rfl⟩]; rfl
        have c35 : hI (wI (wI (wI (wI (wI (wI h1 51 37 (n32 (96 * (aD x).length))) 51 33 0) 51 32 0) 51 34 0) 51 35 0) 51 36 0) 51 35 = n32 0 := by rw [hI_wI, if_neg (by omega), hI_wI, if_pos ⟨rfl, rfl⟩]; rfl
        have c36 : hI (wI (wI (wI (wI (wI (wI h1 51 37 (n32 (96 * (aD x).length))) 51 33 0) 51 32 0) 51 34 0) 51 35 0) 51 36 0) 51 36 = n32 0 := by rw [hI_wI, if_pos ⟨rfl, rfl⟩]; rfl
        generalize wI (wI (wI (wI (wI (wI h1 51 37 (n32 (96 * (aD x).length))) 51 33 0) 51 32 0) 51 34 0) 51 35 0) 51 36 0 = h2 at fB fC c37 c33 c32 c34 c35 c36
        have P2 := P1.mv fC (by omega) (by omega)
        have e21' : hI h2 51 21 = 0 := by rw [fC.I (by omega)]; exact e21
        have g2 : hI h2 51 1 = n32 (aD x).length := by rw [fC.I (by omega)]; exact g1
        have O0 : OkT (txt x n) (tok (txt x n) 0) := ⟨0, Nat.zero_le _, rfl⟩
        obtain ⟨r, hr⟩ := mac_ends (b := 96 * (aD x).length) (n + 1) 0 (tok (txt x n) 0) [] O0 (by omega)
        have hr' : dlR x n = some r := hr
        rw [hr'] at k
        have D0 : DM (96 * (aD x).length) (run (96 * (aD x).length) []) h2 := by
          refine ⟨c37, ?_, c34, c35, c36, c32, trivial, fun i i1 i2 => absurd i2 (by show ¬ i < 96 * (aD x).length; omega)⟩
          rw [c33]
          show n32 0 = n32 (96 * (aD x).length - 96 * (aD x).length)
          rw [Nat.sub_self]
        refine ⟨n + 2, (q_mac (r := r) (h0 := h2) (T := txt x n) (b := 96 * (aD x).length) (fun h3 M => ?_) (n + 1) 0 (tok (txt x n) 0) [] h2 hr (fr.rf _ _) P2 D0 (fun j hj => absurd hj (by show ¬ j < 0; omega)) (by rw [if_pos rfl]; exact GI0 (by omega))).1 rfl (n + 2) (Nat.le_refl _)⟩
        obtain ⟨f3, M⟩ := M
        have fD : fr (SAl (96 * (aD x).length)) h h3 := fB.trans (f3.mono (fun _ _ h => Or.inr (Or.inl h)))
        have x21 : hI h3 51 21 = 0 := by rw [f3.I (by unfold SDl; omega)]; exact e21'
        have x1 : hI h3 51 1 = n32 (aD x).length := by rw [f3.I (by unfold SDl; omega)]; exact g2
        have old : ∀ h4, (∀ i, i < 96 * (aD x).length → hI h4 64 i = hI h 64 i) → InvH x h → ∀ d, d < (aD x).length → ChM (96 * d) ((aD x).getD d d0).1 h4 := by
          intro h4 f4 H d hd
          have hN := (K.1 d hd).1.2.2.1
          refine (H d hd).old (fun i hi => f4 i ?_)
          have hN' : sN (run (96 * d) ((aD x).getD d d0).1) ≤ 96 * d + 96 := hN
          omega
        have low64 : ∀ i, i < 96 * (aD x).length → hI h3 64 i = hI h 64 i := fun i hi => fD.I (by unfold SAl SBg SDl; omega)
        cases r with
        | inl e0 =>
          dsimp only at M k
          have hE := M.2.2.2
          unfold m_X12_deal_139
          refine ⟨fun z => absurd z M.bad, fun _ => k h3 (fD.mono (SAl_RefC _)) (rd_inv I K fD x21 M.2.2.1 (by omega)) (fun H => ?_)⟩
          exact old h3 low64 H
        | inr E =>
          dsimp only at M k
          obtain ⟨⟨t', P3⟩, D3, C3, G3, K3⟩ := M
          have J := rd_inv (q := 0) I K fD x21 P3.2.2.1 (by omega)
          refine q_deal139 (d := (aD x).length) (by omega) x1 P3.2.1 (fun h4 f4 w53 w54 w55 w56 w57 w1 => ?_)
          have o4 : ∀ a k, (a = 51 ∧ k ≠ 1 ∨ a = 52 ∨ 58 ≤ a) → hI h4 a k = hI h3 a k := fun a k hk => f4.I (by unfold S139; omega)
          refine k h4 ((fD.mono (SAl_RefC _)).trans (f4.mono (S139_RefC _))) ?_ (fun H => ?_)
          · obtain ⟨r1, r2, r3, r4, r4', r5, r6, r7, r8, r9⟩ := J
            have wd : ∀ l, inD (stQ (stT x []) 0) l → inD (stD (stQ (stT x []) 0) (aD x ++ [(E, g)])) l := by
              intro l hl d hd
              show d < (aD x ++ [(E, g)]).length
              rw [List.length_append, List.length_singleton]
              have : d < (aD x).length := hl d hd
              omega
            have R7 := r7.mv (o4 _ _ (by omega)) (fun j => o4 _ _ (by omega))
            have R8 := r8.mv (o4 _ _ (by omega)) (fun j => o4 _ _ (by omega))
            have R9 := r9.mv (o4 _ _ (by omega)) (fun j => o4 _ _ (by omega)) (fun j => o4 _ _ (by omega))
            refine ⟨r1.mv (fun j => o4 _ _ (by omega)), ⟨?_, ?_, fun d hd => ?_⟩, r3.mv (o4 _ _ (by omega)) (fun j => o4 _ _ (by omega)), by rw [o4 51 22 (by omega)]; exact r4, r4', r5.mv (o4 _ _ (by omega)) (fun j => o4 _ _ (by omega)) (fun b j h1 h2 => o4 b j (by omega)), r6.mv (o4 _ _ (by omega)) (fun j => o4 _ _ (by omega)) (fun b j h1 h2 => o4 b j (by omega)), ⟨R7.1, R7.2.1, R7.2.2.1, wd _ R7.2.2.2.1, R7.2.2.2.2⟩, ⟨R8.1, R8.2.1, R8.2.2.1, wd _ R8.2.2.2.1, R8.2.2.2.2⟩, ⟨R9.1, R9.2.1, fun i hi => ?_⟩⟩
            · show hI h4 51 1 = n32 (aD x ++ [(E, g)]).length
              rw [w1, List.length_append]; rfl
            · show (aD x ++ [(E, g)]).length ≤ 24
              rw [List.length_append, List.length_singleton]; omega
            · have hd' : d < (aD x).length + 1 := by
                have : d < (aD x ++ [(E, g)]).length := hd
                rw [List.length_append, List.length_singleton] at this
                exact this
              show RDeal (aD x ++ [(E, g)]) h4 d
              by_cases q : d = (aD x).length
              · subst q
                unfold RDeal dL dC dE
                rw [dS_new, dG_new, w53, w54, w55, w56, w57]
                refine ⟨D3.2.1, rfl, D3.2.2.1, D3.2.2.2.1, D3.2.2.2.2.1, fun i i1 i2 => ?_⟩
                exact (D3.2.2.2.2.2.2.2 i i1 i2).mvd (fun _ => rfl) (fun c c1 c2 => o4 c i (by omega))
              · obtain ⟨a1, a2, a3, a4, a5, a6⟩ := r2.2.2 d (by show d < (aD x).length; omega)
                have a6' : ∀ i, 96 * d ≤ i → i < sN (dS (aD x) d) → RNode (dS (aD x) d) h3 i := a6
                unfold RDeal dL dC dE
                rw [dS_old (by omega), dG_old (by omega)]
                refine ⟨?_, ?_, ?_, ?_, ?_, fun i i1 i2 => (a6' i i1 i2).mvd (fun _ => rfl) (fun c c1 c2 => o4 c i (by omega))⟩
                · rw [f4.I (by unfold S139; omega)]; exact a1
                · rw [f4.I (by unfold S139; omega)]; exact a2
                · rw [f4.I (by unfold S139; omega)]; exact a3
                · rw [f4.I (by unfold S139; omega)]; exact a4
                · rw [f4.I (by unfold S139; omega)]; exact a5
            · obtain ⟨b1, b2, b3, b4, b5⟩ := R9.2.2 i hi
              exact ⟨b1, b2, b3, wd _ b4, b5⟩
          · intro d hd
            have hd' : d < (aD x).length + 1 := by
              have : d < (aD x ++ [(E, g)]).length := hd
              rw [List.length_append, List.length_singleton] at this
              exact this
            show ChM (96 * d) ((aD x ++ [(E, g)]).getD d d0).1 h4
            by_cases q : d = (aD x).length
            · subst q
              rw [getD_dl_new]
              exact C3.old (fun i _ => o4 64 i (by omega))
            · rw [getD_dl_old (by omega)]
              exact old h4 (fun i hi => by rw [o4 64 i (by omega)]; exact low64 i hi) H d (by omega)
      · rw [if_pos z24, if_pos z24] at k
        exact k h (fr.rf _ _) I (fun z => z)
