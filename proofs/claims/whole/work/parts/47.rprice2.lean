/-! THE MODEL: price, told -/
set_option maxHeartbeats 4000000 in
set_option maxRecDepth 100000 in
theorem q_price47 {x : Ab} {l b w : Nat} {bs : List Nat} {Q : Int64 → Hp → Prop} (K : OkA x) (hin : inD x bs) (hl : l < 8) (hb : b < 8) (hw : w < 4) (h0 : Hp)
    (k : ∀ h' s, fr SLe h0 h' → s = (codFrom (aD x) bs 0).foldl (prS (aF x) (aD x) bs l b (decide (2 ≤ w))) (0, 1) → 0 < s.2 → s.1 < 4611686018427387904 → s.2 < 4611686018427387904 → m_X12_price_168 Q (n32 w) (if s.1 = 0 then -1 else z64 (s.1 : Nat)) (z64 (s.2 : Nat)) h') :
    ∀ (cs : List Nat) (v : Int32) (s : Nat × Nat) (h : Hp), CodAt (aD x) bs cs v → InvR x h → LstIs bs h → fr SLe h0 h → 0 < s.2 → s.1 < 4611686018427387904 → s.2 < 4611686018427387904 → cs.foldl (prS (aF x) (aD x) bs l b (decide (2 ≤ w))) s = (codFrom (aD x) bs 0).foldl (prS (aF x) (aD x) bs l b (decide (2 ≤ w))) (0, 1) →
    m_X12_price_47 (cs.length + 1) (m_X12_price_168 Q) Q (n32 l) (n32 b) (n32 w) (if s.1 = 0 then -1 else z64 (s.1 : Nat)) (z64 (s.2 : Nat)) v h := by
  intro cs
  induction cs with
  | nil =>
    intro v s h ca I L f a1 a2 a3 e
    rcases ca with ⟨-, rfl⟩ | ⟨e, -, h2, -⟩
    · rw [List.length_nil, m_X12_price_47]
      exact ⟨fun _ => k h s f e a1 a2 a3, fun z => absurd (by decide) z⟩
    · cases h2
  | cons c cs ih =>
    intro v s h ca I L f a1 a2 a3 e
    rcases ca with ⟨h1, -⟩ | ⟨e', he, h2, rfl⟩
    · cases h1
    · cases h2
      have hN := nCod_le K hin L.2.1
      rw [List.foldl_cons] at e
      rw [List.length_cons, m_X12_price_47]
      refine ⟨fun z => ?_, fun _ => ?_⟩
      · rw [show (0 : Int32) = n32 0 from rfl, n32_lt (by omega) (by omega)] at z; omega
      · refine q_lending I K hin L (by omega) (fun h1 f1 I1 L1 Lk e1 => ?_)
        have e89 := (e1 l hl).1
        have e88 := (e1 l hl).2
        have hlt := lnB_lt (aF x) (bRows (aD x) bs c 0) l 8
        have hbit := ln_bit (F := aF x) (fl := bRows (aD x) bs c 0) (l := l) hb
        have next : ∀ s' : Nat × Nat, prS (aF x) (aD x) bs l b (decide (2 ≤ w)) s c = s' → 0 < s'.2 → s'.1 < 4611686018427387904 → s'.2 < 4611686018427387904 → m_X12_price_155 (fun v1 v2 v3 v4 v6 v8 hh => m_X12_price_47 ((codFrom (aD x) bs (c + 1)).length + 1) (m_X12_price_168 Q) Q v1 v2 v3 v4 v6 v8 hh) (m_X12_price_168 Q) Q (n32 l) (n32 b) (n32 w) (if s'.1 = 0 then -1 else z64 (s'.1 : Nat)) (z64 (s'.2 : Nat)) (n32 c) h1 := by
          rintro s' rfl b1 b2 b3
          unfold m_X12_price_155
          rw [show n32 c + 1 = n32 (c + 1) from n32_add c 1]
          exact q_codeAt I1 K hin L1 (by omega) (fun v' hv' => ih v' _ h1 hv' I1 L1 (f.trans f1) b1 b2 b3 e)
        have eb : bLend (aF x) (aD x) bs c l b = lendsB (aF x) (bRows (aD x) bs c 0) l b := rfl
        simp (disch := omega) only [lit32, n32_ix, e89, n32_bit, hbit, e88, n32_in]
        refine ⟨by omega, fun q => ⟨by omega, ?_⟩, fun q => ?_⟩
        · have hq : lendsB (aF x) (bRows (aD x) bs c 0) l b = true := by
            cases hq : lendsB (aF x) (bRows (aD x) bs c 0) l b with
            | true => rfl
            | false => rw [hq] at q; exact absurd (by decide) q
          obtain ⟨p1, p2⟩ := out_pos Lk hq
          have p3 := (Lk.out (by omega : 0 ≤ net (aF x) (bRows (aD x) bs c 0) l 0)).2.2
          have p4 := Lk.2.2.2.1 l 0 0
          rw [netG0] at p4
          intro x7 ex7
          subst ex7
          refine q_outOf Lk hl (by omega) ?_
          have eP : prS (aF x) (aD x) bs l b (decide (2 ≤ w)) s c = (if s.1 = 0 ∨ (if decide (2 ≤ w) then s.1 * (outV (aF x) (bRows (aD x) bs c 0) l).toNat < (net (aF x) (bRows (aD x) bs c 0) l 0).toNat * s.2 else (net (aF x) (bRows (aD x) bs c 0) l 0).toNat * s.2 < s.1 * (outV (aF x) (bRows (aD x) bs c 0) l).toNat) then ((net (aF x) (bRows (aD x) bs c 0) l 0).toNat, (outV (aF x) (bRows (aD x) bs c 0) l).toNat) else s) := by
            unfold prS
            rw [eb, hq, if_pos rfl]
          generalize net (aF x) (bRows (aD x) bs c 0) l 0 = u at p1 p4 eP
          generalize outV (aF x) (bRows (aD x) bs c 0) l = o at p2 p3 eP
          obtain ⟨un, rfl⟩ : ∃ un : Nat, u = un := ⟨u.toNat, by omega⟩
          obtain ⟨on, rfl⟩ : ∃ on : Nat, o = on := ⟨o.toNat, by omega⟩
          simp only [Int.toNat_natCast] at eP
          have better : (s.1 = 0 ∨ (if decide (2 ≤ w) then s.1 * on < un * s.2 else un * s.2 < s.1 * on)) → m_X12_price_155 (fun v1 v2 v3 v4 v6 v8 hh => m_X12_price_47 ((codFrom (aD x) bs (c + 1)).length + 1) (m_X12_price_168 Q) Q v1 v2 v3 v4 v6 v8 hh) (m_X12_price_168 Q) Q (n32 l) (n32 b) (n32 w) (z64 (un : Nat)) (z64 (on : Nat)) (n32 c) h1 := by
            intro hh
            rw [if_pos hh] at eP
            have := next (un, on) eP (by show 0 < on; omega) (by show un < _; omega) (by show on < _; omega)
            dsimp only at this
            rw [if_neg (by omega)] at this
            exact this
          have worse : ¬ (s.1 = 0 ∨ (if decide (2 ≤ w) then s.1 * on < un * s.2 else un * s.2 < s.1 * on)) → m_X12_price_155 (fun v1 v2 v3 v4 v6 v8 hh => m_X12_price_47 ((codFrom (aD x) bs (c + 1)).length + 1) (m_X12_price_168 Q) Q v1 v2 v3 v4 v6 v8 hh) (m_X12_price_168 Q) Q (n32 l) (n32 b) (n32 w) (if s.1 = 0 then -1 else z64 (s.1 : Nat)) (z64 (s.2 : Nat)) (n32 c) h1 := by
            intro hh
            rw [if_neg hh] at eP
            exact next s eP a1 a2 a3
          unfold m_X12_price_132 m_X12_price_136 m_X12_price_137
          by_cases s0 : s.1 = 0
          · rw [if_pos s0]
            refine ⟨fun _ => ⟨fun _ => better (Or.inl s0), fun z => absurd z (by decide)⟩, fun z => absurd (by decide) z⟩
          · rw [if_neg s0]
            rw [if_neg s0] at worse
            refine ⟨fun z => ?_, fun _ => ⟨fun z => ?_, fun z => ?_⟩⟩
            · rw [show (0 : Int64) = z64 0 from rfl, lgc_lt (by omega) (by omega) (by decide) (by decide)] at z; omega
            · rw [n32_le (by decide) (by omega)] at z
              rw [show decide (2 ≤ w) = true by simp [z]] at better worse
              refine q_isLess (by omega) (by omega) a2 a3 (by omega) (by omega) (fun g => ?_) (fun g => ?_)
              · exact ⟨fun z => absurd z (by decide), fun _ => ⟨fun _ => better (Or.inr (by simpa using g)), fun z => absurd z (by decide)⟩⟩
              · exact ⟨fun _ => ⟨fun z => absurd rfl z, fun _ => worse (fun hh => by
                  rcases hh with hh | hh
                  · exact s0 hh
                  · exact g (by simpa using hh))⟩, fun z => absurd rfl z⟩
            · rw [n32_le (by decide) (by omega)] at z
              rw [show decide (2 ≤ w) = false by simp; omega] at better worse
              refine q_isLess (by omega) (by omega) (by omega) (by omega) a2 a3 (fun g => ?_) (fun g => ?_)
              · exact ⟨fun z => absurd z (by decide), fun _ => ⟨fun _ => better (Or.inr (by simpa using g)), fun z => absurd z (by decide)⟩⟩
              · exact ⟨fun _ => ⟨fun z => absurd rfl z, fun _ => worse (fun hh => by
                  rcases hh with hh | hh
                  · exact s0 hh
                  · exact g (by simpa using hh))⟩, fun z => absurd rfl z⟩
        · have hq : lendsB (aF x) (bRows (aD x) bs c 0) l b = false := by
            cases hq : lendsB (aF x) (bRows (aD x) bs c 0) l b with
            | false => rfl
            | true => rw [hq] at q; exact absurd q (by decide)
          exact next s (by unfold prS; rw [eb, hq, if_neg (by decide)]) a1 a2 a3
set_option maxHeartbeats 4000000 in
set_option maxRecDepth 100000 in
theorem R_price {x : Ab} {v1 v2 v3 : Int32} {h : Hp} {Q : Int64 → Hp → Prop} (I : InvR x h) (K : OkA x) (k : ∀ h', fr Scr h h' → Q (ansPrice x v1 v2 v3) h') : m_X12_price v1 v2 v3 h Q := by
  unfold m_X12_price
  unfold ansPrice at k
  refine q_bundle I (fun h1 f1 L => ?_)
  have I1 := I.fr (f1.mono SLs_Scr)
  replace k := fun h' (f : fr Scr h1 h') => k h' ((f1.mono SLs_Scr).trans f)
  refine q_two (fun q => ?_) (fun l b hl hb hlb e1 e2 e3 e4 => ?_)
  · refine ⟨fun _ => ?_, fun z => absurd rfl z⟩
    have := k h1 (fr.rf _ _)
    cases g1 : argN v1 8 with
    | none => rw [g1] at this; exact this
    | some l => cases g2 : argN v2 8 with
      | none => rw [g1, g2] at this; exact this
      | some b => cases g3 : argN v3 4 with
        | none => rw [g1, g2, g3] at this; exact this
        | some w => rw [g1, g2, g3] at this; dsimp only at this; rw [if_pos (q l b g1 g2)] at this; exact this
  · rw [e3, e4] at k
    subst e1; subst e2
    refine ⟨fun z => absurd z (by decide), fun _ => ?_⟩
    refine q_upto (hi := 3) (by decide) (fun e => ?_) (fun w hw e5 e6 => ?_)
    · rw [e] at k; exact ⟨fun _ => k h1 (fr.rf _ _), fun z => absurd rfl z⟩
    · rw [e6] at k
      dsimp only at k
      rw [if_neg hlb] at k
      subst e5
      refine ⟨fun z => absurd z (by decide), fun _ => ?_⟩
      refine q_looked I1 K I.inB L (fun q => ?_) (fun q => ?_)
      · unfold looked at q
        rw [if_pos q] at k
        refine ⟨fun _ => ?_, fun z => absurd z (by decide)⟩
        refine q_codeAt (c := 0) I1 K I.inB L (by omega) (fun v hv => ⟨_, q_price47 K I.inB hl hb (by omega) h1 (fun h' s f' es b1 b2 b3 => ?_) _ v (0, 1) h1 hv I1 L (fr.rf _ _) (by decide) (by decide) (by decide) rfl⟩)
        have := k h' (f'.mono SLe_Scr)
        rw [show prA (aF x) (aD x) (aB x) l b (decide (2 ≤ w)) = s by rw [es, codFrom0]; rfl] at this
        unfold m_X12_price_168
        by_cases s0 : s.1 = 0
        · rw [if_pos s0] at this ⊢
          exact ⟨fun z => absurd z (by decide), fun _ => this⟩
        · rw [if_neg s0] at this ⊢
          refine ⟨fun _ => q_divisor b2 b3 ?_, fun z => ?_⟩
          · have hg : 0 < Nat.gcd s.1 s.2 := Nat.gcd_pos_of_pos_left _ (by omega)
            have hg2 : Nat.gcd s.1 s.2 ≤ s.2 := Nat.gcd_le_right _ b1
            have ew : n32 w - n32 w / 2 * 2 = n32 (w % 2) := by
              have key : ∀ t : Fin 4, n32 t.val - n32 t.val / 2 * 2 = n32 (t.val % 2) := by decide
              exact key ⟨w, by omega⟩
            rw [ew]
            refine ⟨fun z => ⟨z64_ne0 hg (by omega), ?_⟩, fun z => ⟨z64_ne0 hg (by omega), ?_⟩⟩
            · rw [show (0 : Int32) = n32 0 from rfl, n32_eq (by omega) (by decide)] at z
              rw [if_neg z] at this
              rw [z64_div (by omega) hg (by omega)]
              exact this
            · rw [show (0 : Int32) = n32 0 from rfl, n32_eq (by omega) (by decide)] at z
              rw [if_pos z] at this
              rw [z64_div (by omega) hg (by omega)]
              exact this
          · rw [show (0 : Int64) = z64 0 from rfl, show (0 : Int32) = n32 0 from rfl, lgc_ge (by omega) (by omega) (by decide) (by decide)] at z
            omega
      · unfold looked at q
        rw [if_neg q] at k
        exact ⟨fun z => absurd rfl z, fun _ => k h1 (fr.rf _ _)⟩
