/-! THE MODEL: plain; the walk that lays a part out -/
set_option maxHeartbeats 4000000 in
set_option maxRecDepth 100000 in
theorem q_lay13 {d a0 L P : Nat} {s : St} {X : Fg} {hd : Nat → Nat} {k284 : Int32 → Hp → Prop} {Q : Int32 → Hp → Prop} (hP : P ≤ 800) (hL : L ≤ sN s) (h0 : 96 * d ≤ a0) (h01 : a0 < 2305) :
    ∀ a e u q, Fo (sD s) a e u q → a0 ≤ a → e ≤ L → ∀ (p : Nat) (S cl : List Nat) (m : Nat) (h : Hp) (S0 cl0 : List Nat), (∀ n, u ≤ n → clb (sD s) X a0 (n + 1) u q = p) → (∀ n, u ≤ n → cl.length ≤ dep (sD s) n u) → inB (96 * d) s cl → (∀ x ∈ cl, e ≤ sD s 62 x) → S.length + cl.length + 6 * (rem (sL s) a).length ≤ 4 * (a - 96 * d) + 72 →
      RD (96 * d) s h → FgM (96 * d) s X h → SgM P S0 cl0 h → inB (96 * d) s cl0 → cl0.length ≤ 7 → cu (sD s) a S0 cl0 = cu (sD s) a S cl →
      (7 ∈ SA (sD s) hd X a e → ∀ h', fr SLy h h' → lowS P h h' → Q (-1) h') →
      (7 ∉ SA (sD s) hd X a e → ∀ m' h' S1 cl1, m ≤ m' → fr SLy h h' → lowS P h h' → SgM P S1 cl1 h' → inB (96 * d) s cl1 → cl1.length ≤ 7 → cu (sD s) e S1 cl1 = cu (sD s) e (S ++ SG (sD s) X p a e) cl → m_X12_laysOut_13 m' k284 Q (n32 d) (n32 a0) (n32 L) (n32 P) (n32 e) h') →
      ∀ m', m + (e - a) ≤ m' → m_X12_laysOut_13 m' k284 Q (n32 d) (n32 a0) (n32 L) (n32 P) (n32 a) h := by
  refine Fo_ind (fun a u q => ?_) (fun a e u q g f1 f2 f3 f4 f5 f6 f7 f8 i1 i2 i3 => ?_)
  · intro ha he p S cl m h S0 cl0 hc hdp hb hcl bnd R F G hb0 hc0 ec kc k m' hm
    rw [SA_nil, SG_nil, List.append_nil] at k
    exact k (by simp) m' h S0 cl0 (by omega) (fr.rf _ _) (fun _ _ => rfl) G hb0 hc0 ec
  · intro ha he p S cl m h S0 cl0 hc hdp hb hcl bnd R F G hb0 hc0 ec kc k m' hm
    obtain ⟨g1, g2, g3, g4⟩ := id g
    have hl := R.lt
    have hN := R.1.2.2.1
    have ga : a < sN s := by omega
    have hab : 96 * d ≤ a := by omega
    have i96 : a - 96 * d < 96 := by omega
    obtain ⟨m', rfl⟩ : ∃ n, m' = n + 1 := ⟨m' - 1, by omega⟩
    have ek : n32 a - (96 * n32 d) = n32 (a - 96 * d) := by rw [show (96 : Int32) = n32 96 from rfl, n32_mul, n32_sub (by omega)]
    have no := R.1.2.2.2.2.2.2.2.1 a hab ga
    have u1 : u ≤ a := by have := no.2.1; omega
    have d6 : cl.length ≤ 6 := by
      have z := no.2.2.2.2.2.2.2.2.2.2.2
      rw [f1] at z
      have := hdp (a + 1) (by omega)
      omega
    have cuS : cu (sD s) a S cl = (S, cl) := cu_id (fun x hx => by have := hcl x hx; omega)
    rw [cuS] at ec
    have len0 : S0.length + cl0.length = S.length + cl.length := by
      have := cu_len (sD s) a cl0 S0
      rw [ec] at this
      exact this.symm
    rw [m_X12_laysOut_13, n32_le (by omega) (by omega)]
    refine ⟨fun z => absurd z (by omega), fun _ => ?_⟩
    unfold m_X12_closesUp
    refine ⟨cl0.length + 1, q_closesUp hP (by omega) cl0 S0 h _ R G hb0 hc0 (by omega) (Nat.le_refl _) (fun h1 fr1 w1 G1 => ?_)⟩
    rw [ec] at G1
    dsimp only at G1
    have R1 := R.mv fr1 (by unfold SLy; omega)
    have F1 := F.mv fr1 (by unfold SLy; omega)
    obtain ⟨x1, x2, x3⟩ := F1 a hab ga
    obtain ⟨r1, r2, r3, r4, r5, r6⟩ := R1.tb hab ga
    intro x23 ex
    rw [ek] at ex
    subst ex
    rw [n32_ix (by omega), x1, x2]
    have v96 : vp_in (n32 (a - 96 * d)) 96 := vpI i96 (by decide)
    refine ⟨v96, ?_⟩
    have sa := SA7 (hd := hd) (X := X) g f5
    have rma := rem_mono (show a ≤ sD s 62 a by omega) (sL s)
    have ra := R.1.rem hab ga
    by_cases n1 : X.1 a = true
    · have y : ¬ fgb (X.1 a) = 0 := by rw [fgb0, n1]; simp
      refine ⟨fun _ => ?_, fun z => absurd z y⟩
      unfold m_X12_laysOut_255 m_X12_laysOut_279
      rw [n32_ix (by omega), x1, n32_ix (by omega), r5]
      refine ⟨v96, fun z => absurd z y, fun _ => ⟨vpI (by omega) (by decide), ?_⟩⟩
      refine i3 (by omega) he p S cl m h1 S cl hc hdp hb hcl (by omega) R1 F1 G1 hb (by omega) rfl (fun z h' f' w' => kc (sa.mpr (Or.inr z)) h' (fr1.trans f') (w1.trans w')) (fun z m2 h2 S1 cl1 l2 f2' w2 G2 b2 c2 e2 => ?_) m' (by omega)
      refine k (fun zz => ?_) m2 h2 S1 cl1 l2 (fr1.trans f2') (w1.trans w2) G2 b2 c2 ?_
      · rcases sa.mp zz with ⟨q1, -⟩ | q1
        · rw [n1] at q1; cases q1
        · exact z q1
      · rw [SG_cons g, if_pos n1]; exact e2
    · have y : fgb (X.1 a) = 0 := fgb0.mpr (by simpa using n1)
      have n1' : X.1 a = false := by simpa using n1
      refine ⟨fun z => absurd y z, fun _ => ⟨v96, ?_⟩⟩
      by_cases n2 : X.2.1 a = true
      · have y2 : ¬ fgb (X.2.1 a) = 0 := by rw [fgb0, n2]; simp
        refine ⟨fun _ => ?_, fun z => absurd z y2⟩
        unfold m_X12_laysOut_255 m_X12_laysOut_279
        rw [n32_ix (by omega), x1, show n32 a + 1 = n32 (a + 1) from n32_add _ 1]
        refine ⟨v96, fun _ => ?_, fun z => absurd y z⟩
        have hc' : ∀ q' n, a + 1 ≤ n → clb (sD s) X a0 (n + 1) (a + 1) q' = p := by
          intro q' n hn
          rw [clb, if_neg (by omega), show a + 1 - 1 = a by omega, if_pos n2, f1, f2]
          obtain ⟨n, rfl⟩ : ∃ z, n = z + 1 := ⟨n - 1, by omega⟩
          exact hc n (by omega)
        have hdp' : ∀ n, a + 1 ≤ n → cl.length ≤ dep (sD s) n (a + 1) := by
          intro n hn
          obtain ⟨n, rfl⟩ : ∃ z, n = z + 1 := ⟨n - 1, by omega⟩
          rw [dep, if_neg (by omega), show a + 1 - 1 = a by omega, f1]
          have := hdp n (by omega)
          omega
        have sl1 := SG_len (X := X) R.1 _ _ _ _ f6 (by omega) (by omega) p
        have sl2 := SG_len (X := X) R.1 _ _ _ _ f7 (by omega) (by omega) p
        have rm1 := rem_mono (show a ≤ a + 1 by omega) (sL s)
        have k7 : ∀ {A : List Nat → Prop}, True := fun {_} => trivial
        refine i1 (by omega) (by omega) p S cl (m + (e - sD s 62 a) + (sD s 62 a - md (sD s) a)) h1 S cl (hc' 0) hdp' hb (fun x hx => by have := hcl x hx; omega) (by omega) R1 F1 G1 hb (by omega) rfl (fun z h' f' w' => kc (sa.mpr (Or.inl ⟨n1', Or.inl ⟨n2, Or.inl z⟩⟩)) h' (fr1.trans f') (w1.trans w')) (fun z1 m2 h2 S1 cl1 l2 f2' w2 G2 b2 c2 e2 => ?_) m' (by omega)
        have fA := fr1.trans f2'
        have wA := w1.trans w2
        refine i2 (by omega) (by omega) p (S ++ SG (sD s) X p (a + 1) (md (sD s) a)) cl (m + (e - sD s 62 a)) h2 S1 cl1 (hc' 1) hdp' hb (fun x hx => by have := hcl x hx; omega) (by rw [List.length_append]; omega) (R.mv fA (by unfold SLy; omega)) (F.mv fA (by unfold SLy; omega)) G2 b2 c2 e2 (fun z h' f' w' => kc (sa.mpr (Or.inl ⟨n1', Or.inl ⟨n2, Or.inr z⟩⟩)) h' (fA.trans f') (wA.trans w')) (fun z2 m3 h3 S2 cl2 l3 f3' w3 G3 b3 c3 e3 => ?_) m2 (by omega)
        have fB := fA.trans f3'
        have wB := wA.trans w3
        refine i3 (by omega) he p (S ++ SG (sD s) X p (a + 1) (md (sD s) a) ++ SG (sD s) X p (md (sD s) a) (sD s 62 a)) cl m h3 S2 cl2 hc hdp hb hcl (by rw [List.length_append, List.length_append]; omega) (R.mv fB (by unfold SLy; omega)) (F.mv fB (by unfold SLy; omega)) G3 b3 c3 e3 (fun z h' f' w' => kc (sa.mpr (Or.inr z)) h' (fB.trans f') (wB.trans w')) (fun z3 m4 h4 S3 cl3 l4 f4' w4 G4 b4 c4 e4 => ?_) m3 (by omega)
        refine k (fun zz => ?_) m4 h4 S3 cl3 l4 (fB.trans f4') (wB.trans w4) G4 b4 c4 ?_
        · rcases sa.mp zz with ⟨-, ⟨-, q1 | q1⟩ | ⟨q1, -⟩⟩ | q1
          · exact z1 q1
          · exact z2 q1
          · rw [n2] at q1; cases q1
          · exact z3 q1
        · rw [e4, SG_cons g, if_neg n1, if_pos n2]
          simp only [List.append_assoc]
      · have y2 : fgb (X.2.1 a) = 0 := fgb0.mpr (by simpa using n2)
        have n2' : X.2.1 a = false := by simpa using n2
        refine ⟨fun z => absurd y2 z, fun _ => ⟨vpI (by omega) (by decide), ?_⟩⟩
        rw [n32_ix (by omega), r1, show (7 : Int32) = n32 7 from rfl, n32_eq (by omega) (by decide)]
        refine ⟨fun k7 => ?_, fun k7 => kc (sa.mpr (Or.inl ⟨n1', Or.inr ⟨n2', by omega, Or.inl k7⟩⟩)) h1 fr1 w1⟩
        unfold m_X12_partLeft
        refine ⟨vpI (by omega) (by decide), fun x2' ex2 => ?_⟩
        rw [n32_ix (by omega), r3, f1] at ex2
        subst ex2
        refine ⟨u + 1, q_partLeft R1 F1 h0 h01 u a u q hab ga f1 f2 (Nat.le_refl _) ?_⟩
        rw [hc u (Nat.le_refl _)]
        have bS : S.length + cl.length + 6 * (rem (sL s) a).length ≤ 456 := by omega
        refine q_sign (v := p + 1) G1 hP (by omega) (fun h2 f2' w2 G2 => ?_)
        have fA := fr1.trans (f2'.mono SSg_SLy)
        have wA := w1.trans w2
        have RA := R.mv fA (by unfold SLy; omega)
        refine ⟨vpI (by omega) (by decide), ?_⟩
        rw [(RA.tb hab ga).1]
        refine q_sign (v := sD s 58 a + 1) G2 hP (by simp only [List.length_append, List.length_singleton]; omega) (fun h3 f3' w3 G3 => ?_)
        have fB := fA.trans (f3'.mono SSg_SLy)
        have wB := wA.trans w3
        have RB := R.mv fB (by unfold SLy; omega)
        have FB := F.mv fB (by unfold SLy; omega)
        obtain ⟨s1, s2, s3, s4, s5, s6⟩ := RB.tb hab ga
        have x3' := (FB a hab ga).2.2
        have main : m_X12_laysOut_128 (fun (v1 : Int32) (v2 : Int32) (v3 : Int32) (v4 : Int32) (v5 : Int32) hh => m_X12_laysOut_13 m' k284 Q v1 v2 v3 v4 v5 hh) k284 Q (n32 d) (n32 a0) (n32 L) (n32 P) (n32 a) (n32 (a - 96 * d)) (n32 P) (n32 (if sD s 58 a = 4 then X.2.2 a else sD s 59 a)) h3 := by
          unfold m_X12_laysOut_128
          refine q_sign (v := (if sD s 58 a = 4 then X.2.2 a else sD s 59 a) + 1) G3 hP (by simp only [List.length_append, List.length_singleton]; omega) (fun h4 f4' w4 G4 => ?_)
          have fC := fB.trans (f4'.mono SSg_SLy)
          have wC := wB.trans w4
          have RC := R.mv fC (by unfold SLy; omega)
          have FC' := F.mv fC (by unfold SLy; omega)
          refine q_isLeaf RC hab ga (fun k4 => ?_) (fun k4 => ?_)
          · refine ⟨fun _ => ?_, fun z => absurd rfl z⟩
            obtain ⟨c1, c2, c3, c4⟩ := id G4
            rw [c3, n32_ix (by omega)]
            refine ⟨vpI (by omega) (by decide), ?_⟩
            have t47 : hI (wI h4 78 cl.length (n32 a)) 51 47 = n32 cl.length := by rw [hI_wI, if_neg (by omega)]; exact c3
            rw [t47, show n32 cl.length + 1 = n32 (cl.length + 1) from n32_add _ 1]
            have f5' : fr SLy h4 (wI (wI h4 78 cl.length (n32 a)) 51 47 (n32 (cl.length + 1))) := fr_wI (fr_wI (fr.rf _ _) _ (by unfold SLy; omega)) _ (by unfold SLy; omega)
            have w5 : lowS P h4 (wI (wI h4 78 cl.length (n32 a)) 51 47 (n32 (cl.length + 1))) := fun j hj => by rw [hI_wI, if_neg (by omega), hI_wI, if_neg (by omega)]
            have G5 : SgM P (S ++ [p + 1] ++ [sD s 58 a + 1] ++ [(if sD s 58 a = 4 then X.2.2 a else sD s 59 a) + 1]) (a :: cl) (wI (wI h4 78 cl.length (n32 a)) 51 47 (n32 (cl.length + 1))) := by
              refine ⟨?_, fun j hj => ?_, ?_, ?_, ?_⟩
              · rw [hI_wI, if_neg (by omega), hI_wI, if_neg (by omega)]; exact c1
              · rw [hI_wI, if_neg (by omega), hI_wI, if_neg (by omega)]; exact c2 j hj
              · rw [hI_wI, if_pos ⟨rfl, rfl⟩]; rfl
              · rw [hI_wI, if_neg (by omega), hI_wI, if_pos ⟨rfl, rfl⟩]
              · have low : ∀ (l : List Nat), l.length ≤ cl.length → StkCl l h4 → StkCl l (wI (wI h4 78 cl.length (n32 a)) 51 47 (n32 (cl.length + 1))) := by
                  intro l
                  induction l with
                  | nil => intro _ _; trivial
                  | cons z l ih =>
                    intro hz H
                    rw [List.length_cons] at hz
                    exact ⟨by rw [hI_wI, if_neg (by omega), hI_wI, if_neg (by omega)]; exact H.1, ih (by omega) H.2⟩
                exact low cl (Nat.le_refl _) c4
            generalize wI (wI h4 78 cl.length (n32 a)) 51 47 (n32 (cl.length + 1)) = h5 at f5' w5 G5
            have fD := fC.trans f5'
            have wD := wC.trans w5
            have RD' := R.mv fD (by unfold SLy; omega)
            have FD := F.mv fD (by unfold SLy; omega)
            unfold m_X12_laysOut_255 m_X12_laysOut_279
            rw [n32_ix (by omega), (FD a hab ga).1, show n32 a + 1 = n32 (a + 1) from n32_add _ 1]
            refine ⟨v96, fun _ => ?_, fun z => absurd y z⟩
            have hc' : ∀ q' n, a + 1 ≤ n → clb (sD s) X a0 (n + 1) (a + 1) q' = if sD s 58 a = 6 then q' else 0 := by
              intro q' n hn
              rw [clb, if_neg (by omega), show a + 1 - 1 = a by omega, if_neg n2]
            have hdp' : ∀ n, a + 1 ≤ n → (a :: cl).length ≤ dep (sD s) n (a + 1) := by
              intro n hn
              obtain ⟨n, rfl⟩ : ∃ z, n = z + 1 := ⟨n - 1, by omega⟩
              rw [dep, if_neg (by omega), show a + 1 - 1 = a by omega, f1, List.length_cons]
              have := hdp n (by omega)
              omega
            have hb' : inB (96 * d) s (a :: cl) := by
              intro x hx
              rcases List.mem_cons.mp hx with rfl | hx
              · exact ⟨hab, ga⟩
              · exact hb x hx
            have e62 : ∀ z, z ≤ sD s 62 a → ∀ x ∈ a :: cl, z ≤ sD s 62 x := by
              intro z hz x hx
              rcases List.mem_cons.mp hx with rfl | hx
              · exact hz
              · have := hcl x hx; omega
            have sl1 := SG_len (X := X) R.1 _ _ _ _ f6 (by omega) (by omega) 0
            have sl2 := SG_len (X := X) R.1 _ _ _ _ f7 (by omega) (by omega) (if sD s 58 a = 6 then 1 else 0)
            have k4' : ¬ sD s 58 a < 4 := by omega
            rw [if_neg k4'] at ra
            refine i1 (by omega) (by omega) 0 _ (a :: cl) (m + (e - sD s 62 a) + (sD s 62 a - md (sD s) a)) h5 _ (a :: cl) (fun n hn => by rw [hc' 0 n hn]; split <;> rfl) hdp' hb' (e62 _ g3) ?_ RD' FD G5 hb' (by rw [List.length_cons]; omega) rfl (fun z h' f' w' => kc (sa.mpr (Or.inl ⟨n1', Or.inr ⟨n2', by omega, Or.inr (Or.inl z)⟩⟩)) h' (fD.trans f') (wD.trans w')) (fun z1 m2 h6 S1 cl1 l2 f6' w6 G6 b6 c6 e6 => ?_) m' (by omega)
            · simp only [List.length_append, List.length_singleton, List.length_cons, List.length_nil]; omega
            have fE := fD.trans f6'
            have wE := wD.trans w6
            refine i2 (by omega) (by omega) (if sD s 58 a = 6 then 1 else 0) _ (a :: cl) (m + (e - sD s 62 a)) h6 S1 cl1 (fun n hn => hc' 1 n hn) hdp' hb' (e62 _ (Nat.le_refl _)) ?_ (R.mv fE (by unfold SLy; omega)) (F.mv fE (by unfold SLy; omega)) G6 b6 c6 e6 (fun z h' f' w' => kc (sa.mpr (Or.inl ⟨n1', Or.inr ⟨n2', by omega, Or.inr (Or.inr z)⟩⟩)) h' (fE.trans f') (wE.trans w')) (fun z2 m3 h7 S2 cl2 l3 f7' w7 G7 b7 c7 e7 => ?_) m2 (by omega)
            · simp only [List.length_append, List.length_singleton, List.length_cons, List.length_nil]; omega
            have fF := fE.trans f7'
            have wF := wE.trans w7
            rw [cu, if_pos (Nat.le_refl _)] at e7
            refine i3 (by omega) he p _ cl m h7 S2 cl2 hc hdp hb hcl ?_ (R.mv fF (by unfold SLy; omega)) (F.mv fF (by unfold SLy; omega)) G7 b7 c7 e7 (fun z h' f' w' => kc (sa.mpr (Or.inr z)) h' (fF.trans f') (wF.trans w')) (fun z3 m4 h8 S3 cl3 l4 f8' w8 G8 b8 c8 e8 => ?_) m3 (by omega)
            · simp only [List.length_append, List.length_singleton]; omega
            refine k (fun zz => ?_) m4 h8 S3 cl3 l4 (fF.trans f8') (wF.trans w8) G8 b8 c8 ?_
            · rcases sa.mp zz with ⟨-, ⟨q1, -⟩ | ⟨-, -, q1 | q1 | q1⟩⟩ | q1
              · rw [n2'] at q1; cases q1
              · exact k7 q1
              · exact z1 q1
              · exact z2 q1
              · exact z3 q1
            · rw [e8, SG_cons g, if_neg n1, if_neg n2]
              unfold vsG
              rw [if_neg k4']
              congr 1
              simp only [List.append_assoc, List.cons_append, List.nil_append, List.singleton_append]
          · refine ⟨fun z => absurd z (by decide), fun _ => ?_⟩
            rw [if_pos k4] at ra
            have e1 := (f4 k4).1
            refine q_leafSigns RC hab ga k4 G4 hP (by simp only [List.length_append, List.length_singleton]; omega) (fun h5 f5' w5 G5 => ?_)
            have fD := fC.trans (f5'.mono SSg_SLy)
            have wD := wC.trans w5
            have FD := F.mv fD (by unfold SLy; omega)
            unfold m_X12_laysOut_255 m_X12_laysOut_279
            rw [n32_ix (by omega), (FD a hab ga).1, show n32 a + 1 = n32 (a + 1) from n32_add _ 1, ← e1]
            refine ⟨v96, fun _ => ?_, fun z => absurd y z⟩
            rw [← e1] at ra
            refine i3 (by omega) he p _ cl m h5 _ cl hc hdp hb hcl ?_ (R.mv fD (by unfold SLy; omega)) FD G5 hb (by omega) rfl (fun z h' f' w' => kc (sa.mpr (Or.inr z)) h' (fD.trans f') (wD.trans w')) (fun z3 m4 h8 S3 cl3 l4 f8' w8 G8 b8 c8 e8 => ?_) m' (by omega)
            · simp only [List.length_append, List.length_singleton, List.length_cons, List.length_nil]; omega
            refine k (fun zz => ?_) m4 h8 S3 cl3 l4 (fD.trans f8') (wD.trans w8) G8 b8 c8 ?_
            · rcases sa.mp zz with ⟨-, ⟨q1, -⟩ | ⟨-, q1, -⟩⟩ | q1
              · rw [n2'] at q1; cases q1
              · omega
              · exact z3 q1
            · rw [e8, SG_cons g, if_neg n1, if_neg n2]
              unfold vsG
              rw [if_pos k4, if_neg (show ¬ sD s 58 a = 4 by omega)]
              congr 1
              simp only [List.append_assoc, List.cons_append, List.nil_append, List.singleton_append]
        refine ⟨vpI (by omega) (by decide), ?_⟩
        rw [s1, show (4 : Int32) = n32 4 from rfl, n32_eq (by omega) (by decide), s2, x3']
        refine ⟨fun z => ⟨vpI (by omega) (by decide), ?_⟩, fun z => ⟨v96, ?_⟩⟩
        · rw [if_neg z] at main; exact main
        · rw [if_pos z] at main; exact main
