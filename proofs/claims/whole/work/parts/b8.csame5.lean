/-! THE CLASS: same, whole -/
theorem SlA.has {base : Nat} {rs : List Rec} {Ks : List Nat} {h : Hp} (S : SlA base rs Ks h) {c ky : Nat} (hn : amK c rs ky ≠ 0) : ∃ s, s < Ks.length ∧ Ks.getD s 0 = ky := by
  obtain ⟨q, hq, k1, -⟩ := amK_pos (c := c) hn
  obtain ⟨i, hi, e⟩ := List.mem_iff_getElem.mp (List.mem_filter.mp hq).1
  obtain ⟨s, s1, -, s3⟩ := S i hi
  refine ⟨s, s1, ?_⟩
  rw [s3, List.getD_eq_getElem?_getD, List.getElem?_eq_getElem hi, Option.getD_some, e, k1]
theorem SlA.mv {base : Nat} {rs : List Rec} {Ks : List Nat} {S : Nat → Nat → Prop} {h h' : Hp} (A : SlA base rs Ks h) (f : fr S h h') (n : ∀ k, base ≤ k → k < base + rs.length → ¬ S 45 k) (t : List Nat) : SlA base rs (Ks ++ t) h' := fun k hk => by
  obtain ⟨s, s1, s2, s3⟩ := A k hk
  exact ⟨s, by rw [List.length_append]; omega, by rw [f.I (n _ (by omega) (by omega))]; exact s2, by rw [getD_apl s1]; exact s3⟩
def SSa (a k : Nat) : Prop := a = 43 ∧ k = 3 ∨ a = 44 ∨ a = 45 ∨ a = 46
theorem SSa_Own : ∀ a k, SSa a k → Own a k := by unfold SSa Own; omega
set_option maxHeartbeats 4000000 in
set_option maxRecDepth 100000 in
theorem c_firstApart {x : Ab} {da : Nat → Nat} {a b : Nat} {h : Hp} {Q : Int32 → Hp → Prop} (V : CVw x da h) (K : OkA x) (M : OkM x) (ha : a < (aD x).length) (hb : b < (aD x).length) (k : ∀ h', fr SSa h h' → Q (pm (opN (fsome (fun c => if apB (aD x) a b c then some c else none) 0 (32 * 2 ^ mostC (aD x) a b)))) h') : m_X4_firstApart (da a) (da b) h Q := by
  have ra := rows_le K ha
  have rb := rows_le K hb
  have ca : dC (aD x) a ≤ 3 := K.c3 ha
  have cb : dC (aD x) b ≤ 3 := K.c3 hb
  have m3 : mostC (aD x) a b ≤ 3 := by unfold mostC; split <;> omega
  have ea : dE (aD x) a < 2 ^ 5 := (K.1 a ha).1.2.2.2.2.1
  have eb : dE (aD x) b < 2 ^ 5 := (K.1 b hb).1.2.2.2.2.1
  have eo : dE (aD x) a ||| dE (aD x) b < 2 ^ 5 := Nat.or_lt_two_pow ea eb
  unfold m_X4_firstApart
  have f0 : fr SSa h (wI h 43 3 0) := fr_wI (fr.rf _ _) _ (by unfold SSa; omega)
  have i0 : hI (wI h 43 3 0) 43 3 = n32 0 := by rw [hI_wI, if_pos ⟨rfl, rfl⟩]; rfl
  generalize wI h 43 3 0 = h1 at f0 i0
  have V1 := V.mv f0 (by unfold SSa; omega)
  refine c_giveSlots (base := 0) (Ks := []) V1 K ha ⟨i0, List.nodup_nil, fun s hs => absurd hs (by simp)⟩ (by omega) (Nat.le_refl 0) (fun Ks h2 f2 A2 l2 S2 => ?_)
  rw [List.nil_append] at A2 l2 S2
  have f2' : fr SSa h h2 := f0.trans (f2.mono (by unfold SGs SSa; omega))
  have V2 := V.mv f2' (by unfold SSa; omega)
  refine c_giveSlots (base := 36) (Ks := Ks) V2 K hb A2 (by omega) (by omega) (fun t h3 f3 A3 l3 S3 => ?_)
  have f3' : fr SSa h h3 := f2'.trans (f3.mono (by unfold SGs SSa; omega))
  have V3 := V.mv f3' (by unfold SSa; omega)
  have S2' := S2.mv f3 (by unfold SGs; omega) t
  generalize Ks ++ t = Ls at A3 l3 S3 S2'
  intro x15 e15 x16 e16
  obtain ⟨-, -, a3, a4, -⟩ := (V3.2.2 a ha).1
  obtain ⟨-, -, b3, b4, -⟩ := (V3.2.2 b hb).1
  rw [a3, b3] at e15
  have e15' : x15 = n32 (mostC (aD x) a b) := by
    rw [e15]
    unfold mostC
    by_cases y : dC (aD x) a < dC (aD x) b
    · rw [if_pos ((n32_lt (by omega) (by omega)).mpr y), if_pos (by omega)]
    · rw [if_neg (fun w => y ((n32_lt (by omega) (by omega)).mp w))]
      by_cases w : dC (aD x) a ≤ dC (aD x) b
      · rw [if_pos w]; congr 1; omega
      · rw [if_neg w]
  subst e15'
  have tab := nm2_tab ⟨dE (aD x) a ||| dE (aD x) b, eo⟩ ⟨mostC (aD x) a b, by omega⟩
  dsimp only at tab
  rw [a4, b4, n32_or (by omega) (by omega), tab] at e16
  have e16' : x16 = n32 (nm2 (aD x) a b) := e16
  subst e16'
  have pm' := pw_le m3
  have nk : nm2 (aD x) a b < 2 ^ (5 + mostC (aD x) a b) := by
    have p2 := Nat.two_pow_pos (mostC (aD x) a b)
    unfold nm2; rw [Nat.pow_add]; omega
  have n8 : nm2 (aD x) a b < 2 ^ 8 := Nat.lt_of_lt_of_le nk (pw_le (by omega))
  have sl := SM_pop nk (by omega)
  obtain ⟨ch, ⟨t0, hd0⟩, -⟩ := SM_chain _ _ nk
  refine q_bitCount (by omega) (fun x19 e19 => ?_)
  have sl256 : (SM (nm2 (aD x) a b) (5 + mostC (aD x) a b)).length ≤ 256 := by
    have e1 : (SM (nm2 (aD x) a b) (5 + mostC (aD x) a b)).length ≤ 2 ^ (5 + mostC (aD x) a b) := by unfold SM; exact Nat.le_trans (List.length_filter_le _ _) (by simp)
    exact Nat.le_trans e1 (pw_le (b := 8) (by omega))
  have p8 : pop (nm2 (aD x) a b) ≤ 8 := by
    rw [sl] at sl256
    exact (Nat.pow_le_pow_iff_right (a := 2) (by decide)).mp (show 2 ^ pop (nm2 (aD x) a b) ≤ 2 ^ 8 from sl256)
  rw [show (1 : Int32) = n32 1 from rfl, show (31 : Int32) = n32 31 from rfl, shl1 (by omega), ← sl] at e19
  subst e19
  have end32 : 32 * 2 ^ mostC (aD x) a b = 2 ^ (5 + mostC (aD x) a b) := by rw [Nat.pow_add]
  have main : ∀ (rest pre : List Nat) (v6 : Int32) (h4 : Hp), SM (nm2 (aD x) a b) (5 + mostC (aD x) a b) = pre ++ rest → (∀ c t, rest = c :: t → v6 = n32 c) → fr SSa h h4 → fr (fun a _ => a = 46) h3 h4 → (∀ c ∈ pre, apB (aD x) a b c = false) → m_X4_firstApart_64 (rest.length + 1) Q (da a) (da b) (n32 (nm2 (aD x) a b)) (n32 (SM (nm2 (aD x) a b) (5 + mostC (aD x) a b)).length) v6 (n32 pre.length) h4 := by
    intro rest
    induction rest with
    | nil =>
      intro pre v6 h4 e ev f4 g4 no
      rw [List.append_nil] at e
      rw [m_X4_firstApart_64, n32_le (by omega) (by rw [← e]; omega), e]
      refine ⟨fun _ => ?_, fun z => absurd (Nat.le_refl _) z⟩
      have kk := k h4 f4
      rw [fs_skip (Nat.le_refl _) (fun c hc => apB_less K M ha hb nk (rest := []) (by rw [List.append_nil]; exact e) no (fun r t z => by cases z)), fsome_end (Nat.le_refl _)] at kk
      exact kk
    | cons c rest ih =>
      intro pre v6 h4 e ev f4 g4 no
      have el : (SM (nm2 (aD x) a b) (5 + mostC (aD x) a b)).length = pre.length + (rest.length + 1) := by rw [e]; simp
      have cm : c ∈ SM (nm2 (aD x) a b) (5 + mostC (aD x) a b) := by rw [e]; simp
      obtain ⟨c1, c2⟩ := SM_mem.mp cm
      have c3 : c < 2 ^ 8 := Nat.lt_of_lt_of_le c1 (pw_le (by omega))
      rw [ev c rest rfl, m_X4_firstApart_64, n32_le (by omega) (by omega)]
      refine ⟨fun z => absurd z (by omega), fun _ => q_fillJ (by decide) (fun h5 f5 g5 => ?_)⟩
      have f5' : fr SSa h h5 := f4.trans (f5.mono (by unfold SSa; omega))
      have k5 : fr (fun a _ => a = 46) h3 h5 := g4.trans (f5.mono (by omega))
      have Sa5 := S2'.mv k5 (by omega) []
      rw [List.append_nil] at Sa5
      refine c_pour (base := 0) (si := 1) (T := fun _ => 0) (V.mv f5' (by unfold SSa; omega)) K ha (by omega) (by omega) rfl A3.2.1 (by omega) Sa5 (fun s hs => g5 s (by omega)) (fun h6 f6 T6 => ?_)
      have f6' : fr SSa h h6 := f5'.trans (f6.mono (by unfold SSa; omega))
      have k6 : fr (fun a _ => a = 46) h3 h6 := k5.trans f6
      have Sb6 := S3.mv k6 (by omega) []
      rw [List.append_nil] at Sb6
      refine c_pour (base := 36) (si := -1) (V.mv f6' (by unfold SSa; omega)) K hb (by omega) (by omega) rfl A3.2.1 (by omega) Sb6 T6 (fun h7 f7 T7 => ?_)
      have f7' : fr SSa h h7 := f6'.trans (f7.mono (by unfold SSa; omega))
      have k7 : fr (fun a _ => a = 46) h3 h7 := k6.trans f7
      refine c_isLevel (by rw [k7.I (by omega)]; exact A3.1) (by omega) (fun s hs => ⟨T7 s hs, ?_, ?_⟩) (fun lv => ⟨fun _ x9 e9 x10 e10 => ?_, fun z => absurd z (by decide)⟩) (fun s hs ns => ⟨fun z => absurd rfl z, fun _ => ?_⟩)
      · have := amK_le K ha c (Ls.getD s 0); have := amK_le K hb c (Ls.getD s 0); omega
      · have := amK_le K ha c (Ls.getD s 0); have := amK_le K hb c (Ls.getD s 0); omega
      · rw [e10, show n32 pre.length + 1 = n32 (pre.length + 1) from n32_add _ 1]
        have ap : apB (aD x) a b c = false := by
          cases hh : apB (aD x) a b c with
          | false => rfl
          | true =>
            obtain ⟨ky, hky⟩ := (apB_iff K ha hb c).mp hh
            obtain ⟨s, s1, s2⟩ : ∃ s, s < Ls.length ∧ Ls.getD s 0 = ky := by
              by_cases y : amK c (cRows (dL (aD x) a)) ky = 0
              · exact S3.has (c := c) (ky := ky) (by omega)
              · exact S2'.has (c := c) y
            have := lv s s1
            rw [s2] at this
            exact absurd (by omega) hky
        have nx := ih (pre ++ [c]) x9 h7 (by rw [e]; simp) (fun c' t' ec => ?_) f7' k7 (fun q hq => ?_)
        · rw [List.length_append] at nx; exact nx
        · rw [e9]
          have ch' := ch
          rw [e, ec] at ch'
          have R := (Chn.drop ch').1
          rw [n32_nx nk (by omega) R.1, R.2]
        · rcases List.mem_append.mp hq with y | y
          · exact no q y
          · rw [List.mem_singleton.mp y]; exact ap
      · have ap : apB (aD x) a b c = true := (apB_iff K ha hb c).mpr ⟨Ls.getD s 0, fun w => ns (by omega)⟩
        have kk := k h7 f7'
        have cl : c < 32 * 2 ^ mostC (aD x) a b := by rw [end32]; exact c1
        rw [fs_skip (i := c) (by omega) (fun c' hc' => apB_less K M ha hb nk e no (fun r t' z => by have := (List.cons.inj z).1; omega)), fsome_yes (v := c) cl (by rw [ap]; rfl)] at kk
        exact kk
  exact ⟨_, main _ [] 0 h3 rfl (fun c t' ec => by rw [← (List.cons.inj (hd0.symm.trans ec)).1]; rfl) f3' (fr.rf _ _) (fun c hc => absurd hc (by simp))⟩
