/-! THE CLASS: a branch is read -/
set_option maxRecDepth 100000 in
theorem br_tb : ∀ v : Fin 256, ∀ b : Fin 8, ((v.val >>> b.val) &&& 1 = 1 ↔ v.val.testBit b.val = true) := by decide +kernel
set_option maxRecDepth 100000 in
theorem br_v0 : ∀ v : Fin 256, ∀ b : Fin 8, (n32 v.val &&& ((1 <<< (n32 b.val &&& 31)) ^^^ (-1))) ||| (n32 0 <<< (n32 b.val &&& 31)) = n32 ((v.val &&& (255 ^^^ 2 ^ b.val)) ||| 0) := by decide +kernel
set_option maxRecDepth 100000 in
theorem br_v1 : ∀ v : Fin 256, ∀ b : Fin 8, (n32 v.val &&& ((1 <<< (n32 b.val &&& 31)) ^^^ (-1))) ||| (n32 1 <<< (n32 b.val &&& 31)) = n32 ((v.val &&& (255 ^^^ 2 ^ b.val)) ||| 2 ^ b.val) := by decide +kernel
theorem br_bit {v b : Nat} (hv : v < 256) (hb : b < 8) : (n32 v >>> (n32 b &&& 31)) &&& 1 = n32 ((v >>> b) &&& 1) ∧ (v >>> b) &&& 1 ≤ 1 := by
  have l1 : v >>> b ≤ v := by rw [Nat.shiftRight_eq_div_pow]; exact Nat.div_le_self _ _
  rw [show (31 : Int32) = n32 31 from rfl, n32_shr (by omega) (by omega), show (1 : Int32) = n32 1 from rfl, n32_and (by omega) (by omega)]
  exact ⟨rfl, Nat.and_le_right⟩
set_option maxHeartbeats 4000000 in
set_option maxRecDepth 100000 in
theorem c_readBranch {T : List Nat} {a b d n0 m0 bit w : Nat} {c : Rec} {r : Nat ⊕ List Ev} {RA : Int32 → Hp → (Int32 → Hp → Prop) → Prop} {E1 : List Ev} {t : Tk} {h : Hp} {Q : Int32 → Hp → Prop} (ha : 108 ≤ a) (H : d < 6 → RAS T b a r (d + 1) RA) (hd : d ≤ 6) (hb : bit < 8) (hw : w < 2) (c6 : c 6 < 256) (c7 : c 7 < 256) (P : CM T (.inr t) h) (B : BlkP T b r n0 d m0 E1 t) (hz : (shR b E1).2.1 = []) (C : CxC c h) (e4 : ctx (sK (run b E1)) 4 = c 4) (e5 : ctx (sK (run b E1)) 5 = brT c bit w) (e6 : ctx (sK (run b E1)) 6 = brM c bit) (e7 : ctx (sK (run b E1)) 7 = brV c bit w) (D : DlC a (run b E1) h) (Z : ShC n0 (shR b E1) h) (h512 : n0 ≤ 512)
    (kb : ∀ h' e, r = .inl e → CM T (.inl e) h' → WkB a n0 h h' → Q 0 h')
    (kg : ∀ h' n' t' E2 m1, mac T b n' 1 t' E2 = some r → t'.1 = 125 → t.2.1 ≤ (nxt T t').2.1 → RdJ T a b 1 n0 (d + 1) m0 m1 E2 (nxt T t') h' → sK (run b E2) = sK (run b E1) → (shR b E2).1 = (shR b E1).1 → fr (SRd a n0) h h' → CxC c h' → Q 1 h') : m_X2_readBranch RA (n32 d) (n32 bit) (n32 w) h Q := by
  unfold m_X2_readBranch
  obtain ⟨C4, C5, C6, C7⟩ := C
  intro x3 y3 x4 y4 x5 y5
  rw [C6] at y3
  rw [C7] at y4
  rw [C5] at y5
  subst y3; subst y4; subst y5
  have p8 : 2 ^ bit ≤ 2 ^ 7 := pw_le (by omega)
  have main : ∀ h1, fr (fun q j => q = 4 ∧ j = 5) h h1 → hI h1 4 5 = n32 (brT c bit w) → m_X2_readBranch_47 RA Q (n32 d) (n32 bit) (n32 w) (n32 (c 6)) (n32 (c 7)) (n32 (c 5)) h1 := by
    intro h1 f1 x5
    unfold m_X2_readBranch_47
    have z6 : hI h1 4 6 = n32 (c 6) := by rw [f1.I (by omega)]; exact C6
    have em : n32 (c 6) ||| (1 <<< (n32 bit &&& 31)) = n32 (brM c bit) := by
      rw [show (1 : Int32) = n32 1 from rfl, show (31 : Int32) = n32 31 from rfl, shl1 (by omega), n32_or (by omega) (by omega)]; rfl
    rw [z6, em]
    have z7 : hI (wI h1 4 6 (n32 (brM c bit))) 4 7 = n32 (c 7) := by rw [hI_wI, if_neg (by omega), f1.I (by omega)]; exact C7
    have ev : (n32 (c 7) &&& ((1 <<< (n32 bit &&& 31)) ^^^ (-1))) ||| (n32 w <<< (n32 bit &&& 31)) = n32 (brV c bit w) := by
      unfold brV
      have hw2 : w = 0 ∨ w = 1 := by omega
      rcases hw2 with rfl | rfl
      · exact br_v0 ⟨c 7, c7⟩ ⟨bit, hb⟩
      · exact br_v1 ⟨c 7, c7⟩ ⟨bit, hb⟩
    rw [z7, ev]
    have f2 : fr (fun q j => q = 4 ∧ (j = 6 ∨ j = 7)) h1 (wI (wI h1 4 6 (n32 (brM c bit))) 4 7 (n32 (brV c bit w))) := fr_wI (fr_wI (fr.rf _ _) _ (by omega)) _ (by omega)
    have x6 : hI (wI (wI h1 4 6 (n32 (brM c bit))) 4 7 (n32 (brV c bit w))) 4 6 = n32 (brM c bit) := by rw [hI_wI, if_neg (by omega), hI_wI, if_pos ⟨rfl, rfl⟩]
    have x7 : hI (wI (wI h1 4 6 (n32 (brM c bit))) 4 7 (n32 (brV c bit w))) 4 7 = n32 (brV c bit w) := by rw [hI_wI, if_pos ⟨rfl, rfl⟩]
    generalize wI (wI h1 4 6 (n32 (brM c bit))) 4 7 (n32 (brV c bit w)) = h2 at f2 x6 x7
    have f02 : fr (fun q j => q = 4 ∧ 5 ≤ j ∧ j ≤ 7) h h2 := (f1.mono (by omega)).trans (f2.mono (by omega))
    have F02 : fr (SRd a n0) h h2 := f02.mono (by unfold SRd; omega)
    have CC : CxC (ctx (sK (run b E1))) h2 := ⟨by rw [e4, f02.I (by omega)]; exact C4, by rw [e5, f2.I (by omega)]; exact x5, by rw [e6]; exact x6, by rw [e7]; exact x7⟩
    refine c_readBlock ha H hd (P.mv f02 (by omega) (by omega)) B hz CC (D.mv f02 (by omega) (by omega)) (Z.mv f02 (by omega)) h512 (fun h4 e er P4 wk => ⟨Or.inl rfl, ?_⟩) (fun h4 n' t' E2 m1 hm q125 le J sk sh f4 C4' => ⟨Or.inr rfl, ?_⟩)
    · have f5 : fr (fun q j => q = 4 ∧ 5 ≤ j ∧ j ≤ 7) h4 (wI (wI (wI h4 4 6 (n32 (c 6))) 4 7 (n32 (c 7))) 4 5 (n32 (c 5))) := fr_wI (fr_wI (fr_wI (fr.rf _ _) _ (by omega)) _ (by omega)) _ (by omega)
      generalize wI (wI (wI h4 4 6 (n32 (c 6))) 4 7 (n32 (c 7))) 4 5 (n32 (c 5)) = h5 at f5
      obtain ⟨w1, fl, w2, w3, w4⟩ := wk
      exact kb h5 e er (P4.mv f5 (by omega) (by omega)) ⟨(F02.trans w1).trans (f5.mono (by unfold SRd; omega)), fl, by rw [f5.I (by omega)]; exact w2, w3, w4⟩
    · have f5 : fr (fun q j => q = 4 ∧ 5 ≤ j ∧ j ≤ 7) h4 (wI (wI (wI h4 4 6 (n32 (c 6))) 4 7 (n32 (c 7))) 4 5 (n32 (c 5))) := fr_wI (fr_wI (fr_wI (fr.rf _ _) _ (by omega)) _ (by omega)) _ (by omega)
      have v6 : hI (wI (wI (wI h4 4 6 (n32 (c 6))) 4 7 (n32 (c 7))) 4 5 (n32 (c 5))) 4 6 = n32 (c 6) := by rw [hI_wI, if_neg (by omega), hI_wI, if_neg (by omega), hI_wI, if_pos ⟨rfl, rfl⟩]
      have v7 : hI (wI (wI (wI h4 4 6 (n32 (c 6))) 4 7 (n32 (c 7))) 4 5 (n32 (c 5))) 4 7 = n32 (c 7) := by rw [hI_wI, if_neg (by omega), hI_wI, if_pos ⟨rfl, rfl⟩]
      have v5 : hI (wI (wI (wI h4 4 6 (n32 (c 6))) 4 7 (n32 (c 7))) 4 5 (n32 (c 5))) 4 5 = n32 (c 5) := by rw [hI_wI, if_pos ⟨rfl, rfl⟩]
      generalize wI (wI (wI h4 4 6 (n32 (c 6))) 4 7 (n32 (c 7))) 4 5 (n32 (c 5)) = h5 at f5 v6 v7 v5
      obtain ⟨g1, g2, g3, g4, g5, g6, g7⟩ := J
      exact kg h5 n' t' E2 m1 hm q125 le ⟨g1, g2, g3, g4, g5.mv f5 (by omega) (by omega), g6.mv f5 (by omega) (by omega), g7.mv f5 (by omega)⟩ sk sh ((F02.trans f4).trans (f5.mono (by unfold SRd; omega))) ⟨by rw [f5.I (by omega)]; exact C4'.1.trans (by rw [e4]), v5, v6, v7⟩
  obtain ⟨b6, b6'⟩ := br_bit (v := c 6) c6 hb
  obtain ⟨b7, b7'⟩ := br_bit (v := c 7) c7 hb
  have t6 := br_tb ⟨c 6, c6⟩ ⟨bit, hb⟩
  have t7 := br_tb ⟨c 7, c7⟩ ⟨bit, hb⟩
  dsimp only at t6 t7
  rw [C6, C7, b6, b7]
  have q1 : (n32 ((c 6 >>> bit) &&& 1) = 1) = ((c 6).testBit bit = true) := by
    rw [show (1 : Int32) = n32 1 from rfl, n32_eq (by omega) (by omega)]; exact propext t6
  have q2 : (n32 ((c 7 >>> bit) &&& 1) = n32 w) ↔ (c 7).testBit bit = decide (w = 1) := by
    rw [n32_eq (by omega) (by omega)]
    have hw2 : w = 0 ∨ w = 1 := by omega
    rcases hw2 with rfl | rfl
    · rw [show decide ((0 : Nat) = 1) = false from rfl]
      cases hx : (c 7).testBit bit with
      | false => rw [hx] at t7; simp only [Bool.false_eq_true, iff_false] at t7; simp only [iff_true]; omega
      | true => rw [hx] at t7; simp only [iff_true] at t7; rw [t7]; simp
    · rw [show decide ((1 : Nat) = 1) = true from rfl]
      exact t7
  rw [q1, q2]
  refine ⟨fun z => main h (fr.rf _ _) ?_, fun z => ⟨fun y => main h (fr.rf _ _) ?_, fun y => main _ (fr_wI (fr.rf _ _) _ ⟨rfl, rfl⟩) ?_⟩⟩
  · rw [C5]; unfold brT; rw [if_neg (fun k => z k.1)]
  · rw [C5]; unfold brT; rw [if_neg (fun k => k.2 y)]
  · rw [hI_wI, if_pos ⟨rfl, rfl⟩]; unfold brT; rw [if_pos ⟨z, y⟩]; rfl
