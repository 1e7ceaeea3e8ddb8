/-! THE MODEL: closes, a step -/
/-- a group's part was closed; what comes next is not said yet -/
def ClF (T : List Nat) (t : Tk) (s : St) (f : Rec) (l : List Rec) (h h' : Hp) : Prop := fr (SCl (f 3)) h h' ∧ PM T (.inr (nxt T t)) h' ∧ hI h' 62 (f 3) = n32 (sN s) ∧ hI h' 63 (f 3) = hI h 63 (f 3) ∧ hI h' 51 32 = n32 l.length ∧ StkM l h'
set_option maxHeartbeats 4000000 in
set_option maxRecDepth 100000 in
theorem q_closeStep {T : List Nat} {b n : Nat} {t : Tk} {s : St} {h : Hp} {k16 k171 : Hp → Prop} {k141 : Int32 → Hp → Prop} {Q : Int32 → Hp → Prop} (P : PM T (.inr t) h) (D : DM b s h) (G : GI b s 1)
    (k44 : t.1 = 44 → k16 h) (kbad : t.1 ≠ 44 → (t.1 ≠ 125 ∨ sK s = []) → k171 h)
    (ktwo : ∀ f l h', t.1 = 125 → sK s = f :: l → isTwo T f (nxt T t) = true → ClF T t s f l h h' → k141 (n32 (f 3)) h')
    (kend : ∀ f l h', t.1 = 125 → sK s = f :: l → isTwo T f (nxt T t) = false → ClF T t s f l h h' → m_X12_closes_0 n k16 k141 k171 Q h') : m_X12_closes_0 (n + 1) k16 k141 k171 Q h := by
  rw [m_X12_closes_0]
  have hk := P.2.2.2.2.kind
  obtain ⟨d1, d2, d3, d4, d5, d6, d7, d8⟩ := id D
  obtain ⟨⟨g0, g1, g2, g3, g4, g5, g6⟩, F⟩ := id G
  rw [if_neg (by decide)] at g2
  rw [P.2.2.2.1.2.2.1, show (44 : Int32) = n32 44 from rfl, n32_eq (by omega) (by decide), show (125 : Int32) = n32 125 from rfl, n32_eq (by omega) (by decide), d6]
  refine ⟨fun z => absurd P.2.1 z, fun _ => ⟨fun z44 => ⟨fun z => kbad z44 (Or.inl z), fun z125 => ?_⟩, fun z => k44 z⟩⟩
  cases hK : sK s with
  | nil => exact ⟨fun _ => kbad z44 (Or.inr hK), fun z => absurd (by decide) z⟩
  | cons f l =>
    rw [hK] at g4 F d7 d6
    simp only [List.length_cons] at g4 d6 ⊢
    obtain ⟨a1, a2, a3, a4, a5, a6⟩ := F f (by simp)
    have R := d8 (f 3) a1 a2
    refine ⟨fun z => ?_, fun _ => ?_⟩
    · rw [show (0 : Int32) = n32 0 from rfl, n32_le (by omega) (by decide)] at z; omega
    · refine q_nx P (fun h12 f12 P12 => ?_)
      have e32 : hI h12 51 32 = n32 (l.length + 1) := by rw [f12.I (by unfold SPr; omega)]; exact d6
      rw [e32, show n32 (l.length + 1) - 1 = n32 l.length by rw [show (1 : Int32) = n32 1 from rfl, n32_sub (by omega)]; rfl]
      have f13 : fr (fun a k => a = 51 ∧ k = 32) h12 (wI h12 51 32 (n32 l.length)) := fr_wI (fr.rf _ _) _ ⟨rfl, rfl⟩
      have b32 : hI (wI h12 51 32 (n32 l.length)) 51 32 = n32 l.length := by rw [hI_wI, if_pos ⟨rfl, rfl⟩]
      rw [b32]
      generalize wI h12 51 32 (n32 l.length) = h13 at f13 b32
      have P13 := P12.mv f13 (by omega) (by omega)
      have b72 : hI h13 72 l.length = n32 (f 3) := by rw [f13.I (by omega), f12.I (by unfold SPr; omega)]; exact d7.1
      have b73 : hI h13 73 l.length = n32 (f 2) := by rw [f13.I (by omega), f12.I (by unfold SPr; omega)]; exact d7.2.1
      have b58 : hI h13 58 (f 3) = n32 (f 0) := by rw [f13.I (by omega), f12.I (by unfold SPr; omega), R.1, a3]
      have b37 : hI h13 51 37 = n32 b := by rw [f13.I (by omega), f12.I (by unfold SPr; omega)]; exact d1
      have b33 : hI h13 51 33 = n32 (sN s - b) := by rw [f13.I (by omega), f12.I (by unfold SPr; omega)]; exact d2
      have bS : StkM l h13 := (d7.2.2.mv f12 (Nat.le_refl _) (fun k _ => by unfold SPr; omega)).mv f13 (Nat.le_refl _) (fun k _ => by omega)
      have b63 : hI h13 63 (f 3) = hI h 63 (f 3) := by rw [f13.I (by omega), f12.I (by unfold SPr; omega)]
      have fA : fr (SCl (f 3)) h h13 := (f12.mono (by unfold SCl SPr; omega)).trans (f13.mono (by unfold SCl SPr; omega))
      have C14 : ClF T t s f l h (wI h13 62 (f 3) (n32 (sN s))) := by
        have f14 : fr (fun a k => a = 62 ∧ k = f 3) h13 (wI h13 62 (f 3) (n32 (sN s))) := fr_wI (fr.rf _ _) _ ⟨rfl, rfl⟩
        refine ⟨fA.trans (f14.mono (by unfold SCl SPr; omega)), P13.mv f14 (by omega) (by omega), ?_, ?_, ?_, bS.mv f14 (Nat.le_refl _) (fun k _ => by omega)⟩
        · rw [hI_wI, if_pos ⟨rfl, rfl⟩]
        · rw [f14.I (by omega)]; exact b63
        · rw [f14.I (by omega)]; exact b32
      have hsum : hI h13 51 37 + hI h13 51 33 = n32 (sN s) := by rw [b37, b33, n32_add, show b + (sN s - b) = sN s by omega]
      have c120 : isTwo T f (nxt T t) = false → m_X12_closes_120 (fun hh => m_X12_closes_0 n k16 k141 k171 Q hh) k16 k141 k171 Q (n32 (f 3)) h13 := by
        intro q
        unfold m_X12_closes_120 m_X12_closes_121
        rw [n32_ix (by omega), hsum]
        exact ⟨vpI (by omega) (by decide), fun _ => kend f l _ z125 hK q C14, fun z => absurd rfl z⟩
      have c116 : isTwo T f (nxt T t) = true → m_X12_closes_116 (fun hh => m_X12_closes_0 n k16 k141 k171 Q hh) k16 k141 k171 Q (n32 (f 3)) h13 := by
        intro q
        unfold m_X12_closes_116 m_X12_closes_121
        rw [n32_ix (by omega), hsum]
        exact ⟨vpI (by omega) (by decide), fun z => absurd z (by decide), fun _ => ktwo f l _ z125 hK q C14⟩
      refine ⟨vpI (by omega) (by decide), fun x13 e13 => ?_⟩
      rw [n32_ix (by omega), b72] at e13
      rw [e13, n32_ix (show l.length < 2147483648 by omega), b73, n32_ix (show f 3 < 2147483648 by omega), b58]
      unfold isTwo at c116 c120
      refine ⟨vpI (by omega) (by decide), fun z => c120 ?_, fun z => ⟨vpI (by omega) (by decide), ?_⟩⟩
      · rw [show (0 : Int32) = n32 0 from rfl, n32_eq (by omega) (by decide)] at z
        rw [beq_eq_false_iff_ne.mpr z]; rfl
      · rw [show (0 : Int32) = n32 0 from rfl, n32_eq (by omega) (by decide)] at z
        rw [z] at c116 c120
        have c95 : (f 0 == 6 && isW T (nxt T t) wElse) = false → m_X12_closes_95 (fun hh => m_X12_closes_0 n k16 k141 k171 Q hh) k16 k141 k171 Q (n32 (f 3)) h13 := by
          intro q6
          rw [q6] at c116 c120
          unfold m_X12_closes_95
          rw [n32_ix (by omega), b58, show (7 : Int32) = n32 7 from rfl, n32_eq (by omega) (by decide)]
          refine ⟨vpI (by omega) (by decide), fun z7 => c120 (by rw [beq_eq_false_iff_ne.mpr z7]; rfl), fun z7 => ?_⟩
          rw [show (423 : Int64) = z64 (w27 wOr : Nat) from by decide]
          refine q_is wOr P13.2.2.2.1 P13.2.2.2.2 (by decide) (by decide) (fun q => ⟨fun _ => c120 (by rw [q]; simp), fun y => absurd rfl y⟩) (fun q => ⟨fun y => absurd y (by decide), fun _ => c116 (by rw [q, z7]; rfl)⟩)
        rw [show (6 : Int32) = n32 6 from rfl, n32_eq (by omega) (by decide)]
        refine ⟨fun z6 => c95 (by rw [beq_eq_false_iff_ne.mpr z6]; rfl), fun z6 => ?_⟩
        rw [show (107681 : Int64) = z64 (w27 wElse : Nat) from by decide]
        refine q_is wElse P13.2.2.2.1 P13.2.2.2.2 (by decide) (by decide) (fun q => ⟨fun y => absurd rfl y, fun _ => c95 (by rw [q]; simp)⟩) (fun q => ⟨fun _ => c116 (by rw [q, z6]; rfl), fun y => absurd y (by decide)⟩)
theorem isTwo_kind {T : List Nat} {f : Rec} {t : Tk} (h : isTwo T f t = true) : f 0 = 6 ∨ f 0 = 7 := by
  unfold isTwo at h
  rw [Bool.and_eq_true, Bool.or_eq_true, Bool.and_eq_true, Bool.and_eq_true, beq_iff_eq, beq_iff_eq, beq_iff_eq] at h
  rcases h.2 with q | q
  · exact Or.inl q.1
  · exact Or.inr q.1
set_option maxHeartbeats 4000000 in
set_option maxRecDepth 100000 in
theorem q_close141 {T : List Nat} {b : Nat} {t : Tk} {s : St} {f : Rec} {l : List Rec} {h h1 : Hp} {Q : Int32 → Hp → Prop} (D : DM b s h) (G : GI b s 1) (hK : sK s = f :: l) (C : ClF T t s f l h h1)
    (k : ∀ h', fr (SCl (f 3)) h h' → PM T (sOpen T l.length (.inr (nxt T (nxt T t)))) h' → (okP (sOpen T l.length (.inr (nxt T (nxt T t)))) → DM b (stp s (8, rec0)) h') → Q 1 h') : m_X12_closes_141 Q (n32 (f 3)) h1 := by
  unfold m_X12_closes_141
  obtain ⟨fA, P1, e62, e63, e32, hS⟩ := C
  obtain ⟨⟨g0, g1, g2, g3, g4, g5, g6⟩, F⟩ := id G
  rw [if_neg (by decide)] at g2
  rw [hK] at g4 F
  simp only [List.length_cons] at g4
  obtain ⟨a1, a2, a3, a4, a5, a6⟩ := F f (by simp)
  refine q_nx P1 (fun h2 f2 P2 => ⟨vpI (by omega) (by decide), ?_⟩)
  have b37 : hI h2 51 37 = n32 b := by rw [f2.I (by unfold SPr; omega), fA.I (by unfold SCl SPr; omega)]; exact D.1
  have b33 : hI h2 51 33 = n32 (sN s - b) := by rw [f2.I (by unfold SPr; omega), fA.I (by unfold SCl SPr; omega)]; exact D.2.1
  rw [n32_ix (by omega), b37, b33, n32_add, show b + (sN s - b) = sN s by omega]
  have f3 : fr (fun a k => a = 63 ∧ k = f 3) h2 (wI h2 63 (f 3) (n32 (sN s))) := fr_wI (fr.rf _ _) _ ⟨rfl, rfl⟩
  have c63 : hI (wI h2 63 (f 3) (n32 (sN s))) 63 (f 3) = n32 (sN s) := by rw [hI_wI, if_pos ⟨rfl, rfl⟩]
  generalize wI h2 63 (f 3) (n32 (sN s)) = h3 at f3 c63
  have c62 : hI h3 62 (f 3) = n32 (sN s) := by rw [f3.I (by omega), f2.I (by unfold SPr; omega)]; exact e62
  have c32 : hI h3 51 32 = n32 l.length := by rw [f3.I (by omega), f2.I (by unfold SPr; omega)]; exact e32
  have cS : StkM l h3 := (hS.mv f2 (Nat.le_refl _) (fun k _ => by unfold SPr; omega)).mv f3 (Nat.le_refl _) (fun k _ => by omega)
  refine q_opens (i := f 3) (p := 1) (P2.mv f3 (by omega) (by omega)) c32 (by omega) (fun h4 f4 P4 o4 => ?_)
  have fB : fr (SCl (f 3)) h h4 := ((fA.trans (f2.mono (by unfold SCl SPr; omega))).trans (f3.mono (by unfold SCl SPr; omega))).trans (f4.mono (by unfold SCl SOp SPr; omega))
  refine k h4 fB P4 (fun o => ?_)
  obtain ⟨x1, x2, x3⟩ := o4 o
  refine D.two hK fB ?_ ?_ x1 x2 x3 (cS.mv f4 (Nat.le_refl _) (fun k hk => by unfold SOp SPr; omega))
  · rw [f4.I (by unfold SOp SPr; omega)]; exact c62
  · rw [f4.I (by unfold SOp SPr; omega)]; exact c63
