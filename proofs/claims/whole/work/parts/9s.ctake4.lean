/-! THE CLASS: the ledger takes a bundle, whole -/
def prs (E : List Rec) : List Nat := (List.range 8).filter (fun f => (tdB E).testBit f)
def EnA (E : List Rec) (h : Hp) : Prop := EnB E h ∧ hI h 14 4 = n32 (btB E) ∧ hI h 14 6 = n32 (prs E).length ∧ ∀ k, k < (prs E).length → hI h 17 k = n32 ((prs E).getD k 0)
/-- all rows of a bundle that count, as entries -/
def bAll (x : Ab) (l : List Nat) : List Rec := (List.range l.length).flatMap (fun i => ((cRows (dL (aD x) (l.getD i 0))).filter (keepB (aF x))).map (enR (aF x) (bChs (aD x) (l.take i))))
def TkP (x : Ab) (l : List Nat) (E : List Rec) : Prop := E.Perm (bAll x l) ∧ E.Pairwise (fun a b => a 0 ≤ b 0) ∧ ∀ e ∈ E, EnOk e
theorem fm_perm {α : Type} {g g' : Nat → List α} : ∀ {L : List Nat}, (∀ j ∈ L, (g' j).Perm (g j)) → (L.flatMap g').Perm (L.flatMap g)
  | [], _ => List.Perm.refl _
  | j :: L, h => by
    rw [List.flatMap_cons, List.flatMap_cons]
    exact (h j (by simp)).append (fm_perm (fun z hz => h z (by simp [hz])))
theorem MgI.all {x : Ab} {da : Nat → Nat} {P : Nat → List Nat} {l : List Nat} {E : List Rec} {h h0 : Hp} (M : MgI x P l (fun i => (Ro x P (l.getD i 0)).length) E h) (A : OrA x da P h0) (hin : inD x l) : TkP x l E := by
  refine ⟨M.2.2.2.1.trans (fm_perm (fun i hi => ?_)), M.2.2.2.2.1, M.2.2.2.2.2.2.1⟩
  have hi' := List.mem_range.mp hi
  have dl := hin (l.getD i 0) (by rw [List.getD_eq_getElem?_getD, List.getElem?_eq_getElem hi']; exact List.getElem_mem hi')
  unfold kpR
  rw [List.take_length]
  exact ((Ro_perm A dl).filter _).map _
theorem prs_k (E : List Rec) : prs E = ((List.range 8).filter (fun f => (tdB E).testBit f)) := rfl
def prK (t j : Nat) : List Nat := (List.range j).filter (fun f => t.testBit f)
theorem prK_succ (t j : Nat) : prK t (j + 1) = prK t j ++ (if t.testBit j then [j] else []) := by
  unfold prK
  rw [List.range_succ, List.filter_append, List.filter_cons, List.filter_nil]
theorem prK_len (t : Nat) : ∀ j, (prK t j).length ≤ j
  | 0 => Nat.le_refl _
  | j + 1 => by
    have := prK_len t j
    rw [prK_succ, List.length_append]
    split
    · simp only [List.length_singleton]; omega
    · simp only [List.length_nil]; omega
theorem c_present {t : Nat} {h0 : Hp} {Q : Hp → Prop} (ht : t < 256) (k : ∀ h', fr (fun a k => a = 17 ∨ a = 14 ∧ k = 6) h0 h' → hI h' 14 6 = n32 (prK t 8).length → (∀ j, j < (prK t 8).length → hI h' 17 j = n32 ((prK t 8).getD j 0)) → Q h') :
    ∀ (r f : Nat) (h : Hp), r + f = 8 → fr (fun a k => a = 17 ∨ a = 14 ∧ k = 6) h0 h → hI h 14 6 = n32 (prK t f).length → (∀ j, j < (prK t f).length → hI h 17 j = n32 ((prK t f).getD j 0)) → m_X5_take_106 (r + 1) Q (n32 t) (n32 f) h := by
  intro r
  induction r with
  | zero =>
    intro f h hr fr1 e6 e17
    obtain rfl : f = 8 := by omega
    rw [m_X5_take_106, show (8 : Int32) = n32 8 from rfl, n32_le (by decide) (by decide)]
    exact ⟨fun _ => k h fr1 e6 e17, fun z => absurd (Nat.le_refl _) z⟩
  | succ r ih =>
    intro f h hr fr1 e6 e17
    have pl := prK_len t f
    rw [m_X5_take_106, show (8 : Int32) = n32 8 from rfl, n32_le (by decide) (by omega), show (1 : Int32) = n32 1 from rfl, show (31 : Int32) = n32 31 from rfl, n32_bit (by omega) (by omega), bit_mod]
    refine ⟨fun z => absurd z (by omega), fun _ => ?_⟩
    have sc := prK_succ t f
    unfold m_X5_take_141
    by_cases q : t.testBit f = true
    · rw [if_pos q] at sc ⊢
      refine ⟨fun z => absurd rfl z, fun _ => ?_⟩
      rw [e6, n32_ix (by omega)]
      refine ⟨vpI (by omega) (by decide), fun x1 e1 => ?_⟩
      have g6 : hI (wI h 17 (prK t f).length (n32 f)) 14 6 = n32 (prK t f).length := by rw [hI_wI, if_neg (by omega)]; exact e6
      rw [e1, g6, n32_add, show n32 f + 1 = n32 (f + 1) from n32_add _ 1]
      refine ih (f + 1) _ (by omega) (fr_wI (fr_wI fr1 _ (Or.inl rfl)) _ (Or.inr ⟨rfl, rfl⟩)) ?_ (fun j hj => ?_)
      · rw [hI_wI, if_pos ⟨rfl, rfl⟩, sc, List.length_append]; rfl
      · rw [sc, List.length_append, List.length_singleton] at hj
        rw [hI_wI, if_neg (by omega), hI_wI, sc]
        by_cases y : j = (prK t f).length
        · rw [if_pos ⟨rfl, y⟩, y, getD_app_at]
        · rw [if_neg (by omega), getD_app_lt (by omega)]; exact e17 j (by omega)
    · rw [if_neg q] at sc ⊢
      rw [List.append_nil] at sc
      refine ⟨fun _ x1 e1 => ?_, fun z => absurd z (by decide)⟩
      rw [e1, show n32 f + 1 = n32 (f + 1) from n32_add _ 1]
      exact ih (f + 1) h (by omega) fr1 (by rw [sc]; exact e6) (by rw [sc]; exact e17)
theorem STe_Own : ∀ a k, STe a k → Own a k := by unfold STe Own; omega
theorem kpR0 {x : Ab} {P : Nat → List Nat} {l : List Nat} {i : Nat} : kpR x P l i 0 = [] := by unfold kpR; rw [List.take_zero]; rfl
theorem c_take {x : Ab} {da : Nat → Nat} {a : Nat} {l : List Nat} {h : Hp} {Q : Hp → Prop} (V : CVw x da h) (K : OkA x) (B : CBd x da a l h) (ha : a < 13 ∨ 25 < a) (k : ∀ E h', fr STe h h' → EnA E h' → TkP x l E → Q h') : m_X5_take a h Q := by
  unfold m_X5_take
  have f0 : fr STe h (wI (wI h 14 3 0) 14 4 0) := fr_wI (fr_wI (fr.rf _ _) _ (by unfold STe; omega)) _ (by unfold STe; omega)
  have e3 : hI (wI (wI h 14 3 0) 14 4 0) 14 3 = 0 := by rw [hI_wI, if_neg (by omega), hI_wI, if_pos ⟨rfl, rfl⟩]
  have e4 : hI (wI (wI h 14 3 0) 14 4 0) 14 4 = 0 := by rw [hI_wI, if_pos ⟨rfl, rfl⟩]
  generalize wI (wI h 14 3 0) 14 4 0 = h1 at f0 e3 e4
  refine q_fillI (by decide) (fun h2 f2 e18 => ?_)
  have g2 : fr STe h h2 := f0.trans (f2.mono (by unfold STe; omega))
  have V2 := V.mv g2 (by unfold STe; omega)
  obtain ⟨P, A2⟩ := V2.ord
  have B2 := B.mv g2 (by unfold STe; omega) (by unfold STe; omega)
  have hl := B.2.1
  have s0 : ∀ n, sumH (fun _ => 0) n = 0 := by
    intro n
    induction n with
    | zero => rfl
    | succ n ih => show sumH (fun _ => 0) n + 0 = 0; rw [ih]
  have M0 : MgI x P l (fun _ => 0) [] h2 := by
    refine ⟨⟨?_, Nat.zero_le _, fun k hk => absurd hk (by simp)⟩, ?_, fun i hi => ⟨e18 i (by omega), Nat.zero_le _⟩, ?_, List.Pairwise.nil, fun e he => absurd he (by simp), fun e he => absurd he (by simp), Nat.zero_le _⟩
    · rw [f2.I (by omega)]; exact e3
    · rw [f2.I (by omega)]; exact e4
    · have : (List.range l.length).flatMap (fun i => kpR x P l i 0) = [] := by
        rw [List.flatMap_eq_nil_iff]
        intro i _
        exact kpR0
      rw [this]
  have go := c_merge V2 K A2 B2 ha (Q := Q) (fun E h3 f3 M3 => ?_) (sumH (fun i => (Ro x P (l.getD i 0)).length) l.length) (fun _ => 0) [] h2 (by rw [s0]; rfl) (fr.rf _ _) M0
  · rw [s0] at go
    exact ⟨_, go⟩
  · have td : tdB E < 256 := tdB_lt (b := 0) (by decide) M3.2.2.2.2.2.2.1
    unfold m_X5_take_99
    have f4 : fr (fun a k => a = 17 ∨ a = 14 ∧ k = 6) h3 (wI h3 14 6 0) := fr_wI (fr.rf _ _) _ (Or.inr ⟨rfl, rfl⟩)
    refine ⟨9, c_present td (h0 := h3) (fun h5 f5 a6 a17 => ?_) 8 0 _ rfl f4 (by rw [hI_wI, if_pos ⟨rfl, rfl⟩]; rfl) (fun j hj => absurd hj (by show ¬ j < 0; omega))⟩
    obtain ⟨⟨b1, b2, b3⟩, b4, -⟩ := id M3
    refine k E h5 ((g2.trans f3).trans (f5.mono (by unfold STe; omega))) ⟨⟨?_, b2, fun m hm => ⟨fun j hj => ?_, ?_⟩⟩, ?_, a6, a17⟩ (M3.all A2 B.2.2.2)
    · rw [f5.I (by omega)]; exact b1
    · rw [f5.I (by omega)]; exact (b3 m hm).1 j hj
    · rw [f5.J (by omega)]; exact (b3 m hm).2
    · rw [f5.I (by omega)]; exact b4
