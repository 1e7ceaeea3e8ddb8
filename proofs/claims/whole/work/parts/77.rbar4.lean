/-! THE MODEL: a statement is read -/
def tieL (T : List Nat) : Nat → Nat → PS → PS × Nat
  | 0, b, s => (s, b)
  | n + 1, b, .inl e => (.inl e, b)
  | n + 1, b, .inr t => if sAsk T (.inr t) = 0 then (.inr t, b) else tieL T n (b ||| 2 ^ (sAsk T (.inr t) - 1)) (.inr (nxt T t))
def STi (i a k : Nat) : Prop := SPr a k ∨ a = 97 ∧ k = i
theorem tieL_ok {T : List Nat} : ∀ (n b : Nat) (s : PS), okP (tieL T n b s).1 → okP s
  | 0, _, _, h => h
  | _ + 1, _, .inl _, h => h
  | _ + 1, _, .inr _, _ => trivial
theorem tieL_lt {T : List Nat} : ∀ (n b : Nat) (s : PS), b < 8 → (tieL T n b s).2 < 8
  | 0, _, _, h => h
  | _ + 1, _, .inl _, h => h
  | n + 1, b, .inr t, h => by
    rw [tieL]
    split
    · exact h
    · have := sAsk_le T (.inr t)
      have p : 2 ^ (sAsk T (.inr t) - 1) ≤ 2 ^ 2 := pw_le (by omega)
      exact tieL_lt n _ _ (Nat.or_lt_two_pow (n := 3) h (by omega))
set_option maxHeartbeats 4000000 in
set_option maxRecDepth 100000 in
theorem q_ties {T : List Nat} {i : Nat} {Q : Hp → Prop} {k131 : Int32 → Hp → Prop} (hi : i < 240) : ∀ (m b : Nat) (s : PS) (h : Hp), (∀ t, s = .inr t → T.length < t.2.1 + m) → PM T s h → b < 8 → hI h 97 i = n32 b →
    (∀ h', fr (STi i) h h' → PM T (tieL T m b s).1 h' → hI h' 97 i = n32 (tieL T m b s).2 → k131 (n32 i) h') → m_X12_readBar_102 (m + 1) k131 Q (n32 i) h := by
  intro m
  induction m with
  | zero =>
    intro b s h hm P hb e97 k
    cases s with
    | inl e =>
      rw [m_X12_readBar_102]
      refine q_asked P ?_
      exact ⟨fun _ => k h (fr.rf _ _) P e97, fun z => absurd (by show pm 0 < 0; decide) z⟩
    | inr t => have := hm t rfl; have := P.2.2.2.2.le; omega
  | succ m ih =>
    intro b s h hm P hb e97 k
    rw [m_X12_readBar_102]
    refine q_asked P ?_
    cases s with
    | inl e => exact ⟨fun _ => k h (fr.rf _ _) P e97, fun z => absurd (by show pm 0 < 0; decide) z⟩
    | inr t =>
      rw [tieL] at k
      have ha := sAsk_le T (.inr t)
      rw [pm_lt0 (by omega)]
      refine ⟨fun z => ?_, fun z => ⟨vpI hi (by decide), ?_⟩⟩
      · rw [if_pos z] at k
        exact k h (fr.rf _ _) P e97
      · rw [if_neg z] at k
        refine q_asked P ⟨vpI hi (by decide), ?_⟩
        have p : 2 ^ (sAsk T (.inr t) - 1) ≤ 2 ^ 2 := pw_le (by omega)
        have hb' : b ||| 2 ^ (sAsk T (.inr t) - 1) < 8 := Nat.or_lt_two_pow (n := 3) hb (by omega)
        rw [n32_ix (by omega), e97, pm_n32 (by omega), show (1 : Int32) = n32 1 from rfl, show (31 : Int32) = n32 31 from rfl, shl1 (by omega), n32_or (by omega) (by omega)]
        have f1 : fr (STi i) h (wI h 97 i (n32 (b ||| 2 ^ (sAsk T (.inr t) - 1)))) := fr_wI (fr.rf _ _) _ (Or.inr ⟨rfl, rfl⟩)
        have f1' : fr (fun a k => a = 97 ∧ k = i) h (wI h 97 i (n32 (b ||| 2 ^ (sAsk T (.inr t) - 1)))) := fr_wI (fr.rf _ _) _ ⟨rfl, rfl⟩
        refine q_nx (P.mv f1' (by omega) (by omega)) (fun h2 f2 P2 => ?_)
        have f2' : fr (STi i) (wI h 97 i (n32 (b ||| 2 ^ (sAsk T (.inr t) - 1)))) h2 := f2.mono (fun _ _ h => Or.inl h)
        refine ih _ _ h2 (fun t' et => ?_) P2 hb' ?_ (fun h3 f3 P3 e3 => k h3 ((f1.trans f2').trans f3) P3 e3)
        · injection et with et
          subst et
          have O := P.2.2.2.2
          have := nxt_from O
          have hk : t.1 ≠ 0 := fun y => z (by show pl T t TIES = 0; unfold pl; rw [if_neg (by omega)])
          have := O.le.2.2.1 hk
          have := hm t rfl
          omega
        · rw [f2.I (by unfold SPr; omega), hI_wI, if_pos ⟨rfl, rfl⟩]
/-- within a number, or not (0: none) -/
def sWit (T : List Nat) : PS → PS × Nat
  | .inl e => (.inl e, 0)
  | .inr t => if isW T t wWithin then ((sNum T 0 9999 (.inr (nxt T t))).1, (sNum T 0 9999 (.inr (nxt T t))).2 + 1) else (.inr t, 0)
theorem sWit_ok {T : List Nat} : ∀ {s : PS}, okP (sWit T s).1 → okP s
  | .inl _, h => h
  | .inr _, _ => trivial
theorem sWit_lt {T : List Nat} : ∀ {s : PS}, (sWit T s).2 < 10001
  | .inl _ => by show 0 < 10001; decide
  | .inr t => by
    have := sNum_lt (T := T) (lo := 0) (hi := 9999) (s := .inr (nxt T t))
    show (if _ then _ else _ : PS × Nat).2 < 10001
    split
    · show _ + 1 < 10001; omega
    · show 0 < 10001; decide
def SWi (i a k : Nat) : Prop := SPr a k ∨ a = 98 ∧ k = i
set_option maxHeartbeats 4000000 in
set_option maxRecDepth 100000 in
theorem q_bar131 {T : List Nat} {i : Nat} {s : PS} {h : Hp} {Q : Hp → Prop} (hi : i < 240) (P : PM T s h) (e98 : hI h 98 i = -1) (k : ∀ h', fr (SWi i) h h' → PM T (sEnd T 59 (sWit T s).1) h' → (okP (sWit T s).1 → hI h' 98 i = pm (sWit T s).2) → Q h') : m_X12_readBar_131 Q (n32 i) h := by
  unfold m_X12_readBar_131
  cases s with
  | inl e =>
    refine ⟨fun _ => ?_, fun z => absurd z P.bad⟩
    exact q_bar166 P (fun h' f' P' => k h' (f'.mono (fun _ _ h => Or.inl h)) P' (fun o => absurd o (fun z => z)))
  | inr t =>
    unfold sWit at k
    dsimp only at k
    refine ⟨fun z => absurd P.2.1 z, fun _ => ?_⟩
    rw [show (335207579 : Int64) = z64 (w27 wWithin : Nat) from by decide]
    refine q_is wWithin P.2.2.2.1 P.2.2.2.2 (by decide) (by decide) (fun q => ?_) (fun q => ?_)
    · rw [q, if_neg (by decide)] at k
      refine ⟨fun _ => q_bar166 P (fun h' f' P' => k h' (f'.mono (fun _ _ h => Or.inl h)) P' (fun _ => ?_)), fun z => absurd rfl z⟩
      rw [f'.I (by unfold SPr; omega)]; exact e98
    · rw [q, if_pos rfl] at k
      refine ⟨fun z => absurd z (by decide), fun _ => ?_⟩
      refine q_nx P (fun h1 f1 P1 => ?_)
      refine q_num (lo := 0) (hi := 9999) P1 (fun _ => ⟨rfl, by decide⟩) rfl (by decide) (fun h2 f2 P2 => ⟨vpI hi (by decide), ?_⟩)
      rw [n32_ix (by omega)]
      have f3 : fr (fun a k => a = 98 ∧ k = i) h2 (wI h2 98 i (n32 (sNum T 0 9999 (.inr (nxt T t))).2)) := fr_wI (fr.rf _ _) _ ⟨rfl, rfl⟩
      refine q_bar166 (P2.mv f3 (by omega) (by omega)) (fun h4 f4 P4 => k h4 ?_ P4 (fun _ => ?_))
      · exact (((f1.trans f2).mono (fun _ _ h => Or.inl h)).trans (f3.mono (fun _ _ h => Or.inr h))).trans (f4.mono (fun _ _ h => Or.inl h))
      · rw [f4.I (by unfold SPr; omega), hI_wI, if_pos ⟨rfl, rfl⟩]; rfl
