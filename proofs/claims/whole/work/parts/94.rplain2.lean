/-! THE MODEL: plain; how a part is laid out -/
def sgv : Nat → Int32
  | 0 => -9
  | v + 1 => n32 v
def StkCl : List Nat → Hp → Prop
  | [], _ => True
  | x :: l, h => hI h 78 l.length = n32 x ∧ StkCl l h
def SgM (P : Nat) (S cl : List Nat) (h : Hp) : Prop := hI h 51 45 = n32 S.length ∧ (∀ j, j < S.length → hI h 77 (P + j) = sgv (S.getD j 0)) ∧ hI h 51 47 = n32 cl.length ∧ StkCl cl h
/-- groups that end before i are closed -/
def cu (nd : Nat → Nat → Nat) (i : Nat) : List Nat → List Nat → List Nat × List Nat
  | S, [] => (S, [])
  | S, x :: l => if nd 62 x ≤ i then cu nd i (S ++ [0]) l else (S, x :: l)
theorem cu_len (nd : Nat → Nat → Nat) (i : Nat) : ∀ cl S, (cu nd i S cl).1.length + (cu nd i S cl).2.length = S.length + cl.length
  | [], S => rfl
  | x :: l, S => by
    rw [cu]
    split
    · rw [cu_len nd i l (S ++ [0])]; simp only [List.length_append, List.length_cons, List.length_nil]; omega
    · rfl
theorem cu_id {nd : Nat → Nat → Nat} {i : Nat} {S cl : List Nat} (h : ∀ x ∈ cl, i < nd 62 x) : cu nd i S cl = (S, cl) := by
  cases cl with
  | nil => rfl
  | cons x l =>
    rw [cu, if_neg]
    have := h x (by simp)
    omega
theorem cu_end (nd : Nat → Nat → Nat) (i : Nat) : ∀ cl S T, cu nd i S cl = (T, []) → T = S ++ List.replicate cl.length 0
  | [], S, T, h => by
    have : S = T := congrArg Prod.fst h
    simp [this]
  | x :: l, S, T, h => by
    rw [cu] at h
    split at h
    · have := cu_end nd i l (S ++ [0]) T h
      rw [this, List.length_cons, List.replicate_succ]; simp
    · have := congrArg Prod.snd h
      simp at this
def SSg (a k : Nat) : Prop := a = 77 ∨ a = 51 ∧ k = 45
def SLy (a k : Nat) : Prop := a = 77 ∨ a = 78 ∨ a = 51 ∧ (k = 45 ∨ k = 47)
theorem SgM.bnd {P : Nat} {S cl : List Nat} {h h' : Hp} (G : SgM P S cl h) (f : ∀ a k, (a = 77 ∨ a = 78 ∨ a = 51 ∧ (k = 45 ∨ k = 47)) → hI h' a k = hI h a k) : SgM P S cl h' := by
  obtain ⟨a1, a2, a3, a4⟩ := G
  refine ⟨by rw [f _ _ (by omega)]; exact a1, fun j hj => by rw [f _ _ (by omega)]; exact a2 j hj, by rw [f _ _ (by omega)]; exact a3, ?_⟩
  clear a3
  induction cl with
  | nil => trivial
  | cons x l ih => exact ⟨by rw [f _ _ (by omega)]; exact a4.1, ih a4.2⟩
theorem StkCl.mv {h h' : Hp} (f : ∀ k, hI h' 78 k = hI h 78 k) : ∀ {cl : List Nat}, StkCl cl h → StkCl cl h'
  | [], _ => trivial
  | x :: l, H => ⟨by rw [f]; exact H.1, H.2.mv f⟩
theorem getD_sn {S : List Nat} {v j : Nat} : (S ++ [v]).getD j 0 = if j = S.length then v else S.getD j 0 := by
  rw [List.getD_eq_getElem?_getD, List.getD_eq_getElem?_getD]
  rcases Nat.lt_trichotomy j S.length with q | q | q
  · rw [if_neg (by omega), List.getElem?_append_left q]
  · rw [if_pos q, q, List.getElem?_append_right (Nat.le_refl _)]; simp
  · rw [if_neg (by omega), List.getElem?_append_right (by omega), List.getElem?_eq_none (by simp; omega), List.getElem?_eq_none (by omega)]
theorem q_sign {P v : Nat} {S cl : List Nat} {h : Hp} {Q : Hp → Prop} (G : SgM P S cl h) (hP : P ≤ 800) (hS : S.length < 800) (k : ∀ h', fr SSg h h' → (∀ j, j < P → hI h' 77 j = hI h 77 j) → SgM P (S ++ [v]) cl h' → Q h') : m_X12_sign (n32 P) (sgv v) h Q := by
  obtain ⟨a1, a2, a3, a4⟩ := G
  unfold m_X12_sign
  rw [a1, n32_add, n32_ix (by omega)]
  refine ⟨vpI (by omega) (by decide), ?_⟩
  have b1 : hI (wI h 77 (P + S.length) (sgv v)) 51 45 = n32 S.length := by rw [hI_wI, if_neg (by omega)]; exact a1
  rw [b1, show n32 S.length + 1 = n32 (S.length + 1) from n32_add _ 1]
  refine k _ (fr_wI (fr_wI (fr.rf _ _) _ (by unfold SSg; omega)) _ (by unfold SSg; omega)) (fun j hj => ?_) ⟨?_, fun j hj => ?_, ?_, ?_⟩
  · rw [hI_wI, if_neg (by omega), hI_wI, if_neg (by omega)]
  · rw [hI_wI, if_pos ⟨rfl, rfl⟩, List.length_append]; rfl
  · rw [List.length_append, List.length_singleton] at hj
    rw [hI_wI, if_neg (by omega), hI_wI, getD_sn]
    by_cases q : j = S.length
    · rw [if_pos (by omega), if_pos q]
    · rw [if_neg (by omega), if_neg q]; exact a2 j (by omega)
  · rw [hI_wI, if_neg (by omega), hI_wI, if_neg (by omega)]; exact a3
  · exact a4.mv (fun k => by rw [hI_wI, if_neg (by omega), hI_wI, if_neg (by omega)])
/-- how far the signs of an earlier part stay -/
def lowS (P : Nat) (h h' : Hp) : Prop := ∀ j, j < P → hI h' 77 j = hI h 77 j
theorem lowS.trans {P : Nat} {a b c : Hp} (h1 : lowS P a b) (h2 : lowS P b c) : lowS P a c := fun j hj => (h2 j hj).trans (h1 j hj)
theorem SSg_SLy : ∀ a k, SSg a k → SLy a k := by unfold SSg SLy; omega
set_option maxHeartbeats 4000000 in
set_option maxRecDepth 100000 in
theorem q_closesUp {b P i : Nat} {s : St} {Q : Hp → Prop} (hP : P ≤ 800) (hi : i < 2304) : ∀ (cl S : List Nat) (h : Hp) (m : Nat), RD b s h → SgM P S cl h → (∀ x ∈ cl, b ≤ x ∧ x < sN s) → cl.length ≤ 7 → S.length + cl.length ≤ 800 → cl.length + 1 ≤ m →
    (∀ h', fr SLy h h' → lowS P h h' → SgM P (cu (sD s) i S cl).1 (cu (sD s) i S cl).2 h' → Q h') → m_X12_closesUp_0 m Q (n32 P) (n32 i) h := by
  intro cl
  induction cl with
  | nil =>
    intro S h m R G hx h7 h8 hm k
    obtain ⟨m, rfl⟩ : ∃ n, m = n + 1 := ⟨m - 1, by omega⟩
    rw [m_X12_closesUp_0]
    have e : hI h 51 47 = 0 := G.2.2.1
    rw [e]
    exact ⟨fun _ => k h (fr.rf _ _) (fun _ _ => rfl) G, fun z => absurd (by decide) z⟩
  | cons x l ih =>
    intro S h m R G hx h7 h8 hm k
    simp only [List.length_cons] at h7 h8 hm
    obtain ⟨m, rfl⟩ : ∃ n, m = n + 1 := ⟨m - 1, by omega⟩
    have hl := R.lt
    obtain ⟨x1, x2⟩ := hx x (by simp)
    rw [m_X12_closesUp_0]
    obtain ⟨a1, a2, a3, a4⟩ := id G
    have e47 : hI h 51 47 = n32 (l.length + 1) := a3
    have n62 := (R.1.2.2.2.2.2.2.2.1 x x1 x2)
    have l62 := n62.2.2.2.2.2.2.2.2.2.1
    have e62 := (R.tb x1 x2).2.2.2.2.1
    rw [e47, show (1 : Int32) = n32 1 from rfl, n32_sub (by omega), show l.length + 1 - 1 = l.length by omega, n32_ix (by omega), a4.1, n32_ix (by omega), e62]
    refine ⟨fun z => ?_, fun _ => ⟨fun z => ?_, fun _ => ⟨vpI (by omega) (by decide), vpI (by omega) (by decide), fun z => ?_, fun z => ?_⟩⟩⟩
    · rw [show (0 : Int32) = n32 0 from rfl, n32_le (by omega) (by decide)] at z; omega
    · rw [show (0 : Int32) = n32 0 from rfl, n32_lt (by omega) (by decide)] at z; omega
    · rw [n32_lt (by omega) (by omega)] at z
      rw [cu, if_neg (by omega)] at k
      exact k h (fr.rf _ _) (fun _ _ => rfl) G
    · rw [n32_lt (by omega) (by omega)] at z
      rw [cu, if_pos (by omega)] at k
      unfold m_X12_closesUp_31
      refine q_sign (v := 0) G hP (by omega) (fun h1 f1 w1 G1 => ?_)
      have f47 : hI h1 51 47 = n32 (l.length + 1) := G1.2.2.1
      rw [f47, show (1 : Int32) = n32 1 from rfl, n32_sub (by omega), show l.length + 1 - 1 = l.length by omega]
      have f2 : fr SLy h1 (wI h1 51 47 (n32 l.length)) := fr_wI (fr.rf _ _) _ (by unfold SLy; omega)
      have w2 : lowS P h1 (wI h1 51 47 (n32 l.length)) := fun j hj => by rw [hI_wI, if_neg (by omega)]
      have G2 : SgM P (S ++ [0]) l (wI h1 51 47 (n32 l.length)) := by
        obtain ⟨c1, c2, c3, c4⟩ := G1
        refine ⟨?_, fun j hj => ?_, ?_, ?_⟩
        · rw [hI_wI, if_neg (by omega)]; exact c1
        · rw [hI_wI, if_neg (by omega)]; exact c2 j hj
        · rw [hI_wI, if_pos ⟨rfl, rfl⟩]
        · exact c4.2.mv (fun k => by rw [hI_wI, if_neg (by omega)])
      generalize wI h1 51 47 (n32 l.length) = h2 at f2 w2 G2
      have f3 : fr SLy h h2 := (f1.mono SSg_SLy).trans f2
      refine ih (S ++ [0]) h2 m (R.mv f3 (by unfold SLy; omega)) G2 (fun y hy => hx y (by simp [hy])) (by omega) (by rw [List.length_append, List.length_singleton]; omega) (by omega) (fun h' f' w' G' => k h' (f3.trans f') ((lowS.trans w1 w2).trans w') G')
set_option maxHeartbeats 4000000 in
set_option maxRecDepth 100000 in
theorem q_closesAll {P : Nat} {Q : Hp → Prop} (hP : P ≤ 800) : ∀ (cl S : List Nat) (h : Hp) (m : Nat), SgM P S cl h → cl.length ≤ 7 → S.length + cl.length ≤ 800 → cl.length + 1 ≤ m →
    (∀ h', fr SLy h h' → lowS P h h' → SgM P (S ++ List.replicate cl.length 0) [] h' → Q h') → m_X12_closesUp_0 m Q (n32 P) (-1) h := by
  intro cl
  induction cl with
  | nil =>
    intro S h m G h7 h8 hm k
    obtain ⟨m, rfl⟩ : ∃ n, m = n + 1 := ⟨m - 1, by omega⟩
    rw [m_X12_closesUp_0]
    have e : hI h 51 47 = 0 := G.2.2.1
    rw [e]
    exact ⟨fun _ => k h (fr.rf _ _) (fun _ _ => rfl) (by simpa using G), fun z => absurd (by decide) z⟩
  | cons x l ih =>
    intro S h m G h7 h8 hm k
    simp only [List.length_cons] at h7 h8 hm
    obtain ⟨m, rfl⟩ : ∃ n, m = n + 1 := ⟨m - 1, by omega⟩
    rw [m_X12_closesUp_0]
    have e47 : hI h 51 47 = n32 (l.length + 1) := G.2.2.1
    rw [e47]
    refine ⟨fun z => ?_, fun _ => ⟨fun _ => ?_, fun z => absurd (by decide) z⟩⟩
    · rw [show (0 : Int32) = n32 0 from rfl, n32_le (by omega) (by decide)] at z; omega
    · unfold m_X12_closesUp_31
      refine q_sign (v := 0) G hP (by omega) (fun h1 f1 w1 G1 => ?_)
      have f47 : hI h1 51 47 = n32 (l.length + 1) := G1.2.2.1
      rw [f47, show n32 (l.length + 1) - 1 = n32 l.length by rw [show (1 : Int32) = n32 1 from rfl, n32_sub (by omega)]; rfl]
      have f2 : fr SLy h1 (wI h1 51 47 (n32 l.length)) := fr_wI (fr.rf _ _) _ (by unfold SLy; omega)
      have w2 : lowS P h1 (wI h1 51 47 (n32 l.length)) := fun j hj => by rw [hI_wI, if_neg (by omega)]
      have G2 : SgM P (S ++ [0]) l (wI h1 51 47 (n32 l.length)) := by
        obtain ⟨c1, c2, c3, c4⟩ := G1
        refine ⟨?_, fun j hj => ?_, ?_, ?_⟩
        · rw [hI_wI, if_neg (by omega)]; exact c1
        · rw [hI_wI, if_neg (by omega)]; exact c2 j hj
        · rw [hI_wI, if_pos ⟨rfl, rfl⟩]
        · exact c4.2.mv (fun k => by rw [hI_wI, if_neg (by omega)])
      generalize wI h1 51 47 (n32 l.length) = h2 at f2 w2 G2
      have f3 : fr SLy h h2 := (f1.mono SSg_SLy).trans f2
      refine ih (S ++ [0]) h2 m G2 (by omega) (by rw [List.length_append, List.length_singleton]; omega) (by omega) (fun h' f' w' G' => k h' (f3.trans f') ((lowS.trans w1 w2).trans w') ?_)
      rw [List.length_cons, List.replicate_succ]
      simpa using G'
/-- the part in which a node stands when all that is through is left out -/
def clb (nd : Nat → Nat → Nat) (X : Fg) (a0 : Nat) : Nat → Nat → Nat → Nat
  | 0, _, _ => 0
  | n + 1, u, q => if u = 0 ∨ u - 1 < a0 then 0 else if X.2.1 (u - 1) then clb nd X a0 n (nd 60 (u - 1)) (nd 61 (u - 1)) else if nd 58 (u - 1) = 6 then q else 0
set_option maxHeartbeats 4000000 in
set_option maxRecDepth 100000 in
theorem q_partLeft {d a0 : Nat} {s : St} {X : Fg} {h : Hp} {Q : Int32 → Hp → Prop} (R : RD (96 * d) s h) (F : FgM (96 * d) s X h) (ha0 : 96 * d ≤ a0) (ha1 : a0 < 2305) : ∀ (n c u q : Nat), 96 * d ≤ c → c < sN s → sD s 60 c = u → sD s 61 c = q → u ≤ n → Q (n32 (clb (sD s) X a0 (n + 1) u q)) h → m_X12_partLeft_11 (n + 1) (m_X12_partLeft_48 Q) Q (n32 d) (n32 a0) (n32 c) (pm u) h := by
  have hl := R.lt
  have hN := R.1.2.2.1
  have stop : ∀ c u q : Nat, 96 * d ≤ c → c < sN s → sD s 61 c = q → u ≤ sN s → (u = 0 ∨ u - 1 < a0 ∨ X.2.1 (u - 1) = false) → Q (n32 (if u = 0 ∨ u - 1 < a0 then 0 else if sD s 58 (u - 1) = 6 then q else 0)) h → m_X12_partLeft_48 Q (n32 a0) (n32 c) (pm u) h := by
    intro c u q hc1 hc2 hq hu hs k
    unfold m_X12_partLeft_48
    rw [pm_ltn (by omega) (by omega)]
    by_cases z : u = 0 ∨ u - 1 < a0
    · rw [if_pos z] at k
      exact ⟨fun _ => k, fun y => absurd (by omega) y⟩
    · rw [if_neg z] at k
      refine ⟨fun y => absurd y (by omega), fun _ => ⟨(pm_in (by omega)).mpr (by omega), ?_⟩⟩
      have n8 := (R.1.2.2.2.2.2.2.2.1 (u - 1) (by omega) (by omega)).1
      rw [pm_ix (by omega), (R.tb (i := u - 1) (by omega) (by omega)).1, show (6 : Int32) = n32 6 from rfl, n32_eq (by omega) (by decide), n32_ix (by omega), (R.tb hc1 hc2).2.2.2.1, hq]
      refine ⟨fun y => by rw [if_neg y] at k; exact k, fun y => ⟨vpI (by omega) (by decide), by rw [if_pos y] at k; exact k⟩⟩
  intro n
  induction n with
  | zero =>
    intro c u q hc1 hc2 hu hq hn k
    rw [m_X12_partLeft_11]
    obtain rfl : u = 0 := by omega
    refine ⟨fun _ => stop c 0 q hc1 hc2 hq (by omega) (Or.inl rfl) ?_, fun z => absurd ((pm_ltn (by omega) (by omega)).mpr (by omega)) z⟩
    rw [clb, if_pos (Or.inl rfl)] at k
    rw [if_pos (Or.inl rfl)]; exact k
  | succ n ih =>
    intro c u q hc1 hc2 hu hq hn k
    rw [clb] at k
    rw [m_X12_partLeft_11, pm_ltn (by have := (R.1.2.2.2.2.2.2.2.1 c hc1 hc2).2.1; omega) (by omega)]
    have hu' : u ≤ sN s := by have := (R.1.2.2.2.2.2.2.2.1 c hc1 hc2).2.1; omega
    refine ⟨fun z => stop c u q hc1 hc2 hq hu' (by omega) ?_, fun z => ?_⟩
    · rw [if_pos (by omega)] at k
      rw [if_pos (by omega)]; exact k
    · have z' : ¬ (u = 0 ∨ u - 1 < a0) := by omega
      rw [if_neg z'] at k
      obtain ⟨F1, F2, F3⟩ := F (u - 1) (by omega) (by omega)
      have ek : pm u - (96 * n32 d) = n32 (u - 1 - 96 * d) := by rw [pm_n32 (by omega), show (96 : Int32) = n32 96 from rfl, n32_mul, n32_sub (by omega)]
      rw [ek, n32_ix (by omega), F2, pm_ix (by omega), (R.tb (i := u - 1) (by omega) (by omega)).2.2.1, pm_in (by omega)]
      refine ⟨vpI (by omega) (by decide), fun y => ?_, fun y => ⟨by omega, fun x1 ex => ?_⟩⟩
      · have y' := fgb0.mp y
        rw [if_neg (by rw [y']; simp)] at k
        refine stop c u q hc1 hc2 hq hu' (Or.inr (Or.inr y')) ?_
        rw [if_neg z']; exact k
      · have y' : X.2.1 (u - 1) = true := by
          cases hh : X.2.1 (u - 1) with
          | true => rfl
          | false => exact absurd (fgb0.mpr hh) y
        rw [if_pos y'] at k
        rw [ex, pm_n32 (show 0 < u by omega)]
        have := (R.1.2.2.2.2.2.2.2.1 (u - 1) (by omega) (by omega)).2.1
        exact ih (u - 1) _ _ (by omega) (by omega) rfl rfl (by omega) k
