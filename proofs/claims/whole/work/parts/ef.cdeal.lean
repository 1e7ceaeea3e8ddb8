/-! THE CLASS: a deal's text, whole -/
def SDr (a q k : Nat) : Prop := SCm q k ∨ q = 4 ∧ 3 ≤ k ∧ k ≤ 7 ∨ q = 5 ∨ q = 6 ∨ q = 7 ∨ q = a ∧ 2 ≤ k ∧ k ≤ 8 ∨ a < q ∧ q ≤ a + 4
/-- a deal that is whole, but for the day it was signed -/
def DlW (a b : Nat) (E : List Ev) (h : Hp) : Prop := LvC a (sL (run b E)) h ∧ RwP a (cRows (sL (run b E))) h ∧ hI h a 3 = n32 (sC (run b E)) ∧ hI h a 4 = n32 (sE (run b E)) ∧ (∃ p, byD (sL (run b E)) p ∧ ∀ k, k < (cRows (sL (run b E))).length → hI h (a + 4) k = n32 (p.getD k 0)) ∧ hI h a 7 = n32 (shR b E).2.2 ∧ hI h a 8 = n32 ((shR b E).2.1.count 0)
set_option maxHeartbeats 4000000 in
set_option maxRecDepth 100000 in
theorem c_readDeal {T : List Nat} {a b n : Nat} {r : Nat ⊕ List Ev} {t : Tk} {h : Hp} {Q : Int32 → Hp → Prop} (ha : 108 ≤ a) (hb : b ≤ 2208) (P : CM T (.inr t) h) (hm : mac T b n 0 t [] = some r)
    (kb : ∀ h' e, r = .inl e → CM T (.inl e) h' → fr (SDr a) h h' → Q 0 h')
    (kg : ∀ h' E, r = .inr E → fr (SDr a) h h' → DlW a b E h' → Q 1 h') : m_X2_readDeal a h Q := by
  unfold m_X2_readDeal
  have f1 : fr (SDr a) h (wR h 4 3 (some a)) := fr_wR (fr.rf _ _) _ (by unfold SDr; omega)
  have r1 : hR (wR h 4 3 (some a)) 4 3 = some a := by rw [hR_wR, if_pos ⟨rfl, rfl⟩]
  have P1 : CM T (.inr t) (wR h 4 3 (some a)) := P.mv (S := fun q _ => q = 4) (fr_wR (fr.rf _ _) _ rfl) (by omega) (by omega)
  generalize wR h 4 3 (some a) = h1 at f1 r1 P1
  refine ⟨a, r1, ?_⟩
  unfold m_X1_empty m_X8_empty
  dsimp only
  have f2 : fr (fun q j => q = a ∧ 2 ≤ j ∧ j ≤ 6 ∨ q = 5 ∧ (j = 0 ∨ j = 2)) h1 (wI (wI (wI (wI (wI (wI (wI h1 a 2 0) a 3 0) a 4 0) a 5 0) a 6 0) 5 0 0) 5 2 0) := fr_wI (fr_wI (fr_wI (fr_wI (fr_wI (fr_wI (fr_wI (fr.rf _ _) _ (by omega)) _ (by omega)) _ (by omega)) _ (by omega)) _ (by omega)) _ (by omega)) _ (by omega)
  have c2 : hI (wI (wI (wI (wI (wI (wI (wI h1 a 2 0) a 3 0) a 4 0) a 5 0) a 6 0) 5 0 0) 5 2 0) a 2 = n32 0 := by
    rw [hI_wI, if_neg (by omega), hI_wI, if_neg (by omega), hI_wI, if_neg (by omega), hI_wI, if_neg (by omega), hI_wI, if_neg (by omega), hI_wI, if_neg (by omega), hI_wI, if_pos ⟨rfl, rfl⟩]; rfl
  have c3 : hI (wI (wI (wI (wI (wI (wI (wI h1 a 2 0) a 3 0) a 4 0) a 5 0) a 6 0) 5 0 0) 5 2 0) a 3 = n32 0 := by
    rw [hI_wI, if_neg (by omega), hI_wI, if_neg (by omega), hI_wI, if_neg (by omega), hI_wI, if_neg (by omega), hI_wI, if_neg (by omega), hI_wI, if_pos ⟨rfl, rfl⟩]; rfl
  have c4 : hI (wI (wI (wI (wI (wI (wI (wI h1 a 2 0) a 3 0) a 4 0) a 5 0) a 6 0) 5 0 0) 5 2 0) a 4 = n32 0 := by
    rw [hI_wI, if_neg (by omega), hI_wI, if_neg (by omega), hI_wI, if_neg (by omega), hI_wI, if_neg (by omega), hI_wI, if_pos ⟨rfl, rfl⟩]; rfl
  have c5 : hI (wI (wI (wI (wI (wI (wI (wI h1 a 2 0) a 3 0) a 4 0) a 5 0) a 6 0) 5 0 0) 5 2 0) a 5 = n32 0 := by
    rw [hI_wI, if_neg (by omega), hI_wI, if_neg (by omega), hI_wI, if_neg (by omega), hI_wI, if_pos ⟨rfl, rfl⟩]; rfl
  have c6 : hI (wI (wI (wI (wI (wI (wI (wI h1 a 2 0) a 3 0) a 4 0) a 5 0) a 6 0) 5 0 0) 5 2 0) a 6 = n32 0 := by
    rw [hI_wI, if_neg (by omega), hI_wI, if_neg (by omega), hI_wI, if_pos ⟨rfl, rfl⟩]; rfl
  have s0 : hI (wI (wI (wI (wI (wI (wI (wI h1 a 2 0) a 3 0) a 4 0) a 5 0) a 6 0) 5 0 0) 5 2 0) 5 0 = n32 0 := by
    rw [hI_wI, if_neg (by omega), hI_wI, if_pos ⟨rfl, rfl⟩]; rfl
  have s2 : hI (wI (wI (wI (wI (wI (wI (wI h1 a 2 0) a 3 0) a 4 0) a 5 0) a 6 0) 5 0 0) 5 2 0) 5 2 = n32 0 := by
    rw [hI_wI, if_pos ⟨rfl, rfl⟩]; rfl
  generalize wI (wI (wI (wI (wI (wI (wI h1 a 2 0) a 3 0) a 4 0) a 5 0) a 6 0) 5 0 0) 5 2 0 = h2 at f2 c2 c3 c4 c5 c6 s0 s2
  have f3 : fr (fun q j => q = 4 ∧ 4 ≤ j ∧ j ≤ 7) h2 (wI (wI (wI (wI h2 4 4 0) 4 5 1) 4 6 0) 4 7 0) := fr_wI (fr_wI (fr_wI (fr_wI (fr.rf _ _) _ (by omega)) _ (by omega)) _ (by omega)) _ (by omega)
  have x4 : hI (wI (wI (wI (wI h2 4 4 0) 4 5 1) 4 6 0) 4 7 0) 4 4 = n32 0 := by rw [hI_wI, if_neg (by omega), hI_wI, if_neg (by omega), hI_wI, if_neg (by omega), hI_wI, if_pos ⟨rfl, rfl⟩]; rfl
  have x5 : hI (wI (wI (wI (wI h2 4 4 0) 4 5 1) 4 6 0) 4 7 0) 4 5 = n32 1 := by rw [hI_wI, if_neg (by omega), hI_wI, if_neg (by omega), hI_wI, if_pos ⟨rfl, rfl⟩]; rfl
  have x6 : hI (wI (wI (wI (wI h2 4 4 0) 4 5 1) 4 6 0) 4 7 0) 4 6 = n32 0 := by rw [hI_wI, if_neg (by omega), hI_wI, if_pos ⟨rfl, rfl⟩]; rfl
  have x7 : hI (wI (wI (wI (wI h2 4 4 0) 4 5 1) 4 6 0) 4 7 0) 4 7 = n32 0 := by rw [hI_wI, if_pos ⟨rfl, rfl⟩]; rfl
  generalize wI (wI (wI (wI h2 4 4 0) 4 5 1) 4 6 0) 4 7 0 = h3 at f3 x4 x5 x6 x7
  have F3 : fr (SDr a) h h3 := (f1.trans (f2.mono (by unfold SDr SCm; omega))).trans (f3.mono (by unfold SDr SCm; omega))
  have P3 : CM T (.inr t) h3 := (P1.mv f2 (by omega) (by omega)).mv f3 (by omega) (by omega)
  have D3 : DlC a (run b []) h3 := by
    refine ⟨by rw [f3.R (by omega), f2.R (by omega)]; exact r1, ⟨by rw [f3.I (by omega)]; exact c2, by rw [f3.I (by omega)]; exact c5, fun k hk => absurd hk (by show ¬ k < 0; omega)⟩, ⟨by rw [f3.I (by omega)]; exact c6, fun k hk => absurd hk (by show ¬ k < 0; omega)⟩, by rw [f3.I (by omega)]; exact c3, by rw [f3.I (by omega)]; exact c4⟩
  have Z3 : ShC 0 (shR b []) h3 := ⟨by rw [f3.I (by omega)]; exact s0, by rw [f3.I (by omega)]; exact s2, Cel.nil _ _⟩
  have sD : ∀ q k, SRd a 0 q k → SDr a q k := by unfold SRd SDr SSh SCm; omega
  have RA := c_readAll (T := T) (a := a) (b := b) (r := r) ha 8 0 rfl (by omega)
  unfold RAS at RA
  dsimp only at RA
  rw [show m_X2_readAllR 8 0 = m_X2_readAllR 8 (n32 0) from rfl]
  refine RA n 0 0 t [] h3 _ hm ⟨GI0 hb, W90, rfl, ⟨Nat.zero_le _, Nat.zero_le _, Nat.zero_le _, WfC.nil _⟩, P3, D3, Z3⟩ ⟨x4, x5, x6, x7⟩ rfl (fun h' e er P' w => ⟨fun y => absurd rfl y, fun _ => kb h' e er P' (F3.trans (w.1.mono sD))⟩) (fun h7 n' t' E' m1 hm' n44 le J C7 sk sh f7 => ⟨fun _ => ?_, fun y => absurd y one0⟩)
  obtain ⟨G, W, len, R, P7, D7, Z7⟩ := J
  have L12 : (sL (run b E')).length ≤ 12 := G.1.2.2.2.1
  have rm := R.room L12 (by omega)
  have sk' : sK (run b E') = [] := sk
  refine c_isAtEnd P7 ?_
  cases n' with
  | zero => rw [mac] at hm'; exact absurd hm' (by simp)
  | succ n' =>
    rw [mac, if_neg n44, sk'] at hm'
    dsimp only at hm'
    by_cases z : t'.1 = 0
    · rw [if_pos z] at hm'
      injection hm' with hm'
      rw [decide_eq_true z]
      refine ⟨fun _ => ?_, fun y => absurd y one0⟩
      have oL : ∀ q ∈ sL (run b E'), LfOk q := fun q hq => (W.1.2.2.2.2.1 q hq).1
      have co := cRows_ok oL
      refine ⟨a, D7.1, ?_⟩
      refine c_sort (D := fun k => ((cRows (sL (run b E'))).getD k rec0) 0) ha (by omega) D7.2.2.1.1 (fun k hk => ⟨(D7.2.2.1.2 k hk).1 0 (by decide), ?_⟩) (fun h12 p f12 pp pw pB => ?_)
      · have : (cRows (sL (run b E'))).getD k rec0 ∈ cRows (sL (run b E')) := by
          rw [List.getD_eq_getElem?_getD, List.getElem?_eq_getElem hk]; exact List.getElem_mem hk
        exact (co.1 _ this).1
      have r12 : hR h12 4 3 = some a := by rw [f12.R (by omega)]; exact D7.1
      refine ⟨a, r12, a, by rw [hR_wI]; exact r12, ?_⟩
      have y0 : hI h12 5 0 = n32 (shR b E').2.2 := by rw [f12.I (by omega)]; exact Z7.1
      rw [y0]
      have f13 : fr (fun q j => q = a ∧ j = 7) h12 (wI h12 a 7 (n32 (shR b E').2.2)) := fr_wI (fr.rf _ _) _ ⟨rfl, rfl⟩
      have e13 : hI (wI h12 a 7 (n32 (shR b E').2.2)) a 7 = n32 (shR b E').2.2 := by rw [hI_wI, if_pos ⟨rfl, rfl⟩]
      generalize wI h12 a 7 (n32 (shR b E').2.2) = h13 at f13 e13
      refine c_leavesLeft (c := (shR b E').2.1) (B := WfB 0) ((Z7.2.2.mv f12 (by omega)).mv f13 (by omega)) (by unfold WfB; omega) R.2.2.2.1 (by rw [f13.I (by omega), f12.I (by omega)]; have := Z7.2.1; rw [Nat.zero_add] at this; exact this) (by omega) ?_
      have f14 : fr (fun q j => q = a ∧ j = 8) h13 (wI h13 a 8 (n32 ((shR b E').2.1.count 0))) := fr_wI (fr.rf _ _) _ ⟨rfl, rfl⟩
      have e14 : hI (wI h13 a 8 (n32 ((shR b E').2.1.count 0))) a 8 = n32 ((shR b E').2.1.count 0) := by rw [hI_wI, if_pos ⟨rfl, rfl⟩]
      generalize wI h13 a 8 (n32 ((shR b E').2.1.count 0)) = h14 at f14 e14
      have f714 : fr (fun q j => q = a + 4 ∨ q = a ∧ (j = 7 ∨ j = 8)) h7 h14 := ((f12.mono (by omega)).trans (f13.mono (by omega))).trans (f14.mono (by omega))
      refine kg h14 E' hm'.symm ((F3.trans (f7.mono sD)).trans (f714.mono (by unfold SDr; omega))) ⟨D7.2.1.mv f714 (by omega) (by omega) (by omega), D7.2.2.1.mv f714 (by omega) (by omega) (by omega), by rw [f714.I (by omega)]; exact D7.2.2.2.1, by rw [f714.I (by omega)]; exact D7.2.2.2.2, ⟨p, ⟨pp, pw⟩, fun k hk => ?_⟩, by rw [f14.I (by omega)]; exact e13, e14⟩
      rw [f14.I (by omega), f13.I (by omega)]
      exact pB k (by rw [pp.length_eq, List.length_range]; exact hk)
    · rw [if_neg z] at hm'
      injection hm' with hm'
      rw [decide_eq_false z]
      exact ⟨fun y => absurd rfl y, fun _ => c_refuse P7 (fun h9 f9 P9 => ⟨Or.inl rfl, kb h9 _ hm'.symm P9 ((F3.trans (f7.mono sD)).trans (f9.mono (fun _ _ y => Or.inl y)))⟩)⟩
theorem old_of {D : List Dl} {e : Dl} {bs : List Nat} (h : ∀ d ∈ bs, d < D.length) : bRows (D ++ [e]) bs = bRows D bs ∧ bEvs (D ++ [e]) bs = bEvs D bs ∧ bChs (D ++ [e]) bs = bChs D bs ∧ lvs (D ++ [e]) bs = lvs D bs := by
  have eL : ∀ d ∈ bs, dL (D ++ [e]) d = dL D d := fun d hd => by unfold dL; rw [dS_old (h d hd)]
  have eC : ∀ d ∈ bs, dC (D ++ [e]) d = dC D d := fun d hd => by unfold dC; rw [dS_old (h d hd)]
  have eE : ∀ d ∈ bs, dE (D ++ [e]) d = dE D d := fun d hd => by unfold dE; rw [dS_old (h d hd)]
  refine ⟨?_, ?_, ?_, ?_⟩
  · clear h eE
    induction bs with
    | nil => funext c n; rfl
    | cons d bs ih =>
      have ih' := ih (fun q hq => eL q (List.mem_cons_of_mem _ hq)) (fun q hq => eC q (List.mem_cons_of_mem _ hq))
      funext c n
      rw [bRows, bRows, ih', eL d (by simp), eC d (by simp)]
  · unfold bEvs
    clear h eL eC
    have key : ∀ (l : List Nat) (v : Nat), (∀ d ∈ l, dE (D ++ [e]) d = dE D d) → l.foldl (fun b d => b ||| dE (D ++ [e]) d) v = l.foldl (fun b d => b ||| dE D d) v := by
      intro l
      induction l with
      | nil => intro v _; rfl
      | cons d l ih =>
        intro v hl
        rw [List.foldl_cons, List.foldl_cons, hl d (by simp)]
        exact ih _ (fun q hq => hl q (List.mem_cons_of_mem _ hq))
    exact key bs 0 eE
  · unfold bChs
    rw [List.map_congr_left eC]
  · unfold lvs
    unfold List.flatMap
    rw [List.map_congr_left eL]
theorem codesL_old {D : List Dl} {e : Dl} {bs : List Nat} (h : ∀ d ∈ bs, d < D.length) : codesL (D ++ [e]) bs = codesL D bs := by
  unfold codesL; rw [(old_of h).2.1, (old_of h).2.2.1]
theorem bLend_old {D : List Dl} {e : Dl} {bs : List Nat} (F : Nat → Nat) (h : ∀ d ∈ bs, d < D.length) : bLend F (D ++ [e]) bs = bLend F D bs := by
  funext c l b; unfold bLend; rw [(old_of h).1]
theorem lendN_old {D : List Dl} {e : Dl} {bs : List Nat} (F : Nat → Nat) (h : ∀ d ∈ bs, d < D.length) : lendN F (D ++ [e]) bs = lendN F D bs := by
  funext l b; unfold lendN; rw [codesL_old h, bLend_old F h]
theorem loanP_old {D : List Dl} {e : Dl} {bs : List Nat} (F : Nat → Nat) (h : ∀ d ∈ bs, d < D.length) : loanP F (D ++ [e]) bs = loanP F D bs := by
  unfold loanP; rw [codesL_old h, bLend_old F h]
theorem loanN_old {D : List Dl} {e : Dl} {bs : List Nat} (F : Nat → Nat) (h : ∀ d ∈ bs, d < D.length) : loanN F (D ++ [e]) bs = loanN F D bs := by
  unfold loanN; rw [(old_of h).2.1, (old_of h).2.2.1, loanP_old F h]
theorem leastS_old {D : List Dl} {e : Dl} {bs : List Nat} (F : Nat → Nat) (h : ∀ d ∈ bs, d < D.length) : leastS F (D ++ [e]) bs = leastS F D bs := by
  funext l s c; unfold leastS; rw [(old_of h).1]
theorem prA_old {D : List Dl} {e : Dl} {bs : List Nat} (F : Nat → Nat) (h : ∀ d ∈ bs, d < D.length) : prA F (D ++ [e]) bs = prA F D bs := by
  have eS : prS F (D ++ [e]) bs = prS F D bs := by
    funext l b g s c; unfold prS; simp only [(old_of h).1, bLend_old F h]
  funext l b g
  unfold prA
  rw [codesL_old h, eS]
