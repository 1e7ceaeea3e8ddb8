/-! THE CLASS: the ledger takes a bundle -/
/-- the rows of a deal till m, as entries -/
def kpR (x : Ab) (P : Nat → List Nat) (l : List Nat) (i m : Nat) : List Rec := (((Ro x P (l.getD i 0)).take m).filter (keepB (aF x))).map (enR (aF x) (bChs (aD x) (l.take i)))
theorem kpR_succ {x : Ab} {P : Nat → List Nat} {l : List Nat} {i m : Nat} (h : m < (Ro x P (l.getD i 0)).length) : kpR x P l i (m + 1) = kpR x P l i m ++ (if keepB (aF x) ((Ro x P (l.getD i 0)).getD m rec0) then [enR (aF x) (bChs (aD x) (l.take i)) ((Ro x P (l.getD i 0)).getD m rec0)] else []) := by
  unfold kpR
  rw [take_snoc (d := rec0) h, List.filter_append, List.map_append, List.filter_cons]
  split <;> rfl
theorem fm_congr {α : Type} {g g' : Nat → List α} : ∀ {L : List Nat}, (∀ j ∈ L, g' j = g j) → L.flatMap g' = L.flatMap g
  | [], _ => rfl
  | j :: L, h => by rw [List.flatMap_cons, List.flatMap_cons, h j (by simp), fm_congr (fun z hz => h z (by simp [hz]))]
theorem fm_one {α : Type} {g g' : Nat → List α} {e : List α} {i : Nat} : ∀ (L : List Nat), L.Nodup → i ∈ L → (∀ j ∈ L, g' j = if j = i then g j ++ e else g j) → (L.flatMap g').Perm (L.flatMap g ++ e)
  | [], _, h, _ => absurd h (by simp)
  | j :: L, nd, hi, hg => by
    rw [List.nodup_cons] at nd
    rw [List.flatMap_cons, List.flatMap_cons, hg j (by simp)]
    by_cases q : j = i
    · rw [if_pos q]
      have same : L.flatMap g' = L.flatMap g := by
        have : ∀ z ∈ L, g' z = g z := fun z hz => by rw [hg z (by simp [hz]), if_neg (fun y => nd.1 (by rw [q, ← y]; exact hz))]
        exact fm_congr this
      rw [same, List.append_assoc, List.append_assoc]
      exact List.Perm.append_left _ List.perm_append_comm
    · rw [if_neg q]
      have hi' : i ∈ L := by
        rcases List.mem_cons.mp hi with y | y
        · exact absurd y.symm q
        · exact y
      have ih := fm_one L nd.2 hi' (fun z hz => hg z (by simp [hz]))
      rw [List.append_assoc]
      exact List.Perm.append_left _ ih
def sumH (f : Nat → Nat) : Nat → Nat
  | 0 => 0
  | n + 1 => sumH f n + f n
theorem sumH_le {f g : Nat → Nat} : ∀ {n}, (∀ i, i < n → f i ≤ g i) → sumH f n ≤ sumH g n
  | 0, _ => Nat.le_refl _
  | n + 1, h => Nat.add_le_add (sumH_le (fun i hi => h i (by omega))) (h n (by omega))
theorem sumH_eq {f g : Nat → Nat} : ∀ {n}, (∀ i, i < n → f i ≤ g i) → sumH g n ≤ sumH f n → ∀ i, i < n → f i = g i
  | 0, _, _, i, hi => absurd hi (by omega)
  | n + 1, h, e, i, hi => by
    have h1 := sumH_le (n := n) (fun i hi => h i (by omega))
    have h2 := h n (by omega)
    have e' : sumH g n + g n ≤ sumH f n + f n := e
    rcases Nat.lt_or_ge i n with q | q
    · exact sumH_eq (fun i hi => h i (by omega)) (by omega) i q
    · rw [show i = n by omega]; omega
theorem sumH_up {f : Nat → Nat} {e : Nat} : ∀ {n}, e < n → sumH (upN f e (f e + 1)) n = sumH f n + 1
  | 0, h => absurd h (by omega)
  | n + 1, h => by
    show sumH (upN f e (f e + 1)) n + upN f e (f e + 1) n = sumH f n + f n + 1
    by_cases q : e = n
    · have : sumH (upN f e (f e + 1)) n = sumH f n := by
        have key : ∀ m, m ≤ n → sumH (upN f e (f e + 1)) m = sumH f m := by
          intro m
          induction m with
          | zero => intro _; rfl
          | succ m ih =>
            intro hm
            show sumH _ m + upN f e (f e + 1) m = sumH f m + f m
            rw [ih (by omega)]
            unfold upN; rw [if_neg (by omega)]
        exact key n (Nat.le_refl _)
      rw [this]
      unfold upN; rw [if_pos q.symm, q]; omega
    · rw [sumH_up (by omega)]
      unfold upN; rw [if_neg (fun z => q z.symm)]; omega
theorem sumH_bd {f : Nat → Nat} {b : Nat} : ∀ {n}, (∀ i, i < n → f i ≤ b) → sumH f n ≤ b * n
  | 0, _ => by show 0 ≤ _; omega
  | n + 1, h => by
    have := sumH_bd (n := n) (fun i hi => h i (by omega))
    have := h n (by omega)
    show sumH f n + f n ≤ b * (n + 1)
    rw [Nat.mul_succ]; omega
theorem tdB_lt : ∀ {E : List Rec} {b : Nat}, b < 256 → (∀ e ∈ E, EnOk e) → E.foldl (fun b e => b ||| (2 ^ e 1 ||| 2 ^ e 2)) b < 256
  | [], b, h, _ => h
  | e :: E, b, h, o => by
    have oe := o e (by simp)
    have p1 := pw_le (show e 1 ≤ 7 by have := oe.2.1; omega)
    have p2 := pw_le (show e 2 ≤ 7 by have := oe.2.2.1; omega)
    rw [List.foldl_cons]
    exact tdB_lt (Nat.or_lt_two_pow (n := 8) h (Nat.or_lt_two_pow (n := 8) (by omega) (by omega))) (fun q hq => o q (by simp [hq]))
def STe (a k : Nat) : Prop := a = 15 ∨ a = 16 ∨ a = 17 ∨ a = 18 ∨ a = 14 ∧ (k = 3 ∨ k = 4 ∨ k = 6)
/-- the merge on its way -/
def MgI (x : Ab) (P : Nat → List Nat) (l : List Nat) (hd : Nat → Nat) (E : List Rec) (h : Hp) : Prop :=
  EnB E h ∧ hI h 14 4 = n32 (btB E) ∧ (∀ i, i < l.length → hI h 18 i = n32 (hd i) ∧ hd i ≤ (Ro x P (l.getD i 0)).length) ∧ E.Perm ((List.range l.length).flatMap (fun i => kpR x P l i (hd i))) ∧ E.Pairwise (fun a b => a 0 ≤ b 0) ∧ (∀ e ∈ E, ∀ i, i < l.length → ∀ r ∈ (Ro x P (l.getD i 0)).drop (hd i), e 0 ≤ r 0) ∧ (∀ e ∈ E, EnOk e) ∧ E.length ≤ sumH hd l.length
set_option maxHeartbeats 4000000 in
set_option maxRecDepth 100000 in
theorem c_merge {x : Ab} {da : Nat → Nat} {P : Nat → List Nat} {a : Nat} {l : List Nat} {h0 : Hp} {Q : Hp → Prop} (V0 : CVw x da h0) (K : OkA x) (A0 : OrA x da P h0) (B0 : CBd x da a l h0) (ha : a < 13 ∨ 25 < a)
    (k : ∀ E h', fr STe h0 h' → MgI x P l (fun i => (Ro x P (l.getD i 0)).length) E h' → m_X5_take_99 Q (n32 (tdB E)) h') :
    ∀ (r : Nat) (hd : Nat → Nat) (E : List Rec) (h : Hp), r + sumH hd l.length = sumH (fun i => (Ro x P (l.getD i 0)).length) l.length → fr STe h0 h → MgI x P l hd E h → m_X5_take_22 (r + 1) (m_X5_take_42 Q) (m_X5_take_99 Q) Q a (n32 (tdB E)) (n32 (sumH hd l.length)) h := by
  have hl := B0.2.1
  have dmem : ∀ i, i < l.length → l.getD i 0 < (aD x).length := fun i hi => B0.2.2.2 _ (by rw [List.getD_eq_getElem?_getD, List.getElem?_eq_getElem hi]; exact List.getElem_mem hi)
  have len36 : ∀ i, i < l.length → (Ro x P (l.getD i 0)).length ≤ 36 := fun i hi => by rw [Ro_len A0 (dmem i hi)]; exact rows_le K (dmem i hi)
  have tot := sumH_bd (f := fun i => (Ro x P (l.getD i 0)).length) (b := 36) (n := l.length) len36
  -- all heads are at their ends
  have fin : ∀ (hd : Nat → Nat) (E : List Rec) (h : Hp), fr STe h0 h → MgI x P l hd E h → (∀ i, i < l.length → hd i = (Ro x P (l.getD i 0)).length) → m_X5_take_99 Q (n32 (tdB E)) h := by
    intro hd E h f M e
    obtain ⟨m1, m2, m3, m4, m5, m6, m7, m8⟩ := M
    refine k E h f ⟨m1, m2, fun i hi => ⟨by show hI h 18 i = n32 (Ro x P (l.getD i 0)).length; rw [← e i hi]; exact (m3 i hi).1, Nat.le_refl _⟩, ?_, m5, fun q hq i hi r hr => absurd hr (by simp), m7, ?_⟩
    · have : (List.range l.length).flatMap (fun i => kpR x P l i (Ro x P (l.getD i 0)).length) = (List.range l.length).flatMap (fun i => kpR x P l i (hd i)) := fm_congr (fun i hi => by rw [e i (List.mem_range.mp hi)])
      rw [this]; exact m4
    · exact Nat.le_trans m8 (sumH_le (fun i hi => Nat.le_of_eq (e i hi)))
  intro r
  induction r with
  | zero =>
    intro hd E h hr f M
    have M3 := M.2.2.1
    have all : ∀ i, i < l.length → hd i = (Ro x P (l.getD i 0)).length := sumH_eq (fun i hi => (M3 i hi).2) (by omega)
    rw [m_X5_take_22]
    refine ⟨fun _ => fin hd E h f M all, fun z => ?_⟩
    have V := V0.mv f (by unfold STe; omega)
    refine c_earliest V K (A0.mv V0 f (by unfold STe; omega)) (B0.mv f (by unfold STe; omega) (by unfold STe; omega)) M3 (fun _ => ⟨fun y => absurd rfl y, fun _ => fin hd E h f M all⟩) (fun e he1 he2 _ => ?_)
    have := all e he1
    omega
  | succ r ih =>
    intro hd E h hr f M
    have V := V0.mv f (by unfold STe; omega)
    have A := A0.mv V0 f (by unfold STe; omega)
    have B := B0.mv f (by unfold STe; omega) (by unfold STe; omega)
    obtain ⟨m1, m2, m3, m4, m5, m6, m7, m8⟩ := id M
    rw [m_X5_take_22, show (216 : Int32) = n32 216 from rfl, n32_le (by decide) (by omega)]
    refine ⟨fun z => ?_, fun z => ?_⟩
    · omega
    refine c_earliest V K A B m3 (fun all => ⟨fun y => absurd rfl y, fun _ => fin hd E h f M all⟩) (fun e he1 he2 hmin => ⟨fun _ => ?_, fun y => ?_⟩)
    · have dl := dmem e he1
      have rr := B.2.2.1 e he1
      have h18 := (m3 e he1).1
      have l36 := len36 e he1
      obtain ⟨g1, g2, g3, g4⟩ := Ro_row A V K dl (m := hd e) (by rw [← Ro_len A dl]; exact he2)
      rw [n32_ix (by omega), h18, n32_ix (by omega)]
      refine ⟨vpI (by omega) (by decide), da (l.getD e 0), rr, vpI (by omega) (by decide), vpI (by omega) (by decide), ?_⟩
      rw [g1]
      refine c_choicesBefore V B (by omega) ?_
      have bc : bChs (aD x) (l.take e) ≤ 18 := by
        have := bChs_le K (l := l.take e) (fun z hz => B.2.2.2 z (List.mem_of_mem_take hz))
        rw [List.length_take] at this
        omega
      have st : sumH hd l.length < 216 := by omega
      -- what comes after the entry
      have next : ∀ (E' : List Rec) (h1 : Hp), fr SEn h h1 → EnB E' h1 → hI h1 14 4 = n32 (btB E') → (∀ z ∈ E', EnOk z) → E'.Perm (E ++ (if keepB (aF x) ((Ro x P (l.getD e 0)).getD (hd e) rec0) then [enR (aF x) (bChs (aD x) (l.take e)) ((Ro x P (l.getD e 0)).getD (hd e) rec0)] else [])) → E'.Pairwise (fun a b => a 0 ≤ b 0) → (∀ z ∈ E', z ∈ E ∨ z 0 = (Ro x P (l.getD e 0)).getD (hd e) rec0 0) → E'.length ≤ E.length + 1 → ∀ x9 : Int32, x9 = n32 (tdB E') → vp_in (n32 e) 6 ∧ (vp_in (n32 e) 6 ∧ (∀ x10 : Int32, x10 = n32 (sumH hd l.length) + 1 → m_X5_take_22 (r + 1) (m_X5_take_42 Q) (m_X5_take_99 Q) Q a x9 x10 (wI h1 18 e (hI h1 18 e + 1)))) := by
        intro E' h1 f1 a1 a2 a3 a4 a5 a6 a7 x9 e9
        refine ⟨vpI (by omega) (by decide), vpI (by omega) (by decide), fun x10 e10 => ?_⟩
        have h18' : hI h1 18 e = n32 (hd e) := by rw [f1.I (by unfold SEn; omega)]; exact h18
        rw [e9, e10, h18', show n32 (hd e) + 1 = n32 (hd e + 1) from n32_add _ 1, show n32 (sumH hd l.length) + 1 = n32 (sumH hd l.length + 1) from n32_add _ 1, ← sumH_up he1]
        have f2 : fr STe h0 (wI h1 18 e (n32 (hd e + 1))) := fr_wI (f.trans (f1.mono (by unfold SEn STe; omega))) _ (by unfold STe; omega)
        refine ih (upN hd e (hd e + 1)) E' _ (by rw [sumH_up he1]; omega) f2 ⟨⟨?_, a1.2.1, fun m hm => ⟨fun j hj => ?_, ?_⟩⟩, ?_, fun i hi => ?_, ?_, a5, fun z hz i hi q hq => ?_, a3, ?_⟩
        · rw [hI_wI, if_neg (by omega)]; exact a1.1
        · rw [hI_wI, if_neg (by omega)]; exact (a1.2.2 m hm).1 j hj
        · rw [hJ_wI]; exact (a1.2.2 m hm).2
        · rw [hI_wI, if_neg (by omega)]; exact a2
        · rw [hI_wI]
          unfold upN
          by_cases q : i = e
          · rw [if_pos ⟨rfl, q⟩, if_pos q]
            refine ⟨rfl, ?_⟩
            rw [q]; omega
          · rw [if_neg (by omega), if_neg q, f1.I (by unfold SEn; omega)]
            exact m3 i hi
        · refine (a4.trans (m4.append_right _)).trans (fm_one (List.range l.length) List.nodup_range (List.mem_range.mpr he1) (fun j hj => ?_)).symm
          unfold upN
          by_cases q : j = e
          · rw [if_pos q, if_pos q, q, kpR_succ he2]
          · rw [if_neg q, if_neg q]
        · -- entries stay ahead of what is to come
          have low : ∀ i, i < l.length → ∀ q ∈ (Ro x P (l.getD i 0)).drop (upN hd e (hd e + 1) i), q ∈ (Ro x P (l.getD i 0)).drop (hd i) := by
            intro i hi q hq
            unfold upN at hq
            by_cases y : i = e
            · rw [if_pos y] at hq
              rw [y] at hq ⊢
              rw [drop_mem (d := rec0) he2]
              exact List.mem_cons_of_mem _ hq
            · rw [if_neg y] at hq; exact hq
          rcases a6 z hz with y | y
          · exact m6 z y i hi q (low i hi q hq)
          · rw [y]
            have hq' := low i hi q hq
            have hlt : hd i < (Ro x P (l.getD i 0)).length := by
              rcases Nat.lt_or_ge (hd i) (Ro x P (l.getD i 0)).length with w | w
              · exact w
              · rw [List.drop_eq_nil_of_le w] at hq'; exact absurd hq' (by simp)
            refine Nat.le_trans (hmin i hi hlt) ?_
            have srt := Ro_sorted A (dmem i hi)
            rw [drop_mem (d := rec0) hlt] at hq'
            rcases List.mem_cons.mp hq' with w | w
            · rw [w]; exact Nat.le_refl _
            · have sd := srt.sublist (List.drop_sublist (hd i) _)
              rw [drop_mem (d := rec0) hlt, List.pairwise_cons] at sd
              exact sd.1 q w
        · rw [sumH_up he1]; omega
      have tl := tdB_lt (b := 0) (by decide) m7
      have tl' : tdB E < 256 := tl
      refine c_putEntry V K dl g3 g4 g2 bc m1 m2 m7 (by omega) (fun kp h1 f1 a1 a2 => ?_) (fun kp => ?_)
      · intro x9 e9
        have eo := enR_ok (bf := bChs (aD x) (l.take e)) g4 K.2 bc kp
        have td : tdB (E ++ [enR (aF x) (bChs (aD x) (l.take e)) ((Ro x P (l.getD e 0)).getD (hd e) rec0)]) = tdB E ||| (2 ^ aF x ((Ro x P (l.getD e 0)).getD (hd e) rec0 1) ||| 2 ^ aF x ((Ro x P (l.getD e 0)).getD (hd e) rec0 2)) := tdB_app _ _
        have p1 := pw_le (show aF x ((Ro x P (l.getD e 0)).getD (hd e) rec0 1) ≤ 7 by have := eo.2.1; have : aF x ((Ro x P (l.getD e 0)).getD (hd e) rec0 1) < 8 := this; omega)
        have p2 := pw_le (show aF x ((Ro x P (l.getD e 0)).getD (hd e) rec0 2) ≤ 7 by have := eo.2.2.1; have : aF x ((Ro x P (l.getD e 0)).getD (hd e) rec0 2) < 8 := this; omega)
        have p3 : 2 ^ aF x ((Ro x P (l.getD e 0)).getD (hd e) rec0 1) ||| 2 ^ aF x ((Ro x P (l.getD e 0)).getD (hd e) rec0 2) < 256 := Nat.or_lt_two_pow (n := 8) (by omega) (by omega)
        rw [n32_or (by omega) (by omega), ← td] at e9
        refine next _ h1 f1 a1 a2 (fun z hz => ?_) (by rw [if_pos kp]) ?_ (fun z hz => ?_) (by rw [List.length_append]; exact Nat.le_refl _) x9 e9
        · rw [List.mem_append, List.mem_singleton] at hz
          rcases hz with hz | hz
          · exact m7 z hz
          · rw [hz]; exact eo
        · rw [List.pairwise_append]
          refine ⟨m5, List.pairwise_singleton _ _, fun z hz w hw => ?_⟩
          rw [List.mem_singleton] at hw
          rw [hw]
          exact m6 z hz e he1 ((Ro x P (l.getD e 0)).getD (hd e) rec0) (by rw [drop_mem (d := rec0) he2]; exact List.mem_cons_self)
        · rw [List.mem_append, List.mem_singleton] at hz
          rcases hz with hz | hz
          · exact Or.inl hz
          · exact Or.inr (by rw [hz]; rfl)
      · intro x9 e9
        rw [show (0 : Int32) = n32 0 from rfl, n32_or (by omega) (by decide), Nat.or_zero] at e9
        exact next E h (fr.rf _ _) m1 m2 m7 (by rw [if_neg (by rw [kp]; simp), List.append_nil]) m5 (fun z hz => Or.inl hz) (by omega) x9 e9
    · rw [n32_m1 (by omega)] at y; exact y.elim
