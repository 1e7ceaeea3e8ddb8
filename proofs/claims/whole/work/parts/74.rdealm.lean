/-! THE MODEL: deal -/
def S139 (d a k : Nat) : Prop := 53 ≤ a ∧ a ≤ 57 ∧ k = d ∨ a = 51 ∧ k = 1
set_option maxHeartbeats 4000000 in
set_option maxRecDepth 100000 in
theorem q_deal139 {d g : Nat} {h : Hp} {Q : Int32 → Hp → Prop} (hd : d < 24) (e1 : hI h 51 1 = n32 d) (e29 : hI h 51 29 = 0)
    (k : ∀ h', fr (S139 d) h h' → hI h' 53 d = hI h 51 33 → hI h' 54 d = n32 g → hI h' 55 d = hI h 51 34 → hI h' 56 d = hI h 51 35 → hI h' 57 d = hI h 51 36 → hI h' 51 1 = n32 (d + 1) → Q (n32 d) h') : m_X12_deal_139 Q (n32 g) h := by
  unfold m_X12_deal_139
  refine ⟨fun _ => ?_, fun z => absurd e29 z⟩
  have hx : ix (n32 d) = d := n32_ix (by omega)
  rw [e1, hx]
  refine ⟨vpI (by omega) (by decide), ?_⟩
  have f1 : fr (S139 d) h (wI h 53 d (hI h 51 33)) := fr_wI (fr.rf _ _) _ (by unfold S139; omega)
  have c53 : hI (wI h 53 d (hI h 51 33)) 53 d = hI h 51 33 := by rw [hI_wI, if_pos ⟨rfl, rfl⟩]
  have o1 : ∀ q, hI (wI h 53 d (hI h 51 33)) 51 q = hI h 51 q := fun q => by rw [hI_wI, if_neg (by omega)]
  generalize wI h 53 d (hI h 51 33) = h1 at f1 c53 o1
  rw [o1 1, e1, hx]
  refine ⟨vpI (by omega) (by decide), ?_⟩
  have f2 : fr (S139 d) h (wI h1 54 d (n32 g)) := fr_wI f1 _ (by unfold S139; omega)
  have d53 : hI (wI h1 54 d (n32 g)) 53 d = hI h 51 33 := by rw [hI_wI, if_neg (by omega)]; exact c53
  have d54 : hI (wI h1 54 d (n32 g)) 54 d = n32 g := by rw [hI_wI, if_pos ⟨rfl, rfl⟩]
  have o2 : ∀ q, hI (wI h1 54 d (n32 g)) 51 q = hI h 51 q := fun q => by rw [hI_wI, if_neg (by omega)]; exact o1 q
  generalize wI h1 54 d (n32 g) = h2 at f2 d53 d54 o2
  rw [o2 1, e1, hx]
  refine ⟨vpI (by omega) (by decide), ?_⟩
  have f3 : fr (S139 d) h (wI h2 55 d (hI h2 51 34)) := fr_wI f2 _ (by unfold S139; omega)
  have p53 : hI (wI h2 55 d (hI h2 51 34)) 53 d = hI h 51 33 := by rw [hI_wI, if_neg (by omega)]; exact d53
  have p54 : hI (wI h2 55 d (hI h2 51 34)) 54 d = n32 g := by rw [hI_wI, if_neg (by omega)]; exact d54
  have p55 : hI (wI h2 55 d (hI h2 51 34)) 55 d = hI h 51 34 := by rw [hI_wI, if_pos ⟨rfl, rfl⟩]; exact o2 34
  have o3 : ∀ q, hI (wI h2 55 d (hI h2 51 34)) 51 q = hI h 51 q := fun q => by rw [hI_wI, if_neg (by omega)]; exact o2 q
  generalize wI h2 55 d (hI h2 51 34) = h3 at f3 p53 p54 p55 o3
  rw [o3 1, e1, hx]
  refine ⟨vpI (by omega) (by decide), ?_⟩
  have f4 : fr (S139 d) h (wI h3 56 d (hI h3 51 35)) := fr_wI f3 _ (by unfold S139; omega)
  have q53 : hI (wI h3 56 d (hI h3 51 35)) 53 d = hI h 51 33 := by rw [hI_wI, if_neg (by omega)]; exact p53
  have q54 : hI (wI h3 56 d (hI h3 51 35)) 54 d = n32 g := by rw [hI_wI, if_neg (by omega)]; exact p54
  have q55 : hI (wI h3 56 d (hI h3 51 35)) 55 d = hI h 51 34 := by rw [hI_wI, if_neg (by omega)]; exact p55
  have q56 : hI (wI h3 56 d (hI h3 51 35)) 56 d = hI h 51 35 := by rw [hI_wI, if_pos ⟨rfl, rfl⟩]; exact o3 35
  have o4 : ∀ q, hI (wI h3 56 d (hI h3 51 35)) 51 q = hI h 51 q := fun q => by rw [hI_wI, if_neg (by omega)]; exact o3 q
  generalize wI h3 56 d (hI h3 51 35) = h4 at f4 q53 q54 q55 q56 o4
  rw [o4 1, e1, hx]
  refine ⟨vpI (by omega) (by decide), ?_⟩
  have f5 : fr (S139 d) h (wI h4 57 d (hI h4 51 36)) := fr_wI f4 _ (by unfold S139; omega)
  have s53 : hI (wI h4 57 d (hI h4 51 36)) 53 d = hI h 51 33 := by rw [hI_wI, if_neg (by omega)]; exact q53
  have s54 : hI (wI h4 57 d (hI h4 51 36)) 54 d = n32 g := by rw [hI_wI, if_neg (by omega)]; exact q54
  have s55 : hI (wI h4 57 d (hI h4 51 36)) 55 d = hI h 51 34 := by rw [hI_wI, if_neg (by omega)]; exact q55
  have s56 : hI (wI h4 57 d (hI h4 51 36)) 56 d = hI h 51 35 := by rw [hI_wI, if_neg (by omega)]; exact q56
  have s57 : hI (wI h4 57 d (hI h4 51 36)) 57 d = hI h 51 36 := by rw [hI_wI, if_pos ⟨rfl, rfl⟩]; exact o4 36
  have o5 : hI (wI h4 57 d (hI h4 51 36)) 51 1 = n32 d := by rw [hI_wI, if_neg (by omega), o4 1]; exact e1
  generalize wI h4 57 d (hI h4 51 36) = h5 at f5 s53 s54 s55 s56 s57 o5
  rw [o5, show n32 d + 1 = n32 (d + 1) from n32_add _ 1]
  have f6 : fr (S139 d) h (wI h5 51 1 (n32 (d + 1))) := fr_wI f5 _ (by unfold S139; omega)
  have v1 : hI (wI h5 51 1 (n32 (d + 1))) 51 1 = n32 (d + 1) := by rw [hI_wI, if_pos ⟨rfl, rfl⟩]
  have lowr : ∀ c, 53 ≤ c → hI (wI h5 51 1 (n32 (d + 1))) c d = hI h5 c d := fun c hc => by rw [hI_wI, if_neg (by omega)]
  rw [v1, show n32 (d + 1) - 1 = n32 d by rw [show (1 : Int32) = n32 1 from rfl, n32_sub (by omega)]; rfl]
  refine k _ f6 ?_ ?_ ?_ ?_ ?_ v1
  · rw [lowr 53 (by decide)]; exact s53
  · rw [lowr 54 (by decide)]; exact s54
  · rw [lowr 55 (by decide)]; exact s55
  · rw [lowr 56 (by decide)]; exact s56
  · rw [lowr 57 (by decide)]; exact s57
/-- cells that the reading of a text may change -/
def SAl (b a k : Nat) : Prop := SBg a k ∨ SDl b b a k ∨ a = 51 ∧ k = 37
theorem SAl_RefC (b : Nat) : ∀ a k, SAl b a k → RefC a k := by unfold SAl SBg SDl RefC; omega
theorem S139_RefC (d : Nat) : ∀ a k, S139 d a k → RefC a k := by unfold S139 RefC; omega
/-- a text was read, and it told no deal -/
theorem rd_inv {x : Ab} {h h' : Hp} {q : Nat} (I : InvR x h) (K : OkA x) (f : fr (SAl (96 * (aD x).length)) h h') (e21 : hI h' 51 21 = 0) (e22 : hI h' 51 22 = pm q) (hq : q ≤ 601) : InvR (stQ (stT x []) q) h' := by
  obtain ⟨r1, r2, r3, r4, r4', r5, r6, r7, r8, r9⟩ := I
  have o : ∀ a k, (a = 51 ∧ (k ≤ 20 ∨ 38 ≤ k) ∨ 52 ≤ a ∧ a ≤ 57 ∨ 74 ≤ a) → hI h' a k = hI h a k := fun a k hk => f.I (by unfold SAl SBg SDl; omega)
  refine ⟨r1.mv (fun j => o _ _ (by omega)), ?_, ⟨e21, Nat.zero_le _, fun k hk => absurd hk (by show ¬ k < 0; omega)⟩, e22, hq, r5.mv (o _ _ (by omega)) (fun j => o _ _ (by omega)) (fun b j h1 h2 => o b j (by omega)), r6.mv (o _ _ (by omega)) (fun j => o _ _ (by omega)) (fun b j h1 h2 => o b j (by omega)), r7.mv (o _ _ (by omega)) (fun j => o _ _ (by omega)), r8.mv (o _ _ (by omega)) (fun j => o _ _ (by omega)), r9.mv (o _ _ (by omega)) (fun j => o _ _ (by omega)) (fun j => o _ _ (by omega))⟩
  refine ⟨by rw [o 51 1 (by omega)]; exact r2.1, r2.2.1, fun d hd => ?_⟩
  have hd' : d < (aD x).length := hd
  obtain ⟨a1, a2, a3, a4, a5, a6⟩ := r2.2.2 d hd'
  have hN := (K.1 d hd').1.2.2.1
  refine ⟨?_, ?_, ?_, ?_, ?_, fun i h1 h2 => ?_⟩
  · rw [o 53 d (by omega)]; exact a1
  · rw [o 54 d (by omega)]; exact a2
  · rw [o 55 d (by omega)]; exact a3
  · rw [o 56 d (by omega)]; exact a4
  · rw [o 57 d (by omega)]; exact a5
  · have h2' : i < sN (dS (aD x) d) := h2
    refine (a6 i h1 h2').mvd (fun _ => rfl) (fun c c1 c2 => f.I ?_)
    unfold SAl SBg SDl
    omega
theorem dS_old {D : List Dl} {e : Dl} {d : Nat} (h : d < D.length) : dS (D ++ [e]) d = dS D d := by
  unfold dS
  rw [List.getD_eq_getElem?_getD, List.getElem?_append_left h, ← List.getD_eq_getElem?_getD]
theorem dG_old {D : List Dl} {e : Dl} {d : Nat} (h : d < D.length) : dG (D ++ [e]) d = dG D d := by
  unfold dG
  rw [List.getD_eq_getElem?_getD, List.getElem?_append_left h, ← List.getD_eq_getElem?_getD]
theorem dS_new {D : List Dl} {e : Dl} : dS (D ++ [e]) D.length = run (96 * D.length) e.1 := by
  unfold dS
  rw [List.getD_eq_getElem?_getD, List.getElem?_append_right (Nat.le_refl _)]
  simp
theorem dG_new {D : List Dl} {e : Dl} : dG (D ++ [e]) D.length = e.2 := by
  unfold dG
  rw [List.getD_eq_getElem?_getD, List.getElem?_append_right (Nat.le_refl _)]
  simp
/-- what a deal's text tells: a fault's place or all events -/
def dlR (x : Ab) (n : Nat) : Option (Nat ⊕ List Ev) := mac (txt x n) (96 * (aD x).length) (n + 1) 0 (tok (txt x n) 0) []
def ansDeal (x : Ab) (v1 v2 : Int32) : Int32 := match argN v1 ((aT x).length + 1), argN v2 400 with
  | some n, some _ => if (aD x).length = 24 then -3 else (match dlR x n with
    | some (.inr _) => n32 (aD x).length
    | _ => -1)
  | _, _ => -2
def nxDeal (x : Ab) (v1 v2 : Int32) : Ab := match argN v1 ((aT x).length + 1), argN v2 400 with
  | some n, some g => if (aD x).length = 24 then x else (match dlR x n with
    | some (.inr E) => stD (stQ (stT x []) 0) (aD x ++ [(E, g)])
    | some (.inl e) => stQ (stT x []) (e + 1)
    | none => x)
  | _, _ => x
