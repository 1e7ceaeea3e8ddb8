/-! NEW OBJECTS: the heap by rows of what was written -/
def lkT : List (Nat × (Nat × Nat)) → Nat → Nat × Nat
  | [], _ => (0, 0)
  | e :: l, a => if a = e.1 then e.2 else lkT l a
def lkR : List ((Nat × Nat) × Nat) → Nat → Nat → Option Nat
  | [], _, _ => none
  | e :: l, a, k => if a = e.1.1 ∧ k = e.1.2 then some e.2 else lkR l a k
def lkI : List ((Nat × Nat) × Int32) → Nat → Nat → Int32
  | [], _, _ => 0
  | e :: l, a, k => if a = e.1.1 ∧ k = e.1.2 then e.2 else lkI l a k
theorem lkR_no {a : Nat} : ∀ {l : List ((Nat × Nat) × Nat)}, (∀ e ∈ l, e.1.1 ≠ a) → ∀ k, lkR l a k = none
  | [], _, _ => rfl
  | e :: l, h, k => by rw [lkR, if_neg (fun z => h e (by simp) z.1.symm)]; exact lkR_no (fun q hq => h q (by simp [hq])) k
theorem lkI_no {a : Nat} : ∀ {l : List ((Nat × Nat) × Int32)}, (∀ e ∈ l, e.1.1 ≠ a) → ∀ k, lkI l a k = 0
  | [], _, _ => rfl
  | e :: l, h, k => by rw [lkI, if_neg (fun z => h e (by simp) z.1.symm)]; exact lkI_no (fun q hq => h q (by simp [hq])) k
def Rl (n : Nat) (Lt : List (Nat × (Nat × Nat))) (Lr : List ((Nat × Nat) × Nat)) (Li : List ((Nat × Nat) × Int32)) (h : Hp) : Prop :=
  hN h = n ∧ (∀ a, hT h a = lkT Lt a) ∧ (∀ a k, hR h a k = lkR Lr a k) ∧ (∀ a k, hI h a k = lkI Li a k) ∧ (∀ a k, hJ h a k = 0) ∧ (∀ e ∈ Lr, e.1.1 < n) ∧ ∀ e ∈ Li, e.1.1 < n
theorem Rl.nw {n m : Nat} {Lt : List (Nat × (Nat × Nat))} {Lr : List ((Nat × Nat) × Nat)} {Li : List ((Nat × Nat) × Int32)} {h h2 : Hp} {t : Nat × Nat} (R : Rl n Lt Lr Li h) (e : h2 = nw h t) (hm : m = n + 1) : Rl m ((n, t) :: Lt) Lr Li h2 := by
  obtain ⟨r1, r2, r3, r4, r5, r6, r7⟩ := R
  subst e; subst hm
  refine ⟨by rw [hN_nw, r1], fun a => ?_, fun a k => ?_, fun a k => ?_, fun a k => ?_, fun q hq => ?_, fun q hq => ?_⟩
  · rw [hT_nw, lkT, r1, r2 a]
  · rw [hR_nw, r1]
    by_cases q : a = n
    · rw [if_pos q, lkR_no (fun e he => by have := r6 e he; omega)]
    · rw [if_neg q]; exact r3 a k
  · rw [hI_nw, r1]
    by_cases q : a = n
    · rw [if_pos q, lkI_no (fun e he => by have := r7 e he; omega)]
    · rw [if_neg q]; exact r4 a k
  · rw [hJ_nw, r5 a k]; split <;> rfl
  · have := r6 q hq; omega
  · have := r7 q hq; omega
theorem Rl.wR {n : Nat} {Lt : List (Nat × (Nat × Nat))} {Lr : List ((Nat × Nat) × Nat)} {Li : List ((Nat × Nat) × Int32)} {h : Hp} (R : Rl n Lt Lr Li h) (a k b : Nat) (ha : a < n) : Rl n Lt (((a, k), b) :: Lr) Li (wR h a k (some b)) := by
  obtain ⟨r1, r2, r3, r4, r5, r6, r7⟩ := R
  refine ⟨r1, r2, fun c j => ?_, fun c j => by rw [hI_wR]; exact r4 c j, fun c j => by rw [hJ_wR]; exact r5 c j, fun q hq => ?_, r7⟩
  · rw [hR_wR, lkR, r3 c j]
  · rw [List.mem_cons] at hq
    rcases hq with rfl | hq
    · exact ha
    · exact r6 q hq
theorem Rl.wI {n : Nat} {Lt : List (Nat × (Nat × Nat))} {Lr : List ((Nat × Nat) × Nat)} {Li : List ((Nat × Nat) × Int32)} {h : Hp} (R : Rl n Lt Lr Li h) (a k : Nat) (v : Int32) (ha : a < n) : Rl n Lt Lr (((a, k), v) :: Li) (wI h a k v) := by
  obtain ⟨r1, r2, r3, r4, r5, r6, r7⟩ := R
  refine ⟨r1, r2, fun c j => by rw [hR_wI]; exact r3 c j, fun c j => ?_, fun c j => by rw [hJ_wI]; exact r5 c j, r6, fun q hq => ?_⟩
  · rw [hI_wI, lkI, r4 c j]
  · rw [List.mem_cons] at hq
    rcases hq with rfl | hq
    · exact ha
    · exact r7 q hq
theorem Rl.wT {n : Nat} {Lt : List (Nat × (Nat × Nat))} {Lr : List ((Nat × Nat) × Nat)} {Li : List ((Nat × Nat) × Int32)} {h h2 : Hp} {a : Nat} {t : Nat × Nat} (R : Rl n Lt Lr Li h) (e : h2 = wT h a t) : Rl n ((a, t) :: Lt) Lr Li h2 := by
  obtain ⟨r1, r2, r3, r4, r5, r6, r7⟩ := R
  subst e
  exact ⟨r1, fun c => by rw [hT_wT, lkT, r2 c], r3, r4, r5, r6, r7⟩
def sealB (n : Nat) (Lt : List (Nat × (Nat × Nat))) (Lr : List ((Nat × Nat) × Nat)) (a ci : Nat) : Bool := (List.range (fconL.getD ci []).length).all (fun k => match fcon ci k a with
  | none => true
  | some (b, m) => decide (lkR Lr a k = some b ∧ lkT Lt b = (fref ci k, m) ∧ b < n))
theorem seal_of {n : Nat} {Lt : List (Nat × (Nat × Nat))} {Lr : List ((Nat × Nat) × Nat)} {Li : List ((Nat × Nat) × Int32)} {h : Hp} {a ci : Nat} (R : Rl n Lt Lr Li h) (hb : sealB n Lt Lr a ci = true) : sealOK h a ci := by
  intro k b m hc
  by_cases q : k < (fconL.getD ci []).length
  · have := List.all_eq_true.mp hb k (List.mem_range.mpr q)
    rw [hc] at this
    have := of_decide_eq_true this
    exact ⟨(R.2.2.1 a k).trans this.1, (R.2.1 b).trans this.2.1, by rw [R.1]; exact this.2.2⟩
  · exfalso
    unfold fcon at hc
    rw [List.getD_eq_getElem?_getD, List.getElem?_eq_none (by omega)] at hc
    exact absurd hc (by show ¬ none = some (b, m); simp)
def addE (c : Nat) : Nat → Nat → List ((Nat × Nat) × Int32) → List ((Nat × Nat) × Int32)
  | 0, _, l => l
  | r + 1, i, l => addE c r (i + 1) (((c, i), n32 i) :: l)
theorem i163 {n : Nat} {Lt : List (Nat × (Nat × Nat))} {Lr : List ((Nat × Nat) × Nat)} {Q : Hp → Prop} (h1 : 1 < n) (r0 : lkR Lr 0 0 = some 1) (t1 : lkT Lt 1 = (40, 8)) : ∀ (r i : Nat) (Li : List ((Nat × Nat) × Int32)) (h : Hp), r + i = 8 → Rl n Lt Lr Li h → (∀ h', Rl n Lt Lr (addE 1 r i Li) h' → Q h') → m_X11_init_163 (r + 1) Q 0 (n32 i) h := by
  intro r
  induction r with
  | zero =>
    intro i Li h hr R k
    rw [m_X11_init_163, show (8 : Int32) = n32 8 from rfl, n32_le (by omega) (by omega)]
    exact ⟨fun _ => k h R, fun z => absurd (by omega) z⟩
  | succ r ih =>
    intro i Li h hr R k
    rw [m_X11_init_163, show (8 : Int32) = n32 8 from rfl, n32_le (by omega) (by omega), n32_ix (by omega)]
    refine ⟨fun z => absurd z (by omega), fun _ => ⟨(R.2.2.1 _ _).trans r0, (R.2.1 _).trans t1, vpI (by omega) (by decide), fun x1 e1 => ?_⟩⟩
    rw [e1, show n32 i + 1 = n32 (i + 1) from n32_add _ 1]
    exact ih (i + 1) _ _ (by omega) (R.wI 1 i (n32 i) h1) k
theorem i488 {n : Nat} {Lt : List (Nat × (Nat × Nat))} {Lr : List ((Nat × Nat) × Nat)} {Q : Hp → Prop} (h1 : 52 < n) (r0 : lkR Lr 51 0 = some 52) (t1 : lkT Lt 52 = (40, 8)) : ∀ (r i : Nat) (Li : List ((Nat × Nat) × Int32)) (h : Hp), r + i = 8 → Rl n Lt Lr Li h → (∀ h', Rl n Lt Lr (addE 52 r i Li) h' → Q h') → m_X12_init_488 (r + 1) Q 51 (n32 i) h := by
  intro r
  induction r with
  | zero =>
    intro i Li h hr R k
    rw [m_X12_init_488, show (8 : Int32) = n32 8 from rfl, n32_le (by omega) (by omega)]
    exact ⟨fun _ => k h R, fun z => absurd (by omega) z⟩
  | succ r ih =>
    intro i Li h hr R k
    rw [m_X12_init_488, show (8 : Int32) = n32 8 from rfl, n32_le (by omega) (by omega), n32_ix (by omega)]
    refine ⟨fun z => absurd z (by omega), fun _ => ⟨(R.2.2.1 _ _).trans r0, (R.2.1 _).trans t1, vpI (by omega) (by decide), fun x1 e1 => ?_⟩⟩
    rw [e1, show n32 i + 1 = n32 (i + 1) from n32_add _ 1]
    exact ih (i + 1) _ _ (by omega) (R.wI 52 i (n32 i) h1) k
theorem Rl0 : Rl 0 [] [] [] h0e := ⟨rfl, fun _ => rfl, fun _ _ => rfl, fun _ _ => rfl, fun _ _ => rfl, fun e he => absurd he (by simp), fun e he => absurd he (by simp)⟩
