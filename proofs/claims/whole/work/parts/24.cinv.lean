/-! WHAT THE CLASS'S CELLS HOLD -/
def DBlk (h : Hp) (a : Nat) : Prop := 108 ≤ a ∧ a + 5 ≤ hN h ∧ hT h a = (1, 0) ∧ hT h (a + 1) = (40, 96) ∧ hT h (a + 2) = (40, 216) ∧ hT h (a + 3) = (43, 36) ∧ hT h (a + 4) = (40, 36)
def LBlk (h : Hp) (a : Nat) : Prop := 108 ≤ a ∧ a + 2 ≤ hN h ∧ hT h a = (6, 0) ∧ hT h (a + 1) = (40, 96)
def BBlk (h : Hp) (a : Nat) : Prop := 108 ≤ a ∧ a + 2 ≤ hN h ∧ hT h a = (0, 0) ∧ hT h (a + 1) = (50, 6)
def CFam (x : Ab) (h : Hp) : Prop := ∀ k, k < 8 → hI h 1 k = n32 (aF x k) ∧ aF x k < 8
/-- an order of rows by days -/
def byD (L : List Rec) (p : List Nat) : Prop := p.Perm (List.range (cRows L).length) ∧ p.Pairwise (fun i j => ((cRows L).getD i rec0) 0 ≤ ((cRows L).getD j rec0) 0)
def CDeal (D : List Dl) (h : Hp) (d a : Nat) : Prop :=
  hI h a 1 = n32 (dG D d) ∧ hI h a 2 = n32 (dL D d).length ∧ hI h a 3 = n32 (dC D d) ∧ hI h a 4 = n32 (dE D d) ∧ hI h a 5 = n32 (thBits (dL D d)) ∧ hI h a 6 = n32 (cRows (dL D d)).length ∧
  (∀ k, k < (dL D d).length → ∀ w, w < 8 → hI h (a + 1) (8 * k + w) = n32 (((dL D d).getD k rec0) w)) ∧
  (∀ k, k < (cRows (dL D d)).length → (∀ j, j < 6 → hI h (a + 2) (6 * k + j) = n32 (((cRows (dL D d)).getD k rec0) j)) ∧ hJ h (a + 3) k = z64 (((cRows (dL D d)).getD k rec0) 6 : Nat)) ∧
  ∃ p, byD (dL D d) p ∧ ∀ k, k < (cRows (dL D d)).length → hI h (a + 4) k = n32 (p.getD k 0)
def CDeals (x : Ab) (da : Nat → Nat) (h : Hp) : Prop :=
  hI h 0 4 = n32 (aD x).length ∧ (aD x).length ≤ 24 ∧ (∀ d a, d < 24 → hR h 8 d = some a → DBlk h a ∧ hI h a 0 = n32 d) ∧ (∀ d, d < 24 → d > (aD x).length → hR h 8 d = none) ∧ ∀ d, d < (aD x).length → hR h 8 d = some (da d) ∧ CDeal (aD x) h d (da d)
def CTape (x : Ab) (h : Hp) : Prop := hI h 2 1 = n32 (aT x).length ∧ (aT x).length ≤ 600 ∧ ∀ k, k < (aT x).length → hI h 3 k = n32 ((aT x).getD k 0) ∧ (aT x).getD k 0 < 256
/-- a statement as the class keeps it -/
def CStm (r : Rec) (h : Hp) (c i : Nat) : Prop :=
  hI h c (6 * i) = n32 (r 0) ∧ hI h c (6 * i + 1) = pm (r 1) ∧ hI h c (6 * i + 2) = (if r 2 = 1 then n32 (r 3) else -1) ∧ (r 2 = 1 → hI h c (6 * i + 3) = pm (r 4)) ∧ hI h c (6 * i + 4) = n32 (r 5) ∧ hI h c (6 * i + 5) = pm (r 6)
def CRul (l : List Rec) (h : Hp) (a : Nat) : Prop := hI h a 1 = n32 l.length ∧ ∀ k, k < l.length → CStm (l.getD k rec0) h (a + 1) k ∧ okStm (l.getD k rec0)
def CTexts (l : List (List Rec)) (c m : Nat) (h : Hp) : Prop := l.length ≤ m ∧ (∀ i a, i < m → hR h c i = some a → LBlk h a) ∧ (∀ i, i < m → i > l.length → hR h c i = none) ∧ (∀ i j a, i < m → j < m → hR h c i = some a → hR h c j = some a → i = j) ∧ ∀ i, i < l.length → ∃ a, hR h c i = some a ∧ CRul (l.getD i nil0) h a
def CRefs (da : Nat → Nat) (c : Nat) (l : List Nat) (h : Hp) : Prop := ∀ k, k < l.length → hR h c k = some (da (l.getD k 0))
def CBun (x : Ab) (da : Nat → Nat) (h : Hp) : Prop := hI h 11 1 = n32 (aB x).length ∧ (aB x).length ≤ 6 ∧ CRefs da 12 (aB x) h ∧ inD x (aB x) ∧ (aB x).Nodup
def COff (x : Ab) (da : Nat → Nat) (h : Hp) : Prop := hI h 32 3 = n32 (aO x).length ∧ (aO x).length ≤ 10 ∧ CRefs da 33 (aO x) h ∧ inD x (aO x) ∧ (aO x).Nodup
def CHon (x : Ab) (da : Nat → Nat) (h : Hp) : Prop := hI h 0 12 = n32 (aH x).length ∧ (aH x).length ≤ 6 ∧ ∀ i, i < (aH x).length → ∃ a, hR h 13 i = some a ∧ BBlk h a ∧ hI h a 1 = n32 ((aH x).getD i []).length ∧ ((aH x).getD i []).length ≤ 6 ∧ CRefs da (a + 1) ((aH x).getD i []) h ∧ inD x ((aH x).getD i []) ∧ ((aH x).getD i []).Nodup
