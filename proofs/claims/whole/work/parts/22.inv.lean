/-! WHAT THE MODEL'S CELLS HOLD -/
def RFam (x : Ab) (h : Hp) : Prop := ∀ k, k < 8 → hI h 52 k = n32 (aF x k) ∧ aF x k < 8
/-- a deal's nodes in the Model's rows -/
def RNode (s : St) (h : Hp) (i : Nat) : Prop :=
  hI h 58 i = n32 (sD s 58 i) ∧ hI h 59 i = n32 (sD s 59 i) ∧ hI h 60 i = pm (sD s 60 i) ∧ hI h 61 i = n32 (sD s 61 i) ∧ hI h 62 i = n32 (sD s 62 i) ∧ hI h 63 i = pm (sD s 63 i) ∧
  (sD s 58 i < 4 → hI h 64 i = n32 (sD s 64 i) ∧ hI h 65 i = n32 (sD s 65 i) ∧ hI h 66 i = n32 (sD s 66 i) ∧ hI h 67 i = n32 (sD s 67 i) ∧ hI h 68 i = n32 (sD s 68 i) ∧ hI h 69 i = n32 (sD s 69 i) ∧ hI h 70 i = n32 (sD s 70 i))
def RDeal (D : List Dl) (h : Hp) (d : Nat) : Prop :=
  hI h 53 d = n32 (sN (dS D d) - 96 * d) ∧ hI h 54 d = n32 (dG D d) ∧ hI h 55 d = n32 (dL D d).length ∧ hI h 56 d = n32 (dC D d) ∧ hI h 57 d = n32 (dE D d) ∧ ∀ i, 96 * d ≤ i → i < sN (dS D d) → RNode (dS D d) h i
def RDeals (x : Ab) (h : Hp) : Prop := hI h 51 1 = n32 (aD x).length ∧ (aD x).length ≤ 24 ∧ ∀ d, d < (aD x).length → RDeal (aD x) h d
def byteOf (b : Nat) : Int32 := (n32 b).toInt8.toInt32
def RTape (x : Ab) (h : Hp) : Prop := hI h 51 21 = n32 (aT x).length ∧ (aT x).length ≤ 600 ∧ ∀ k, k < (aT x).length → hI h 71 k = byteOf ((aT x).getD k 0) ∧ (aT x).getD k 0 < 256
def RStm (r : Rec) (h : Hp) (i : Nat) : Prop :=
  hI h 93 i = n32 (r 0) ∧ hI h 94 i = pm (r 1) ∧ hI h 99 i = n32 (r 2) ∧ hI h 97 i = n32 (r 5) ∧ hI h 98 i = pm (r 6) ∧ (r 2 = 1 → hI h 95 i = n32 (r 3) ∧ hI h 96 i = pm (r 4))
def okStm (r : Rec) : Prop := r 0 < 5 ∧ r 1 < 7 ∧ r 2 < 2 ∧ r 3 < 5 ∧ r 4 < 7 ∧ r 5 < 8 ∧ r 6 < 10001 ∧ (r 2 = 0 → r 5 = 0 ∧ r 6 = 0)
def nil0 : List Rec := []
def rec0 : Rec := fun _ => 0
def RLaws (x : Ab) (h : Hp) : Prop := hI h 51 67 = n32 (aL x).length ∧ (aL x).length ≤ 6 ∧ ∀ l, l < (aL x).length → hI h 91 l = n32 ((aL x).getD l nil0).length ∧ ((aL x).getD l nil0).length ≤ 16 ∧ ∀ k, k < ((aL x).getD l nil0).length → RStm (((aL x).getD l nil0).getD k rec0) h (16 * l + k) ∧ okStm (((aL x).getD l nil0).getD k rec0)
def RWords (x : Ab) (h : Hp) : Prop := hI h 51 68 = n32 (aW x).length ∧ (aW x).length ≤ 12 ∧ ∀ l, l < (aW x).length → hI h 92 l = n32 ((aW x).getD l nil0).length ∧ ((aW x).getD l nil0).length ≤ 12 ∧ ∀ k, k < ((aW x).getD l nil0).length → RStm (((aW x).getD l nil0).getD k rec0) h (96 + 12 * l + k) ∧ okStm (((aW x).getD l nil0).getD k rec0)
def RRow (c : Nat) (l : List Nat) (h : Hp) : Prop := ∀ k, k < l.length → hI h c k = n32 (l.getD k 0)
def inD (x : Ab) (l : List Nat) : Prop := ∀ d ∈ l, d < (aD x).length
def RBun (x : Ab) (h : Hp) : Prop := hI h 51 54 = n32 (aB x).length ∧ (aB x).length ≤ 6 ∧ RRow 84 (aB x) h ∧ inD x (aB x) ∧ (aB x).Nodup
def ROff (x : Ab) (h : Hp) : Prop := hI h 51 83 = n32 (aO x).length ∧ (aO x).length ≤ 10 ∧ RRow 102 (aO x) h ∧ inD x (aO x) ∧ (aO x).Nodup
def RHon (x : Ab) (h : Hp) : Prop := hI h 51 88 = n32 (aH x).length ∧ (aH x).length ≤ 6 ∧ ∀ i, i < (aH x).length → hI h 104 i = n32 ((aH x).getD i []).length ∧ ((aH x).getD i []).length ≤ 6 ∧ (∀ k, k < ((aH x).getD i []).length → hI h 105 (6 * i + k) = n32 (((aH x).getD i []).getD k 0)) ∧ inD x ((aH x).getD i []) ∧ ((aH x).getD i []).Nodup
def InvR (x : Ab) (h : Hp) : Prop := RFam x h ∧ RDeals x h ∧ RTape x h ∧ hI h 51 22 = pm (aQ x) ∧ aQ x ≤ 601 ∧ RLaws x h ∧ RWords x h ∧ RBun x h ∧ ROff x h ∧ RHon x h
/-- the Model's cells that last -/
def Last (a k : Nat) : Prop := 51 ≤ a ∧ a ≤ 107 ∧ (a = 51 ∧ (k = 1 ∨ k = 21 ∨ k = 22 ∨ k = 54 ∨ k = 67 ∨ k = 68 ∨ k = 83 ∨ k = 88) ∨ 52 ≤ a ∧ a ≤ 71 ∨ a = 84 ∨ 91 ≤ a ∧ a ≤ 99 ∨ a = 102 ∨ a = 104 ∨ a = 105)
/-- the Model's other cells -/
def Scr (a k : Nat) : Prop := 51 ≤ a ∧ a ≤ 107 ∧ ¬ Last a k
theorem RNode.fr {s : St} {h h' : Hp} {i : Nat} (f : ∀ a k, Last a k → hI h' a k = hI h a k) (r : RNode s h i) : RNode s h' i := by
  unfold RNode at r ⊢
  rw [f 58 i (by unfold Last; omega), f 59 i (by unfold Last; omega), f 60 i (by unfold Last; omega), f 61 i (by unfold Last; omega), f 62 i (by unfold Last; omega), f 63 i (by unfold Last; omega), f 64 i (by unfold Last; omega), f 65 i (by unfold Last; omega), f 66 i (by unfold Last; omega), f 67 i (by unfold Last; omega), f 68 i (by unfold Last; omega), f 69 i (by unfold Last; omega), f 70 i (by unfold Last; omega)]
  exact r
theorem RStm.fr {s : Rec} {h h' : Hp} {i : Nat} (f : ∀ a k, Last a k → hI h' a k = hI h a k) (r : RStm s h i) : RStm s h' i := by
  unfold RStm at r ⊢
  rw [f 93 i (by unfold Last; omega), f 94 i (by unfold Last; omega), f 95 i (by unfold Last; omega), f 96 i (by unfold Last; omega), f 97 i (by unfold Last; omega), f 98 i (by unfold Last; omega), f 99 i (by unfold Last; omega)]
  exact r
theorem InvR.same {x : Ab} {h h' : Hp} (f : ∀ a k, Last a k → hI h' a k = hI h a k) (r : InvR x h) : InvR x h' := by
  obtain ⟨r1, r2, r3, r4, r4', r5, r6, r7, r8, r9⟩ := r
  refine ⟨fun k hk => ?_, ⟨?_, r2.2.1, fun d hd => ?_⟩, ⟨?_, r3.2.1, fun k hk => ?_⟩, ?_, r4', ⟨?_, r5.2.1, fun l hl => ?_⟩, ⟨?_, r6.2.1, fun l hl => ?_⟩, ⟨?_, r7.2.1, fun k hk => ?_, r7.2.2.2⟩, ⟨?_, r8.2.1, fun k hk => ?_, r8.2.2.2⟩, ⟨?_, r9.2.1, fun i hi => ?_⟩⟩
  · rw [f 52 k (by unfold Last; omega)]; exact r1 k hk
  · rw [f 51 1 (by unfold Last; omega)]; exact r2.1
  · obtain ⟨a1, a2, a3, a4, a5, a6⟩ := r2.2.2 d hd
    refine ⟨?_, ?_, ?_, ?_, ?_, fun i h1 h2 => (a6 i h1 h2).fr f⟩
    · rw [f 53 d (by unfold Last; omega)]; exact a1
    · rw [f 54 d (by unfold Last; omega)]; exact a2
    · rw [f 55 d (by unfold Last; omega)]; exact a3
    · rw [f 56 d (by unfold Last; omega)]; exact a4
    · rw [f 57 d (by unfold Last; omega)]; exact a5
  · rw [f 51 21 (by unfold Last; omega)]; exact r3.1
  · rw [f 71 k (by unfold Last; omega)]; exact r3.2.2 k hk
  · rw [f 51 22 (by unfold Last; omega)]; exact r4
  · rw [f 51 67 (by unfold Last; omega)]; exact r5.1
  · obtain ⟨a1, a2, a3⟩ := r5.2.2 l hl
    exact ⟨by rw [f 91 l (by unfold Last; omega)]; exact a1, a2, fun k hk => ⟨(a3 k hk).1.fr f, (a3 k hk).2⟩⟩
  · rw [f 51 68 (by unfold Last; omega)]; exact r6.1
  · obtain ⟨a1, a2, a3⟩ := r6.2.2 l hl
    exact ⟨by rw [f 92 l (by unfold Last; omega)]; exact a1, a2, fun k hk => ⟨(a3 k hk).1.fr f, (a3 k hk).2⟩⟩
  · rw [f 51 54 (by unfold Last; omega)]; exact r7.1
  · rw [f 84 k (by unfold Last; omega)]; exact r7.2.2.1 k hk
  · rw [f 51 83 (by unfold Last; omega)]; exact r8.1
  · rw [f 102 k (by unfold Last; omega)]; exact r8.2.2.1 k hk
  · rw [f 51 88 (by unfold Last; omega)]; exact r9.1
  · obtain ⟨a1, a2, a3, a4⟩ := r9.2.2 i hi
    exact ⟨by rw [f 104 i (by unfold Last; omega)]; exact a1, a2, fun k hk => by rw [f 105 _ (by unfold Last; omega)]; exact a3 k hk, a4⟩
theorem InvR.fr {x : Ab} {h h' : Hp} (f : fr Scr h h') (r : InvR x h) : InvR x h' := r.same (fun a k q => f.I (fun z => z.2.2 q))
