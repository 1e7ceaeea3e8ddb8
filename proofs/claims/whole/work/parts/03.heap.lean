/-! THE PICTURE: a heap as three tables of numbers; typed values; what of the machine's heap it says -/
abbrev TV : Type := Int32 ⊕ Int64 ⊕ ((Nat × Nat) × Option Nat) ⊕ Nat
abbrev tI (x : Int32) : TV := Sum.inl x
abbrev tJ (x : Int64) : TV := Sum.inr (Sum.inl x)
abbrev tR (k n : Nat) (r : Option Nat) : TV := Sum.inr (Sum.inr (Sum.inl ((k, n), r)))
abbrev tS (i : Nat) : TV := Sum.inr (Sum.inr (Sum.inr i))
abbrev Hp : Type := Nat × (Nat → Nat × Nat) × (Nat → Nat → Int32) × (Nat → Nat → Int64) × (Nat → Nat → Option Nat)
def hN (h : Hp) : Nat := h.1
def hT (h : Hp) : Nat → Nat × Nat := h.2.1
def hI (h : Hp) : Nat → Nat → Int32 := h.2.2.1
def hJ (h : Hp) : Nat → Nat → Int64 := h.2.2.2.1
def hR (h : Hp) : Nat → Nat → Option Nat := h.2.2.2.2
def up2 {α : Type} (f : Nat → Nat → α) (a k : Nat) (v : α) : Nat → Nat → α := fun b j => if b = a ∧ j = k then v else f b j
def wI (h : Hp) (a k : Nat) (x : Int32) : Hp := (hN h, hT h, up2 (hI h) a k x, hJ h, hR h)
def wJ (h : Hp) (a k : Nat) (x : Int64) : Hp := (hN h, hT h, hI h, up2 (hJ h) a k x, hR h)
def wR (h : Hp) (a k : Nat) (x : Option Nat) : Hp := (hN h, hT h, hI h, hJ h, up2 (hR h) a k x)
def wT (h : Hp) (a : Nat) (t : Nat × Nat) : Hp := (hN h, va_up (hT h) a t, hI h, hJ h, hR h)
def nw (h : Hp) (t : Nat × Nat) : Hp := (hN h + 1, va_up (hT h) (hN h) t, va_up (hI h) (hN h) (fun _ => 0), va_up (hJ h) (hN h) (fun _ => 0), va_up (hR h) (hN h) (fun _ => none))
def cpI (h : Hp) (a sp b dp n : Nat) : Hp := (hN h, hT h, va_up (hI h) b (va_cpy (hI h a) (hI h b) sp dp n), hJ h, hR h)
/-- where the picture begins; the classes and slots; the array classes by kind; the String constants, their arrays (at 200 the script, at 300 a constant of the JDK's); the script's length and ints -/
abbrev Cx : Type := Nat × va_G × (Nat → ClassId) × (Nat → Nat) × (Nat → Nat) × Nat × (Nat → Int32)
def rb (G : Cx) (r : Option Nat) : Value := va_rf (r.map (fun a => G.1 + a))
def cv (G : Cx) (v : TV) : Value := match v with
  | .inl x => .int x
  | .inr (.inl x) => .long x
  | .inr (.inr (.inl q)) => rb G q.2
  | .inr (.inr (.inr i)) => .ref (if i < 100 then G.2.2.2.1 i else G.2.2.2.2.1 (i - 100))
def fv (G : Cx) (h : Hp) (ci a k : Nat) : Value := if fty ci k = 1 then .long (hJ h a k) else if fty ci k = 2 then rb G (hR h a k) else .int (hI h a k)
def ev (G : Cx) (h : Hp) (kind a j : Nat) : Value := if kind = 43 then .long (hJ h a j) else if kind < 43 then .int (hI h a j) else rb G (hR h a j)
def atO (G : Cx) (h : Hp) (ci a : Nat) (H : Heap) : Prop := t_OB (G.1 + a) (G.2.1.1 ci) (fnum ci) (G.2.1.2 ci) H (fv G h ci a)
def atA (G : Cx) (h : Hp) (kind n a : Nat) (H : Heap) : Prop := H[G.1 + a]? = some (arrV (G.2.2.1 kind) n (ev G h kind a))
def atc (G : Cx) (h : Hp) (a : Nat) (H : Heap) : Prop := if (hT h a).1 < 40 then atO G h ((hT h a).1 % 20) a H else atA G h (hT h a).1 (hT h a).2 a H
def WFa (h : Hp) (a : Nat) : Prop :=
  ((hT h a).1 < 40 → (hT h a).2 = 0) ∧
  ((hT h a).1 < 40 → ∀ k, k < fnum ((hT h a).1 % 20) → fty ((hT h a).1 % 20) k = 2 → ∀ b, hR h a k = some b → b < hN h ∧ (hT h b).1 = fref ((hT h a).1 % 20) k) ∧
  ((hT h a).1 < 20 → ∀ k b n, fcon (hT h a).1 k a = some (b, n) → hR h a k = some b ∧ hT h b = (fref (hT h a).1 k, n) ∧ b < hN h) ∧
  (50 ≤ (hT h a).1 → ∀ j b, hR h a j = some b → b < hN h ∧ hT h b = ((hT h a).1 - 50, 0) ∧ (hT h a).1 - 50 < 20)
def WF (h : Hp) : Prop := ∀ a, a < hN h → WFa h a
def Wd (G : Cx) (h : Hp) (H : Heap) : Prop := H.size = G.1 + hN h ∧ (∀ a, a < hN h → atc G h a H) ∧ WF h
def ty1 (h : Hp) (v : TV) : Prop := match v with
  | .inl _ => True
  | .inr (.inl _) => True
  | .inr (.inr (.inl q)) => ∀ b, q.2 = some b → b < hN h ∧ hT h b = q.1
  | .inr (.inr (.inr i)) => i < 16 ∨ (100 ≤ i ∧ i < 116) ∨ i = 300 ∨ i = 400
def tyL (h : Hp) : List TV → Prop
  | [] => True
  | v :: l => ty1 h v ∧ tyL h l
def tyO (h : Hp) : List (Option TV) → Prop
  | [] => True
  | none :: l => tyO h l
  | some v :: l => ty1 h v ∧ tyO h l
/-- nothing that was there has another kind -/
def ext (h h' : Hp) : Prop := hN h ≤ hN h' ∧ ∀ b, b < hN h → hT h' b = hT h b
theorem ext.rf (h : Hp) : ext h h := ⟨Nat.le_refl _, fun _ _ => rfl⟩
theorem ext.trans {a b c : Hp} (h1 : ext a b) (h2 : ext b c) : ext a c := ⟨Nat.le_trans h1.1 h2.1, fun q hq => (h2.2 q (Nat.lt_of_lt_of_le hq h1.1)).trans (h1.2 q hq)⟩
theorem ty1.ext {h h' : Hp} (e : ext h h') {v : TV} (t : ty1 h v) : ty1 h' v := by
  match v, t with
  | .inl _, _ => trivial
  | .inr (.inl _), _ => trivial
  | .inr (.inr (.inl q)), t => exact fun b hb => ⟨Nat.lt_of_lt_of_le (t b hb).1 e.1, (e.2 b (t b hb).1).trans (t b hb).2⟩
  | .inr (.inr (.inr i)), t => exact t
theorem tyL.ext {h h' : Hp} (e : ext h h') : ∀ {l : List TV}, tyL h l → tyL h' l
  | [], _ => trivial
  | _ :: _, t => ⟨t.1.ext e, tyL.ext e t.2⟩
theorem tyO.ext {h h' : Hp} (e : ext h h') : ∀ {l : List (Option TV)}, tyO h l → tyO h' l
  | [], _ => trivial
  | none :: l, t => tyO.ext (l := l) e (show tyO h l from t)
  | some _ :: l, t => ⟨t.1.ext e, tyO.ext (l := l) e t.2⟩
theorem fref_ok : ∀ ci k, fref ci k < 20 ∨ 40 ≤ fref ci k := by
  intro ci k
  have key : ∀ l ∈ frefL, ∀ x ∈ l, x < 20 ∨ 40 ≤ x := by decide +kernel
  unfold fref
  by_cases h1 : ci < frefL.length
  · have e1 : frefL.getD ci [] ∈ frefL := by
      rw [List.getD_eq_getElem?_getD, List.getElem?_eq_getElem h1]
      exact List.getElem_mem h1
    by_cases h2 : k < (frefL.getD ci []).length
    · refine key _ e1 _ ?_
      rw [List.getD_eq_getElem?_getD (l := frefL.getD ci []), List.getElem?_eq_getElem h2]
      exact List.getElem_mem h2
    · rw [List.getD_eq_getElem?_getD (l := frefL.getD ci []), List.getElem?_eq_none (Nat.not_lt.mp h2)]
      exact Or.inl (by decide)
  · have e1 : frefL.getD ci [] = [] := by
      rw [List.getD_eq_getElem?_getD, List.getElem?_eq_none (Nat.not_lt.mp h1)]
      rfl
    rw [e1]
    exact Or.inl (show 0 < 20 by decide)
theorem fty_lt {ci k : Nat} (h : fty ci k ≠ 9) : k < fnum ci := by
  rcases Nat.lt_or_ge k (fnum ci) with q | q
  · exact q
  · refine absurd ?_ h
    unfold fty
    rw [List.getD_eq_getElem?_getD (l := ftyL.getD ci []), List.getElem?_eq_none q]
    rfl
theorem up2_self {α : Type} (f : Nat → Nat → α) (a k : Nat) (v : α) : up2 f a k v a k = v := by simp [up2]
theorem up2_ne {α : Type} (f : Nat → Nat → α) {a k b j : Nat} (v : α) (h : ¬ (b = a ∧ j = k)) : up2 f a k v b j = f b j := by simp only [up2, if_neg h]
theorem up2_row {α : Type} (f : Nat → Nat → α) {a k b : Nat} (v : α) (h : b ≠ a) : up2 f a k v b = f b := by funext j; exact up2_ne f v (fun q => h q.1)
/-- another cell's picture doesn't change -/
theorem atc_same {G : Cx} {h h' : Hp} {b : Nat} {H H' : Heap} (hb : atc G h b H) (eT : hT h' b = hT h b) (eI : hI h' b = hI h b) (eJ : hJ h' b = hJ h b) (eR : hR h' b = hR h b) (eH : H'[G.1 + b]? = H[G.1 + b]?) : atc G h' b H' := by
  unfold atc at hb ⊢
  rw [eT]
  split
  · rename_i q
    rw [if_pos q] at hb
    unfold atO at hb ⊢
    have e : fv G h' ((hT h b).1 % 20) b = fv G h ((hT h b).1 % 20) b := by funext k; simp only [fv, eI, eJ, eR]
    rw [e]
    exact hb.kept eH
  · rename_i q
    rw [if_neg q] at hb
    unfold atA at hb ⊢
    have e : ev G h' (hT h b).1 b = ev G h (hT h b).1 b := by funext k; simp only [ev, eI, eJ, eR]
    rw [e, eH]
    exact hb
theorem atc_O {G : Cx} {h : Hp} {a ci : Nat} {H : Heap} (hk : (hT h a).1 = ci ∨ (hT h a).1 = 20 + ci) (hc : ci < 20) : atc G h a H ↔ atO G h ci a H := by
  unfold atc
  have h1 : (hT h a).1 < 40 := by omega
  have h2 : (hT h a).1 % 20 = ci := by omega
  rw [if_pos h1, h2]
theorem atc_A {G : Cx} {h : Hp} {a kind n : Nat} {H : Heap} (hk : hT h a = (kind, n)) (hc : 40 ≤ kind) : atc G h a H ↔ atA G h kind n a H := by
  unfold atc
  rw [hk]
  have h1 : ¬ kind < 40 := by omega
  simp only [if_neg h1]
theorem wd_set {G : Cx} {h h' : Hp} {a : Nat} {H H' : Heap} (hW : Wd G h H) (ez : H'.size = H.size) (eo : ∀ q : Nat, q ≠ G.1 + a → H'[q]? = H[q]?) (eN : hN h' = hN h) (eT : hT h' = hT h) (ho : ∀ b, b ≠ a → hI h' b = hI h b ∧ hJ h' b = hJ h b ∧ hR h' b = hR h b) (hF : WF h') (ha : a < hN h → atc G h' a H') : Wd G h' H' := by
  refine ⟨by rw [ez, eN]; exact hW.1, fun b hb => ?_, hF⟩
  by_cases hab : b = a
  · subst hab
    exact ha (by rw [← eN]; exact hb)
  · obtain ⟨e1, e2, e3⟩ := ho b hab
    exact atc_same (hW.2.1 b (by rw [← eN]; exact hb)) (by rw [eT]) e1 e2 e3 (eo _ (by omega))
theorem WF_of {h h' : Hp} (hF : WF h) (eN : hN h' = hN h) (eT : hT h' = hT h) (eR : hR h' = hR h) : WF h' := by
  intro a ha
  have q := hF a (by rw [← eN]; exact ha)
  unfold WFa at q ⊢
  rw [eN, eT, eR]
  exact q
