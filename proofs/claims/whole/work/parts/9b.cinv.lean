/-! THE CLASS: what its cells hold between calls -/
/-- a row of deals, at a bundle's place -/
def CBd (x : Ab) (da : Nat → Nat) (a : Nat) (l : List Nat) (h : Hp) : Prop := hI h a 1 = n32 l.length ∧ l.length ≤ 6 ∧ CRefs da (a + 1) l h ∧ inD x l
/-- a bundle that is kept -/
def BBk (h : Hp) (a : Nat) : Prop := 108 ≤ a ∧ a + 2 ≤ hN h ∧ hT h a = (0, 0) ∧ hT h (a + 1) = (51, 6)
def CHn (x : Ab) (da : Nat → Nat) (h : Hp) : Prop := hI h 0 12 = n32 (aH x).length ∧ (aH x).length ≤ 6 ∧ ∀ i, i < (aH x).length → ∃ a, hR h 13 i = some a ∧ BBk h a ∧ hI h a 1 = n32 ((aH x).getD i []).length ∧ ((aH x).getD i []).length ≤ 6 ∧ CRefs da (a + 1) ((aH x).getD i []) h ∧ inD x ((aH x).getD i []) ∧ ((aH x).getD i []).Nodup
/-- deals and families as they can be read -/
def CVw (x : Ab) (da : Nat → Nat) (h : Hp) : Prop := CFam x h ∧ (aD x).length ≤ 24 ∧ ∀ d, d < (aD x).length → CDeal (aD x) h d (da d) ∧ 108 ≤ da d
def CPln (x : Ab) (da : Nat → Nat) (h : Hp) : Prop := ∀ d, d < (aD x).length → ∃ hd, hI h (da d) 7 = n32 (FS (sD (dS (aD x) d)) hd (96 * d) (sN (dS (aD x) d))) ∧ hI h (da d) 8 = n32 ((FC (sD (dS (aD x) d)) hd (96 * d) (sN (dS (aD x) d))).count 0)
/-- what is kept of the bundle: lends, prices, the loan, the least -/
def talP (x : Ab) (l b : Nat) (g : Bool) : Nat × Nat := prA (aF x) (aD x) (aB x) l b g
def TalA (x : Ab) (h : Hp) : Prop := hI h 26 1 = pm (loanV (loanP (aF x) (aD x) (aB x))) ∧ (∀ l b, l < 8 → b < 8 → hI h 27 (8 * l + b) = n32 (lendN (aF x) (aD x) (aB x) l b)) ∧
  (∀ l b, l < 8 → b < 8 → lendN (aF x) (aD x) (aB x) l b ≠ 0 → ∀ w, w < 4 → hJ h 28 (4 * (8 * l + b) + w) = z64 ((if w % 2 = 0 then (talP x l b (decide (2 ≤ w))).1 else (talP x l b (decide (2 ≤ w))).2) / Nat.gcd (talP x l b (decide (2 ≤ w))).1 (talP x l b (decide (2 ≤ w))).2 : Nat)) ∧
  ∀ l, l < 8 → loanP (aF x) (aD x) (aB x) ≠ none → l = (loanV (loanP (aF x) (aD x) (aB x)) - 1) / 10 → hJ h 29 l = z64 ((codesL (aD x) (aB x)).foldl (leastS (aF x) (aD x) (aB x) l) 0)
def CTal (x : Ab) (h : Hp) : Prop := hI h 26 0 = 0 ∨ hI h 26 0 = 1 ∧ pop (bEvs (aD x) (aB x)) + bChs (aD x) (aB x) ≤ 8 ∧ TalA x h
/-- what is kept of searches -/
def lnV (x : Ab) (s : Nat) : Nat := if loanN (aF x) (aD x) (subL (aO x) s) = 0 then 1 else 2
def CWgh (x : Ab) (h : Hp) : Prop := ∀ s, s < 1024 → hI h 35 s = 0 ∨ s < 2 ^ (aO x).length ∧ hI h 35 s = n32 (lnV x s)
def SlyF (x : Ab) (r : Nat) (fl : List Nat) (h : Hp) : Prop := hI h 32 5 = n32 fl.length ∧ fl.length ≤ 1024 ∧ (∀ j, j < fl.length → hI h 34 j = n32 (fl.getD j 0)) ∧ fl.Perm (slyAll x r)
def CSea (x : Ab) (h : Hp) : Prop := CWgh x h ∧ ∃ r, r ≤ 6 ∧ hI h 32 6 = n32 r ∧ (r = 0 ∨ ∃ fl, SlyF x r fl h)
def CTx (x : Ab) (h : Hp) : Prop := hI h 0 6 = n32 (aL x).length ∧ CTexts (aL x) 9 6 h ∧ hI h 0 8 = n32 (aW x).length ∧ CTexts (aW x) 10 12 h ∧ ∀ i j a, i < 6 → j < 12 → hR h 9 i = some a → hR h 10 j = some a → False
def CFlt (x : Ab) (h : Hp) : Prop := hI h 0 9 = pm (aQ x) ∧ aQ x ≤ 601
def CTdy (h : Hp) : Prop := ∀ f, f < 8 → hJ h 23 f = 0
/-- the sums of none picked -/
def CSm (h : Hp) : Prop := ∀ j, j < 48 → hJ h 42 j = 0
def InvC (x : Ab) (da : Nat → Nat) (h : Hp) : Prop :=
  108 ≤ hN h ∧ CFam x h ∧ CDeals x da h ∧ CTape x h ∧ CFlt x h ∧ CTx x h ∧ CBun x da h ∧ COff x da h ∧ CHn x da h ∧ CPln x da h ∧ CTal x h ∧ CSea x h ∧ CTdy h ∧ CSm h
/-- the class's cells are the same -/
def sameC (h h' : Hp) : Prop := hN h' = hN h ∧ hT h' = hT h ∧ ∀ a k, (a < 51 ∨ 107 < a) → hI h' a k = hI h a k ∧ hJ h' a k = hJ h a k ∧ hR h' a k = hR h a k
theorem sameC.of {h h' : Hp} (f : fr RefC h h') : sameC h h' := ⟨f.1, f.2.1, fun a k q => f.2.2 a k (by unfold RefC; omega)⟩
theorem sameC.ofS {h h' : Hp} (f : fr Scr h h') : sameC h h' := sameC.of (f.mono Scr_RefC)
theorem CDeal.mv {D : List Dl} {h h' : Hp} {d a : Nat} (C : CDeal D h d a) (e : ∀ b k, a ≤ b → b ≤ a + 4 → hI h' b k = hI h b k ∧ hJ h' b k = hJ h b k) : CDeal D h' d a := by
  obtain ⟨c1, c2, c3, c4, c5, c6, c7, c8, p, c9, c10⟩ := C
  refine ⟨?_, ?_, ?_, ?_, ?_, ?_, fun k hk w hw => ?_, fun k hk => ⟨fun j hj => ?_, ?_⟩, p, c9, fun k hk => ?_⟩
  · rw [(e a 1 (by omega) (by omega)).1]; exact c1
  · rw [(e a 2 (by omega) (by omega)).1]; exact c2
  · rw [(e a 3 (by omega) (by omega)).1]; exact c3
  · rw [(e a 4 (by omega) (by omega)).1]; exact c4
  · rw [(e a 5 (by omega) (by omega)).1]; exact c5
  · rw [(e a 6 (by omega) (by omega)).1]; exact c6
  · rw [(e (a + 1) _ (by omega) (by omega)).1]; exact c7 k hk w hw
  · rw [(e (a + 2) _ (by omega) (by omega)).1]; exact (c8 k hk).1 j hj
  · rw [(e (a + 3) _ (by omega) (by omega)).2]; exact (c8 k hk).2
  · rw [(e (a + 4) _ (by omega) (by omega)).1]; exact c10 k hk
theorem DBlk.mv {h h' : Hp} {a : Nat} (B : DBlk h a) (e1 : hN h ≤ hN h') (e2 : ∀ b, b < hN h → hT h' b = hT h b) : DBlk h' a := by
  obtain ⟨b1, b2, b3, b4, b5, b6, b7⟩ := B
  refine ⟨b1, by omega, ?_, ?_, ?_, ?_, ?_⟩
  · rw [e2 _ (by omega)]; exact b3
  · rw [e2 _ (by omega)]; exact b4
  · rw [e2 _ (by omega)]; exact b5
  · rw [e2 _ (by omega)]; exact b6
  · rw [e2 _ (by omega)]; exact b7
theorem LBlk.mv {h h' : Hp} {a : Nat} (B : LBlk h a) (e1 : hN h ≤ hN h') (e2 : ∀ b, b < hN h → hT h' b = hT h b) : LBlk h' a := by
  obtain ⟨b1, b2, b3, b4⟩ := B
  exact ⟨b1, by omega, by rw [e2 _ (by omega)]; exact b3, by rw [e2 _ (by omega)]; exact b4⟩
theorem BBk.mv {h h' : Hp} {a : Nat} (B : BBk h a) (e1 : hN h ≤ hN h') (e2 : ∀ b, b < hN h → hT h' b = hT h b) : BBk h' a := by
  obtain ⟨b1, b2, b3, b4⟩ := B
  exact ⟨b1, by omega, by rw [e2 _ (by omega)]; exact b3, by rw [e2 _ (by omega)]; exact b4⟩
theorem CDeals.da {x : Ab} {da : Nat → Nat} {h : Hp} (C : CDeals x da h) {d : Nat} (hd : d < (aD x).length) : hR h 8 d = some (da d) ∧ DBlk h (da d) ∧ hI h (da d) 0 = n32 d ∧ CDeal (aD x) h d (da d) := by
  have h24 := C.2.1
  obtain ⟨e, c⟩ := C.2.2.2.2 d hd
  obtain ⟨b, n⟩ := C.2.2.1 d _ (by omega) e
  exact ⟨e, b, n, c⟩
theorem CDeals.mv {x : Ab} {da : Nat → Nat} {h h' : Hp} (C : CDeals x da h) (e1 : hN h ≤ hN h') (e2 : ∀ b, b < hN h → hT h' b = hT h b) (e4 : hI h' 0 4 = hI h 0 4) (e8 : ∀ d, hR h' 8 d = hR h 8 d) (e : ∀ a, DBlk h a → ∀ b k, a ≤ b → b ≤ a + 4 → hI h' b k = hI h b k ∧ hJ h' b k = hJ h b k) : CDeals x da h' := by
  have C' := C
  obtain ⟨c1, c2, c3, c4, c5⟩ := C
  refine ⟨by rw [e4]; exact c1, c2, fun d a hd hr => ?_, fun d h1 h2 => by rw [e8]; exact c4 d h1 h2, fun d hd => ?_⟩
  · rw [e8] at hr
    obtain ⟨b, n⟩ := c3 d a hd hr
    exact ⟨b.mv e1 e2, by rw [(e a b a 0 (by omega) (by omega)).1]; exact n⟩
  · obtain ⟨q1, q2, q3, q4⟩ := C'.da hd
    exact ⟨by rw [e8]; exact q1, q4.mv (e _ q2)⟩
theorem CRefs.mv {da : Nat → Nat} {c : Nat} {l : List Nat} {h h' : Hp} (C : CRefs da c l h) (e : ∀ k, hR h' c k = hR h c k) : CRefs da c l h' := fun k hk => by rw [e]; exact C k hk
theorem CRul.mv {l : List Rec} {h h' : Hp} {a : Nat} (C : CRul l h a) (e : ∀ b k, a ≤ b → b ≤ a + 1 → hI h' b k = hI h b k) : CRul l h' a := by
  refine ⟨by rw [e a 1 (by omega) (by omega)]; exact C.1, fun k hk => ⟨?_, (C.2 k hk).2⟩⟩
  obtain ⟨a1, a2, a3, a4, a5, a6⟩ := (C.2 k hk).1
  exact ⟨by rw [e _ _ (by omega) (by omega)]; exact a1, by rw [e _ _ (by omega) (by omega)]; exact a2, by rw [e _ _ (by omega) (by omega)]; exact a3, fun q => by rw [e _ _ (by omega) (by omega)]; exact a4 q, by rw [e _ _ (by omega) (by omega)]; exact a5, by rw [e _ _ (by omega) (by omega)]; exact a6⟩
theorem CTexts.mv {l : List (List Rec)} {c m : Nat} {h h' : Hp} (C : CTexts l c m h) (e1 : hN h ≤ hN h') (e2 : ∀ b, b < hN h → hT h' b = hT h b) (ec : ∀ i, hR h' c i = hR h c i) (e : ∀ a, LBlk h a → ∀ b k, a ≤ b → b ≤ a + 1 → hI h' b k = hI h b k) : CTexts l c m h' := by
  obtain ⟨c1, c2, c3, c4, c5⟩ := C
  refine ⟨c1, fun i a hi hr => ?_, fun i h1 h2 => by rw [ec]; exact c3 i h1 h2, fun i j a h1 h2 h3 h4 => c4 i j a h1 h2 (by rw [← ec]; exact h3) (by rw [← ec]; exact h4), fun i hi => ?_⟩
  · rw [ec] at hr; exact (c2 i a hi hr).mv e1 e2
  · obtain ⟨a, q1, q2⟩ := c5 i hi
    exact ⟨a, by rw [ec]; exact q1, q2.mv (e a (c2 i a (by omega) q1))⟩
theorem CTx.mv {x : Ab} {h h' : Hp} (C : CTx x h) (e1 : hN h ≤ hN h') (e2 : ∀ b, b < hN h → hT h' b = hT h b) (e6 : hI h' 0 6 = hI h 0 6) (e8 : hI h' 0 8 = hI h 0 8) (e9 : ∀ i, hR h' 9 i = hR h 9 i) (e10 : ∀ i, hR h' 10 i = hR h 10 i) (e : ∀ a, LBlk h a → ∀ b k, a ≤ b → b ≤ a + 1 → hI h' b k = hI h b k) : CTx x h' :=
  ⟨by rw [e6]; exact C.1, C.2.1.mv e1 e2 e9 e, by rw [e8]; exact C.2.2.1, C.2.2.2.1.mv e1 e2 e10 e, fun i j a h1 h2 h3 h4 => C.2.2.2.2 i j a h1 h2 (by rw [← e9]; exact h3) (by rw [← e10]; exact h4)⟩
theorem CBun.mv {x : Ab} {da : Nat → Nat} {h h' : Hp} (C : CBun x da h) (e : hI h' 11 1 = hI h 11 1) (r : ∀ k, hR h' 12 k = hR h 12 k) : CBun x da h' := ⟨by rw [e]; exact C.1, C.2.1, C.2.2.1.mv r, C.2.2.2⟩
theorem COff.mv {x : Ab} {da : Nat → Nat} {h h' : Hp} (C : COff x da h) (e : hI h' 32 3 = hI h 32 3) (r : ∀ k, hR h' 33 k = hR h 33 k) : COff x da h' := ⟨by rw [e]; exact C.1, C.2.1, C.2.2.1.mv r, C.2.2.2⟩
theorem CHn.mv {x : Ab} {da : Nat → Nat} {h h' : Hp} (C : CHn x da h) (e1 : hN h ≤ hN h') (e2 : ∀ b, b < hN h → hT h' b = hT h b) (e12 : hI h' 0 12 = hI h 0 12) (e13 : ∀ i, hR h' 13 i = hR h 13 i) (e : ∀ a, BBk h a → (∀ k, hI h' a k = hI h a k) ∧ ∀ k, hR h' (a + 1) k = hR h (a + 1) k) : CHn x da h' := by
  refine ⟨by rw [e12]; exact C.1, C.2.1, fun i hi => ?_⟩
  obtain ⟨a, q1, q2, q3, q4, q5, q6⟩ := C.2.2 i hi
  exact ⟨a, by rw [e13]; exact q1, q2.mv e1 e2, by rw [(e a q2).1]; exact q3, q4, q5.mv (e a q2).2, q6⟩
theorem CTape.mv {x : Ab} {h h' : Hp} (C : CTape x h) (e : hI h' 2 1 = hI h 2 1) (e3 : ∀ k, hI h' 3 k = hI h 3 k) : CTape x h' := ⟨by rw [e]; exact C.1, C.2.1, fun k hk => by rw [e3]; exact C.2.2 k hk⟩
theorem CFam.mv {x : Ab} {h h' : Hp} (C : CFam x h) (e : ∀ k, hI h' 1 k = hI h 1 k) : CFam x h' := fun k hk => by rw [e]; exact C k hk
theorem CPln.mv {x : Ab} {da : Nat → Nat} {h h' : Hp} (C : CPln x da h) (e : ∀ d, d < (aD x).length → ∀ k, hI h' (da d) k = hI h (da d) k) : CPln x da h' := fun d hd => by
  obtain ⟨q, q1, q2⟩ := C d hd
  exact ⟨q, by rw [e d hd]; exact q1, by rw [e d hd]; exact q2⟩
theorem CTal.mv {x : Ab} {h h' : Hp} (C : CTal x h) (e : ∀ k, hI h' 26 k = hI h 26 k) (e27 : ∀ k, hI h' 27 k = hI h 27 k) (e28 : ∀ k, hJ h' 28 k = hJ h 28 k) (e29 : ∀ k, hJ h' 29 k = hJ h 29 k) : CTal x h' := by
  unfold CTal TalA at C ⊢
  simp only [e, e27, e28, e29]
  exact C
theorem CSea.mv {x : Ab} {h h' : Hp} (C : CSea x h) (e5 : hI h' 32 5 = hI h 32 5) (e6 : hI h' 32 6 = hI h 32 6) (e34 : ∀ k, hI h' 34 k = hI h 34 k) (e35 : ∀ k, hI h' 35 k = hI h 35 k) : CSea x h' := by
  unfold CSea CWgh SlyF at C ⊢
  simp only [e5, e6, e34, e35]
  exact C
theorem InvC.same {x : Ab} {da : Nat → Nat} {h h' : Hp} (I : InvC x da h) (s : sameC h h') : InvC x da h' := by
  obtain ⟨n, t, e⟩ := s
  obtain ⟨i1, i2, i3, i4, i5, i6, i7, i8, i9, i10, i11, i12, i13⟩ := I
  have n' : hN h ≤ hN h' := by omega
  have t' : ∀ b, b < hN h → hT h' b = hT h b := fun b _ => by rw [t]
  refine ⟨by omega, i2.mv (fun k => (e 1 k (by omega)).1), ?_, i4.mv (e 2 1 (by omega)).1 (fun k => (e 3 k (by omega)).1), ⟨by rw [(e 0 9 (by omega)).1]; exact i5.1, i5.2⟩, ?_, i7.mv (e 11 1 (by omega)).1 (fun k => (e 12 k (by omega)).2.2), i8.mv (e 32 3 (by omega)).1 (fun k => (e 33 k (by omega)).2.2), ?_, ?_, i11.mv (fun k => (e 26 k (by omega)).1) (fun k => (e 27 k (by omega)).1) (fun k => (e 28 k (by omega)).2.1) (fun k => (e 29 k (by omega)).2.1), i12.mv (e 32 5 (by omega)).1 (e 32 6 (by omega)).1 (fun k => (e 34 k (by omega)).1) (fun k => (e 35 k (by omega)).1), fun f hf => by rw [(e 23 f (by omega)).2.1]; exact i13.1 f hf, fun j hj => by rw [(e 42 j (by omega)).2.1]; exact i13.2 j hj⟩
  · exact i3.mv n' t' (e 0 4 (by omega)).1 (fun d => (e 8 d (by omega)).2.2) (fun a B b k b1 b2 => ⟨(e b k (by have := B.1; omega)).1, (e b k (by have := B.1; omega)).2.1⟩)
  · exact i6.mv n' t' (e 0 6 (by omega)).1 (e 0 8 (by omega)).1 (fun i => (e 9 i (by omega)).2.2) (fun i => (e 10 i (by omega)).2.2) (fun a B b k b1 b2 => (e b k (by have := B.1; omega)).1)
  · exact i9.mv n' t' (e 0 12 (by omega)).1 (fun i => (e 13 i (by omega)).2.2) (fun a B => ⟨fun k => (e a k (by have := B.1; omega)).1, fun k => (e (a + 1) k (by have := B.1; omega)).2.2⟩)
  · exact i10.mv (fun d hd k => (e _ k (by have := (i3.da hd).2.1.1; omega)).1)
theorem InvC.vw {x : Ab} {da : Nat → Nat} {h : Hp} (I : InvC x da h) : CVw x da h := ⟨I.2.1, I.2.2.1.2.1, fun d hd => ⟨(I.2.2.1.da hd).2.2.2, (I.2.2.1.da hd).2.1.1⟩⟩
theorem CVw.mv {x : Ab} {da : Nat → Nat} {h h' : Hp} {S : Nat → Nat → Prop} (V : CVw x da h) (f : fr S h h') (n : ∀ a k, S a k → a ≠ 1 ∧ a < 108) : CVw x da h' :=
  ⟨V.1.mv (fun k => f.I (fun z => (n _ _ z).1 rfl)), V.2.1, fun d hd => ⟨(V.2.2 d hd).1.mv (fun b k b1 b2 => ⟨f.I (fun z => by have := n _ _ z; have := (V.2.2 d hd).2; omega), f.J (fun z => by have := n _ _ z; have := (V.2.2 d hd).2; omega)⟩), (V.2.2 d hd).2⟩⟩
/-- the Model's cells that last are the same -/
def sameM (h h' : Hp) : Prop := ∀ a k, 51 ≤ a → a ≤ 107 → hI h' a k = hI h a k
theorem sameM.of {S : Nat → Nat → Prop} {h h' : Hp} (f : fr S h h') (n : ∀ a k, S a k → a < 51 ∨ 107 < a) : sameM h h' := fun a k h1 h2 => f.I (fun z => by have := n a k z; omega)
theorem sameM.rf (h : Hp) : sameM h h := fun _ _ _ _ => rfl
theorem sameM.trans {a b c : Hp} (h1 : sameM a b) (h2 : sameM b c) : sameM a c := fun q k z1 z2 => (h2 q k z1 z2).trans (h1 q k z1 z2)
theorem InvR.sm {x : Ab} {h h' : Hp} (I : InvR x h) (s : sameM h h') : InvR x h' := I.same (fun a k q => s a k q.1 q.2.1)
/-- a call that changes only what is at hand -/
def Own (a k : Nat) : Prop := 14 ≤ a ∧ a ≤ 22 ∨ a = 24 ∨ a = 25 ∨ a = 30 ∨ a = 31 ∨ 36 ≤ a ∧ a ≤ 41 ∨ 43 ≤ a ∧ a ≤ 50
theorem InvC.own {x : Ab} {da : Nat → Nat} {h h' : Hp} (I : InvC x da h) (f : fr Own h h') : InvC x da h' := by
  obtain ⟨i1, i2, i3, i4, i5, i6, i7, i8, i9, i10, i11, i12, i13⟩ := I
  have n' : hN h ≤ hN h' := by rw [f.1]; exact Nat.le_refl _
  have t' : ∀ b, b < hN h → hT h' b = hT h b := fun b _ => by rw [f.2.1]
  have e : ∀ a k, (a < 14 ∨ a = 23 ∨ 26 ≤ a ∧ a ≤ 29 ∨ 32 ≤ a ∧ a ≤ 35 ∨ a = 42 ∨ 51 ≤ a) → hI h' a k = hI h a k ∧ hJ h' a k = hJ h a k ∧ hR h' a k = hR h a k := fun a k q => f.2.2 a k (by unfold Own; omega)
  refine ⟨by omega, i2.mv (fun k => (e 1 k (by omega)).1), ?_, i4.mv (e 2 1 (by omega)).1 (fun k => (e 3 k (by omega)).1), ⟨by rw [(e 0 9 (by omega)).1]; exact i5.1, i5.2⟩, ?_, i7.mv (e 11 1 (by omega)).1 (fun k => (e 12 k (by omega)).2.2), i8.mv (e 32 3 (by omega)).1 (fun k => (e 33 k (by omega)).2.2), ?_, ?_, i11.mv (fun k => (e 26 k (by omega)).1) (fun k => (e 27 k (by omega)).1) (fun k => (e 28 k (by omega)).2.1) (fun k => (e 29 k (by omega)).2.1), i12.mv (e 32 5 (by omega)).1 (e 32 6 (by omega)).1 (fun k => (e 34 k (by omega)).1) (fun k => (e 35 k (by omega)).1), fun g hg => by rw [(e 23 g (by omega)).2.1]; exact i13.1 g hg, fun j hj => by rw [(e 42 j (by omega)).2.1]; exact i13.2 j hj⟩
  · exact i3.mv n' t' (e 0 4 (by omega)).1 (fun d => (e 8 d (by omega)).2.2) (fun a B b k b1 b2 => ⟨(e b k (by have := B.1; omega)).1, (e b k (by have := B.1; omega)).2.1⟩)
  · exact i6.mv n' t' (e 0 6 (by omega)).1 (e 0 8 (by omega)).1 (fun i => (e 9 i (by omega)).2.2) (fun i => (e 10 i (by omega)).2.2) (fun a B b k b1 b2 => (e b k (by have := B.1; omega)).1)
  · exact i9.mv n' t' (e 0 12 (by omega)).1 (fun i => (e 13 i (by omega)).2.2) (fun a B => ⟨fun k => (e a k (by have := B.1; omega)).1, fun k => (e (a + 1) k (by have := B.1; omega)).2.2⟩)
  · exact i10.mv (fun d hd k => (e _ k (by have := (i3.da hd).2.1.1; omega)).1)
theorem Own_M : ∀ a k, Own a k → a < 51 ∨ 107 < a := by unfold Own; omega
