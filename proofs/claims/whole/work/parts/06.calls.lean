/-! CONTRACTS AND CALLS -/
def Ct (l : Launch) (G : Cx) (d mc ms : Nat) (y : MethodName) (M : Mth) (as : List TV) (h : Hp) (Q : Option TV → Hp → Prop) : Prop :=
  Met l y (Cond.code y M.1 M.2.1 M.2.2.1 :: GW) (rmOf d mc ms) (va_Pc (as.map (cv G)) (fun U => Wd G h U.heap ∧ Kx G U ∧ tyL h as)) (PostU G h Q) mc ms (Ag G)
def entL : List TV → List (Option TV)
  | [] => []
  | .inl x :: l => some (.inl x) :: entL l
  | .inr (.inl x) :: l => some (tJ x) :: none :: entL l
  | .inr (.inr (.inl x)) :: l => some (.inr (.inr (.inl x))) :: entL l
  | .inr (.inr (.inr x)) :: l => some (tS x) :: entL l
def wrds : List TV → Nat
  | [] => 0
  | .inr (.inl _) :: l => 2 + wrds l
  | _ :: l => 1 + wrds l
theorem cat_I (G : Cx) (x : Int32) : (cv G (.inl x)).category = 1 := rfl
theorem cat_J (G : Cx) (x : Int64) : (cv G (.inr (.inl x))).category = 2 := rfl
theorem cat_R (G : Cx) (q : (Nat × Nat) × Option Nat) : (cv G (.inr (.inr (.inl q)))).category = 1 := by
  obtain ⟨⟨k, n⟩, r⟩ := q
  exact cv_cat1R
theorem cat_S (G : Cx) (x : Nat) : (cv G (.inr (.inr (.inr x)))).category = 1 := rfl
theorem entL_asc {G : Cx} : ∀ {as : List TV} {i : Nat} {q : Nat × Value}, q ∈ asc G i (entL as) → q ∈ lv_args i (as.map (cv G))
  | [], i, q, h => by cases h
  | .inl x :: l, i, q, h => by
    rw [entL, asc_cons] at h
    rw [List.map_cons, lv_args, if_neg (by rw [cat_I]; decide)]
    rcases h with ⟨w, hw, e⟩ | h
    · cases hw; rw [e]; exact List.mem_cons_self
    · exact List.mem_cons_of_mem _ (entL_asc h)
  | .inr (.inl x) :: l, i, q, h => by
    rw [entL, asc_cons, asc_cons] at h
    rw [List.map_cons, lv_args, if_pos (cat_J G x)]
    rcases h with ⟨w, hw, e⟩ | ⟨w, hw, e⟩ | h
    · cases hw; rw [e]; exact List.mem_cons_self
    · cases hw
    · exact List.mem_cons_of_mem _ (entL_asc h)
  | .inr (.inr (.inl x)) :: l, i, q, h => by
    rw [entL, asc_cons] at h
    rw [List.map_cons, lv_args, if_neg (by rw [cat_R]; decide)]
    rcases h with ⟨w, hw, e⟩ | h
    · cases hw; rw [e]; exact List.mem_cons_self
    · exact List.mem_cons_of_mem _ (entL_asc h)
  | .inr (.inr (.inr x)) :: l, i, q, h => by
    rw [entL, asc_cons] at h
    rw [List.map_cons, lv_args, if_neg (by rw [cat_S]; decide)]
    rcases h with ⟨w, hw, e⟩ | h
    · cases hw; rw [e]; exact List.mem_cons_self
    · exact List.mem_cons_of_mem _ (entL_asc h)
theorem wrds_eq {G : Cx} : ∀ {as : List TV}, (lg_sl (as.map (cv G))).length = wrds as
  | [] => rfl
  | .inl x :: l => by
    have e := wrds_eq (G := G) (as := l)
    simp only [lg_sl, List.map_cons, List.flatMap_cons, List.length_append] at e ⊢
    rw [e]; simp [cat_I, wrds]
  | .inr (.inl x) :: l => by
    have e := wrds_eq (G := G) (as := l)
    simp only [lg_sl, List.map_cons, List.flatMap_cons, List.length_append] at e ⊢
    rw [e]; simp [cat_J, wrds]
  | .inr (.inr (.inl x)) :: l => by
    have e := wrds_eq (G := G) (as := l)
    simp only [lg_sl, List.map_cons, List.flatMap_cons, List.length_append] at e ⊢
    rw [e]; simp [cat_R, wrds]
  | .inr (.inr (.inr x)) :: l => by
    have e := wrds_eq (G := G) (as := l)
    simp only [lg_sl, List.map_cons, List.flatMap_cons, List.length_append] at e ⊢
    rw [e]; simp [cat_S, wrds]
theorem entL_ty {h : Hp} : ∀ {as : List TV}, tyL h as → tyO h (entL as)
  | [], _ => trivial
  | .inl x :: l, t => ⟨t.1, entL_ty t.2⟩
  | .inr (.inl x) :: l, t => ⟨t.1, entL_ty (as := l) t.2⟩
  | .inr (.inr (.inl x)) :: l, t => ⟨t.1, entL_ty t.2⟩
  | .inr (.inr (.inr x)) :: l, t => ⟨t.1, entL_ty t.2⟩
/-- a contract out of its body -/
theorem Ct.of {l : Launch} {G : Cx} {d mc ms : Nat} {y : MethodName} {M : Mth} {as : List TV} {h : Hp} {Q : Option TV → Hp → Prop} {L : List (Option TV)} (hy : plainName y.cls = true) (hyc : y.cls = M.2.2.2.1) (hyn : y.name = M.2.2.2.2) (hw : wrds as ≤ M.2.1) (hL : entL as = L)
    (body : Rn l G d mc ms M h Q 0 L [] h 0 0) : Ct l G d mc ms y M as h Q := by
  subst hL
  refine Met.ofW (cc := M.1) (maxL := M.2.1) (ret := M.2.2.1) hy rfl ?_
  intro p e s m args below meth c s₁ B hml hv
  obtain ⟨rfl, hW, hK, hty⟩ := hv
  have hts := atoms_spec (ws := Cond.code y M.1 M.2.1 M.2.2.1 :: GW) B.pre
  have hown : s.vm.findClass M.2.2.2.1 = some m.cls := by rw [← hyc]; exact findClass_of_methodNamed B.named
  have hin : meth.name = M.2.2.2.2 := by rw [← hyn]; exact (name_of_methodNamed B.named B.method).1
  have hl := lv_entry (as.map (cv G)) (n := M.2.1) (by rw [wrds_eq]; exact hw)
  rw [lg_entry_eq]
  exact body p e s m _ below meth c s.heap [] _ ⟨B.exec, B.bytes, hml, B.returns, hown, fun w h => hts w (List.mem_cons_of_mem _ h), hK, B.notSynchronized, hin⟩ hW (ext.rf _) va_S.rf ⟨hl.1, hl.2.1, fun q hq => hl.2.2 q (entL_asc hq)⟩ (entL_ty hty) trivial
theorem Ct.mono {l : Launch} {G : Cx} {d mc ms : Nat} {y : MethodName} {M : Mth} {as : List TV} {h : Hp} {Q Q' : Option TV → Hp → Prop} (hQ : ∀ r h', Q r h' → Q' r h') (c : Ct l G d mc ms y M as h Q) : Ct l G d mc ms y M as h Q' := by
  intro p e a1 a2 a3 s m args below b1 b2 b3 b4
  obtain ⟨k, o, c1, c2, c3, ⟨⟨r, h', c4, c5, c6⟩, c7⟩, c8⟩ := c p e a1 a2 a3 s m args below b1 b2 b3 b4
  exact ⟨k, o, c1, c2, c3, ⟨⟨r, h', c4, hQ r h' c5, c6⟩, c7⟩, c8⟩
/-- what a call of a method needs of the tables, wherever it stands -/
def MI (y : MethodName) (M : Mth) (n : Nat) : Prop := Cond.code y M.1 M.2.1 M.2.2.1 ∈ GW ∧ Cond.initialized y.cls ∈ GW ∧ y.cls ≠ "java/lang/invoke/MethodHandle" ∧ y.cls ≠ "java/lang/invoke/VarHandle" ∧ (parseMethodDescriptor y.desc).map (fun d => d.parameters.length) = some n ∧ M.2.1 ≤ 29
section RC
variable {l : Launch} {G : Cx} {d mc ms : Nat} {M : Mth} {h0 : Hp} {Q : Option TV → Hp → Prop} {pc : Nat} {L : List (Option TV)} {st : List TV} {h : Hp} {cu su : Nat}
theorem blindC {as : List TV} : FrameBlind (va_Pc (as.map (cv G)) (fun U => Wd G h U.heap ∧ Kx G U ∧ tyL h as)) := by
  intro a U g mk q
  exact ⟨q.1, q.2.1, q.2.2.1.call, q.2.2.2⟩
theorem goodC {y : MethodName} {My : Mth} {n : Nat} (mi : MI y My n) : GoodIn GW (Cond.code y My.1 My.2.1 My.2.2.1 :: GW) := by
  intro w hw
  rcases List.mem_cons.mp hw with e | e
  · rw [e]; exact ⟨mi.1, GW_good _ mi.1⟩
  · exact ⟨e, GW_good _ e⟩
/-- behind a call -/
theorem r_go {p : Program} {e : Env} {s : State} {m : MethodId} {args a : Array Value} {below : List Frame} {meth : Method} {c : Code} {H : Heap} {locs : List Loc} {ls : Array Slot} {mc' ms' : Nat} {Q' : Option TV → Hp → Prop} {st0 : List Value} (C0 : Cm G M p s m args meth c) (hE : ext h0 h) (hS : va_S (Ag G) s.heap H locs) (hl0 : lv_has ls M.2.1 (asc G 0 L)) (hL : tyO h L) (hst : tyL h st)
    (hr : va_Run p l e (rmOf d mc ms) s m args below meth c H locs cu su mc' ms' (F0 m pc ls st0) (st.map (cv G)) (PostU G h Q' a) (Ag G))
    (kk : ∀ r h', Q' r h' → ext h h' → Rn l G d mc ms M h0 Q (pc + 3) L (r.toList ++ st) h' (cu + mc') (su + ms')) : W p l e (rmOf d mc ms) s m args below meth c H locs cu su (MQ below (PostU G h0 Q) args s mc ms (Ag G)) (F0 m pc ls st0) := by
  intro T hT' X
  obtain ⟨v, st₀, t, T', L1, g0, X', hL1, e1, e2, ⟨⟨r, h', hv, hq, he, ht, hw⟩, hz, hk⟩, stp⟩ := hr T hT' X
  have hv : v = r.map (cv G) := Outcome.returned.inj hv
  rw [g0] at hz hk
  have hS' : va_S (Ag G) s.heap T'.heap (locs ++ L1) := ⟨Nat.le_trans hS.1 (by rw [e1]; exact hz), fun q h1 h2 => by rw [e1, hk q (Nat.lt_of_lt_of_le h1 hS.1) h2]; exact hS.2.1 q h1 h2, fun q hq => by
      rcases List.mem_append.mp hq with h | h
      · exact hS.2.2 q h
      · exact hL1 q h⟩
  have hst' : tyL h' (r.toList ++ st) := by
    cases r with
    | none => exact hst.ext he
    | some w => exact ⟨ht w rfl, hst.ext he⟩
  obtain ⟨t2, a1, b1⟩ := kk r h' hq he p e s m args below meth c T'.heap (locs ++ L1) ls C0 (by rw [e1]; exact hw) (hE.trans he) hS' hl0 (hL.ext he) hst' T' rfl X'
  refine ⟨t2, stp t2 ?_, b1⟩
  have e3 : (r.toList ++ st).map (cv G) = v.toList ++ st.map (cv G) := by rw [hv]; cases r <;> rfl
  rw [e3] at a1
  exact a1
theorem rest_ok {m : MethodId} {ls : Array Slot} {s0 : List Value} (h : (st.map fun v => (cv G v).category).sum ≤ 8) : 2 * (F0 m pc ls s0).monitorRoom + ((st.map (cv G)).map fun v => v.category).sum ≤ 8 := by
  refine lv_room ?_
  rw [List.map_map]
  exact h
def cats : List TV → Nat
  | [] => 0
  | .inr (.inl _) :: l => 2 + cats l
  | _ :: l => 1 + cats l
theorem cats_eq : ∀ {l : List TV}, (l.map fun v => (cv G v).category).sum = cats l
  | [] => rfl
  | .inl x :: l => by rw [List.map_cons, List.sum_cons, cats_eq (l := l), cat_I]; rfl
  | .inr (.inl x) :: l => by rw [List.map_cons, List.sum_cons, cats_eq (l := l), cat_J]; rfl
  | .inr (.inr (.inl x)) :: l => by rw [List.map_cons, List.sum_cons, cats_eq (l := l), cat_R]; rfl
  | .inr (.inr (.inr x)) :: l => by rw [List.map_cons, List.sum_cons, cats_eq (l := l), cat_S]; rfl
theorem r_callV {ci d' mc' ms' idx n b : Nat} {C : String} {T : u_T} {ty0 : Nat → FieldType} {y : MethodName} {My : Mth} {as : List TV} {s0 : List TV} {Q' : Option TV → Hp → Prop} (cl : Cl ci C T ty0) (hd : decode M.1 pc = .ok (.invokevirtual idx, 3)) (mi : MI y My n) (hlk : Cond.methodLink M.2.2.2.1 idx y ∈ GW) (hin : Cond.instanceMethod y ∈ GW) (hsel : Cond.selects C y y ∈ GW)
    (hn : as.length = n) (hs0 : s0 = as.reverse ++ tR ci 0 (some b) :: st) (hr : cats st ≤ 8) (hdd : d' + 1 ≤ d) (hc : cu + mc' ≤ mc ∧ su + ms' ≤ ms) (hct : Ct l G d' mc' ms' y My (tR ci 0 (some b) :: as) h Q') (kk : ∀ r h', Q' r h' → ext h h' → Rn l G d mc ms M h0 Q (pc + 3) L (r.toList ++ st) h' (cu + mc') (su + ms')) : Rn l G d mc ms M h0 Q pc L s0 h cu su := by
  subst hs0
  intro p e s m args below meth c H locs ls C0 hW hE hS hl0 hL hst
  have hsp : tyL h as ∧ ty1 h (tR ci 0 (some b)) ∧ tyL h st := by
    have key : ∀ {a1 a2 : List TV}, tyL h (a1 ++ a2) ↔ tyL h a1 ∧ tyL h a2 := by
      intro a1 a2
      induction a1 with
      | nil => simp [tyL]
      | cons x l ih => simp only [List.cons_append, tyL, ih, and_assoc]
    have key2 : ∀ {a1 : List TV}, tyL h a1.reverse → tyL h a1 := by
      intro a1
      induction a1 with
      | nil => exact id
      | cons x l ih => intro q; rw [List.reverse_cons, key] at q; exact ⟨q.2.1, ih q.1⟩
    have q := key.mp hst
    exact ⟨key2 q.1, q.2.1, q.2.2⟩
  obtain ⟨hb, htb⟩ := hsp.2.1 b rfl
  have hts := C0.2.2.2.2.2.1
  have hK := C0.2.2.2.2.2.2.1
  have hat : atO G h ci b H := (atc_O (by rw [htb]; exact Or.inl rfl) cl.2.1).mp (hW.2.1 b hb)
  obtain ⟨cellB, g1, g2, g3, -⟩ := hat
  have cb : CallB (rmOf d mc ms) s args M.2.2.2.1 idx y My.1 My.2.1 My.2.2.1 (Cond.code y My.1 My.2.1 My.2.2.1 :: GW) (rmOf d' mc' ms') mc' ms' n :=
    callB_of n hts (goodC mi) rfl rfl rfl (hts _ mi.2.1) (hts _ hlk) ⟨mi.2.2.1, mi.2.2.2.1, mi.2.2.2.2.1⟩ ⟨hdd, by show 8 + (My.2.1 + 11) + 48 * d' ≤ 48 * d; have := mi.2.2.2.2.2; omega⟩
  refine r_go (st0 := (as.reverse ++ tR ci 0 (some b) :: st).map (cv G)) C0 hE hS hl0 hL hsp.2.2 (va_runV (As := as.map (cv G)) (b := G.1 + b) (C := C) ⟨C0.1, C0.2.1, C0.2.2.1, C0.2.2.2.2.1, hts⟩ hct ⟨cb, hts _ hin, hts _ hsel⟩ ⟨blindC, ⟨cellB, g1, by rw [g3]; rfl, by rw [g2]; exact (hK.1.1 ci _ cl.1).2.1⟩, fun U hU hWm => ⟨rfl, by rw [hU]; exact hW, hK.to hWm (fun a ha hna => by rw [hU]; exact hS.2.1 a ha hna), hsp.2.1, hsp.1⟩⟩ rfl (by rw [List.length_map]; exact hn) hl0.1 ?_ (rest_ok (by rw [cats_eq]; exact hr)) hd hc) kk
  show List.map (cv G) (as.reverse ++ tR ci 0 (some b) :: st) = _
  rw [List.map_append, List.map_reverse, List.map_cons]
  rfl
theorem tyL_app {h : Hp} : ∀ {a1 a2 : List TV}, tyL h (a1 ++ a2) ↔ tyL h a1 ∧ tyL h a2
  | [], a2 => by simp [tyL]
  | x :: l, a2 => by simp only [List.cons_append, tyL, tyL_app (a1 := l), and_assoc]
theorem tyL_rev {h : Hp} : ∀ {a1 : List TV}, tyL h a1.reverse → tyL h a1
  | [], q => q
  | x :: l, q => by rw [List.reverse_cons, tyL_app] at q; exact ⟨q.2.1, tyL_rev q.1⟩
theorem r_callS {d' mc' ms' idx n : Nat} {y : MethodName} {My : Mth} {as : List TV} {s0 : List TV} {Q' : Option TV → Hp → Prop} (hd : decode M.1 pc = .ok (.invokestatic idx, 3)) (mi : MI y My n) (hlk : Cond.methodLink M.2.2.2.1 idx y ∈ GW) (hstt : Cond.static y ∈ GW)
    (hn : as.length = n) (hs0 : s0 = as.reverse ++ st) (hr : cats st ≤ 8) (hdd : d' + 1 ≤ d) (hc : cu + mc' ≤ mc ∧ su + ms' ≤ ms) (hct : Ct l G d' mc' ms' y My as h Q') (kk : ∀ r h', Q' r h' → ext h h' → Rn l G d mc ms M h0 Q (pc + 3) L (r.toList ++ st) h' (cu + mc') (su + ms')) : Rn l G d mc ms M h0 Q pc L s0 h cu su := by
  subst hs0
  intro p e s m args below meth c H locs ls C0 hW hE hS hl0 hL hst
  have q0 := tyL_app.mp hst
  have hts := C0.2.2.2.2.2.1
  have hK := C0.2.2.2.2.2.2.1
  have cb : CallB (rmOf d mc ms) s args M.2.2.2.1 idx y My.1 My.2.1 My.2.2.1 (Cond.code y My.1 My.2.1 My.2.2.1 :: GW) (rmOf d' mc' ms') mc' ms' n :=
    callB_of n hts (goodC mi) rfl rfl rfl (hts _ mi.2.1) (hts _ hlk) ⟨mi.2.2.1, mi.2.2.2.1, mi.2.2.2.2.1⟩ ⟨hdd, by show 8 + (My.2.1 + 11) + 48 * d' ≤ 48 * d; have := mi.2.2.2.2.2; omega⟩
  refine r_go (st0 := (as.reverse ++ st).map (cv G)) C0 hE hS hl0 hL q0.2 (va_runS (As := as.map (cv G)) ⟨C0.1, C0.2.1, C0.2.2.1, C0.2.2.2.2.1, hts⟩ hct ⟨cb, hts _ hstt⟩ ⟨blindC, fun U hU hWm => ⟨rfl, by rw [hU]; exact hW, hK.to hWm (fun a ha hna => by rw [hU]; exact hS.2.1 a ha hna), tyL_rev q0.1⟩⟩ rfl (by rw [List.length_map]; exact hn) hl0.1 ?_ (rest_ok (by rw [cats_eq]; exact hr)) hd hc) kk
  show List.map (cv G) (as.reverse ++ st) = _
  rw [List.map_append, List.map_reverse]
/-- an object is made: from now on its fields that hold one reference for good do so -/
def sealOK (h : Hp) (a ci : Nat) : Prop := ∀ k b n, fcon ci k a = some (b, n) → hR h a k = some b ∧ hT h b = (fref ci k, n) ∧ b < hN h
theorem WF_seal {h : Hp} {a ci : Nat} (hF : WF h) (ha : a < hN h) (hc : ci < 20) (hta : hT h a = (20 + ci, 0)) (hs : sealOK h a ci) : WF (wT h a (ci, 0)) := by
  have eT : ∀ b, b ≠ a → hT (wT h a (ci, 0)) b = hT h b := fun b hb => va_up_ne _ _ hb
  have eTa : hT (wT h a (ci, 0)) a = (ci, 0) := va_up_self _ _ _
  have no : ∀ b kd, (hT h b).1 = kd → (kd < 20 ∨ 40 ≤ kd) → b ≠ a := by
    intro b kd hb hk e
    rw [e, hta] at hb
    dsimp only at hb
    omega
  intro b hb
  have hb : b < hN h := hb
  obtain ⟨g1, g2, g3, g4⟩ := hF b hb
  by_cases hab : b = a
  · subst hab
    unfold WFa
    rw [eTa]
    rw [hta] at g1 g2 g3 g4
    refine ⟨fun _ => rfl, fun _ k hk hty q hq => ?_, fun _ k q n hq => ?_, fun z => ?_⟩
    · have e : (20 + ci) % 20 = ci % 20 := by omega
      have z := g2 (by show 20 + ci < 40; omega) k (by show k < fnum ((20 + ci) % 20); rw [e]; exact hk) (by show fty ((20 + ci) % 20) k = 2; rw [e]; exact hty) q hq
      have z2 : (hT h q).1 = fref ((20 + ci) % 20) k := z.2
      rw [e] at z2
      refine ⟨z.1, ?_⟩
      rw [eT q (no q _ z2 (fref_ok _ _))]
      exact z2
    · have z := hs k q n hq
      refine ⟨z.1, ?_, z.2.2⟩
      have z2 : (hT h q).1 = fref ci k := by rw [z.2.1]
      rw [eT q (no q _ z2 (fref_ok _ _))]
      exact z.2.1
    · exfalso
      have z : 50 ≤ ci := z
      omega
  · unfold WFa
    rw [eT b hab]
    refine ⟨g1, fun z k hk hty q hq => ?_, fun z k q n hq => ?_, fun z j q hq => ?_⟩
    · have w := g2 z k hk hty q hq
      exact ⟨w.1, by rw [eT q (no q _ w.2 (fref_ok _ _))]; exact w.2⟩
    · have w := g3 z k q n hq
      have w2 : (hT h q).1 = fref (hT h b).1 k := by rw [w.2.1]
      exact ⟨w.1, by rw [eT q (no q _ w2 (fref_ok _ _))]; exact w.2.1, w.2.2⟩
    · have w := g4 z j q hq
      refine ⟨w.1, ?_⟩
      by_cases hqa : q = a
      · exfalso
        have w2 := w.2
        rw [hqa, hta] at w2
        have w3 : 20 + ci = (hT h b).1 - 50 := congrArg Prod.fst w2.1
        have w4 := w2.2
        omega
      · rw [eT q hqa]; exact w.2
/-- no entry of this kind -/
def noK (k : Nat) : TV → Prop
  | .inr (.inr (.inl q)) => q.1.1 ≠ k
  | _ => True
theorem ty_seal {h : Hp} {a ci : Nat} {v : TV} (hta : hT h a = (20 + ci, 0)) (hv : ty1 h v) (hk : noK (20 + ci) v) : ty1 (wT h a (ci, 0)) v := by
  match v, hv, hk with
  | .inl _, _, _ => trivial
  | .inr (.inl _), _, _ => trivial
  | .inr (.inr (.inr i)), hv, _ => exact hv
  | .inr (.inr (.inl q)), hv, hk =>
    intro b hb
    have z := hv b hb
    refine ⟨z.1, ?_⟩
    have hba : b ≠ a := by
      intro e
      rw [e, hta] at z
      exact hk (by rw [← z.2])
    exact (va_up_ne _ _ hba).trans z.2
/-- the constructor is over: the object is of its kind; nothing else in this frame speaks of it but the place on the stack -/
theorem r_seal {ci a : Nat} (hc : ci < 20) (hn : hN h0 ≤ a) (hs : sealOK h a ci) (hL' : ∀ v, some v ∈ L → noK (20 + ci) v) (hst' : ∀ v, v ∈ st → noK (20 + ci) v) (kk : Rn l G d mc ms M h0 Q pc L (tR ci 0 (some a) :: st) (wT h a (ci, 0)) cu su) : Rn l G d mc ms M h0 Q pc L (tR (20 + ci) 0 (some a) :: st) h cu su := by
  intro p e s m args below meth c H locs ls C0 hW hE hS hl0 hL hst
  obtain ⟨ha, hta⟩ := hst.1 a rfl
  have eTa : hT (wT h a (ci, 0)) a = (ci, 0) := va_up_self _ _ _
  refine kk p e s m args below meth c H locs ls C0 ⟨hW.1, fun b hb => ?_, WF_seal hW.2.2 ha hc hta hs⟩ ⟨hE.1, fun b hb => ?_⟩ hS hl0 (tyO_mem.mpr fun v hv => ty_seal hta (tyO_mem.mp hL v hv) (hL' v hv)) ⟨fun b hb => by cases hb; exact ⟨ha, eTa⟩, ?_⟩
  · have hb : b < hN h := hb
    by_cases hab : b = a
    · subst hab
      refine (atc_O (by rw [eTa]; exact Or.inl rfl) hc).mpr ?_
      have z : atO G h ci b H := (atc_O (h := h) (by rw [hta]; exact Or.inr rfl) hc).mp (hW.2.1 b hb)
      exact z
    · exact atc_same (hW.2.1 b hb) (va_up_ne _ _ hab) rfl rfl rfl rfl
  · exact (va_up_ne _ _ (by omega)).trans (hE.2 b hb)
  · have key : ∀ {l : List TV}, tyL h l → (∀ v, v ∈ l → noK (20 + ci) v) → tyL (wT h a (ci, 0)) l := by
      intro l
      induction l with
      | nil => intro _ _; trivial
      | cons x l ih => intro t n; exact ⟨ty_seal hta t.1 (n x List.mem_cons_self), ih t.2 (fun v hv => n v (List.mem_cons_of_mem _ hv))⟩
    exact key hst.2 hst'
theorem r_objInit {kd idx a : Nat} (hd : decode M.1 pc = .ok (.invokespecial idx, 3)) (hl1 : Cond.methodLink M.2.2.2.1 idx Lib.objectInit ∈ GW) (hi : Cond.instanceMethod Lib.objectInit ∈ GW) (hco : Cond.code Lib.objectInit ⟨#[0xb1]⟩ 1 none ∈ GW) (hdd : 1 ≤ d) (hr : cats st ≤ 8) (kk : Rn l G d mc ms M h0 Q (pc + 3) L st h cu su) : Rn l G d mc ms M h0 Q pc L (tR kd 0 (some a) :: st) h cu su := by
  intro p e s m args below meth c H locs ls C0 hW hE hS hl0 hL hst
  have hts := C0.2.2.2.2.2.1
  refine W.objInit C0.1 C0.2.1 C0.2.2.2.2.1 (hts _ hl1) (hts _ hi) (hts _ hco) rfl (hl0.1.trans C0.2.2.1.symm) rfl hd hdd ?_ (kk p e s m args below meth c H locs ls C0 hW hE hS hl0 hL hst.2)
  have q := rest_ok (G := G) (pc := pc) (m := m) (ls := ls) (s0 := (tR kd 0 (some a) :: st).map (cv G)) (st := st) (by rw [cats_eq]; exact hr)
  show _ ≤ 48 * d
  omega
theorem r_callI {ci d' mc' ms' idx n b : Nat} {y : MethodName} {My : Mth} {as : List TV} {s0 : List TV} {Q' : Option TV → Hp → Prop} (hd : decode M.1 pc = .ok (.invokespecial idx, 3)) (mi : MI y My n) (hrn : My.2.2.1 = none) (hlk : Cond.methodLink M.2.2.2.1 idx y ∈ GW) (hin : Cond.instanceMethod y ∈ GW) (hy1 : y.name = "<init>")
    (hn : as.length = n) (hs0 : s0 = as.reverse ++ tR (20 + ci) 0 (some b) :: st) (hr : cats st ≤ 8) (hdd : d' + 1 ≤ d) (hc : cu + mc' ≤ mc ∧ su + ms' ≤ ms) (hct : Ct l G d' mc' ms' y My (tR (20 + ci) 0 (some b) :: as) h Q') (kk : ∀ r h', Q' r h' → ext h h' → Rn l G d mc ms M h0 Q (pc + 3) L (r.toList ++ st) h' (cu + mc') (su + ms')) : Rn l G d mc ms M h0 Q pc L s0 h cu su := by
  subst hs0
  intro p e s m args below meth c H locs ls C0 hW hE hS hl0 hL hst
  have q0 := tyL_app.mp hst
  have hts := C0.2.2.2.2.2.1
  have hK := C0.2.2.2.2.2.2.1
  have cb : CallB (rmOf d mc ms) s args M.2.2.2.1 idx y My.1 My.2.1 none (Cond.code y My.1 My.2.1 My.2.2.1 :: GW) (rmOf d' mc' ms') mc' ms' n :=
    callB_of n hts (goodC mi) (by rw [hrn]) rfl rfl (hts _ mi.2.1) (hts _ hlk) ⟨mi.2.2.1, mi.2.2.2.1, mi.2.2.2.2.1⟩ ⟨hdd, by show 8 + (My.2.1 + 11) + 48 * d' ≤ 48 * d; have := mi.2.2.2.2.2; omega⟩
  refine r_go (st0 := (as.reverse ++ tR (20 + ci) 0 (some b) :: st).map (cv G)) C0 hE hS hl0 hL q0.2.2 (va_runI (As := as.map (cv G)) (b := G.1 + b) ⟨C0.1, C0.2.1, C0.2.2.1, C0.2.2.2.2.1, hts⟩ hct ⟨cb, hy1, hts _ hin⟩ ⟨blindC, fun U hU hWm => ⟨rfl, by rw [hU]; exact hW, hK.to hWm (fun a ha hna => by rw [hU]; exact hS.2.1 a ha hna), q0.2.1, tyL_rev q0.1⟩⟩ rfl (by rw [List.length_map]; exact hn) hl0.1 ?_ (rest_ok (by rw [cats_eq]; exact hr)) hd hc) kk
  show List.map (cv G) (as.reverse ++ tR (20 + ci) 0 (some b) :: st) = _
  rw [List.map_append, List.map_reverse, List.map_cons]
  rfl
theorem r_callIN {ci d' mc' ms' idx n b : Nat} {host : String} {y : MethodName} {My : Mth} {as : List TV} {s0 : List TV} {Q' : Option TV → Hp → Prop} (hd : decode M.1 pc = .ok (.invokespecial idx, 3)) (mi : MI y My n) (hrn : My.2.2.1 = none) (hlk : (M.2.2.2.1, idx, y, host) ∈ nestT) (hin : Cond.instanceMethod y ∈ GW) (hy1 : y.name = "<init>")
    (hn : as.length = n) (hs0 : s0 = as.reverse ++ tR (20 + ci) 0 (some b) :: st) (hr : cats st ≤ 8) (hdd : d' + 1 ≤ d) (hc : cu + mc' ≤ mc ∧ su + ms' ≤ ms) (hct : Ct l G d' mc' ms' y My (tR (20 + ci) 0 (some b) :: as) h Q') (kk : ∀ r h', Q' r h' → ext h h' → Rn l G d mc ms M h0 Q (pc + 3) L (r.toList ++ st) h' (cu + mc') (su + ms')) : Rn l G d mc ms M h0 Q pc L s0 h cu su := by
  subst hs0
  intro p e s m args below meth c H locs ls C0 hW hE hS hl0 hL hst
  have q0 := tyL_app.mp hst
  have hts := C0.2.2.2.2.2.1
  have hK := C0.2.2.2.2.2.2.1
  have cb : va_CN (rmOf d mc ms) s args M.2.2.2.1 idx y host My.1 My.2.1 none (Cond.code y My.1 My.2.1 My.2.2.1 :: GW) (rmOf d' mc' ms') mc' ms' n := by
    refine ⟨⟨rfl, rfl, hdd, by show 8 + (My.2.1 + 11) + 48 * d' ≤ 48 * d; have := mi.2.2.2.2.2; omega, pay_in hts (goodC mi), by rw [hrn]; exact List.mem_cons_self⟩, by have z := hts _ mi.1; rw [hrn] at z; exact z, hts _ mi.2.1, ⟨mi.2.2.1, mi.2.2.2.1⟩, fun sig h => ?_, va_Nw.use rfl (hK.2.2.2.2.2.2.2.1 _ hlk)⟩
    have h2 := mi.2.2.2.2.1
    rw [h] at h2
    exact (Option.some.inj h2).symm
  refine r_go (st0 := (as.reverse ++ tR (20 + ci) 0 (some b) :: st).map (cv G)) C0 hE hS hl0 hL q0.2.2 (va_runIN (As := as.map (cv G)) (b := G.1 + b) ⟨C0.1, C0.2.1, C0.2.2.1, C0.2.2.2.2.1, hts⟩ hct ⟨cb, hy1, hts _ hin⟩ ⟨blindC, fun U hU hWm => ⟨rfl, by rw [hU]; exact hW, hK.to hWm (fun a ha hna => by rw [hU]; exact hS.2.1 a ha hna), q0.2.1, tyL_rev q0.1⟩⟩ rfl (by rw [List.length_map]; exact hn) hl0.1 ?_ (rest_ok (by rw [cats_eq]; exact hr)) hd hc) kk
  show List.map (cv G) (as.reverse ++ tR (20 + ci) 0 (some b) :: st) = _
  rw [List.map_append, List.map_reverse, List.map_cons]
  rfl
end RC
