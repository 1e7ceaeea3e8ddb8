abbrev ix (i : Int32) : Nat := i.toNatClampNeg
def qI (Q : Int32 → Hp → Prop) : Option TV → Hp → Prop := fun r h => ∃ x, r = some (tI x) ∧ Q x h
def qJ (Q : Int64 → Hp → Prop) : Option TV → Hp → Prop := fun r h => ∃ x, r = some (tJ x) ∧ Q x h
def qV (Q : Hp → Prop) : Option TV → Hp → Prop := fun r h => r = none ∧ Q h
def qR (k : Nat) (Q : Option Nat → Hp → Prop) : Option TV → Hp → Prop := fun r h => ∃ x, r = some (tR k 0 x) ∧ Q x h
section RM
variable {l : Launch} {G : Cx} {d mc ms : Nat} {M : Mth} {h0 : Hp} {Q : Option TV → Hp → Prop} {pc : Nat} {L : List (Option TV)} {st : List TV} {h : Hp} {cu su : Nat}
theorem r_nmI {x : Int32} (k : ∀ y, y = x → Rn l G d mc ms M h0 Q pc L (tI y :: st) h cu su) : Rn l G d mc ms M h0 Q pc L (tI x :: st) h cu su := k x rfl
theorem r_nmJ {x : Int64} (k : ∀ y, y = x → Rn l G d mc ms M h0 Q pc L (tJ y :: st) h cu su) : Rn l G d mc ms M h0 Q pc L (tJ x :: st) h cu su := k x rfl
theorem r_nmR {kd n : Nat} {x : Option Nat} (k : ∀ y, y = x → Rn l G d mc ms M h0 Q pc L (tR kd n y :: st) h cu su) : Rn l G d mc ms M h0 Q pc L (tR kd n x :: st) h cu su := k x rfl
/-- an element that is there -/
theorem r_aaldS {kd ti n a b : Nat} {cn : String} {i : Int32} (hd : decode M.1 pc = .ok (.aaload, 1)) (ht : (tysG G)[ti]? = some (G.2.2.1 (50 + kd), .object cn)) (hin : vp_in i n) (hb : hR h a (ix i) = some b) (kk : Rn l G d mc ms M h0 Q (pc + 1) L (tR kd 0 (some b) :: st) h cu su) : Rn l G d mc ms M h0 Q pc L (tI i :: tR (50 + kd) n (some a) :: st) h cu su :=
  r_aald hd ht hin (by rw [hb]; exact kk)
theorem r_getRS {ci kd a k idx rk b : Nat} {C : String} {T : u_T} {ty0 : Nat → FieldType} (cl : Cl ci C T ty0) (hd : decode M.1 pc = .ok (.getfield idx, 3)) (hl : Cond.fieldLink M.2.2.2.1 idx (T k).1 (T k).2.1 (T k).2.2.1 ∈ GW) (hkd : kd = ci ∨ kd = 20 + ci) (hf : fty ci k = 2) (hr : fref ci k = rk) (hk : rk < 40) (hb : hR h a k = some b) (kk : Rn l G d mc ms M h0 Q (pc + 3) L (tR rk 0 (some b) :: st) h cu su) : Rn l G d mc ms M h0 Q pc L (tR kd 0 (some a) :: st) h cu su :=
  r_getR cl hd hl hkd hf hr hk (by rw [hb]; exact kk)
theorem r_putI0 {ci kd a k idx : Nat} {C : String} {T : u_T} {ty0 : Nat → FieldType} {x : Int32} (cl : Cl ci C T ty0) (hd : decode M.1 pc = .ok (.putfield idx, 3)) (hl : Cond.fieldLink M.2.2.2.1 idx (T k).1 (T k).2.1 (T k).2.2.1 ∈ GW) (hkd : kd = ci ∨ kd = 20 + ci) (hf : fty ci k = 0 ∨ fty ci k = 3) (hty : ty0 k = .int) (hfin : (T k).2.2.2 = false ∨ ((T k).2.2.2 = true ∧ M.2.2.2.2 = "<init>" ∧ C = M.2.2.2.1)) (kk : Rn l G d mc ms M h0 Q (pc + 3) L st (wI h a k x) cu su) : Rn l G d mc ms M h0 Q pc L (tI x :: tR kd 0 (some a) :: st) h cu su :=
  r_putI cl hd hl hkd hf hfin (by rw [hty]; rfl) (by rw [hty]; rfl) kk
theorem r_putZ0 {ci kd a k idx : Nat} {C : String} {T : u_T} {ty0 : Nat → FieldType} {x : Int32} (cl : Cl ci C T ty0) (hd : decode M.1 pc = .ok (.putfield idx, 3)) (hl : Cond.fieldLink M.2.2.2.1 idx (T k).1 (T k).2.1 (T k).2.2.1 ∈ GW) (hkd : kd = ci ∨ kd = 20 + ci) (hf : fty ci k = 0 ∨ fty ci k = 3) (hty : ty0 k = .boolean) (hfin : (T k).2.2.2 = false ∨ ((T k).2.2.2 = true ∧ M.2.2.2.2 = "<init>" ∧ C = M.2.2.2.1)) (hb : bz x) (kk : Rn l G d mc ms M h0 Q (pc + 3) L st (wI h a k x) cu su) : Rn l G d mc ms M h0 Q pc L (tI x :: tR kd 0 (some a) :: st) h cu su :=
  r_putI cl hd hl hkd hf hfin (by rw [hty]; exact bz_nar hb) (by rw [hty]; rcases hb with rfl | rfl <;> rfl) kk
theorem r_putJ0 {ci kd a k idx : Nat} {C : String} {T : u_T} {ty0 : Nat → FieldType} {x : Int64} (cl : Cl ci C T ty0) (hd : decode M.1 pc = .ok (.putfield idx, 3)) (hl : Cond.fieldLink M.2.2.2.1 idx (T k).1 (T k).2.1 (T k).2.2.1 ∈ GW) (hkd : kd = ci ∨ kd = 20 + ci) (hf : fty ci k = 1) (hty : ty0 k = .long) (hfin : (T k).2.2.2 = false ∨ ((T k).2.2.2 = true ∧ M.2.2.2.2 = "<init>" ∧ C = M.2.2.2.1)) (kk : Rn l G d mc ms M h0 Q (pc + 3) L st (wJ h a k x) cu su) : Rn l G d mc ms M h0 Q pc L (tJ x :: tR kd 0 (some a) :: st) h cu su :=
  r_putJ cl hd hl hkd hf hfin (by rw [hty]; rfl) (by rw [hty]; rfl) kk
theorem r_putR0 {ci kd a k idx rk n : Nat} {C : String} {T : u_T} {ty0 : Nat → FieldType} {r : Option Nat} (cl : Cl ci C T ty0) (hd : decode M.1 pc = .ok (.putfield idx, 3)) (hl : Cond.fieldLink M.2.2.2.1 idx (T k).1 (T k).2.1 (T k).2.2.1 ∈ GW) (hkd : kd = ci ∨ kd = 20 + ci) (hf : fty ci k = 2) (hr : fref ci k = rk) (hs : kd < 20 → fcon kd k a = none) (hty : (∃ c, ty0 k = .object c) ∨ ∃ c, ty0 k = .array c) (hfin : (T k).2.2.2 = false ∨ ((T k).2.2.2 = true ∧ M.2.2.2.2 = "<init>" ∧ C = M.2.2.2.1)) (kk : Rn l G d mc ms M h0 Q (pc + 3) L st (wR h a k r) cu su) : Rn l G d mc ms M h0 Q pc L (tR rk n r :: tR kd 0 (some a) :: st) h cu su := by
  refine r_putR cl hd hl hkd hf hr hs hfin (fun q => ?_) ?_ kk
  · rcases hty with ⟨c, e⟩ | ⟨c, e⟩ <;> rw [e] <;> exact ⟨rfl, rfl⟩
  · rcases hty with ⟨c, e⟩ | ⟨c, e⟩ <;> rw [e] <;> exact ⟨rfl, rfl⟩
theorem r_bret {v : Int32} (hd : decode M.1 pc = .ok (.ireturn, 1)) (hr : M.2.2.1 = some .boolean) (hc : cu ≤ mc ∧ su ≤ ms) (hb : bz v) (hq : Q (some (tI v)) h) : Rn l G d mc ms M h0 Q pc L [tI v] h cu su := r_zreturn hd hr (bz_nar hb) hc hq
end RM
section RK
variable {l : Launch} {G : Cx} {d mc ms : Nat} {M : Mth} {h0 : Hp} {Q : Option TV → Hp → Prop} {pc : Nat} {L : List (Option TV)} {st : List TV} {h : Hp} {cu su : Nat}
theorem r_callVI {cu' su' : Nat} {Qc : Int32 → Hp → Prop} {ci d' mc' ms' idx n b : Nat} {C : String} {T : u_T} {ty0 : Nat → FieldType} {y : MethodName} {My : Mth} {as : List TV} {s0 : List TV}  (cl : Cl ci C T ty0) (hd : decode M.1 pc = .ok (.invokevirtual idx, 3)) (mi : MI y My n) (hlk : Cond.methodLink M.2.2.2.1 idx y ∈ GW) (hin : Cond.instanceMethod y ∈ GW) (hsel : Cond.selects C y y ∈ GW)
    (hn : as.length = n) (hs0 : s0 = as.reverse ++ tR ci 0 (some b) :: st) (hr : cats st ≤ 8) (hdd : d' + 1 ≤ d) (hc : cu + mc' ≤ mc ∧ su + ms' ≤ ms) (hcu : cu + mc' = cu' ∧ su + ms' = su') (hct : Ct l G d' mc' ms' y My (tR ci 0 (some b) :: as) h (qI Qc)) (kk : ∀ x h', Qc x h' → Rn l G d mc ms M h0 Q (pc + 3) L (tI x :: st) h' cu' su') : Rn l G d mc ms M h0 Q pc L s0 h cu su := by
  obtain ⟨rfl, rfl⟩ := hcu
  exact r_callV cl hd mi hlk hin hsel hn hs0 hr hdd hc hct (fun r h' q _ => by obtain ⟨x, rfl, hq⟩ := q; exact kk x h' hq)
theorem r_callVJ {cu' su' : Nat} {Qc : Int64 → Hp → Prop} {ci d' mc' ms' idx n b : Nat} {C : String} {T : u_T} {ty0 : Nat → FieldType} {y : MethodName} {My : Mth} {as : List TV} {s0 : List TV}  (cl : Cl ci C T ty0) (hd : decode M.1 pc = .ok (.invokevirtual idx, 3)) (mi : MI y My n) (hlk : Cond.methodLink M.2.2.2.1 idx y ∈ GW) (hin : Cond.instanceMethod y ∈ GW) (hsel : Cond.selects C y y ∈ GW)
    (hn : as.length = n) (hs0 : s0 = as.reverse ++ tR ci 0 (some b) :: st) (hr : cats st ≤ 8) (hdd : d' + 1 ≤ d) (hc : cu + mc' ≤ mc ∧ su + ms' ≤ ms) (hcu : cu + mc' = cu' ∧ su + ms' = su') (hct : Ct l G d' mc' ms' y My (tR ci 0 (some b) :: as) h (qJ Qc)) (kk : ∀ x h', Qc x h' → Rn l G d mc ms M h0 Q (pc + 3) L (tJ x :: st) h' cu' su') : Rn l G d mc ms M h0 Q pc L s0 h cu su := by
  obtain ⟨rfl, rfl⟩ := hcu
  exact r_callV cl hd mi hlk hin hsel hn hs0 hr hdd hc hct (fun r h' q _ => by obtain ⟨x, rfl, hq⟩ := q; exact kk x h' hq)
theorem r_callVU {cu' su' : Nat} {Qc : Hp → Prop} {ci d' mc' ms' idx n b : Nat} {C : String} {T : u_T} {ty0 : Nat → FieldType} {y : MethodName} {My : Mth} {as : List TV} {s0 : List TV}  (cl : Cl ci C T ty0) (hd : decode M.1 pc = .ok (.invokevirtual idx, 3)) (mi : MI y My n) (hlk : Cond.methodLink M.2.2.2.1 idx y ∈ GW) (hin : Cond.instanceMethod y ∈ GW) (hsel : Cond.selects C y y ∈ GW)
    (hn : as.length = n) (hs0 : s0 = as.reverse ++ tR ci 0 (some b) :: st) (hr : cats st ≤ 8) (hdd : d' + 1 ≤ d) (hc : cu + mc' ≤ mc ∧ su + ms' ≤ ms) (hcu : cu + mc' = cu' ∧ su + ms' = su') (hct : Ct l G d' mc' ms' y My (tR ci 0 (some b) :: as) h (qV Qc)) (kk : ∀ h', Qc h' → Rn l G d mc ms M h0 Q (pc + 3) L (st) h' cu' su') : Rn l G d mc ms M h0 Q pc L s0 h cu su := by
  obtain ⟨rfl, rfl⟩ := hcu
  exact r_callV cl hd mi hlk hin hsel hn hs0 hr hdd hc hct (fun r h' q _ => by obtain ⟨rfl, hq⟩ := q; exact kk h' hq)
theorem r_callVR {rk : Nat} {cu' su' : Nat} {Qc : Option Nat → Hp → Prop} {ci d' mc' ms' idx n b : Nat} {C : String} {T : u_T} {ty0 : Nat → FieldType} {y : MethodName} {My : Mth} {as : List TV} {s0 : List TV}  (cl : Cl ci C T ty0) (hd : decode M.1 pc = .ok (.invokevirtual idx, 3)) (mi : MI y My n) (hlk : Cond.methodLink M.2.2.2.1 idx y ∈ GW) (hin : Cond.instanceMethod y ∈ GW) (hsel : Cond.selects C y y ∈ GW)
    (hn : as.length = n) (hs0 : s0 = as.reverse ++ tR ci 0 (some b) :: st) (hr : cats st ≤ 8) (hdd : d' + 1 ≤ d) (hc : cu + mc' ≤ mc ∧ su + ms' ≤ ms) (hcu : cu + mc' = cu' ∧ su + ms' = su') (hct : Ct l G d' mc' ms' y My (tR ci 0 (some b) :: as) h (qR rk Qc)) (kk : ∀ x h', Qc x h' → Rn l G d mc ms M h0 Q (pc + 3) L (tR rk 0 x :: st) h' cu' su') : Rn l G d mc ms M h0 Q pc L s0 h cu su := by
  obtain ⟨rfl, rfl⟩ := hcu
  exact r_callV cl hd mi hlk hin hsel hn hs0 hr hdd hc hct (fun r h' q _ => by obtain ⟨x, rfl, hq⟩ := q; exact kk x h' hq)
theorem r_callSI {cu' su' : Nat} {Qc : Int32 → Hp → Prop} {d' mc' ms' idx n : Nat} {y : MethodName} {My : Mth} {as : List TV} {s0 : List TV}  (hd : decode M.1 pc = .ok (.invokestatic idx, 3)) (mi : MI y My n) (hlk : Cond.methodLink M.2.2.2.1 idx y ∈ GW) (hstt : Cond.static y ∈ GW)
    (hn : as.length = n) (hs0 : s0 = as.reverse ++ st) (hr : cats st ≤ 8) (hdd : d' + 1 ≤ d) (hc : cu + mc' ≤ mc ∧ su + ms' ≤ ms) (hcu : cu + mc' = cu' ∧ su + ms' = su') (hct : Ct l G d' mc' ms' y My as h (qI Qc)) (kk : ∀ x h', Qc x h' → Rn l G d mc ms M h0 Q (pc + 3) L (tI x :: st) h' cu' su') : Rn l G d mc ms M h0 Q pc L s0 h cu su := by
  obtain ⟨rfl, rfl⟩ := hcu
  exact r_callS hd mi hlk hstt hn hs0 hr hdd hc hct (fun r h' q _ => by obtain ⟨x, rfl, hq⟩ := q; exact kk x h' hq)
theorem r_callSJ {cu' su' : Nat} {Qc : Int64 → Hp → Prop} {d' mc' ms' idx n : Nat} {y : MethodName} {My : Mth} {as : List TV} {s0 : List TV}  (hd : decode M.1 pc = .ok (.invokestatic idx, 3)) (mi : MI y My n) (hlk : Cond.methodLink M.2.2.2.1 idx y ∈ GW) (hstt : Cond.static y ∈ GW)
    (hn : as.length = n) (hs0 : s0 = as.reverse ++ st) (hr : cats st ≤ 8) (hdd : d' + 1 ≤ d) (hc : cu + mc' ≤ mc ∧ su + ms' ≤ ms) (hcu : cu + mc' = cu' ∧ su + ms' = su') (hct : Ct l G d' mc' ms' y My as h (qJ Qc)) (kk : ∀ x h', Qc x h' → Rn l G d mc ms M h0 Q (pc + 3) L (tJ x :: st) h' cu' su') : Rn l G d mc ms M h0 Q pc L s0 h cu su := by
  obtain ⟨rfl, rfl⟩ := hcu
  exact r_callS hd mi hlk hstt hn hs0 hr hdd hc hct (fun r h' q _ => by obtain ⟨x, rfl, hq⟩ := q; exact kk x h' hq)
theorem r_callSU {cu' su' : Nat} {Qc : Hp → Prop} {d' mc' ms' idx n : Nat} {y : MethodName} {My : Mth} {as : List TV} {s0 : List TV}  (hd : decode M.1 pc = .ok (.invokestatic idx, 3)) (mi : MI y My n) (hlk : Cond.methodLink M.2.2.2.1 idx y ∈ GW) (hstt : Cond.static y ∈ GW)
    (hn : as.length = n) (hs0 : s0 = as.reverse ++ st) (hr : cats st ≤ 8) (hdd : d' + 1 ≤ d) (hc : cu + mc' ≤ mc ∧ su + ms' ≤ ms) (hcu : cu + mc' = cu' ∧ su + ms' = su') (hct : Ct l G d' mc' ms' y My as h (qV Qc)) (kk : ∀ h', Qc h' → Rn l G d mc ms M h0 Q (pc + 3) L (st) h' cu' su') : Rn l G d mc ms M h0 Q pc L s0 h cu su := by
  obtain ⟨rfl, rfl⟩ := hcu
  exact r_callS hd mi hlk hstt hn hs0 hr hdd hc hct (fun r h' q _ => by obtain ⟨rfl, hq⟩ := q; exact kk h' hq)
theorem r_callSR {rk : Nat} {cu' su' : Nat} {Qc : Option Nat → Hp → Prop} {d' mc' ms' idx n : Nat} {y : MethodName} {My : Mth} {as : List TV} {s0 : List TV}  (hd : decode M.1 pc = .ok (.invokestatic idx, 3)) (mi : MI y My n) (hlk : Cond.methodLink M.2.2.2.1 idx y ∈ GW) (hstt : Cond.static y ∈ GW)
    (hn : as.length = n) (hs0 : s0 = as.reverse ++ st) (hr : cats st ≤ 8) (hdd : d' + 1 ≤ d) (hc : cu + mc' ≤ mc ∧ su + ms' ≤ ms) (hcu : cu + mc' = cu' ∧ su + ms' = su') (hct : Ct l G d' mc' ms' y My as h (qR rk Qc)) (kk : ∀ x h', Qc x h' → Rn l G d mc ms M h0 Q (pc + 3) L (tR rk 0 x :: st) h' cu' su') : Rn l G d mc ms M h0 Q pc L s0 h cu su := by
  obtain ⟨rfl, rfl⟩ := hcu
  exact r_callS hd mi hlk hstt hn hs0 hr hdd hc hct (fun r h' q _ => by obtain ⟨x, rfl, hq⟩ := q; exact kk x h' hq)
theorem r_callStrI {cu' su' : Nat} {Qc : Int32 → Hp → Prop} {d' mc' ms' idx n i : Nat} {y : MethodName} {My : Mth} {as : List TV} {s0 : List TV}  (hi : i < 16) (hd : decode M.1 pc = .ok (.invokevirtual idx, 3)) (mi : MI y My n) (hlk : Cond.methodLink M.2.2.2.1 idx y ∈ GW) (hin : Cond.instanceMethod y ∈ GW) (hsel : Cond.selects "java/lang/String" y y ∈ GW)
    (hn : as.length = n) (hs0 : s0 = as.reverse ++ tS i :: st) (hr : cats st ≤ 8) (hdd : d' + 1 ≤ d) (hc : cu + mc' ≤ mc ∧ su + ms' ≤ ms) (hcu : cu + mc' = cu' ∧ su + ms' = su') (hct : Ct l G d' mc' ms' y My (tS i :: as) h (qI Qc)) (kk : ∀ x h', Qc x h' → Rn l G d mc ms M h0 Q (pc + 3) L (tI x :: st) h' cu' su') : Rn l G d mc ms M h0 Q pc L s0 h cu su := by
  obtain ⟨rfl, rfl⟩ := hcu
  exact r_callStr hi hd mi hlk hin hsel hn hs0 hr hdd hc hct (fun r h' q _ => by obtain ⟨x, rfl, hq⟩ := q; exact kk x h' hq)
theorem r_callIU {cu' su' : Nat} {Qc : Hp → Prop} {ci d' mc' ms' idx n b : Nat} {y : MethodName} {My : Mth} {as : List TV} {s0 : List TV}  (hd : decode M.1 pc = .ok (.invokespecial idx, 3)) (mi : MI y My n) (hrn : My.2.2.1 = none) (hlk : Cond.methodLink M.2.2.2.1 idx y ∈ GW) (hin : Cond.instanceMethod y ∈ GW) (hy1 : y.name = "<init>")
    (hn : as.length = n) (hs0 : s0 = as.reverse ++ tR (20 + ci) 0 (some b) :: st) (hr : cats st ≤ 8) (hdd : d' + 1 ≤ d) (hc : cu + mc' ≤ mc ∧ su + ms' ≤ ms) (hcu : cu + mc' = cu' ∧ su + ms' = su') (hct : Ct l G d' mc' ms' y My (tR (20 + ci) 0 (some b) :: as) h (qV Qc)) (kk : ∀ h', Qc h' → Rn l G d mc ms M h0 Q (pc + 3) L (st) h' cu' su') : Rn l G d mc ms M h0 Q pc L s0 h cu su := by
  obtain ⟨rfl, rfl⟩ := hcu
  exact r_callI hd mi hrn hlk hin hy1 hn hs0 hr hdd hc hct (fun r h' q _ => by obtain ⟨rfl, hq⟩ := q; exact kk h' hq)
theorem r_callINU {cu' su' : Nat} {Qc : Hp → Prop} {ci d' mc' ms' idx n b : Nat} {host : String} {y : MethodName} {My : Mth} {as : List TV} {s0 : List TV}  (hd : decode M.1 pc = .ok (.invokespecial idx, 3)) (mi : MI y My n) (hrn : My.2.2.1 = none) (hlk : (M.2.2.2.1, idx, y, host) ∈ nestT) (hin : Cond.instanceMethod y ∈ GW) (hy1 : y.name = "<init>")
    (hn : as.length = n) (hs0 : s0 = as.reverse ++ tR (20 + ci) 0 (some b) :: st) (hr : cats st ≤ 8) (hdd : d' + 1 ≤ d) (hc : cu + mc' ≤ mc ∧ su + ms' ≤ ms) (hcu : cu + mc' = cu' ∧ su + ms' = su') (hct : Ct l G d' mc' ms' y My (tR (20 + ci) 0 (some b) :: as) h (qV Qc)) (kk : ∀ h', Qc h' → Rn l G d mc ms M h0 Q (pc + 3) L (st) h' cu' su') : Rn l G d mc ms M h0 Q pc L s0 h cu su := by
  obtain ⟨rfl, rfl⟩ := hcu
  exact r_callIN hd mi hrn hlk hin hy1 hn hs0 hr hdd hc hct (fun r h' q _ => by obtain ⟨rfl, hq⟩ := q; exact kk h' hq)
end RK
theorem gf_0_0 : fty 0 0 = 2 ∧ fref 0 0 = 51 := by decide +kernel
theorem pf_0_0 : ((∃ c, tyX0 0 = .object c) ∨ ∃ c, tyX0 0 = .array c) ∧ (TX0 0).2.2.2 = true := ⟨Or.inr ⟨_, rfl⟩, by decide +kernel⟩
theorem gc_0_0 : ∀ a, fcon 0 0 a = some (a + 1, 6) := fun _ => rfl
theorem gf_0_1 : fty 0 1 = 0 ∨ fty 0 1 = 3 := by decide +kernel
theorem pf_0_1 : tyX0 1 = .int ∧ (TX0 1).2.2.2 = false := by decide +kernel
theorem gf_1_0 : fty 1 0 = 0 ∨ fty 1 0 = 3 := by decide +kernel
theorem pf_1_0 : tyX1 0 = .int ∧ (TX1 0).2.2.2 = true := by decide +kernel
theorem gf_1_1 : fty 1 1 = 0 ∨ fty 1 1 = 3 := by decide +kernel
theorem pf_1_1 : tyX1 1 = .int ∧ (TX1 1).2.2.2 = false := by decide +kernel
theorem gf_1_2 : fty 1 2 = 0 ∨ fty 1 2 = 3 := by decide +kernel
theorem pf_1_2 : tyX1 2 = .int ∧ (TX1 2).2.2.2 = false := by decide +kernel
theorem gf_1_3 : fty 1 3 = 0 ∨ fty 1 3 = 3 := by decide +kernel
theorem pf_1_3 : tyX1 3 = .int ∧ (TX1 3).2.2.2 = false := by decide +kernel
theorem gf_1_4 : fty 1 4 = 0 ∨ fty 1 4 = 3 := by decide +kernel
theorem pf_1_4 : tyX1 4 = .int ∧ (TX1 4).2.2.2 = false := by decide +kernel
theorem gf_1_5 : fty 1 5 = 0 ∨ fty 1 5 = 3 := by decide +kernel
theorem pf_1_5 : tyX1 5 = .int ∧ (TX1 5).2.2.2 = false := by decide +kernel
theorem gf_1_6 : fty 1 6 = 0 ∨ fty 1 6 = 3 := by decide +kernel
theorem pf_1_6 : tyX1 6 = .int ∧ (TX1 6).2.2.2 = false := by decide +kernel
theorem gf_1_7 : fty 1 7 = 0 ∨ fty 1 7 = 3 := by decide +kernel
theorem pf_1_7 : tyX1 7 = .int ∧ (TX1 7).2.2.2 = false := by decide +kernel
theorem gf_1_8 : fty 1 8 = 0 ∨ fty 1 8 = 3 := by decide +kernel
theorem pf_1_8 : tyX1 8 = .int ∧ (TX1 8).2.2.2 = false := by decide +kernel
theorem gf_1_9 : fty 1 9 = 2 ∧ fref 1 9 = 40 := by decide +kernel
theorem pf_1_9 : ((∃ c, tyX1 9 = .object c) ∨ ∃ c, tyX1 9 = .array c) ∧ (TX1 9).2.2.2 = true := ⟨Or.inr ⟨_, rfl⟩, by decide +kernel⟩
theorem gc_1_9 : ∀ a, fcon 1 9 a = some (a + 1, 96) := fun _ => rfl
theorem gf_1_10 : fty 1 10 = 2 ∧ fref 1 10 = 40 := by decide +kernel
theorem pf_1_10 : ((∃ c, tyX1 10 = .object c) ∨ ∃ c, tyX1 10 = .array c) ∧ (TX1 10).2.2.2 = true := ⟨Or.inr ⟨_, rfl⟩, by decide +kernel⟩
theorem gc_1_10 : ∀ a, fcon 1 10 a = some (a + 2, 216) := fun _ => rfl
theorem gf_1_11 : fty 1 11 = 2 ∧ fref 1 11 = 43 := by decide +kernel
theorem pf_1_11 : ((∃ c, tyX1 11 = .object c) ∨ ∃ c, tyX1 11 = .array c) ∧ (TX1 11).2.2.2 = true := ⟨Or.inr ⟨_, rfl⟩, by decide +kernel⟩
theorem gc_1_11 : ∀ a, fcon 1 11 a = some (a + 3, 36) := fun _ => rfl
theorem gf_1_12 : fty 1 12 = 2 ∧ fref 1 12 = 40 := by decide +kernel
theorem pf_1_12 : ((∃ c, tyX1 12 = .object c) ∨ ∃ c, tyX1 12 = .array c) ∧ (TX1 12).2.2.2 = true := ⟨Or.inr ⟨_, rfl⟩, by decide +kernel⟩
theorem gc_1_12 : ∀ a, fcon 1 12 a = some (a + 4, 36) := fun _ => rfl
theorem gf_2_0 : fty 2 0 = 2 ∧ fref 2 0 = 10 := by decide +kernel
theorem pf_2_0 : ((∃ c, tyX2 0 = .object c) ∨ ∃ c, tyX2 0 = .array c) ∧ (TX2 0).2.2.2 = true := ⟨Or.inl ⟨_, rfl⟩, by decide +kernel⟩
theorem gc_2_0 : ∀ a, fcon 2 0 a = some (2, 0) := fun _ => rfl
theorem gf_2_1 : fty 2 1 = 2 ∧ fref 2 1 = 8 := by decide +kernel
theorem pf_2_1 : ((∃ c, tyX2 1 = .object c) ∨ ∃ c, tyX2 1 = .array c) ∧ (TX2 1).2.2.2 = true := ⟨Or.inl ⟨_, rfl⟩, by decide +kernel⟩
theorem gc_2_1 : ∀ a, fcon 2 1 a = some (5, 0) := fun _ => rfl
theorem gf_2_2 : fty 2 2 = 2 ∧ fref 2 2 = 40 := by decide +kernel
theorem pf_2_2 : ((∃ c, tyX2 2 = .object c) ∨ ∃ c, tyX2 2 = .array c) ∧ (TX2 2).2.2.2 = true := ⟨Or.inr ⟨_, rfl⟩, by decide +kernel⟩
theorem gc_2_2 : ∀ a, fcon 2 2 a = some (7, 8) := fun _ => rfl
theorem gf_2_3 : fty 2 3 = 2 ∧ fref 2 3 = 1 := by decide +kernel
theorem pf_2_3 : ((∃ c, tyX2 3 = .object c) ∨ ∃ c, tyX2 3 = .array c) ∧ (TX2 3).2.2.2 = false := ⟨Or.inl ⟨_, rfl⟩, by decide +kernel⟩
theorem gc_2_3 : ∀ a, fcon 2 3 a = none := fun _ => rfl
theorem gf_2_4 : fty 2 4 = 0 ∨ fty 2 4 = 3 := by decide +kernel
theorem pf_2_4 : tyX2 4 = .int ∧ (TX2 4).2.2.2 = false := by decide +kernel
theorem gf_2_5 : fty 2 5 = 0 ∨ fty 2 5 = 3 := by decide +kernel
theorem pf_2_5 : tyX2 5 = .int ∧ (TX2 5).2.2.2 = false := by decide +kernel
theorem gf_2_6 : fty 2 6 = 0 ∨ fty 2 6 = 3 := by decide +kernel
theorem pf_2_6 : tyX2 6 = .int ∧ (TX2 6).2.2.2 = false := by decide +kernel
theorem gf_2_7 : fty 2 7 = 0 ∨ fty 2 7 = 3 := by decide +kernel
theorem pf_2_7 : tyX2 7 = .int ∧ (TX2 7).2.2.2 = false := by decide +kernel
theorem gf_3_0 : fty 3 0 = 2 ∧ fref 3 0 = 40 := by decide +kernel
theorem pf_3_0 : ((∃ c, tyX3 0 = .object c) ∨ ∃ c, tyX3 0 = .array c) ∧ (TX3 0).2.2.2 = true := ⟨Or.inr ⟨_, rfl⟩, by decide +kernel⟩
theorem gc_3_0 : ∀ a, fcon 3 0 a = some (1, 8) := fun _ => rfl
theorem gf_3_1 : fty 3 1 = 2 ∧ fref 3 1 = 40 := by decide +kernel
theorem pf_3_1 : ((∃ c, tyX3 1 = .object c) ∨ ∃ c, tyX3 1 = .array c) ∧ (TX3 1).2.2.2 = true := ⟨Or.inr ⟨_, rfl⟩, by decide +kernel⟩
theorem gc_3_1 : ∀ a, fcon 3 1 a = some (31, 576) := fun _ => rfl
theorem gf_3_2 : fty 3 2 = 0 ∨ fty 3 2 = 3 := by decide +kernel
theorem pf_3_2 : tyX3 2 = .int ∧ (TX3 2).2.2.2 = false := by decide +kernel
theorem gf_3_3 : fty 3 3 = 0 ∨ fty 3 3 = 3 := by decide +kernel
theorem pf_3_3 : tyX3 3 = .int ∧ (TX3 3).2.2.2 = false := by decide +kernel
theorem gf_3_4 : fty 3 4 = 0 ∨ fty 3 4 = 3 := by decide +kernel
theorem pf_3_4 : tyX3 4 = .int ∧ (TX3 4).2.2.2 = false := by decide +kernel
theorem gf_4_0 : fty 4 0 = 2 ∧ fref 4 0 = 40 := by decide +kernel
theorem pf_4_0 : ((∃ c, tyX4 0 = .object c) ∨ ∃ c, tyX4 0 = .array c) ∧ (TX4 0).2.2.2 = true := ⟨Or.inr ⟨_, rfl⟩, by decide +kernel⟩
theorem gc_4_0 : ∀ a, fcon 4 0 a = some (44, 72) := fun _ => rfl
theorem gf_4_1 : fty 4 1 = 2 ∧ fref 4 1 = 40 := by decide +kernel
theorem pf_4_1 : ((∃ c, tyX4 1 = .object c) ∨ ∃ c, tyX4 1 = .array c) ∧ (TX4 1).2.2.2 = true := ⟨Or.inr ⟨_, rfl⟩, by decide +kernel⟩
theorem gc_4_1 : ∀ a, fcon 4 1 a = some (45, 72) := fun _ => rfl
theorem gf_4_2 : fty 4 2 = 2 ∧ fref 4 2 = 43 := by decide +kernel
theorem pf_4_2 : ((∃ c, tyX4 2 = .object c) ∨ ∃ c, tyX4 2 = .array c) ∧ (TX4 2).2.2.2 = true := ⟨Or.inr ⟨_, rfl⟩, by decide +kernel⟩
theorem gc_4_2 : ∀ a, fcon 4 2 a = some (46, 72) := fun _ => rfl
theorem gf_4_3 : fty 4 3 = 0 ∨ fty 4 3 = 3 := by decide +kernel
theorem pf_4_3 : tyX4 3 = .int ∧ (TX4 3).2.2.2 = false := by decide +kernel
theorem gf_4_4 : fty 4 4 = 2 ∧ fref 4 4 = 40 := by decide +kernel
theorem pf_4_4 : ((∃ c, tyX4 4 = .object c) ∨ ∃ c, tyX4 4 = .array c) ∧ (TX4 4).2.2.2 = true := ⟨Or.inr ⟨_, rfl⟩, by decide +kernel⟩
theorem gc_4_4 : ∀ a, fcon 4 4 a = some (47, 24) := fun _ => rfl
theorem gf_4_5 : fty 4 5 = 2 ∧ fref 4 5 = 0 := by decide +kernel
theorem pf_4_5 : ((∃ c, tyX4 5 = .object c) ∨ ∃ c, tyX4 5 = .array c) ∧ (TX4 5).2.2.2 = true := ⟨Or.inl ⟨_, rfl⟩, by decide +kernel⟩
theorem gc_4_5 : ∀ a, fcon 4 5 a = some (48, 0) := fun _ => rfl
theorem gf_4_6 : fty 4 6 = 2 ∧ fref 4 6 = 40 := by decide +kernel
theorem pf_4_6 : ((∃ c, tyX4 6 = .object c) ∨ ∃ c, tyX4 6 = .array c) ∧ (TX4 6).2.2.2 = true := ⟨Or.inr ⟨_, rfl⟩, by decide +kernel⟩
theorem gc_4_6 : ∀ a, fcon 4 6 a = some (50, 24) := fun _ => rfl
theorem gf_5_0 : fty 5 0 = 2 ∧ fref 5 0 = 40 := by decide +kernel
theorem pf_5_0 : ((∃ c, tyX5 0 = .object c) ∨ ∃ c, tyX5 0 = .array c) ∧ (TX5 0).2.2.2 = true := ⟨Or.inr ⟨_, rfl⟩, by decide +kernel⟩
theorem gc_5_0 : ∀ a, fcon 5 0 a = some (1, 8) := fun _ => rfl
theorem gf_5_1 : fty 5 1 = 2 ∧ fref 5 1 = 40 := by decide +kernel
theorem pf_5_1 : ((∃ c, tyX5 1 = .object c) ∨ ∃ c, tyX5 1 = .array c) ∧ (TX5 1).2.2.2 = true := ⟨Or.inr ⟨_, rfl⟩, by decide +kernel⟩
theorem gc_5_1 : ∀ a, fcon 5 1 a = some (15, 1296) := fun _ => rfl
theorem gf_5_2 : fty 5 2 = 2 ∧ fref 5 2 = 43 := by decide +kernel
theorem pf_5_2 : ((∃ c, tyX5 2 = .object c) ∨ ∃ c, tyX5 2 = .array c) ∧ (TX5 2).2.2.2 = true := ⟨Or.inr ⟨_, rfl⟩, by decide +kernel⟩
theorem gc_5_2 : ∀ a, fcon 5 2 a = some (16, 216) := fun _ => rfl
theorem gf_5_3 : fty 5 3 = 0 ∨ fty 5 3 = 3 := by decide +kernel
theorem pf_5_3 : tyX5 3 = .int ∧ (TX5 3).2.2.2 = false := by decide +kernel
theorem gf_5_4 : fty 5 4 = 0 ∨ fty 5 4 = 3 := by decide +kernel
theorem pf_5_4 : tyX5 4 = .int ∧ (TX5 4).2.2.2 = false := by decide +kernel
theorem gf_5_5 : fty 5 5 = 2 ∧ fref 5 5 = 40 := by decide +kernel
theorem pf_5_5 : ((∃ c, tyX5 5 = .object c) ∨ ∃ c, tyX5 5 = .array c) ∧ (TX5 5).2.2.2 = true := ⟨Or.inr ⟨_, rfl⟩, by decide +kernel⟩
theorem gc_5_5 : ∀ a, fcon 5 5 a = some (17, 8) := fun _ => rfl
theorem gf_5_6 : fty 5 6 = 0 ∨ fty 5 6 = 3 := by decide +kernel
theorem pf_5_6 : tyX5 6 = .int ∧ (TX5 6).2.2.2 = false := by decide +kernel
theorem gf_5_7 : fty 5 7 = 2 ∧ fref 5 7 = 40 := by decide +kernel
theorem pf_5_7 : ((∃ c, tyX5 7 = .object c) ∨ ∃ c, tyX5 7 = .array c) ∧ (TX5 7).2.2.2 = true := ⟨Or.inr ⟨_, rfl⟩, by decide +kernel⟩
theorem gc_5_7 : ∀ a, fcon 5 7 a = some (18, 6) := fun _ => rfl
theorem gf_5_8 : fty 5 8 = 2 ∧ fref 5 8 = 43 := by decide +kernel
theorem pf_5_8 : ((∃ c, tyX5 8 = .object c) ∨ ∃ c, tyX5 8 = .array c) ∧ (TX5 8).2.2.2 = true := ⟨Or.inr ⟨_, rfl⟩, by decide +kernel⟩
theorem gc_5_8 : ∀ a, fcon 5 8 a = some (19, 48) := fun _ => rfl
theorem gf_5_9 : fty 5 9 = 2 ∧ fref 5 9 = 40 := by decide +kernel
theorem pf_5_9 : ((∃ c, tyX5 9 = .object c) ∨ ∃ c, tyX5 9 = .array c) ∧ (TX5 9).2.2.2 = true := ⟨Or.inr ⟨_, rfl⟩, by decide +kernel⟩
theorem gc_5_9 : ∀ a, fcon 5 9 a = some (20, 8) := fun _ => rfl
theorem gf_5_10 : fty 5 10 = 2 ∧ fref 5 10 = 43 := by decide +kernel
theorem pf_5_10 : ((∃ c, tyX5 10 = .object c) ∨ ∃ c, tyX5 10 = .array c) ∧ (TX5 10).2.2.2 = true := ⟨Or.inr ⟨_, rfl⟩, by decide +kernel⟩
theorem gc_5_10 : ∀ a, fcon 5 10 a = some (21, 8) := fun _ => rfl
theorem gf_5_11 : fty 5 11 = 2 ∧ fref 5 11 = 43 := by decide +kernel
theorem pf_5_11 : ((∃ c, tyX5 11 = .object c) ∨ ∃ c, tyX5 11 = .array c) ∧ (TX5 11).2.2.2 = true := ⟨Or.inr ⟨_, rfl⟩, by decide +kernel⟩
theorem gc_5_11 : ∀ a, fcon 5 11 a = some (22, 8) := fun _ => rfl
theorem gf_5_12 : fty 5 12 = 2 ∧ fref 5 12 = 43 := by decide +kernel
theorem pf_5_12 : ((∃ c, tyX5 12 = .object c) ∨ ∃ c, tyX5 12 = .array c) ∧ (TX5 12).2.2.2 = true := ⟨Or.inr ⟨_, rfl⟩, by decide +kernel⟩
theorem gc_5_12 : ∀ a, fcon 5 12 a = some (23, 8) := fun _ => rfl
theorem gf_5_13 : fty 5 13 = 2 ∧ fref 5 13 = 40 := by decide +kernel
theorem pf_5_13 : ((∃ c, tyX5 13 = .object c) ∨ ∃ c, tyX5 13 = .array c) ∧ (TX5 13).2.2.2 = true := ⟨Or.inr ⟨_, rfl⟩, by decide +kernel⟩
theorem gc_5_13 : ∀ a, fcon 5 13 a = some (24, 8) := fun _ => rfl
theorem gf_5_14 : fty 5 14 = 2 ∧ fref 5 14 = 40 := by decide +kernel
theorem pf_5_14 : ((∃ c, tyX5 14 = .object c) ∨ ∃ c, tyX5 14 = .array c) ∧ (TX5 14).2.2.2 = true := ⟨Or.inr ⟨_, rfl⟩, by decide +kernel⟩
theorem gc_5_14 : ∀ a, fcon 5 14 a = some (25, 8) := fun _ => rfl
theorem gf_5_15 : fty 5 15 = 0 ∨ fty 5 15 = 3 := by decide +kernel
theorem pf_5_15 : tyX5 15 = .int ∧ (TX5 15).2.2.2 = false := by decide +kernel
theorem gf_5_16 : fty 5 16 = 0 ∨ fty 5 16 = 3 := by decide +kernel
theorem pf_5_16 : tyX5 16 = .int ∧ (TX5 16).2.2.2 = false := by decide +kernel
theorem gf_5_17 : fty 5 17 = 0 ∨ fty 5 17 = 3 := by decide +kernel
theorem pf_5_17 : tyX5 17 = .int ∧ (TX5 17).2.2.2 = false := by decide +kernel
theorem gf_5_18 : fty 5 18 = 0 ∨ fty 5 18 = 3 := by decide +kernel
theorem pf_5_18 : tyX5 18 = .int ∧ (TX5 18).2.2.2 = false := by decide +kernel
theorem gf_5_19 : fty 5 19 = 0 ∨ fty 5 19 = 3 := by decide +kernel
theorem pf_5_19 : tyX5 19 = .int ∧ (TX5 19).2.2.2 = false := by decide +kernel
theorem gf_6_0 : fty 6 0 = 2 ∧ fref 6 0 = 40 := by decide +kernel
theorem pf_6_0 : ((∃ c, tyX6 0 = .object c) ∨ ∃ c, tyX6 0 = .array c) ∧ (TX6 0).2.2.2 = true := ⟨Or.inr ⟨_, rfl⟩, by decide +kernel⟩
theorem gc_6_0 : ∀ a, fcon 6 0 a = some (a + 1, 96) := fun _ => rfl
theorem gf_6_1 : fty 6 1 = 0 ∨ fty 6 1 = 3 := by decide +kernel
theorem pf_6_1 : tyX6 1 = .int ∧ (TX6 1).2.2.2 = false := by decide +kernel
theorem gf_7_0 : fty 7 0 = 2 ∧ fref 7 0 = 5 := by decide +kernel
theorem pf_7_0 : ((∃ c, tyX7 0 = .object c) ∨ ∃ c, tyX7 0 = .array c) ∧ (TX7 0).2.2.2 = true := ⟨Or.inl ⟨_, rfl⟩, by decide +kernel⟩
theorem gc_7_0 : ∀ a, fcon 7 0 a = some (14, 0) := fun _ => rfl
theorem gf_7_1 : fty 7 1 = 2 ∧ fref 7 1 = 3 := by decide +kernel
theorem pf_7_1 : ((∃ c, tyX7 1 = .object c) ∨ ∃ c, tyX7 1 = .array c) ∧ (TX7 1).2.2.2 = true := ⟨Or.inl ⟨_, rfl⟩, by decide +kernel⟩
theorem gc_7_1 : ∀ a, fcon 7 1 a = some (30, 0) := fun _ => rfl
theorem gf_7_2 : fty 7 2 = 2 ∧ fref 7 2 = 51 := by decide +kernel
theorem pf_7_2 : ((∃ c, tyX7 2 = .object c) ∨ ∃ c, tyX7 2 = .array c) ∧ (TX7 2).2.2.2 = true := ⟨Or.inr ⟨_, rfl⟩, by decide +kernel⟩
theorem gc_7_2 : ∀ a, fcon 7 2 a = some (33, 10) := fun _ => rfl
theorem gf_7_3 : fty 7 3 = 0 ∨ fty 7 3 = 3 := by decide +kernel
theorem pf_7_3 : tyX7 3 = .int ∧ (TX7 3).2.2.2 = false := by decide +kernel
theorem gf_7_4 : fty 7 4 = 2 ∧ fref 7 4 = 40 := by decide +kernel
theorem pf_7_4 : ((∃ c, tyX7 4 = .object c) ∨ ∃ c, tyX7 4 = .array c) ∧ (TX7 4).2.2.2 = true := ⟨Or.inr ⟨_, rfl⟩, by decide +kernel⟩
theorem gc_7_4 : ∀ a, fcon 7 4 a = some (34, 1024) := fun _ => rfl
theorem gf_7_5 : fty 7 5 = 0 ∨ fty 7 5 = 3 := by decide +kernel
theorem pf_7_5 : tyX7 5 = .int ∧ (TX7 5).2.2.2 = false := by decide +kernel
theorem gf_7_6 : fty 7 6 = 0 ∨ fty 7 6 = 3 := by decide +kernel
theorem pf_7_6 : tyX7 6 = .int ∧ (TX7 6).2.2.2 = false := by decide +kernel
theorem gf_7_7 : fty 7 7 = 2 ∧ fref 7 7 = 40 := by decide +kernel
theorem pf_7_7 : ((∃ c, tyX7 7 = .object c) ∨ ∃ c, tyX7 7 = .array c) ∧ (TX7 7).2.2.2 = true := ⟨Or.inr ⟨_, rfl⟩, by decide +kernel⟩
theorem gc_7_7 : ∀ a, fcon 7 7 a = some (35, 1024) := fun _ => rfl
theorem gf_7_8 : fty 7 8 = 2 ∧ fref 7 8 = 40 := by decide +kernel
theorem pf_7_8 : ((∃ c, tyX7 8 = .object c) ∨ ∃ c, tyX7 8 = .array c) ∧ (TX7 8).2.2.2 = true := ⟨Or.inr ⟨_, rfl⟩, by decide +kernel⟩
theorem gc_7_8 : ∀ a, fcon 7 8 a = some (36, 10) := fun _ => rfl
theorem gf_7_9 : fty 7 9 = 2 ∧ fref 7 9 = 40 := by decide +kernel
theorem pf_7_9 : ((∃ c, tyX7 9 = .object c) ∨ ∃ c, tyX7 9 = .array c) ∧ (TX7 9).2.2.2 = true := ⟨Or.inr ⟨_, rfl⟩, by decide +kernel⟩
theorem gc_7_9 : ∀ a, fcon 7 9 a = some (37, 120) := fun _ => rfl
theorem gf_7_10 : fty 7 10 = 2 ∧ fref 7 10 = 40 := by decide +kernel
theorem pf_7_10 : ((∃ c, tyX7 10 = .object c) ∨ ∃ c, tyX7 10 = .array c) ∧ (TX7 10).2.2.2 = true := ⟨Or.inr ⟨_, rfl⟩, by decide +kernel⟩
theorem gc_7_10 : ∀ a, fcon 7 10 a = some (38, 1024) := fun _ => rfl
theorem gf_7_11 : fty 7 11 = 0 ∨ fty 7 11 = 3 := by decide +kernel
theorem pf_7_11 : tyX7 11 = .int ∧ (TX7 11).2.2.2 = false := by decide +kernel
theorem gf_7_12 : fty 7 12 = 2 ∧ fref 7 12 = 0 := by decide +kernel
theorem pf_7_12 : ((∃ c, tyX7 12 = .object c) ∨ ∃ c, tyX7 12 = .array c) ∧ (TX7 12).2.2.2 = true := ⟨Or.inl ⟨_, rfl⟩, by decide +kernel⟩
theorem gc_7_12 : ∀ a, fcon 7 12 a = some (39, 0) := fun _ => rfl
theorem gf_7_13 : fty 7 13 = 2 ∧ fref 7 13 = 43 := by decide +kernel
theorem pf_7_13 : ((∃ c, tyX7 13 = .object c) ∨ ∃ c, tyX7 13 = .array c) ∧ (TX7 13).2.2.2 = true := ⟨Or.inr ⟨_, rfl⟩, by decide +kernel⟩
theorem gc_7_13 : ∀ a, fcon 7 13 a = some (41, 480) := fun _ => rfl
theorem gf_7_14 : fty 7 14 = 2 ∧ fref 7 14 = 43 := by decide +kernel
theorem pf_7_14 : ((∃ c, tyX7 14 = .object c) ∨ ∃ c, tyX7 14 = .array c) ∧ (TX7 14).2.2.2 = true := ⟨Or.inr ⟨_, rfl⟩, by decide +kernel⟩
theorem gc_7_14 : ∀ a, fcon 7 14 a = some (42, 336) := fun _ => rfl
theorem gf_8_0 : fty 8 0 = 0 ∨ fty 8 0 = 3 := by decide +kernel
theorem pf_8_0 : tyX8 0 = .int ∧ (TX8 0).2.2.2 = false := by decide +kernel
theorem gf_8_1 : fty 8 1 = 2 ∧ fref 8 1 = 40 := by decide +kernel
theorem pf_8_1 : ((∃ c, tyX8 1 = .object c) ∨ ∃ c, tyX8 1 = .array c) ∧ (TX8 1).2.2.2 = true := ⟨Or.inr ⟨_, rfl⟩, by decide +kernel⟩
theorem gc_8_1 : ∀ a, fcon 8 1 a = some (6, 512) := fun _ => rfl
theorem gf_8_2 : fty 8 2 = 0 ∨ fty 8 2 = 3 := by decide +kernel
theorem pf_8_2 : tyX8 2 = .int ∧ (TX8 2).2.2.2 = false := by decide +kernel
theorem gf_9_0 : fty 9 0 = 0 ∨ fty 9 0 = 3 := by decide +kernel
theorem pf_9_0 : tyX9 0 = .boolean ∧ (TX9 0).2.2.2 = false := by decide +kernel
theorem gf_9_1 : fty 9 1 = 0 ∨ fty 9 1 = 3 := by decide +kernel
theorem pf_9_1 : tyX9 1 = .int ∧ (TX9 1).2.2.2 = false := by decide +kernel
theorem gf_9_2 : fty 9 2 = 2 ∧ fref 9 2 = 40 := by decide +kernel
theorem pf_9_2 : ((∃ c, tyX9 2 = .object c) ∨ ∃ c, tyX9 2 = .array c) ∧ (TX9 2).2.2.2 = true := ⟨Or.inr ⟨_, rfl⟩, by decide +kernel⟩
theorem gc_9_2 : ∀ a, fcon 9 2 a = some (27, 64) := fun _ => rfl
theorem gf_9_3 : fty 9 3 = 2 ∧ fref 9 3 = 43 := by decide +kernel
theorem pf_9_3 : ((∃ c, tyX9 3 = .object c) ∨ ∃ c, tyX9 3 = .array c) ∧ (TX9 3).2.2.2 = true := ⟨Or.inr ⟨_, rfl⟩, by decide +kernel⟩
theorem gc_9_3 : ∀ a, fcon 9 3 a = some (28, 256) := fun _ => rfl
theorem gf_9_4 : fty 9 4 = 2 ∧ fref 9 4 = 43 := by decide +kernel
theorem pf_9_4 : ((∃ c, tyX9 4 = .object c) ∨ ∃ c, tyX9 4 = .array c) ∧ (TX9 4).2.2.2 = true := ⟨Or.inr ⟨_, rfl⟩, by decide +kernel⟩
theorem gc_9_4 : ∀ a, fcon 9 4 a = some (29, 8) := fun _ => rfl
theorem gf_10_0 : fty 10 0 = 2 ∧ fref 10 0 = 40 := by decide +kernel
theorem pf_10_0 : ((∃ c, tyX10 0 = .object c) ∨ ∃ c, tyX10 0 = .array c) ∧ (TX10 0).2.2.2 = true := ⟨Or.inr ⟨_, rfl⟩, by decide +kernel⟩
theorem gc_10_0 : ∀ a, fcon 10 0 a = some (3, 600) := fun _ => rfl
theorem gf_10_1 : fty 10 1 = 0 ∨ fty 10 1 = 3 := by decide +kernel
theorem pf_10_1 : tyX10 1 = .int ∧ (TX10 1).2.2.2 = false := by decide +kernel
theorem gf_10_2 : fty 10 2 = 0 ∨ fty 10 2 = 3 := by decide +kernel
theorem pf_10_2 : tyX10 2 = .int ∧ (TX10 2).2.2.2 = false := by decide +kernel
theorem gf_10_3 : fty 10 3 = 0 ∨ fty 10 3 = 3 := by decide +kernel
theorem pf_10_3 : tyX10 3 = .int ∧ (TX10 3).2.2.2 = false := by decide +kernel
theorem gf_10_4 : fty 10 4 = 0 ∨ fty 10 4 = 3 := by decide +kernel
theorem pf_10_4 : tyX10 4 = .int ∧ (TX10 4).2.2.2 = false := by decide +kernel
theorem gf_10_5 : fty 10 5 = 0 ∨ fty 10 5 = 3 := by decide +kernel
theorem pf_10_5 : tyX10 5 = .int ∧ (TX10 5).2.2.2 = false := by decide +kernel
theorem gf_10_6 : fty 10 6 = 0 ∨ fty 10 6 = 3 := by decide +kernel
theorem pf_10_6 : tyX10 6 = .int ∧ (TX10 6).2.2.2 = false := by decide +kernel
theorem gf_11_0 : fty 11 0 = 2 ∧ fref 11 0 = 40 := by decide +kernel
theorem pf_11_0 : ((∃ c, tyX11 0 = .object c) ∨ ∃ c, tyX11 0 = .array c) ∧ (TX11 0).2.2.2 = true := ⟨Or.inr ⟨_, rfl⟩, by decide +kernel⟩
theorem gc_11_0 : ∀ a, fcon 11 0 a = some (1, 8) := fun _ => rfl
theorem gf_11_1 : fty 11 1 = 2 ∧ fref 11 1 = 10 := by decide +kernel
theorem pf_11_1 : ((∃ c, tyX11 1 = .object c) ∨ ∃ c, tyX11 1 = .array c) ∧ (TX11 1).2.2.2 = true := ⟨Or.inl ⟨_, rfl⟩, by decide +kernel⟩
theorem gc_11_1 : ∀ a, fcon 11 1 a = some (2, 0) := fun _ => rfl
theorem gf_11_2 : fty 11 2 = 2 ∧ fref 11 2 = 2 := by decide +kernel
theorem pf_11_2 : ((∃ c, tyX11 2 = .object c) ∨ ∃ c, tyX11 2 = .array c) ∧ (TX11 2).2.2.2 = true := ⟨Or.inl ⟨_, rfl⟩, by decide +kernel⟩
theorem gc_11_2 : ∀ a, fcon 11 2 a = some (4, 0) := fun _ => rfl
theorem gf_11_3 : fty 11 3 = 2 ∧ fref 11 3 = 51 := by decide +kernel
theorem pf_11_3 : ((∃ c, tyX11 3 = .object c) ∨ ∃ c, tyX11 3 = .array c) ∧ (TX11 3).2.2.2 = true := ⟨Or.inr ⟨_, rfl⟩, by decide +kernel⟩
theorem gc_11_3 : ∀ a, fcon 11 3 a = some (8, 24) := fun _ => rfl
theorem gf_11_4 : fty 11 4 = 0 ∨ fty 11 4 = 3 := by decide +kernel
theorem pf_11_4 : tyX11 4 = .int ∧ (TX11 4).2.2.2 = false := by decide +kernel
theorem gf_11_5 : fty 11 5 = 2 ∧ fref 11 5 = 56 := by decide +kernel
theorem pf_11_5 : ((∃ c, tyX11 5 = .object c) ∨ ∃ c, tyX11 5 = .array c) ∧ (TX11 5).2.2.2 = true := ⟨Or.inr ⟨_, rfl⟩, by decide +kernel⟩
theorem gc_11_5 : ∀ a, fcon 11 5 a = some (9, 6) := fun _ => rfl
theorem gf_11_6 : fty 11 6 = 0 ∨ fty 11 6 = 3 := by decide +kernel
theorem pf_11_6 : tyX11 6 = .int ∧ (TX11 6).2.2.2 = false := by decide +kernel
theorem gf_11_7 : fty 11 7 = 2 ∧ fref 11 7 = 56 := by decide +kernel
theorem pf_11_7 : ((∃ c, tyX11 7 = .object c) ∨ ∃ c, tyX11 7 = .array c) ∧ (TX11 7).2.2.2 = true := ⟨Or.inr ⟨_, rfl⟩, by decide +kernel⟩
theorem gc_11_7 : ∀ a, fcon 11 7 a = some (10, 12) := fun _ => rfl
theorem gf_11_8 : fty 11 8 = 0 ∨ fty 11 8 = 3 := by decide +kernel
theorem pf_11_8 : tyX11 8 = .int ∧ (TX11 8).2.2.2 = false := by decide +kernel
theorem gf_11_9 : fty 11 9 = 0 ∨ fty 11 9 = 3 := by decide +kernel
theorem pf_11_9 : tyX11 9 = .int ∧ (TX11 9).2.2.2 = false := by decide +kernel
theorem gf_11_10 : fty 11 10 = 2 ∧ fref 11 10 = 0 := by decide +kernel
theorem pf_11_10 : ((∃ c, tyX11 10 = .object c) ∨ ∃ c, tyX11 10 = .array c) ∧ (TX11 10).2.2.2 = true := ⟨Or.inl ⟨_, rfl⟩, by decide +kernel⟩
theorem gc_11_10 : ∀ a, fcon 11 10 a = some (11, 0) := fun _ => rfl
theorem gf_11_11 : fty 11 11 = 2 ∧ fref 11 11 = 50 := by decide +kernel
theorem pf_11_11 : ((∃ c, tyX11 11 = .object c) ∨ ∃ c, tyX11 11 = .array c) ∧ (TX11 11).2.2.2 = true := ⟨Or.inr ⟨_, rfl⟩, by decide +kernel⟩
theorem gc_11_11 : ∀ a, fcon 11 11 a = some (13, 6) := fun _ => rfl
theorem gf_11_12 : fty 11 12 = 0 ∨ fty 11 12 = 3 := by decide +kernel
theorem pf_11_12 : tyX11 12 = .int ∧ (TX11 12).2.2.2 = false := by decide +kernel
theorem gf_11_13 : fty 11 13 = 2 ∧ fref 11 13 = 5 := by decide +kernel
theorem pf_11_13 : ((∃ c, tyX11 13 = .object c) ∨ ∃ c, tyX11 13 = .array c) ∧ (TX11 13).2.2.2 = true := ⟨Or.inl ⟨_, rfl⟩, by decide +kernel⟩
theorem gc_11_13 : ∀ a, fcon 11 13 a = some (14, 0) := fun _ => rfl
theorem gf_11_14 : fty 11 14 = 2 ∧ fref 11 14 = 9 := by decide +kernel
theorem pf_11_14 : ((∃ c, tyX11 14 = .object c) ∨ ∃ c, tyX11 14 = .array c) ∧ (TX11 14).2.2.2 = true := ⟨Or.inl ⟨_, rfl⟩, by decide +kernel⟩
theorem gc_11_14 : ∀ a, fcon 11 14 a = some (26, 0) := fun _ => rfl
theorem gf_11_15 : fty 11 15 = 2 ∧ fref 11 15 = 3 := by decide +kernel
theorem pf_11_15 : ((∃ c, tyX11 15 = .object c) ∨ ∃ c, tyX11 15 = .array c) ∧ (TX11 15).2.2.2 = true := ⟨Or.inl ⟨_, rfl⟩, by decide +kernel⟩
theorem gc_11_15 : ∀ a, fcon 11 15 a = some (30, 0) := fun _ => rfl
theorem gf_11_16 : fty 11 16 = 2 ∧ fref 11 16 = 7 := by decide +kernel
theorem pf_11_16 : ((∃ c, tyX11 16 = .object c) ∨ ∃ c, tyX11 16 = .array c) ∧ (TX11 16).2.2.2 = true := ⟨Or.inl ⟨_, rfl⟩, by decide +kernel⟩
theorem gc_11_16 : ∀ a, fcon 11 16 a = some (32, 0) := fun _ => rfl
theorem gf_11_17 : fty 11 17 = 2 ∧ fref 11 17 = 4 := by decide +kernel
theorem pf_11_17 : ((∃ c, tyX11 17 = .object c) ∨ ∃ c, tyX11 17 = .array c) ∧ (TX11 17).2.2.2 = true := ⟨Or.inl ⟨_, rfl⟩, by decide +kernel⟩
theorem gc_11_17 : ∀ a, fcon 11 17 a = some (43, 0) := fun _ => rfl
theorem gf_12_0 : fty 12 0 = 2 ∧ fref 12 0 = 40 := by decide +kernel
theorem pf_12_0 : ((∃ c, tyX12 0 = .object c) ∨ ∃ c, tyX12 0 = .array c) ∧ (TX12 0).2.2.2 = true := ⟨Or.inr ⟨_, rfl⟩, by decide +kernel⟩
theorem gc_12_0 : ∀ a, fcon 12 0 a = some (52, 8) := fun _ => rfl
theorem gf_12_1 : fty 12 1 = 0 ∨ fty 12 1 = 3 := by decide +kernel
theorem pf_12_1 : tyX12 1 = .int ∧ (TX12 1).2.2.2 = false := by decide +kernel
theorem gf_12_2 : fty 12 2 = 2 ∧ fref 12 2 = 40 := by decide +kernel
theorem pf_12_2 : ((∃ c, tyX12 2 = .object c) ∨ ∃ c, tyX12 2 = .array c) ∧ (TX12 2).2.2.2 = true := ⟨Or.inr ⟨_, rfl⟩, by decide +kernel⟩
theorem gc_12_2 : ∀ a, fcon 12 2 a = some (53, 24) := fun _ => rfl
theorem gf_12_3 : fty 12 3 = 2 ∧ fref 12 3 = 40 := by decide +kernel
theorem pf_12_3 : ((∃ c, tyX12 3 = .object c) ∨ ∃ c, tyX12 3 = .array c) ∧ (TX12 3).2.2.2 = true := ⟨Or.inr ⟨_, rfl⟩, by decide +kernel⟩
theorem gc_12_3 : ∀ a, fcon 12 3 a = some (54, 24) := fun _ => rfl
theorem gf_12_4 : fty 12 4 = 2 ∧ fref 12 4 = 40 := by decide +kernel
theorem pf_12_4 : ((∃ c, tyX12 4 = .object c) ∨ ∃ c, tyX12 4 = .array c) ∧ (TX12 4).2.2.2 = true := ⟨Or.inr ⟨_, rfl⟩, by decide +kernel⟩
theorem gc_12_4 : ∀ a, fcon 12 4 a = some (55, 24) := fun _ => rfl
theorem gf_12_5 : fty 12 5 = 2 ∧ fref 12 5 = 40 := by decide +kernel
theorem pf_12_5 : ((∃ c, tyX12 5 = .object c) ∨ ∃ c, tyX12 5 = .array c) ∧ (TX12 5).2.2.2 = true := ⟨Or.inr ⟨_, rfl⟩, by decide +kernel⟩
theorem gc_12_5 : ∀ a, fcon 12 5 a = some (56, 24) := fun _ => rfl
theorem gf_12_6 : fty 12 6 = 2 ∧ fref 12 6 = 40 := by decide +kernel
theorem pf_12_6 : ((∃ c, tyX12 6 = .object c) ∨ ∃ c, tyX12 6 = .array c) ∧ (TX12 6).2.2.2 = true := ⟨Or.inr ⟨_, rfl⟩, by decide +kernel⟩
theorem gc_12_6 : ∀ a, fcon 12 6 a = some (57, 24) := fun _ => rfl
theorem gf_12_7 : fty 12 7 = 2 ∧ fref 12 7 = 40 := by decide +kernel
theorem pf_12_7 : ((∃ c, tyX12 7 = .object c) ∨ ∃ c, tyX12 7 = .array c) ∧ (TX12 7).2.2.2 = true := ⟨Or.inr ⟨_, rfl⟩, by decide +kernel⟩
theorem gc_12_7 : ∀ a, fcon 12 7 a = some (58, 2304) := fun _ => rfl
theorem gf_12_8 : fty 12 8 = 2 ∧ fref 12 8 = 40 := by decide +kernel
theorem pf_12_8 : ((∃ c, tyX12 8 = .object c) ∨ ∃ c, tyX12 8 = .array c) ∧ (TX12 8).2.2.2 = true := ⟨Or.inr ⟨_, rfl⟩, by decide +kernel⟩
theorem gc_12_8 : ∀ a, fcon 12 8 a = some (59, 2304) := fun _ => rfl
theorem gf_12_9 : fty 12 9 = 2 ∧ fref 12 9 = 40 := by decide +kernel
theorem pf_12_9 : ((∃ c, tyX12 9 = .object c) ∨ ∃ c, tyX12 9 = .array c) ∧ (TX12 9).2.2.2 = true := ⟨Or.inr ⟨_, rfl⟩, by decide +kernel⟩
theorem gc_12_9 : ∀ a, fcon 12 9 a = some (60, 2304) := fun _ => rfl
theorem gf_12_10 : fty 12 10 = 2 ∧ fref 12 10 = 40 := by decide +kernel
theorem pf_12_10 : ((∃ c, tyX12 10 = .object c) ∨ ∃ c, tyX12 10 = .array c) ∧ (TX12 10).2.2.2 = true := ⟨Or.inr ⟨_, rfl⟩, by decide +kernel⟩
theorem gc_12_10 : ∀ a, fcon 12 10 a = some (61, 2304) := fun _ => rfl
theorem gf_12_11 : fty 12 11 = 2 ∧ fref 12 11 = 40 := by decide +kernel
theorem pf_12_11 : ((∃ c, tyX12 11 = .object c) ∨ ∃ c, tyX12 11 = .array c) ∧ (TX12 11).2.2.2 = true := ⟨Or.inr ⟨_, rfl⟩, by decide +kernel⟩
theorem gc_12_11 : ∀ a, fcon 12 11 a = some (62, 2304) := fun _ => rfl
theorem gf_12_12 : fty 12 12 = 2 ∧ fref 12 12 = 40 := by decide +kernel
theorem pf_12_12 : ((∃ c, tyX12 12 = .object c) ∨ ∃ c, tyX12 12 = .array c) ∧ (TX12 12).2.2.2 = true := ⟨Or.inr ⟨_, rfl⟩, by decide +kernel⟩
theorem gc_12_12 : ∀ a, fcon 12 12 a = some (63, 2304) := fun _ => rfl
theorem gf_12_13 : fty 12 13 = 2 ∧ fref 12 13 = 40 := by decide +kernel
theorem pf_12_13 : ((∃ c, tyX12 13 = .object c) ∨ ∃ c, tyX12 13 = .array c) ∧ (TX12 13).2.2.2 = true := ⟨Or.inr ⟨_, rfl⟩, by decide +kernel⟩
theorem gc_12_13 : ∀ a, fcon 12 13 a = some (64, 2304) := fun _ => rfl
theorem gf_12_14 : fty 12 14 = 2 ∧ fref 12 14 = 40 := by decide +kernel
theorem pf_12_14 : ((∃ c, tyX12 14 = .object c) ∨ ∃ c, tyX12 14 = .array c) ∧ (TX12 14).2.2.2 = true := ⟨Or.inr ⟨_, rfl⟩, by decide +kernel⟩
theorem gc_12_14 : ∀ a, fcon 12 14 a = some (65, 2304) := fun _ => rfl
theorem gf_12_15 : fty 12 15 = 2 ∧ fref 12 15 = 40 := by decide +kernel
theorem pf_12_15 : ((∃ c, tyX12 15 = .object c) ∨ ∃ c, tyX12 15 = .array c) ∧ (TX12 15).2.2.2 = true := ⟨Or.inr ⟨_, rfl⟩, by decide +kernel⟩
theorem gc_12_15 : ∀ a, fcon 12 15 a = some (66, 2304) := fun _ => rfl
theorem gf_12_16 : fty 12 16 = 2 ∧ fref 12 16 = 40 := by decide +kernel
theorem pf_12_16 : ((∃ c, tyX12 16 = .object c) ∨ ∃ c, tyX12 16 = .array c) ∧ (TX12 16).2.2.2 = true := ⟨Or.inr ⟨_, rfl⟩, by decide +kernel⟩
theorem gc_12_16 : ∀ a, fcon 12 16 a = some (67, 2304) := fun _ => rfl
theorem gf_12_17 : fty 12 17 = 2 ∧ fref 12 17 = 40 := by decide +kernel
theorem pf_12_17 : ((∃ c, tyX12 17 = .object c) ∨ ∃ c, tyX12 17 = .array c) ∧ (TX12 17).2.2.2 = true := ⟨Or.inr ⟨_, rfl⟩, by decide +kernel⟩
theorem gc_12_17 : ∀ a, fcon 12 17 a = some (68, 2304) := fun _ => rfl
theorem gf_12_18 : fty 12 18 = 2 ∧ fref 12 18 = 40 := by decide +kernel
theorem pf_12_18 : ((∃ c, tyX12 18 = .object c) ∨ ∃ c, tyX12 18 = .array c) ∧ (TX12 18).2.2.2 = true := ⟨Or.inr ⟨_, rfl⟩, by decide +kernel⟩
theorem gc_12_18 : ∀ a, fcon 12 18 a = some (69, 2304) := fun _ => rfl
theorem gf_12_19 : fty 12 19 = 2 ∧ fref 12 19 = 40 := by decide +kernel
theorem pf_12_19 : ((∃ c, tyX12 19 = .object c) ∨ ∃ c, tyX12 19 = .array c) ∧ (TX12 19).2.2.2 = true := ⟨Or.inr ⟨_, rfl⟩, by decide +kernel⟩
theorem gc_12_19 : ∀ a, fcon 12 19 a = some (70, 2304) := fun _ => rfl
theorem gf_12_20 : fty 12 20 = 2 ∧ fref 12 20 = 41 := by decide +kernel
theorem pf_12_20 : ((∃ c, tyX12 20 = .object c) ∨ ∃ c, tyX12 20 = .array c) ∧ (TX12 20).2.2.2 = true := ⟨Or.inr ⟨_, rfl⟩, by decide +kernel⟩
theorem gc_12_20 : ∀ a, fcon 12 20 a = some (71, 600) := fun _ => rfl
theorem gf_12_21 : fty 12 21 = 0 ∨ fty 12 21 = 3 := by decide +kernel
theorem pf_12_21 : tyX12 21 = .int ∧ (TX12 21).2.2.2 = false := by decide +kernel
theorem gf_12_22 : fty 12 22 = 0 ∨ fty 12 22 = 3 := by decide +kernel
theorem pf_12_22 : tyX12 22 = .int ∧ (TX12 22).2.2.2 = false := by decide +kernel
theorem gf_12_23 : fty 12 23 = 0 ∨ fty 12 23 = 3 := by decide +kernel
theorem pf_12_23 : tyX12 23 = .int ∧ (TX12 23).2.2.2 = false := by decide +kernel
theorem gf_12_24 : fty 12 24 = 0 ∨ fty 12 24 = 3 := by decide +kernel
theorem pf_12_24 : tyX12 24 = .int ∧ (TX12 24).2.2.2 = false := by decide +kernel
theorem gf_12_25 : fty 12 25 = 0 ∨ fty 12 25 = 3 := by decide +kernel
theorem pf_12_25 : tyX12 25 = .int ∧ (TX12 25).2.2.2 = false := by decide +kernel
theorem gf_12_26 : fty 12 26 = 0 ∨ fty 12 26 = 3 := by decide +kernel
theorem pf_12_26 : tyX12 26 = .int ∧ (TX12 26).2.2.2 = false := by decide +kernel
theorem gf_12_27 : fty 12 27 = 0 ∨ fty 12 27 = 3 := by decide +kernel
theorem pf_12_27 : tyX12 27 = .int ∧ (TX12 27).2.2.2 = false := by decide +kernel
theorem gf_12_28 : fty 12 28 = 1 := by decide +kernel
theorem pf_12_28 : tyX12 28 = .long ∧ (TX12 28).2.2.2 = false := by decide +kernel
theorem gf_12_29 : fty 12 29 = 0 ∨ fty 12 29 = 3 := by decide +kernel
theorem pf_12_29 : tyX12 29 = .boolean ∧ (TX12 29).2.2.2 = false := by decide +kernel
theorem gf_12_30 : fty 12 30 = 2 ∧ fref 12 30 = 40 := by decide +kernel
theorem pf_12_30 : ((∃ c, tyX12 30 = .object c) ∨ ∃ c, tyX12 30 = .array c) ∧ (TX12 30).2.2.2 = true := ⟨Or.inr ⟨_, rfl⟩, by decide +kernel⟩
theorem gc_12_30 : ∀ a, fcon 12 30 a = some (72, 6) := fun _ => rfl
theorem gf_12_31 : fty 12 31 = 2 ∧ fref 12 31 = 40 := by decide +kernel
theorem pf_12_31 : ((∃ c, tyX12 31 = .object c) ∨ ∃ c, tyX12 31 = .array c) ∧ (TX12 31).2.2.2 = true := ⟨Or.inr ⟨_, rfl⟩, by decide +kernel⟩
theorem gc_12_31 : ∀ a, fcon 12 31 a = some (73, 6) := fun _ => rfl
theorem gf_12_32 : fty 12 32 = 0 ∨ fty 12 32 = 3 := by decide +kernel
theorem pf_12_32 : tyX12 32 = .int ∧ (TX12 32).2.2.2 = false := by decide +kernel
theorem gf_12_33 : fty 12 33 = 0 ∨ fty 12 33 = 3 := by decide +kernel
theorem pf_12_33 : tyX12 33 = .int ∧ (TX12 33).2.2.2 = false := by decide +kernel
theorem gf_12_34 : fty 12 34 = 0 ∨ fty 12 34 = 3 := by decide +kernel
theorem pf_12_34 : tyX12 34 = .int ∧ (TX12 34).2.2.2 = false := by decide +kernel
theorem gf_12_35 : fty 12 35 = 0 ∨ fty 12 35 = 3 := by decide +kernel
theorem pf_12_35 : tyX12 35 = .int ∧ (TX12 35).2.2.2 = false := by decide +kernel
theorem gf_12_36 : fty 12 36 = 0 ∨ fty 12 36 = 3 := by decide +kernel
theorem pf_12_36 : tyX12 36 = .int ∧ (TX12 36).2.2.2 = false := by decide +kernel
theorem gf_12_37 : fty 12 37 = 0 ∨ fty 12 37 = 3 := by decide +kernel
theorem pf_12_37 : tyX12 37 = .int ∧ (TX12 37).2.2.2 = false := by decide +kernel
theorem gf_12_38 : fty 12 38 = 2 ∧ fref 12 38 = 42 := by decide +kernel
theorem pf_12_38 : ((∃ c, tyX12 38 = .object c) ∨ ∃ c, tyX12 38 = .array c) ∧ (TX12 38).2.2.2 = true := ⟨Or.inr ⟨_, rfl⟩, by decide +kernel⟩
theorem gc_12_38 : ∀ a, fcon 12 38 a = some (74, 96) := fun _ => rfl
theorem gf_12_39 : fty 12 39 = 2 ∧ fref 12 39 = 42 := by decide +kernel
theorem pf_12_39 : ((∃ c, tyX12 39 = .object c) ∨ ∃ c, tyX12 39 = .array c) ∧ (TX12 39).2.2.2 = true := ⟨Or.inr ⟨_, rfl⟩, by decide +kernel⟩
theorem gc_12_39 : ∀ a, fcon 12 39 a = some (75, 96) := fun _ => rfl
theorem gf_12_40 : fty 12 40 = 2 ∧ fref 12 40 = 40 := by decide +kernel
theorem pf_12_40 : ((∃ c, tyX12 40 = .object c) ∨ ∃ c, tyX12 40 = .array c) ∧ (TX12 40).2.2.2 = true := ⟨Or.inr ⟨_, rfl⟩, by decide +kernel⟩
theorem gc_12_40 : ∀ a, fcon 12 40 a = some (76, 96) := fun _ => rfl
theorem gf_12_41 : fty 12 41 = 0 ∨ fty 12 41 = 3 := by decide +kernel
theorem pf_12_41 : tyX12 41 = .int ∧ (TX12 41).2.2.2 = false := by decide +kernel
theorem gf_12_42 : fty 12 42 = 0 ∨ fty 12 42 = 3 := by decide +kernel
theorem pf_12_42 : tyX12 42 = .int ∧ (TX12 42).2.2.2 = false := by decide +kernel
theorem gf_12_43 : fty 12 43 = 0 ∨ fty 12 43 = 3 := by decide +kernel
theorem pf_12_43 : tyX12 43 = .int ∧ (TX12 43).2.2.2 = false := by decide +kernel
theorem gf_12_44 : fty 12 44 = 2 ∧ fref 12 44 = 40 := by decide +kernel
theorem pf_12_44 : ((∃ c, tyX12 44 = .object c) ∨ ∃ c, tyX12 44 = .array c) ∧ (TX12 44).2.2.2 = true := ⟨Or.inr ⟨_, rfl⟩, by decide +kernel⟩
theorem gc_12_44 : ∀ a, fcon 12 44 a = some (77, 1600) := fun _ => rfl
theorem gf_12_45 : fty 12 45 = 0 ∨ fty 12 45 = 3 := by decide +kernel
theorem pf_12_45 : tyX12 45 = .int ∧ (TX12 45).2.2.2 = false := by decide +kernel
theorem gf_12_46 : fty 12 46 = 2 ∧ fref 12 46 = 40 := by decide +kernel
theorem pf_12_46 : ((∃ c, tyX12 46 = .object c) ∨ ∃ c, tyX12 46 = .array c) ∧ (TX12 46).2.2.2 = true := ⟨Or.inr ⟨_, rfl⟩, by decide +kernel⟩
theorem gc_12_46 : ∀ a, fcon 12 46 a = some (78, 8) := fun _ => rfl
theorem gf_12_47 : fty 12 47 = 0 ∨ fty 12 47 = 3 := by decide +kernel
theorem pf_12_47 : tyX12 47 = .int ∧ (TX12 47).2.2.2 = false := by decide +kernel
theorem gf_12_48 : fty 12 48 = 0 ∨ fty 12 48 = 3 := by decide +kernel
theorem pf_12_48 : tyX12 48 = .int ∧ (TX12 48).2.2.2 = false := by decide +kernel
theorem gf_12_49 : fty 12 49 = 2 ∧ fref 12 49 = 40 := by decide +kernel
theorem pf_12_49 : ((∃ c, tyX12 49 = .object c) ∨ ∃ c, tyX12 49 = .array c) ∧ (TX12 49).2.2.2 = true := ⟨Or.inr ⟨_, rfl⟩, by decide +kernel⟩
theorem gc_12_49 : ∀ a, fcon 12 49 a = some (79, 256) := fun _ => rfl
theorem gf_12_50 : fty 12 50 = 2 ∧ fref 12 50 = 40 := by decide +kernel
theorem pf_12_50 : ((∃ c, tyX12 50 = .object c) ∨ ∃ c, tyX12 50 = .array c) ∧ (TX12 50).2.2.2 = true := ⟨Or.inr ⟨_, rfl⟩, by decide +kernel⟩
theorem gc_12_50 : ∀ a, fcon 12 50 a = some (80, 256) := fun _ => rfl
theorem gf_12_51 : fty 12 51 = 2 ∧ fref 12 51 = 40 := by decide +kernel
theorem pf_12_51 : ((∃ c, tyX12 51 = .object c) ∨ ∃ c, tyX12 51 = .array c) ∧ (TX12 51).2.2.2 = true := ⟨Or.inr ⟨_, rfl⟩, by decide +kernel⟩
theorem gc_12_51 : ∀ a, fcon 12 51 a = some (81, 256) := fun _ => rfl
theorem gf_12_52 : fty 12 52 = 2 ∧ fref 12 52 = 40 := by decide +kernel
theorem pf_12_52 : ((∃ c, tyX12 52 = .object c) ∨ ∃ c, tyX12 52 = .array c) ∧ (TX12 52).2.2.2 = true := ⟨Or.inr ⟨_, rfl⟩, by decide +kernel⟩
theorem gc_12_52 : ∀ a, fcon 12 52 a = some (82, 256) := fun _ => rfl
theorem gf_12_53 : fty 12 53 = 2 ∧ fref 12 53 = 43 := by decide +kernel
theorem pf_12_53 : ((∃ c, tyX12 53 = .object c) ∨ ∃ c, tyX12 53 = .array c) ∧ (TX12 53).2.2.2 = true := ⟨Or.inr ⟨_, rfl⟩, by decide +kernel⟩
theorem gc_12_53 : ∀ a, fcon 12 53 a = some (83, 256) := fun _ => rfl
theorem gf_12_54 : fty 12 54 = 0 ∨ fty 12 54 = 3 := by decide +kernel
theorem pf_12_54 : tyX12 54 = .int ∧ (TX12 54).2.2.2 = false := by decide +kernel
theorem gf_12_55 : fty 12 55 = 0 ∨ fty 12 55 = 3 := by decide +kernel
theorem pf_12_55 : tyX12 55 = .int ∧ (TX12 55).2.2.2 = false := by decide +kernel
theorem gf_12_56 : fty 12 56 = 2 ∧ fref 12 56 = 40 := by decide +kernel
theorem pf_12_56 : ((∃ c, tyX12 56 = .object c) ∨ ∃ c, tyX12 56 = .array c) ∧ (TX12 56).2.2.2 = true := ⟨Or.inr ⟨_, rfl⟩, by decide +kernel⟩
theorem gc_12_56 : ∀ a, fcon 12 56 a = some (84, 6) := fun _ => rfl
theorem gf_12_57 : fty 12 57 = 2 ∧ fref 12 57 = 40 := by decide +kernel
theorem pf_12_57 : ((∃ c, tyX12 57 = .object c) ∨ ∃ c, tyX12 57 = .array c) ∧ (TX12 57).2.2.2 = true := ⟨Or.inr ⟨_, rfl⟩, by decide +kernel⟩
theorem gc_12_57 : ∀ a, fcon 12 57 a = some (85, 6) := fun _ => rfl
theorem gf_12_58 : fty 12 58 = 0 ∨ fty 12 58 = 3 := by decide +kernel
theorem pf_12_58 : tyX12 58 = .int ∧ (TX12 58).2.2.2 = false := by decide +kernel
theorem gf_12_59 : fty 12 59 = 0 ∨ fty 12 59 = 3 := by decide +kernel
theorem pf_12_59 : tyX12 59 = .int ∧ (TX12 59).2.2.2 = false := by decide +kernel
theorem gf_12_60 : fty 12 60 = 1 := by decide +kernel
theorem pf_12_60 : tyX12 60 = .long ∧ (TX12 60).2.2.2 = false := by decide +kernel
theorem gf_12_61 : fty 12 61 = 0 ∨ fty 12 61 = 3 := by decide +kernel
theorem pf_12_61 : tyX12 61 = .int ∧ (TX12 61).2.2.2 = false := by decide +kernel
theorem gf_12_62 : fty 12 62 = 2 ∧ fref 12 62 = 40 := by decide +kernel
theorem pf_12_62 : ((∃ c, tyX12 62 = .object c) ∨ ∃ c, tyX12 62 = .array c) ∧ (TX12 62).2.2.2 = true := ⟨Or.inr ⟨_, rfl⟩, by decide +kernel⟩
theorem gc_12_62 : ∀ a, fcon 12 62 a = some (86, 256) := fun _ => rfl
theorem gf_12_63 : fty 12 63 = 2 ∧ fref 12 63 = 42 := by decide +kernel
theorem pf_12_63 : ((∃ c, tyX12 63 = .object c) ∨ ∃ c, tyX12 63 = .array c) ∧ (TX12 63).2.2.2 = true := ⟨Or.inr ⟨_, rfl⟩, by decide +kernel⟩
theorem gc_12_63 : ∀ a, fcon 12 63 a = some (87, 8) := fun _ => rfl
theorem gf_12_64 : fty 12 64 = 2 ∧ fref 12 64 = 43 := by decide +kernel
theorem pf_12_64 : ((∃ c, tyX12 64 = .object c) ∨ ∃ c, tyX12 64 = .array c) ∧ (TX12 64).2.2.2 = true := ⟨Or.inr ⟨_, rfl⟩, by decide +kernel⟩
theorem gc_12_64 : ∀ a, fcon 12 64 a = some (88, 8) := fun _ => rfl
theorem gf_12_65 : fty 12 65 = 2 ∧ fref 12 65 = 40 := by decide +kernel
theorem pf_12_65 : ((∃ c, tyX12 65 = .object c) ∨ ∃ c, tyX12 65 = .array c) ∧ (TX12 65).2.2.2 = true := ⟨Or.inr ⟨_, rfl⟩, by decide +kernel⟩
theorem gc_12_65 : ∀ a, fcon 12 65 a = some (89, 8) := fun _ => rfl
theorem gf_12_66 : fty 12 66 = 2 ∧ fref 12 66 = 40 := by decide +kernel
theorem pf_12_66 : ((∃ c, tyX12 66 = .object c) ∨ ∃ c, tyX12 66 = .array c) ∧ (TX12 66).2.2.2 = true := ⟨Or.inr ⟨_, rfl⟩, by decide +kernel⟩
theorem gc_12_66 : ∀ a, fcon 12 66 a = some (90, 8) := fun _ => rfl
theorem gf_12_67 : fty 12 67 = 0 ∨ fty 12 67 = 3 := by decide +kernel
theorem pf_12_67 : tyX12 67 = .int ∧ (TX12 67).2.2.2 = false := by decide +kernel
theorem gf_12_68 : fty 12 68 = 0 ∨ fty 12 68 = 3 := by decide +kernel
theorem pf_12_68 : tyX12 68 = .int ∧ (TX12 68).2.2.2 = false := by decide +kernel
theorem gf_12_69 : fty 12 69 = 2 ∧ fref 12 69 = 40 := by decide +kernel
theorem pf_12_69 : ((∃ c, tyX12 69 = .object c) ∨ ∃ c, tyX12 69 = .array c) ∧ (TX12 69).2.2.2 = true := ⟨Or.inr ⟨_, rfl⟩, by decide +kernel⟩
theorem gc_12_69 : ∀ a, fcon 12 69 a = some (91, 6) := fun _ => rfl
theorem gf_12_70 : fty 12 70 = 2 ∧ fref 12 70 = 40 := by decide +kernel
theorem pf_12_70 : ((∃ c, tyX12 70 = .object c) ∨ ∃ c, tyX12 70 = .array c) ∧ (TX12 70).2.2.2 = true := ⟨Or.inr ⟨_, rfl⟩, by decide +kernel⟩
theorem gc_12_70 : ∀ a, fcon 12 70 a = some (92, 12) := fun _ => rfl
theorem gf_12_71 : fty 12 71 = 2 ∧ fref 12 71 = 40 := by decide +kernel
theorem pf_12_71 : ((∃ c, tyX12 71 = .object c) ∨ ∃ c, tyX12 71 = .array c) ∧ (TX12 71).2.2.2 = true := ⟨Or.inr ⟨_, rfl⟩, by decide +kernel⟩
theorem gc_12_71 : ∀ a, fcon 12 71 a = some (93, 240) := fun _ => rfl
theorem gf_12_72 : fty 12 72 = 2 ∧ fref 12 72 = 40 := by decide +kernel
theorem pf_12_72 : ((∃ c, tyX12 72 = .object c) ∨ ∃ c, tyX12 72 = .array c) ∧ (TX12 72).2.2.2 = true := ⟨Or.inr ⟨_, rfl⟩, by decide +kernel⟩
theorem gc_12_72 : ∀ a, fcon 12 72 a = some (94, 240) := fun _ => rfl
theorem gf_12_73 : fty 12 73 = 2 ∧ fref 12 73 = 40 := by decide +kernel
theorem pf_12_73 : ((∃ c, tyX12 73 = .object c) ∨ ∃ c, tyX12 73 = .array c) ∧ (TX12 73).2.2.2 = true := ⟨Or.inr ⟨_, rfl⟩, by decide +kernel⟩
theorem gc_12_73 : ∀ a, fcon 12 73 a = some (95, 240) := fun _ => rfl
theorem gf_12_74 : fty 12 74 = 2 ∧ fref 12 74 = 40 := by decide +kernel
theorem pf_12_74 : ((∃ c, tyX12 74 = .object c) ∨ ∃ c, tyX12 74 = .array c) ∧ (TX12 74).2.2.2 = true := ⟨Or.inr ⟨_, rfl⟩, by decide +kernel⟩
theorem gc_12_74 : ∀ a, fcon 12 74 a = some (96, 240) := fun _ => rfl
theorem gf_12_75 : fty 12 75 = 2 ∧ fref 12 75 = 40 := by decide +kernel
theorem pf_12_75 : ((∃ c, tyX12 75 = .object c) ∨ ∃ c, tyX12 75 = .array c) ∧ (TX12 75).2.2.2 = true := ⟨Or.inr ⟨_, rfl⟩, by decide +kernel⟩
theorem gc_12_75 : ∀ a, fcon 12 75 a = some (97, 240) := fun _ => rfl
theorem gf_12_76 : fty 12 76 = 2 ∧ fref 12 76 = 40 := by decide +kernel
theorem pf_12_76 : ((∃ c, tyX12 76 = .object c) ∨ ∃ c, tyX12 76 = .array c) ∧ (TX12 76).2.2.2 = true := ⟨Or.inr ⟨_, rfl⟩, by decide +kernel⟩
theorem gc_12_76 : ∀ a, fcon 12 76 a = some (98, 240) := fun _ => rfl
theorem gf_12_77 : fty 12 77 = 2 ∧ fref 12 77 = 42 := by decide +kernel
theorem pf_12_77 : ((∃ c, tyX12 77 = .object c) ∨ ∃ c, tyX12 77 = .array c) ∧ (TX12 77).2.2.2 = true := ⟨Or.inr ⟨_, rfl⟩, by decide +kernel⟩
theorem gc_12_77 : ∀ a, fcon 12 77 a = some (99, 240) := fun _ => rfl
theorem gf_12_78 : fty 12 78 = 0 ∨ fty 12 78 = 3 := by decide +kernel
theorem pf_12_78 : tyX12 78 = .int ∧ (TX12 78).2.2.2 = false := by decide +kernel
theorem gf_12_79 : fty 12 79 = 0 ∨ fty 12 79 = 3 := by decide +kernel
theorem pf_12_79 : tyX12 79 = .int ∧ (TX12 79).2.2.2 = false := by decide +kernel
theorem gf_12_80 : fty 12 80 = 0 ∨ fty 12 80 = 3 := by decide +kernel
theorem pf_12_80 : tyX12 80 = .int ∧ (TX12 80).2.2.2 = false := by decide +kernel
theorem gf_12_81 : fty 12 81 = 2 ∧ fref 12 81 = 40 := by decide +kernel
theorem pf_12_81 : ((∃ c, tyX12 81 = .object c) ∨ ∃ c, tyX12 81 = .array c) ∧ (TX12 81).2.2.2 = true := ⟨Or.inr ⟨_, rfl⟩, by decide +kernel⟩
theorem gc_12_81 : ∀ a, fcon 12 81 a = some (100, 72) := fun _ => rfl
theorem gf_12_82 : fty 12 82 = 2 ∧ fref 12 82 = 40 := by decide +kernel
theorem pf_12_82 : ((∃ c, tyX12 82 = .object c) ∨ ∃ c, tyX12 82 = .array c) ∧ (TX12 82).2.2.2 = true := ⟨Or.inr ⟨_, rfl⟩, by decide +kernel⟩
theorem gc_12_82 : ∀ a, fcon 12 82 a = some (101, 72) := fun _ => rfl
theorem gf_12_83 : fty 12 83 = 0 ∨ fty 12 83 = 3 := by decide +kernel
theorem pf_12_83 : tyX12 83 = .int ∧ (TX12 83).2.2.2 = false := by decide +kernel
theorem gf_12_84 : fty 12 84 = 0 ∨ fty 12 84 = 3 := by decide +kernel
theorem pf_12_84 : tyX12 84 = .int ∧ (TX12 84).2.2.2 = false := by decide +kernel
theorem gf_12_85 : fty 12 85 = 0 ∨ fty 12 85 = 3 := by decide +kernel
theorem pf_12_85 : tyX12 85 = .int ∧ (TX12 85).2.2.2 = false := by decide +kernel
theorem gf_12_86 : fty 12 86 = 2 ∧ fref 12 86 = 40 := by decide +kernel
theorem pf_12_86 : ((∃ c, tyX12 86 = .object c) ∨ ∃ c, tyX12 86 = .array c) ∧ (TX12 86).2.2.2 = true := ⟨Or.inr ⟨_, rfl⟩, by decide +kernel⟩
theorem gc_12_86 : ∀ a, fcon 12 86 a = some (102, 10) := fun _ => rfl
theorem gf_12_87 : fty 12 87 = 2 ∧ fref 12 87 = 40 := by decide +kernel
theorem pf_12_87 : ((∃ c, tyX12 87 = .object c) ∨ ∃ c, tyX12 87 = .array c) ∧ (TX12 87).2.2.2 = true := ⟨Or.inr ⟨_, rfl⟩, by decide +kernel⟩
theorem gc_12_87 : ∀ a, fcon 12 87 a = some (103, 1024) := fun _ => rfl
theorem gf_12_88 : fty 12 88 = 0 ∨ fty 12 88 = 3 := by decide +kernel
theorem pf_12_88 : tyX12 88 = .int ∧ (TX12 88).2.2.2 = false := by decide +kernel
theorem gf_12_89 : fty 12 89 = 2 ∧ fref 12 89 = 40 := by decide +kernel
theorem pf_12_89 : ((∃ c, tyX12 89 = .object c) ∨ ∃ c, tyX12 89 = .array c) ∧ (TX12 89).2.2.2 = true := ⟨Or.inr ⟨_, rfl⟩, by decide +kernel⟩
theorem gc_12_89 : ∀ a, fcon 12 89 a = some (104, 6) := fun _ => rfl
theorem gf_12_90 : fty 12 90 = 2 ∧ fref 12 90 = 40 := by decide +kernel
theorem pf_12_90 : ((∃ c, tyX12 90 = .object c) ∨ ∃ c, tyX12 90 = .array c) ∧ (TX12 90).2.2.2 = true := ⟨Or.inr ⟨_, rfl⟩, by decide +kernel⟩
theorem gc_12_90 : ∀ a, fcon 12 90 a = some (105, 36) := fun _ => rfl
theorem gf_12_91 : fty 12 91 = 2 ∧ fref 12 91 = 43 := by decide +kernel
theorem pf_12_91 : ((∃ c, tyX12 91 = .object c) ∨ ∃ c, tyX12 91 = .array c) ∧ (TX12 91).2.2.2 = true := ⟨Or.inr ⟨_, rfl⟩, by decide +kernel⟩
theorem gc_12_91 : ∀ a, fcon 12 91 a = some (106, 48) := fun _ => rfl
theorem gf_12_92 : fty 12 92 = 2 ∧ fref 12 92 = 40 := by decide +kernel
theorem pf_12_92 : ((∃ c, tyX12 92 = .object c) ∨ ∃ c, tyX12 92 = .array c) ∧ (TX12 92).2.2.2 = true := ⟨Or.inr ⟨_, rfl⟩, by decide +kernel⟩
theorem gc_12_92 : ∀ a, fcon 12 92 a = some (107, 24) := fun _ => rfl
