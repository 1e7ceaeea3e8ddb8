/-! WHAT A LEAF SAYS IS WITHIN BOUNDS -/
theorem sPaid_lt {T : List Nat} {d : Nat} (h : d ≤ 399) : ∀ {s : PS}, (sPaid T d s).2 ≤ 399
  | .inl _ => h
  | .inr t => by
    show (if _ then _ else _ : PS × Nat).2 ≤ 399
    split
    · exact sNum_lt
    · exact h
theorem sPaid_ok {T : List Nat} {d : Nat} : ∀ {s : PS}, okP (sPaid T d s).1 → okP s
  | .inl _, h => h
  | .inr _, _ => trivial
theorem lfR_in {T : List Nat} {kd : Nat} {t : Tk} (hk : kd < 4) (h : okP (l7 T kd t).1) : LfIn (lfR T kd t) := by
  have e6 := l6_lt T kd t
  have o6 : okP (l6 T kd t).1 := by
    unfold l7 at h
    split at h
    · exact sPaid_ok h
    · split at h
      · exact sMust_ok (sNum_ok h)
      · exact h
  have o5 : okP (l5 T kd t).1 := sMust_ok (sNum_ok o6)
  have o4 : okP (l4 T t).1 := by
    unfold l5 at o5
    split at o5
    · exact o5
    · exact sMust_ok (sNum_ok o5)
  have o3 : okP (l3 T t).1 := sNum_ok o4
  have o2 : okP (l2 T t).1 := sThg_ok o3
  have b1 : (l1 T t).2 < 8 := sHnd_lt
  have b2 : (l2 T t).2 < 8 := sHnd_lt
  have n2 : (l2 T t).2 + 1 ≠ (l1 T t).2 + 1 := sHnd_ne o2
  have b3 : (l3 T t).2 < 6 := sThg_lt
  have b4 : (l4 T t).2 ≤ 9999 := sNum_lt
  have b5 : (l5 T kd t).2 ≤ 9999 := by
    unfold l5
    split
    · exact Nat.zero_le _
    · exact sNum_lt
  have b7 : (l7 T kd t).2 ≤ 399 := by
    unfold l7
    split
    · exact sPaid_lt e6
    · split
      · exact sNum_lt
      · exact e6
  refine ⟨hk, b1, b2, ?_, b3, ?_, ?_, ?_, ?_, fun q => ?_⟩
  · show (l1 T t).2 ≠ (l2 T t).2; omega
  · show (l4 T t).2 < 10000; omega
  · show (l5 T kd t).2 < 10000; omega
  · show (l6 T kd t).2 < 400; omega
  · show (l7 T kd t).2 < 400; omega
  · show (l5 T kd t).2 = 0
    unfold l5
    rw [if_pos (show kd < 2 from q)]
