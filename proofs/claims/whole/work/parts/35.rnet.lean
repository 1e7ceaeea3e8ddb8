/-! THE MODEL: nets -/
def RowOk (r : Rec) : Prop := r 0 < 3000 ∧ r 1 < 8 ∧ r 2 < 8 ∧ r 1 ≠ r 2 ∧ r 3 < 6 ∧ r 4 ≤ 10000000000
theorem lfRows_ok {r : Rec} {n : Nat} (h : LfOk r) (hn : n ≤ 1000000) : ∀ q ∈ lfRows n r, RowOk q := by
  obtain ⟨o0, o1, o2, o12, o3, o4, o5, o6, o7, -⟩ := h
  have b4 : n * r 4 ≤ 1000000 * 10000 := Nat.mul_le_mul hn (by omega)
  have b5 : n * r 5 ≤ 1000000 * 10000 := Nat.mul_le_mul hn (by omega)
  have k1 : RowOk (mkRow (r 6) (r 1) (r 2) (r 3) (n * r 4)) := by simp [RowOk, mkRow]; omega
  have k2 : RowOk (mkRow (r 7) (r 2) (r 1) 0 (n * r 5)) := by simp [RowOk, mkRow]; omega
  have k3 : RowOk (mkRow (r 7) (r 2) (r 1) (r 3) (n * r 4)) := by simp [RowOk, mkRow]; omega
  intro q hq
  unfold lfRows at hq
  split at hq
  · simp at hq; rw [hq]; exact k1
  · split at hq
    · simp at hq
      rcases hq with rfl | rfl
      · exact k1
      · exact k2
    · simp at hq
      rcases hq with rfl | rfl | rfl
      · exact k1
      · exact k3
      · exact k2
theorem dlRows_ok {L : List Rec} {c : Nat} (h : ∀ r ∈ L, LfOk r) : ∀ q ∈ dlRows L c, RowOk q := by
  intro q hq
  unfold dlRows at hq
  rw [List.mem_flatMap] at hq
  obtain ⟨r, hr, hq⟩ := hq
  split at hq
  · simp at hq
  · exact lfRows_ok (h r hr) (lfTimes_le (h r hr)) q hq
theorem lfRows_len (n : Nat) (r : Rec) : (lfRows n r).length ≤ 3 := by
  unfold lfRows
  split
  · simp
  · split <;> simp
theorem dlRows_len (c : Nat) : ∀ L : List Rec, (dlRows L c).length ≤ 3 * L.length
  | [] => by simp [dlRows]
  | r :: L => by
    have := dlRows_len c L
    unfold dlRows at this ⊢
    rw [List.flatMap_cons, List.length_append, List.length_cons]
    have h2 : (if lfTimes r c = 0 then [] else lfRows (lfTimes r c) r : List Rec).length ≤ 3 := by
      split
      · simp
      · exact lfRows_len _ _
    omega
theorem bRows_ok {x : Ab} (K : OkA x) : ∀ {l : List Nat} {c bf : Nat}, inD x l → (∀ q ∈ bRows (aD x) l c bf, RowOk q) ∧ (bRows (aD x) l c bf).length ≤ 36 * l.length
  | [], _, _, _ => ⟨by simp [bRows], by simp [bRows]⟩
  | d :: l, c, bf, h => by
    obtain ⟨i1, i2⟩ := bRows_ok K (l := l) (c := c) (bf := bf + dC (aD x) d) (fun e he => h e (by simp [he]))
    have hd := h d (by simp)
    have l12 := K.l12 hd
    have := dlRows_len (own c bf) (dL (aD x) d)
    refine ⟨fun q hq => ?_, ?_⟩
    · rw [bRows, List.mem_append] at hq
      rcases hq with hq | hq
      · exact dlRows_ok (K.1 d hd).1.2.2.2.2.2.2.1 q hq
      · exact i1 q hq
    · rw [bRows, List.length_append, List.length_cons]
      omega
def netG (F : Nat → Nat) (fl : List Rec) (f t dd : Nat) : Int := (fl.map (fun r => if r 3 = t ∧ (dd = 0 ∨ r 0 + 1 = dd) then shr F f r else 0)).sum
theorem netG0 (F : Nat → Nat) (fl : List Rec) (f t : Nat) : netG F fl f t 0 = net F fl f t := by simp [netG, net]
theorem netGD (F : Nat → Nat) (fl : List Rec) (f t d : Nat) : netG F fl f t (d + 1) = netD F fl f t d := by simp [netG, netD]
theorem shr_z {F : Nat → Nat} {f : Nat} {r : Rec} (h : r 4 = 0) : shr F f r = 0 := by simp [shr, h]
theorem netG_nz (F : Nat → Nat) (f t dd : Nat) : ∀ fl, netG F (nz fl) f t dd = netG F fl f t dd
  | [] => rfl
  | r :: fl => by
    have ih := netG_nz F f t dd fl
    unfold netG nz at ih ⊢
    rw [List.filter_cons]
    by_cases h : r 4 = 0
    · rw [if_neg (by simp [h]), List.map_cons, List.sum_cons, ih, shr_z h]
      split <;> simp
    · rw [if_pos (by simp [h]), List.map_cons, List.map_cons, List.sum_cons, List.sum_cons, ih]
theorem shr_abs {F : Nat → Nat} {f : Nat} {r : Rec} : -(r 4 : Int) ≤ shr F f r ∧ shr F f r ≤ r 4 := by
  unfold shr
  split <;> split <;> omega
theorem netG_abs (F : Nat → Nat) (f t dd : Nat) : ∀ {fl : List Rec}, (∀ q ∈ fl, RowOk q) → -(10000000000 * (fl.length : Int)) ≤ netG F fl f t dd ∧ netG F fl f t dd ≤ 10000000000 * fl.length
  | [], _ => by simp [netG]
  | r :: fl, h => by
    have ih := netG_abs F f t dd (fl := fl) (fun q hq => h q (by simp [hq]))
    have h1 := (h r (by simp)).2.2.2.2.2
    have h2 := shr_abs (F := F) (f := f) (r := r)
    have e : netG F (r :: fl) f t dd = (if r 3 = t ∧ (dd = 0 ∨ r 0 + 1 = dd) then shr F f r else 0) + netG F fl f t dd := by simp [netG]
    rw [e, List.length_cons]
    split <;> omega
theorem FlA.mid {pre rest : List Rec} {r : Rec} {h : Hp} (F : FlA (pre ++ r :: rest) h) : hI h 79 pre.length = n32 (r 0) ∧ hI h 80 pre.length = n32 (r 1) ∧ hI h 81 pre.length = n32 (r 2) ∧ hI h 82 pre.length = n32 (r 3) ∧ hJ h 83 pre.length = z64 (r 4 : Nat) := by
  have := F.2.2 pre.length (by simp)
  rwa [getD_mid] at this
set_option maxHeartbeats 4000000 in
set_option maxRecDepth 100000 in
theorem q_netOf6 {F : Nat → Nat} {fl : List Rec} {f t dd : Nat} {h : Hp} {Q : Int64 → Hp → Prop} (hF : ∀ k, k < 8 → hI h 52 k = n32 (F k) ∧ F k < 8) (A : FlA fl h) (hok : ∀ q ∈ fl, RowOk q) (hf : f < 2147483648) (ht : t < 2147483648) (hdd : dd < 2147483648) :
    ∀ (rest pre : List Rec) (v : Int), fl = pre ++ rest → Q (z64 (v + netG F rest f t dd)) h → m_X12_netOf_6 (rest.length + 1) Q (n32 f) (n32 t) (pm dd) (z64 v) (n32 pre.length) h := by
  intro rest
  have e48 := A.1; have l256 := A.2.1
  induction rest with
  | nil =>
    intro pre v e k
    rw [List.append_nil] at e
    subst e
    rw [List.length_nil, m_X12_netOf_6]
    simp (disch := omega) only [↓m1_pm, lit32, n32_add, n32_mul, n32_ix, n32_lt, n32_le, n32_eq, n32_in, pm_ix, pm_in, pm_eqn, n_eqpm, pm_ltn, n_ltpm, pm_len, n_lepm, pm_inj, forall_eq, e48]
    exact ⟨fun _ => by simpa [netG] using k, fun z => absurd (Nat.le_refl _) z⟩
  | cons r rest ih =>
    intro pre v e k
    have hm := A
    rw [e] at hm
    obtain ⟨g0, g1, g2, g3, g4⟩ := hm.mid
    have hlen : fl.length = pre.length + (rest.length + 1) := by rw [e]; simp
    obtain ⟨o0, o1, o2, -, o3, o4⟩ := hok r (by rw [e]; simp)
    obtain ⟨f1, f1'⟩ := hF (r 1) o1
    obtain ⟨f2, f2'⟩ := hF (r 2) o2
    have ek : netG F (r :: rest) f t dd = (if r 3 = t ∧ (dd = 0 ∨ r 0 + 1 = dd) then shr F f r else 0) + netG F rest f t dd := by simp [netG]
    have go : ∀ w : Int, w = v + (if r 3 = t ∧ (dd = 0 ∨ r 0 + 1 = dd) then shr F f r else 0) → m_X12_netOf_6 (rest.length + 1) Q (n32 f) (n32 t) (pm dd) (z64 w) (n32 (pre.length + 1)) h := by
      rintro w rfl
      have := ih (pre ++ [r]) _ (by rw [e]; simp) (by rw [Int.add_assoc, ← ek]; exact k)
      rw [List.length_append, List.length_singleton] at this
      exact this
    rw [List.length_cons, m_X12_netOf_6]
    unfold m_X12_netOf_44 m_X12_netOf_72 m_X12_netOf_100
    simp (disch := omega) only [↓m1_pm, lit32, n32_add, n32_mul, n32_ix, n32_lt, n32_le, n32_eq, n32_in, pm_ix, pm_in, pm_eqn, n_eqpm, pm_ltn, n_ltpm, pm_len, n_lepm, pm_inj, forall_eq, litJ, z64_add, z64_sub, z64_mul, n32_long, lgc_eq, lgc_le, lgc_lt, lgc_ge, lgc_gt, e48, g0, g1, g2, g3, g4, f1, f2]
    have yes3 : r 3 = t → (dd = 0 ∨ r 0 + 1 = dd) → pre.length < 256 ∧ r 2 < 8 ∧ ((¬ F (r 2) = f → pre.length < 256 ∧ r 1 < 8 ∧ ((¬ F (r 1) = f → m_X12_netOf_6 (rest.length + 1) Q (n32 f) (n32 t) (pm dd) (z64 v) (n32 (pre.length + 1)) h) ∧ (F (r 1) = f → pre.length < 256 ∧ m_X12_netOf_6 (rest.length + 1) Q (n32 f) (n32 t) (pm dd) (z64 (v - (r 4 : Nat))) (n32 (pre.length + 1)) h))) ∧
        (F (r 2) = f → pre.length < 256 ∧ pre.length < 256 ∧ r 1 < 8 ∧ ((¬ F (r 1) = f → m_X12_netOf_6 (rest.length + 1) Q (n32 f) (n32 t) (pm dd) (z64 (v + (r 4 : Nat))) (n32 (pre.length + 1)) h) ∧ (F (r 1) = f → pre.length < 256 ∧ m_X12_netOf_6 (rest.length + 1) Q (n32 f) (n32 t) (pm dd) (z64 (v + (r 4 : Nat) - (r 4 : Nat))) (n32 (pre.length + 1)) h)))) := by
      intro q1 q2
      refine ⟨by omega, o2, fun c1 => ⟨by omega, o1, fun c2 => go _ ?_, fun c2 => ⟨by omega, go _ ?_⟩⟩, fun c1 => ⟨by omega, by omega, o1, fun c2 => go _ ?_, fun c2 => ⟨by omega, go _ ?_⟩⟩⟩ <;> rw [if_pos ⟨q1, q2⟩] <;> unfold shr <;> simp only [c1, c2, if_true, if_false] <;> omega
    refine ⟨fun z => absurd z (by omega), fun _ => ⟨by omega, fun c => ?_, fun c => ⟨fun q => ?_, fun q => ⟨by omega, fun q2 => ?_, fun q2 => ?_⟩⟩⟩⟩
    · exact go _ (by rw [if_neg (fun z => c z.1)]; omega)
    · exact yes3 c (Or.inl (by omega))
    · exact yes3 c (Or.inr (by omega))
    · exact go _ (by rw [if_neg (fun z => by omega)]; omega)
theorem q_netOf {F : Nat → Nat} {fl : List Rec} {f t dd : Nat} {h : Hp} {Q : Int64 → Hp → Prop} (hF : ∀ k, k < 8 → hI h 52 k = n32 (F k) ∧ F k < 8) (A : FlA (nz fl) h) (hok : ∀ q ∈ fl, RowOk q) (hf : f < 2147483648) (ht : t < 2147483648) (hdd : dd < 2147483648) (k : Q (z64 (netG F fl f t dd)) h) : m_X12_netOf (n32 f) (n32 t) (pm dd) h Q := by
  unfold m_X12_netOf
  refine ⟨_, q_netOf6 hF A (fun q hq => hok q ((List.mem_filter.mp hq).1)) hf ht hdd (nz fl) [] 0 rfl ?_⟩
  rw [Int.zero_add, netG_nz]
  exact k
