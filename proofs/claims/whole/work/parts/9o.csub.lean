/-! THE CLASS: all codes within some bits, one after another -/
theorem and_cut {k a m : Nat} (b n : Nat) (ha : a < 2 ^ k) (hm : m < 2 ^ k) : (2 ^ k * b + a) &&& (2 ^ k * n + m) = 2 ^ k * (b &&& n) + (a &&& m) := by
  have hl : a &&& m < 2 ^ k := Nat.lt_of_le_of_lt Nat.and_le_left ha
  apply Nat.eq_of_testBit_eq
  intro j
  rw [Nat.testBit_and, Nat.testBit_two_pow_mul_add _ ha, Nat.testBit_two_pow_mul_add _ hm, Nat.testBit_two_pow_mul_add _ hl]
  split
  · rw [Nat.testBit_and]
  · rw [Nat.testBit_and]
theorem and_lo {k a m : Nat} (n : Nat) (ha : a < 2 ^ k) (hm : m < 2 ^ k) : a &&& (2 ^ k * n + m) = a &&& m := by
  have := and_cut (k := k) 0 n ha hm
  rw [Nat.mul_zero, Nat.zero_add, Nat.zero_and, Nat.mul_zero, Nat.zero_add] at this
  exact this
theorem and_lo' {k a m : Nat} (b : Nat) (ha : a < 2 ^ k) (hm : m < 2 ^ k) : (2 ^ k * b + a) &&& m = a &&& m := by
  rw [Nat.and_comm, and_lo b hm ha, Nat.and_comm]
theorem and_hi {k a m : Nat} (ha : a < 2 ^ k) (hm : m < 2 ^ k) : (2 ^ k + a) &&& (2 ^ k + m) = 2 ^ k + (a &&& m) := by
  have := and_cut (k := k) 1 1 ha hm
  rw [Nat.mul_one, Nat.and_self, Nat.mul_one] at this
  exact this
/-- codes below 2 ^ k within the bits of m, the least first -/
def SM (m k : Nat) : List Nat := (List.range (2 ^ k)).filter (fun c => c &&& m == c)
theorem SM_cut (m k : Nat) : SM m (k + 1) = SM m k ++ ((List.range (2 ^ k)).filter (fun c => (2 ^ k + c) &&& m == 2 ^ k + c)).map (2 ^ k + ·) := by
  unfold SM
  rw [Nat.pow_succ, Nat.mul_two, List.range_add, List.filter_append, List.filter_map]
  rfl
theorem SM_low {m k : Nat} (h : m < 2 ^ k) : SM m (k + 1) = SM m k := by
  rw [SM_cut]
  have : (List.range (2 ^ k)).filter (fun c => (2 ^ k + c) &&& m == 2 ^ k + c) = [] := by
    rw [List.filter_eq_nil_iff]
    intro c hc
    rw [List.mem_range] at hc
    have e := and_lo' (k := k) 1 hc h
    rw [Nat.mul_one] at e
    rw [e, beq_iff_eq]
    have : c &&& m ≤ c := Nat.and_le_left
    have := Nat.two_pow_pos k
    omega
  rw [this]; simp
theorem SM_top {m k : Nat} (h : m < 2 ^ k) : SM (2 ^ k + m) (k + 1) = SM m k ++ (SM m k).map (2 ^ k + ·) := by
  rw [SM_cut]
  congr 1
  · unfold SM
    apply List.filter_congr
    intro c hc
    rw [List.mem_range] at hc
    have e := and_lo (k := k) 1 hc h
    rw [Nat.mul_one] at e
    rw [e]
  · congr 1
    unfold SM
    apply List.filter_congr
    intro c hc
    rw [List.mem_range] at hc
    rw [and_hi hc h]
    by_cases q : c &&& m = c
    · rw [q]; simp
    · have n1 : (c &&& m == c) = false := by simpa using q
      rw [n1]
      simpa using q
/-- each next to the one before -/
def Chn (R : Nat → Nat → Prop) : List Nat → Prop
  | [] => True
  | [_] => True
  | a :: b :: l => R a b ∧ Chn R (b :: l)
theorem Chn.tail {R : Nat → Nat → Prop} {a : Nat} : ∀ {l : List Nat}, Chn R (a :: l) → Chn R l
  | [], _ => trivial
  | _ :: _, h => h.2
theorem Chn.drop {R : Nat → Nat → Prop} : ∀ {p l : List Nat}, Chn R (p ++ l) → Chn R l
  | [], _, h => h
  | _ :: p, _, h => Chn.drop (p := p) h.tail
theorem Chn.join {R : Nat → Nat → Prop} {a b : Nat} {m : List Nat} : ∀ {l : List Nat}, Chn R (l ++ [a]) → R a b → Chn R (b :: m) → Chn R ((l ++ [a]) ++ b :: m)
  | [], _, h2, h3 => ⟨h2, h3⟩
  | [c], h1, h2, h3 => ⟨h1.1, h2, h3⟩
  | c :: d :: l, h1, h2, h3 => ⟨h1.1, Chn.join (l := d :: l) h1.2 h2 h3⟩
theorem Chn.map {R S : Nat → Nat → Prop} {f : Nat → Nat} (h : ∀ a b, R a b → S (f a) (f b)) : ∀ {l : List Nat}, Chn R l → Chn S (l.map f)
  | [], _ => trivial
  | [_], _ => trivial
  | a :: b :: l, H => ⟨h a b H.1, Chn.map h (l := b :: l) H.2⟩
theorem Chn.mono {R S : Nat → Nat → Prop} (h : ∀ a b, R a b → S a b) {l : List Nat} (H : Chn R l) : Chn S l := by
  have := Chn.map (f := id) (S := S) h H
  rw [List.map_id] at this; exact this
def nxK (k m s : Nat) : Nat := (s + 2 ^ k - m) &&& m
def RN (k m a b : Nat) : Prop := a < m ∧ nxK k m a = b
theorem SM_chain : ∀ k m, m < 2 ^ k → Chn (RN k m) (SM m k) ∧ (∃ t, SM m k = 0 :: t) ∧ ∃ p, SM m k = p ++ [m] := by
  intro k
  induction k with
  | zero =>
    intro m h
    obtain rfl : m = 0 := by omega
    exact ⟨trivial, ⟨[], rfl⟩, [], rfl⟩
  | succ k ih =>
    intro m h
    have pp := Nat.two_pow_pos k
    rw [Nat.pow_succ] at h
    by_cases q : m < 2 ^ k
    · obtain ⟨c, hh, ht⟩ := ih m q
      rw [SM_low q]
      refine ⟨c.mono (fun a b r => ⟨r.1, ?_⟩), hh, ht⟩
      rw [← r.2]
      unfold nxK
      have r1 := r.1
      rw [Nat.pow_succ, show a + 2 ^ k * 2 - m = 2 ^ k * 1 + (a + 2 ^ k - m) by omega, and_lo' 1 (by omega) q]
    · obtain ⟨m', rfl⟩ : ∃ m', m = 2 ^ k + m' := ⟨m - 2 ^ k, by omega⟩
      have q' : m' < 2 ^ k := by omega
      obtain ⟨c, ⟨t, hh⟩, p, ht⟩ := ih m' q'
      rw [SM_top q']
      have hi : Chn (RN (k + 1) (2 ^ k + m')) ((SM m' k).map (2 ^ k + ·)) := by
        refine c.map (fun a b r => ⟨by have := r.1; omega, ?_⟩)
        have r1 := r.1
        rw [← r.2]
        unfold nxK
        rw [Nat.pow_succ, show 2 ^ k + a + 2 ^ k * 2 - (2 ^ k + m') = 2 ^ k + (a + 2 ^ k - m') by omega, and_hi (by omega) q']
      have lo : Chn (RN (k + 1) (2 ^ k + m')) (SM m' k) := by
        refine c.mono (fun a b r => ⟨by have := r.1; omega, ?_⟩)
        have r1 := r.1
        rw [← r.2]
        unfold nxK
        have e := and_lo (k := k) (a := a + 2 ^ k - m') 1 (by omega) q'
        rw [Nat.mul_one] at e
        rw [Nat.pow_succ, show a + 2 ^ k * 2 - (2 ^ k + m') = a + 2 ^ k - m' by omega, e]
      refine ⟨?_, ⟨t ++ (SM m' k).map (2 ^ k + ·), by rw [hh]; rfl⟩, SM m' k ++ p.map (2 ^ k + ·), by
        have e : (SM m' k).map (2 ^ k + ·) = p.map (2 ^ k + ·) ++ [2 ^ k + m'] := by rw [ht, List.map_append]; rfl
        rw [e, List.append_assoc]⟩
      have e1 : (SM m' k).map (2 ^ k + ·) = (2 ^ k + 0) :: t.map (2 ^ k + ·) := by rw [hh]; rfl
      rw [e1] at hi
      rw [ht] at lo
      have j := Chn.join (b := 2 ^ k + 0) (m := t.map (2 ^ k + ·)) lo ⟨by omega, by
        unfold nxK
        rw [Nat.pow_succ, show m' + 2 ^ k * 2 - (2 ^ k + m') = 2 ^ k + 0 by omega, and_hi (by omega) q', Nat.zero_and]⟩ hi
      rw [← ht, ← e1] at j
      exact j
theorem popN_hi {v k n : Nat} (h : v < 2 ^ k) : popN v k n = 0 := by
  unfold popN
  have : ∀ l : List Nat, (l.map (fun j => (v >>> (k + j)) % 2)).sum = 0 := by
    intro l
    induction l with
    | nil => rfl
    | cons j l ih =>
      rw [List.map_cons, List.sum_cons, ih, Nat.shiftRight_eq_div_pow, Nat.div_eq_of_lt (Nat.lt_of_lt_of_le h (pw_le (by omega)))]
  exact this _
theorem SM_len : ∀ k m, m < 2 ^ k → (SM m k).length = 2 ^ popN m 0 k := by
  intro k
  induction k with
  | zero =>
    intro m h
    obtain rfl : m = 0 := by omega
    rfl
  | succ k ih =>
    intro m h
    have c := popN_cut m 0 k 1
    rw [Nat.pow_succ] at h
    by_cases q : m < 2 ^ k
    · rw [SM_low q, ih m q, c, Nat.zero_add, popN_hi q, Nat.add_zero]
    · obtain ⟨m', rfl⟩ : ∃ m', m = 2 ^ k + m' := ⟨m - 2 ^ k, by omega⟩
      have q' : m' < 2 ^ k := by omega
      rw [SM_top q', List.length_append, List.length_map, ih m' q', c]
      have e1 : popN (2 ^ k + m') 0 k = popN m' 0 k := popN_congr (fun j hj => by
        rw [bit_mod, bit_mod, Nat.zero_add, show 2 ^ k + m' = 2 ^ k * 1 + m' by omega, Nat.testBit_two_pow_mul_add _ q', if_pos hj])
      have e2 : popN (2 ^ k + m') (0 + k) 1 = 1 := by
        unfold popN
        simp only [List.range_succ, List.range_zero, List.nil_append, List.map_cons, List.map_nil, List.sum_cons, List.sum_nil, Nat.zero_add, Nat.add_zero]
        have tb : (2 ^ k + m').testBit k = true := by
          rw [show 2 ^ k + m' = 2 ^ k * 1 + m' by omega, Nat.testBit_two_pow_mul_add _ q', if_neg (by omega), Nat.sub_self]; rfl
        rw [bit_mod, tb]; rfl
      rw [e1, e2, Nat.pow_succ]; omega
theorem SM_up {m k : Nat} (h : m < 2 ^ k) : ∀ j, SM m (k + j) = SM m k
  | 0 => rfl
  | j + 1 => by
    rw [← Nat.add_assoc, SM_low (Nat.lt_of_lt_of_le h (pw_le (by omega))), SM_up h j]
theorem SM_pop {m k : Nat} (h : m < 2 ^ k) (hk : k ≤ 24) : (SM m k).length = 2 ^ pop m := by
  have e : SM m 24 = SM m k := by
    have := SM_up h (24 - k)
    rw [show k + (24 - k) = 24 by omega] at this
    exact this
  have e2 : pop m = popN m 0 24 := by unfold pop popN; simp only [Nat.zero_add]
  rw [← e, SM_len 24 m (Nat.lt_of_lt_of_le h (pw_le hk)), e2]
theorem SM_mem {m k c : Nat} : c ∈ SM m k ↔ c < 2 ^ k ∧ c &&& m = c := by
  unfold SM
  rw [List.mem_filter, List.mem_range, beq_iff_eq]
theorem n32_2 (a : Nat) : n32 (a + 4294967296) = n32 a := by
  apply Int32.toBitVec_inj.mp
  rw [n32_bv, n32_bv]
  apply BitVec.eq_of_toNat_eq
  rw [BitVec.toNat_ofNat, BitVec.toNat_ofNat]
  omega
/-- the machine's next code -/
theorem n32_nx {k m s : Nat} (hm : m < 2 ^ k) (hk : k ≤ 30) (hs : s < m) : (n32 s - n32 m) &&& n32 m = n32 (nxK k m s) := by
  have pk := pw_le hk
  have e1 : n32 s - n32 m = n32 (s + 4294967296 - m) := by rw [← n32_2 s, n32_sub (by omega)]
  rw [e1]
  apply Int32.toBitVec_inj.mp
  rw [Int32.toBitVec_and, n32_bv, n32_bv, n32_bv]
  apply BitVec.eq_of_toNat_eq
  have l1 : nxK k m s ≤ m := by unfold nxK; exact Nat.and_le_right
  rw [BitVec.toNat_and, BitVec.toNat_ofNat, BitVec.toNat_ofNat, BitVec.toNat_ofNat, Nat.mod_eq_of_lt (show s + 4294967296 - m < 2 ^ 32 by omega), Nat.mod_eq_of_lt (show m < 2 ^ 32 by omega), Nat.mod_eq_of_lt (show nxK k m s < 2 ^ 32 by omega)]
  unfold nxK
  have e2 : s + 4294967296 - m = 2 ^ k * (2 ^ (32 - k) - 1) + (s + 2 ^ k - m) := by
    have : 2 ^ k * 2 ^ (32 - k) = 4294967296 := by rw [← Nat.pow_add, show k + (32 - k) = 32 by omega]
    rw [Nat.mul_sub, this, Nat.mul_one]
    omega
  rw [e2, and_lo' _ (by omega) hm]
/-- codes that are looked at -/
theorem codesL_SM {x : Ab} (K : OkA x) {l : List Nat} (hin : inD x l) : codesL (aD x) l = SM (nmB (aD x) l) (5 + bChs (aD x) l) := by
  unfold codesL SM
  rw [Nat.pow_add]
  have he := bEvs_lt K hin
  apply List.filter_congr
  intro c hc
  rw [List.mem_range] at hc
  have p := Nat.two_pow_pos (bChs (aD x) l)
  have key : (c &&& nmB (aD x) l = c) ↔ (c &&& (31 - bEvs (aD x) l) = 0) := by
    unfold nmB
    obtain ⟨c0, c1, h0, h1, rfl⟩ : ∃ c0 c1, c0 < 32 ∧ c1 < 2 ^ bChs (aD x) l ∧ c = 2 ^ 5 * c1 + c0 := ⟨c % 32, c / 32, by omega, by omega, by omega⟩
    have e1 : (2 ^ 5 * c1 + c0) &&& (bEvs (aD x) l + 32 * (2 ^ bChs (aD x) l - 1)) = 2 ^ 5 * c1 + (c0 &&& bEvs (aD x) l) := by
      rw [show bEvs (aD x) l + 32 * (2 ^ bChs (aD x) l - 1) = 2 ^ 5 * (2 ^ bChs (aD x) l - 1) + bEvs (aD x) l by omega, and_cut _ _ h0 he, Nat.and_two_pow_sub_one_eq_mod, Nat.mod_eq_of_lt h1]
    have e2 : (2 ^ 5 * c1 + c0) &&& (31 - bEvs (aD x) l) = c0 &&& (31 - bEvs (aD x) l) := and_lo' c1 h0 (by omega)
    rw [e1, e2]
    have fin : ∀ a b : Fin 32, (a.val &&& b.val = a.val) ↔ (a.val &&& (31 - b.val) = 0) := by decide +kernel
    have := fin ⟨c0, h0⟩ ⟨bEvs (aD x) l, he⟩
    dsimp only at this
    omega
  by_cases q : c &&& nmB (aD x) l = c
  · rw [key.mp q, q]; simp
  · have q2 : ¬ c &&& (31 - bEvs (aD x) l) = 0 := fun z => q (key.mpr z)
    have e1 : (c &&& nmB (aD x) l == c) = false := by simpa using q
    have e2 : (c &&& (31 - bEvs (aD x) l) == 0) = false := by simpa using q2
    rw [e1, e2]
