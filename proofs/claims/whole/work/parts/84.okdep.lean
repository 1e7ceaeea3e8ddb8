/-! HOW DEEP A NODE STANDS -/
theorem dep_fuel {nd : Nat → Nat → Nat} {m : Nat} (hm : ∀ j, j < m → nd 60 j ≤ j) : ∀ (n n' u : Nat), u ≤ m → u ≤ n → u ≤ n' → dep nd n u = dep nd n' u
  | 0, 0, _, _, _, _ => rfl
  | 0, n' + 1, u, _, h, _ => by rw [dep, dep, if_pos (by omega)]
  | n + 1, 0, u, _, _, h => by rw [dep, dep, if_pos (by omega)]
  | n + 1, n' + 1, u, h1, h2, h3 => by
    rw [dep, dep]
    by_cases q : u = 0
    · rw [if_pos q, if_pos q]
    · have := hm (u - 1) (by omega)
      rw [if_neg q, if_neg q, dep_fuel hm n n' _ (by omega) (by omega) (by omega)]
theorem dep_same {nd nd' : Nat → Nat → Nat} {m : Nat} (hm : ∀ j, j < m → nd 60 j ≤ j) (h : ∀ j, j < m → nd' 60 j = nd 60 j) : ∀ (n u : Nat), u ≤ m → dep nd' n u = dep nd n u
  | 0, _, _ => rfl
  | n + 1, u, h1 => by
    rw [dep, dep]
    by_cases q : u = 0
    · rw [if_pos q, if_pos q]
    · have := hm (u - 1) (by omega)
      rw [if_neg q, if_neg q, h (u - 1) (by omega), dep_same hm h n _ (by omega)]
theorem dep_stk {nd : Nat → Nat → Nat} {m : Nat} (hm : ∀ j, j < m → nd 60 j ≤ j) : ∀ (K : List Rec) (n : Nat), StkC nd K → (∀ f ∈ K, f 3 < m) → topUp K ≤ n → dep nd n (topUp K) = K.length
  | [], 0, _, _, _ => rfl
  | [], n + 1, _, _, _ => by
    show dep nd (n + 1) 0 = 0
    rw [dep, if_pos rfl]
  | f :: l, 0, _, _, h => absurd h (by show ¬ f 3 + 1 ≤ 0; omega)
  | f :: l, n + 1, S, F, h => by
    obtain ⟨s1, s2, s3, s4⟩ := S
    have h3 : f 3 < m := F f (by simp)
    have hn : f 3 + 1 ≤ n + 1 := h
    have ih := dep_stk hm l n s4 (fun g hg => F g (by simp [hg])) (by have := hm (f 3) h3; omega)
    show dep nd (n + 1) (f 3 + 1) = l.length + 1
    rw [dep, if_neg (by omega), show f 3 + 1 - 1 = f 3 by omega, s2, ih]
    omega
