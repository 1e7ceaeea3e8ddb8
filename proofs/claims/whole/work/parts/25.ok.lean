/-! WHAT HOLDS OF A DEAL THAT WAS READ -/
/-- inside a part of a group: what stands around -/
def inside (k n p : Nat) (c : Rec) : Rec :=
  if k = 4 then mkF 0 0 0 0 (c 4 + n) (c 5) (c 6) (c 7)
  else if k = 5 then mkF 0 0 0 0 (c 4) (c 5 * n) (c 6) (c 7)
  else if k = 6 then mkF 0 0 0 0 (c 4) (brT c n (1 - p)) (brM c n) (brV c n (1 - p))
  else mkF 0 0 0 0 (c 4) (brT c (5 + n) p) (brM c (5 + n)) (brV c (5 + n) p)
/-- what stands around a node whose group is u - 1 (0: none), by the table of nodes -/
def cx (nd : Nat → Nat → Nat) : Nat → Nat → Nat → Rec
  | 0, _, _ => rc0
  | n + 1, u, p => if u = 0 then rc0 else inside (nd 58 (u - 1)) (nd 59 (u - 1)) p (cx nd n (nd 60 (u - 1)) (nd 61 (u - 1)))
def dep (nd : Nat → Nat → Nat) : Nat → Nat → Nat
  | 0, _ => 0
  | n + 1, u => if u = 0 then 0 else 1 + dep nd n (nd 60 (u - 1))
def cxA (s : St) (i : Nat) : Rec := cx (sD s) (i + 1) (sD s 60 i) (sD s 61 i)
def LfAt (s : St) (r : Rec) (i : Nat) : Prop :=
  r 11 = i ∧ r 0 = sD s 58 i ∧ r 1 = sD s 64 i ∧ r 2 = sD s 65 i ∧ r 3 = sD s 66 i ∧ r 4 = sD s 67 i ∧ r 5 = sD s 68 i ∧ r 6 = sD s 69 i + cxA s i 4 ∧ r 7 = sD s 70 i + cxA s i 4 ∧ r 8 = cxA s i 5 ∧ r 9 = cxA s i 6 ∧ r 10 = cxA s i 7
def LfOk (r : Rec) : Prop := r 0 < 4 ∧ r 1 < 8 ∧ r 2 < 8 ∧ r 1 ≠ r 2 ∧ r 3 < 6 ∧ r 4 < 10000 ∧ r 5 < 10000 ∧ r 6 < 3000 ∧ r 7 < 3000 ∧ r 8 ≤ 1000000 ∧ r 9 < 256 ∧ r 10 < 256 ∧ (r 0 < 2 → r 5 = 0)
def NdOk (b : Nat) (s : St) (i : Nat) : Prop :=
  sD s 58 i < 8 ∧ (sD s 60 i = 0 ∨ b < sD s 60 i ∧ sD s 60 i ≤ i ∧ 4 ≤ sD s 58 (sD s 60 i - 1)) ∧ sD s 61 i < 2 ∧ (sD s 58 i = 4 → sD s 59 i < 400) ∧ (sD s 58 i = 5 → sD s 59 i < 10) ∧ (sD s 58 i = 6 → sD s 59 i < 5) ∧ (sD s 58 i = 7 → sD s 59 i < 3) ∧ (sD s 58 i < 4 → sD s 59 i = 0) ∧
  i < sD s 62 i ∧ sD s 62 i ≤ sN s ∧ sD s 63 i ≤ sN s + 1 ∧ dep (sD s) (i + 1) (sD s 60 i) ≤ 6
def rem (L : List Rec) (i : Nat) : List Rec := L.filter (fun r => decide (i ≤ r 11))
/-- a deal that is whole, its nodes from b on -/
def OkS (b : Nat) (s : St) : Prop :=
  sK s = [] ∧ b ≤ sN s ∧ sN s ≤ b + 96 ∧ sC s ≤ 3 ∧ sE s < 32 ∧ (sL s).length ≤ 12 ∧ (∀ r ∈ sL s, LfOk r) ∧ (∀ i, b ≤ i → i < sN s → NdOk b s i) ∧
  rem (sL s) b = sL s ∧ rem (sL s) (sN s) = [] ∧ ∀ i, b ≤ i → i < sN s → (4 ≤ sD s 58 i ∧ rem (sL s) i = rem (sL s) (i + 1)) ∨ (sD s 58 i < 4 ∧ ∃ r, rem (sL s) i = r :: rem (sL s) (i + 1) ∧ LfAt s r i ∧ LfOk r)
def OkA (x : Ab) : Prop := (∀ d, d < (aD x).length → OkS (96 * d) (dS (aD x) d) ∧ dG (aD x) d < 400) ∧ ∀ k, k < 8 → aF x k < 8
/-- a walk up: what all "after" make -/
def lat (nd : Nat → Nat → Nat) : Nat → Nat → Nat
  | 0, _ => 0
  | n + 1, u => if u = 0 then 0 else (if nd 58 (u - 1) = 4 then nd 59 (u - 1) else 0) + lat nd n (nd 60 (u - 1))
theorem lat_cx (nd : Nat → Nat → Nat) : ∀ n u p, lat nd n u = cx nd n u p 4
  | 0, _, _ => rfl
  | n + 1, u, p => by
    rw [lat, cx]
    split
    · rfl
    · rw [lat_cx nd n _ (nd 61 (u - 1))]
      unfold inside
      split
      · simp [mkF]; omega
      · split
        · simp [mkF]
        · split <;> simp [mkF]
/-- by a code: what a group makes of a part's times -/
def fac (k n p c sh : Nat) : Nat := if k = 5 then n else if k = 6 then (if (c >>> n) % 2 = 1 - p then 1 else 0) else if k = 7 then (if (c >>> (sh + n)) % 2 = p then 1 else 0) else 1
def tm (nd : Nat → Nat → Nat) (c sh : Nat) : Nat → Nat → Nat → Nat
  | 0, _, _ => 1
  | n + 1, u, p => if u = 0 then 1 else fac (nd 58 (u - 1)) (nd 59 (u - 1)) p c sh * tm nd c sh n (nd 60 (u - 1)) (nd 61 (u - 1))
