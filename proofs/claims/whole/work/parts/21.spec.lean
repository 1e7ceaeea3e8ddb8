/-! WHAT A STATE IS: deals as rows of events, laws and words as rows of statements, rows of numbers -/
abbrev Rec : Type := Nat → Nat
/-- an event of a deal's text: (0, leaf), (4 to 7, [number]) a group opens, (8, _) its second part, (9, _) it closes -/
abbrev Ev : Type := Nat × Rec
/-- what is known of a text so far: what is open (0 kind, 1 number, 2 part, 3 node, 4 later, 5 times, 6 mask, 7 value), leaves (0 to 7 as told, 8 times, 9 mask, 10 value, 11 node), choices, events, nodes, the nodes' table (by the number of the Model's row) -/
abbrev St : Type := List Rec × List Rec × (Nat × Nat × Nat) × (Nat → Nat → Nat)
def sK (s : St) : List Rec := s.1
def sL (s : St) : List Rec := s.2.1
def sC (s : St) : Nat := s.2.2.1.1
def sE (s : St) : Nat := s.2.2.1.2.1
def sN (s : St) : Nat := s.2.2.1.2.2
def sD (s : St) : Nat → Nat → Nat := s.2.2.2
def rc0 : Rec := fun k => if k = 5 then 1 else 0
/-- what stands around the next part -/
def ctx : List Rec → Rec
  | [] => rc0
  | f :: _ => f
def topUp : List Rec → Nat
  | [] => 0
  | f :: _ => f 3 + 1
def topPart : List Rec → Nat
  | [] => 0
  | f :: _ => f 2
def bitSet (m b : Nat) : Bool := Nat.testBit m b
/-- inside a branch: the bit as wanted -/
def brT (c : Rec) (b w : Nat) : Nat := if (c 6).testBit b ∧ (c 7).testBit b ≠ decide (w = 1) then 0 else c 5
def brM (c : Rec) (b : Nat) : Nat := c 6 ||| 2 ^ b
def brV (c : Rec) (b w : Nat) : Nat := (c 7 &&& (255 ^^^ 2 ^ b)) ||| (if w = 1 then 2 ^ b else 0)
def newNd (s : St) (k : Nat) : Nat → Nat → Nat :=
  up2 (up2 (up2 (up2 (up2 (up2 (sD s) 58 (sN s) k) 59 (sN s) 0) 60 (sN s) (topUp (sK s))) 61 (sN s) (topPart (sK s))) 62 (sN s) (sN s + 1)) 63 (sN s) 0
def leafRec (c r : Rec) (i : Nat) : Rec := fun k => if k < 6 then r k else if k = 6 then r 6 + c 4 else if k = 7 then r 7 + c 4 else if k = 8 then c 5 else if k = 9 then c 6 else if k = 10 then c 7 else i
def leafNd (nd : Nat → Nat → Nat) (r : Rec) (i : Nat) : Nat → Nat → Nat :=
  up2 (up2 (up2 (up2 (up2 (up2 (up2 nd 64 i (r 1)) 65 i (r 2)) 66 i (r 3)) 67 i (r 4)) 68 i (r 5)) 69 i (r 6)) 70 i (r 7)
def mkF (k n p i l t m v : Nat) : Rec := fun j => if j = 0 then k else if j = 1 then n else if j = 2 then p else if j = 3 then i else if j = 4 then l else if j = 5 then t else if j = 6 then m else v
def opened (s : St) (k n : Nat) : Rec :=
  if k = 4 then mkF 4 n 0 (sN s) (ctx (sK s) 4 + n) (ctx (sK s) 5) (ctx (sK s) 6) (ctx (sK s) 7)
  else if k = 5 then mkF 5 n 0 (sN s) (ctx (sK s) 4) (ctx (sK s) 5 * n) (ctx (sK s) 6) (ctx (sK s) 7)
  else if k = 6 then mkF 6 n 0 (sN s) (ctx (sK s) 4) (brT (ctx (sK s)) n 1) (brM (ctx (sK s)) n) (brV (ctx (sK s)) n 1)
  else mkF 7 (sC s) 0 (sN s) (ctx (sK s) 4) (brT (ctx (sK s)) (5 + sC s) 0) (brM (ctx (sK s)) (5 + sC s)) (brV (ctx (sK s)) (5 + sC s) 0)
def turned (f : Rec) (c : Rec) : Rec :=
  if f 0 = 6 then mkF 6 (f 1) 1 (f 3) (c 4) (brT c (f 1) 0) (brM c (f 1)) (brV c (f 1) 0)
  else mkF 7 (f 1) 1 (f 3) (c 4) (brT c (5 + f 1) 1) (brM c (5 + f 1)) (brV c (5 + f 1) 1)
def stp (s : St) (e : Ev) : St :=
  if e.1 = 0 then (sK s, sL s ++ [leafRec (ctx (sK s)) e.2 (sN s)], (sC s, sE s, sN s + 1), leafNd (newNd s (e.2 0)) e.2 (sN s))
  else if e.1 < 8 then (opened s e.1 (e.2 0) :: sK s, sL s, (if e.1 = 7 then sC s + 1 else sC s, if e.1 = 6 then sE s ||| 2 ^ e.2 0 else sE s, sN s + 1), up2 (newNd s e.1) 59 (sN s) (opened s e.1 (e.2 0) 1))
  else match sK s with
    | [] => s
    | f :: l => if e.1 = 8 then (turned f (ctx l) :: l, sL s, (sC s, sE s, sN s), up2 (up2 (sD s) 62 (f 3) (sN s)) 63 (f 3) (sN s + 1))
      else (l, sL s, (sC s, sE s, sN s), up2 (sD s) 62 (f 3) (sN s))
def st0 (b : Nat) : St := ([], [], (0, 0, b), fun _ _ => 0)
def run (b : Nat) (E : List Ev) : St := E.foldl stp (st0 b)
theorem run_snoc (b : Nat) (E : List Ev) (e : Ev) : run b (E ++ [e]) = stp (run b E) e := by simp [run, List.foldl_append]
/-- rows that pass: 0 day, 1 from, 2 to, 3 thing, 4 how much -/
def mkRow (d a b t m : Nat) : Rec := fun j => if j = 0 then d else if j = 1 then a else if j = 2 then b else if j = 3 then t else m
/-- the rows of a leaf, each with so many times as much -/
def lfRows (n : Nat) (r : Rec) : List Rec :=
  if r 0 < 2 then [mkRow (r 6) (r 1) (r 2) (r 3) (n * r 4)]
  else if r 0 = 2 then [mkRow (r 6) (r 1) (r 2) (r 3) (n * r 4), mkRow (r 7) (r 2) (r 1) 0 (n * r 5)]
  else [mkRow (r 6) (r 1) (r 2) (r 3) (n * r 4), mkRow (r 7) (r 2) (r 1) (r 3) (n * r 4), mkRow (r 7) (r 2) (r 1) 0 (n * r 5)]
/-- a code as the deal sees it that has so many choices before its own -/
def own (code before : Nat) : Nat := code % 32 + (code / 2 ^ before) / 32 * 32
/-- how many times a leaf counts by its own deal's code -/
def lfTimes (r : Rec) (c : Nat) : Nat := if c &&& r 9 = r 10 then r 8 else 0
def dlRows (L : List Rec) (c : Nat) : List Rec := L.flatMap (fun r => if lfTimes r c = 0 then [] else lfRows (lfTimes r c) r)
/-- deals: events and the day signed -/
abbrev Dl : Type := List Ev × Nat
def d0 : Dl := ([], 0)
def dS (D : List Dl) (d : Nat) : St := run (96 * d) (D.getD d d0).1
def dL (D : List Dl) (d : Nat) : List Rec := sL (dS D d)
def dC (D : List Dl) (d : Nat) : Nat := sC (dS D d)
def dE (D : List Dl) (d : Nat) : Nat := sE (dS D d)
def dG (D : List Dl) (d : Nat) : Nat := (D.getD d d0).2
/-- the whole: families, deals, laws, words, bundle, offered, honest, tape, fault -/
abbrev Ab : Type := (Nat → Nat) × List Dl × List (List Rec) × List (List Rec) × List Nat × List Nat × List (List Nat) × List Nat × Nat
def aF (x : Ab) : Nat → Nat := x.1
def aD (x : Ab) : List Dl := x.2.1
def aL (x : Ab) : List (List Rec) := x.2.2.1
def aW (x : Ab) : List (List Rec) := x.2.2.2.1
def aB (x : Ab) : List Nat := x.2.2.2.2.1
def aO (x : Ab) : List Nat := x.2.2.2.2.2.1
def aH (x : Ab) : List (List Nat) := x.2.2.2.2.2.2.1
def aT (x : Ab) : List Nat := x.2.2.2.2.2.2.2.1
def aQ (x : Ab) : Nat := x.2.2.2.2.2.2.2.2
