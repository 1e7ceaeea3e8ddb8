/-! WHAT IS TOLD OF BUNDLES -/
def cRow (q r : Rec) : Rec := fun j => if j < 4 then q j else if j = 4 then r 9 else if j = 5 then r 10 else q 4
/-- a deal's rows as the class lays them out: 0 day, 1 giver, 2 taker, 3 thing, 4 mask, 5 value, 6 how much -/
def cRows (L : List Rec) : List Rec := L.flatMap (fun r => if r 8 = 0 then [] else (lfRows (r 8) r).map (fun q => cRow q r))
def thBits (L : List Rec) : Nat := L.foldl (fun b r => b ||| 2 ^ r 3) 0
def faBits (F : Nat → Nat) (L : List Rec) : Nat := L.foldl (fun b r => b ||| (2 ^ F (r 1) ||| 2 ^ F (r 2))) 0
def bChs (D : List Dl) (bs : List Nat) : Nat := (bs.map (dC D)).sum
def bEvs (D : List Dl) (bs : List Nat) : Nat := bs.foldl (fun b d => b ||| dE D d) 0
def bLvs (D : List Dl) (bs : List Nat) : Nat := (bs.map (fun d => (dL D d).length)).sum
def pop (v : Nat) : Nat := ((List.range 24).map (fun k => (v >>> k) % 2)).sum
def looked (D : List Dl) (bs : List Nat) : Prop := pop (bEvs D bs) + bChs D bs ≤ 8
/-- the rows that pass, from a deal on that has so many choices before it -/
def bRows (D : List Dl) : List Nat → Nat → Nat → List Rec
  | [], _, _ => []
  | d :: l, c, bf => dlRows (dL D d) (own c bf) ++ bRows D l c (bf + dC D d)
def shr (F : Nat → Nat) (f : Nat) (r : Rec) : Int := (if F (r 2) = f then (r 4 : Int) else 0) - (if F (r 1) = f then (r 4 : Int) else 0)
def net (F : Nat → Nat) (fl : List Rec) (f t : Nat) : Int := (fl.map (fun r => if r 3 = t then shr F f r else 0)).sum
def netD (F : Nat → Nat) (fl : List Rec) (f t d : Nat) : Int := (fl.map (fun r => if r 3 = t ∧ r 0 = d then shr F f r else 0)).sum
def clean (F : Nat → Nat) (fl : List Rec) (f : Nat) : Bool := (List.range 5).all (fun t => net F fl f (t + 1) == 0)
/-- the days on which a family's coin isn't even -/
def seqN (F : Nat → Nat) (fl : List Rec) (l : Nat) : List (Nat × Int) := ((List.range 3000).map (fun d => (d, netD F fl l 0 d))).filter (fun q => q.2 != 0)
def noFall : Bool → List (Nat × Int) → Bool
  | _, [] => true
  | a, q :: t => !(a && decide (q.2 < 0)) && noFall (a || decide (q.2 > 0)) t
def lendDay : List (Nat × Int) → Option Nat
  | [] => none
  | q :: t => if 0 < q.2 then none else if noFall false t then some q.1 else none
def outS : Int → Nat → List (Nat × Int) → Int
  | _, _, [] => 0
  | c, d, q :: t => (if c < 0 then - c * ((q.1 : Int) - d) else 0) + outS (c + q.2) q.1 t
def lendsB (F : Nat → Nat) (fl : List Rec) (l b : Nat) : Bool :=
  l != b && clean F fl l && clean F fl b && decide (0 < net F fl l 0) && decide (net F fl b 0 < 0) && (match lendDay (seqN F fl l) with | none => false | some d => decide (0 < netD F fl b 0 d))
def codesL (D : List Dl) (bs : List Nat) : List Nat := (List.range (32 * 2 ^ bChs D bs)).filter (fun c => c &&& (31 - bEvs D bs) == 0)
def bLend (F : Nat → Nat) (D : List Dl) (bs : List Nat) (c l b : Nat) : Bool := lendsB F (bRows D bs c 0) l b
def lendN (F : Nat → Nat) (D : List Dl) (bs : List Nat) (l b : Nat) : Nat := ((codesL D bs).filter (fun c => bLend F D bs c l b)).length
/-- the first pair (8 times L and B) that lends by all codes -/
def loanP (F : Nat → Nat) (D : List Dl) (bs : List Nat) : Option Nat := (List.range 64).find? (fun p => (codesL D bs).all (fun c => bLend F D bs c (p / 8) (p % 8)))
def loanV : Option Nat → Nat
  | none => 0
  | some p => 10 * (p / 8) + p % 8 + 1
/-- 0: no loan; else 10 times L and B and one more -/
def loanN (F : Nat → Nat) (D : List Dl) (bs : List Nat) : Nat := if pop (bEvs D bs) + bChs D bs ≤ 8 then loanV (loanP F D bs) else 0
