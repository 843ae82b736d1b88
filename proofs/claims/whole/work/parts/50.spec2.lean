/-! THE STATE, part 2: what is told and tried -/
def nRuns (p : Int) : List Int → Int
  | [] => 0
  | x :: xs => (if x = p then 0 else 1) + nRuns x xs
def lgS (b w run p : Int) : List Int → Int × Int
  | [] => (b, w)
  | x :: xs => if x = p then (if run + 1 > b then lgS (run + 1) x (run + 1) x xs else lgS b w (run + 1) x xs) else (if 1 > b then lgS 1 x 1 x xs else lgS b w 1 x xs)
def unlN (xs : List Int) : Nat → Int
  | 0 => 0
  | f + 1 => unlN xs f + (if 0 < cnt f xs then 1 else 0)
/-- a word stands in a row at a place -/
def stnd (row : List Int) (p : Nat) (w : List Int) : Bool := decide ((row.drop p).take w.length = w)
def sumW (f : List Int → Nat) : List (List Int) → Nat
  | [] => 0
  | w :: wl => f w + sumW f wl
/-- ways to tell the last r figures, then the last r - 1, .. -/
def tl (wl : List (List Int)) (row : List Int) : Nat → List Nat
  | 0 => [1]
  | r + 1 => sumW (fun w => if stnd row (row.length - (r + 1)) w = true then (tl wl row r).getD (w.length - 1) 0 else 0) wl :: tl wl row r
def tt (wl : List (List Int)) (row : List Int) (r : Nat) : Nat := (tl wl row r).getD 0 0
def oWays (S : St) : Int := min 1000000000 ((tt (sWl S) (sNw S).1 (sNw S).1.length : Nat) : Int)
def oTold (S : St) (q : Int) : Int :=
  if q = 0 then sDk S else if q = 1 then (sNw S).1.length else if q = 2 then (sWl S).length else if q = 3 then (sTx S).length else if q = 4 then (sNw S).2.1 else if q = 5 then (sNw S).2.2.length
  else if q = 6 then nRuns (-1) (sNw S).1 else if q = 7 then (lgS (-1) (-1) 0 (-1) (sNw S).1).1 else if q = 8 then (lgS (-1) (-1) 0 (-1) (sNw S).1).2 else if q = 9 then unlN (sNw S).1 10 else if q = 10 then oWays S
  else if q = 11 then (sHd S).length else if q = 12 then (sBk S).length else if q = 13 then (sPa S).length else -1000000002
def oLength (S : St) (kind n : Int) : Int := if (0 ≤ kind ∧ kind ≤ 5) ∧ 0 ≤ n ∧ n ≤ 8 then (sayN kind (sNw S).1 n.toNat).length else -1000000002
def oFigure (S : St) (kind n p : Int) : Int := if ((0 ≤ kind ∧ kind ≤ 5) ∧ 0 ≤ n ∧ n ≤ 8) ∧ (0 ≤ p ∧ p ≤ 15359) then (sayN kind (sNw S).1 n.toNat).getD p.toNat (-1) else -1000000002
def oOften (S : St) (kind n f : Int) : Int := if ((0 ≤ kind ∧ kind ≤ 5) ∧ 0 ≤ n ∧ n ≤ 8) ∧ (0 ≤ f ∧ f ≤ 9) then cnt f (sayN kind (sNw S).1 n.toNat) else -1000000002
def fsN (kind f : Int) (row : List Int) : Nat → Nat → Int
  | 0, _ => -1
  | k + 1, n => if 0 < cnt f (sayN kind row n) then n else fsN kind f row k (n + 1)
def oFirst (S : St) (kind f : Int) : Int := if (0 ≤ kind ∧ kind ≤ 5) ∧ (0 ≤ f ∧ f ≤ 9) then fsN kind f (sNw S).1 9 0 else -1000000002
def erl (row : List Int) (n : Nat) : Nat → Nat → Int
  | 0, _ => -1
  | k + 1, m => if sayN 3 row m = sayN 3 row n then m else erl row n k (m + 1)
def agN (row : List Int) (q : Int) : Nat → Nat → Int
  | 0, _ => -1
  | k + 1, n => if erl row n n 0 = -1 then agN row q k (n + 1) else (if q = 0 then (n : Int) else erl row n n 0)
def oAgain (S : St) (q : Int) : Int := if 0 ≤ q ∧ q ≤ 1 then agN (sNw S).1 q 61 0 else -1000000002
def bkN : Nat → List Int → Nat × List Int
  | 0, row => (0, row)
  | k + 1, row => match un 9 (-1) row with
    | none => (0, row)
    | some ys => if row = [] ∨ ys.length > 60 ∨ ys = row then (0, row) else ((bkN k ys).1 + 1, (bkN k ys).2)
def oBack (S : St) (q : Int) : Int := if 0 ≤ q ∧ q ≤ 1 then (if q = 0 then ((bkN 60 (sNw S).1).1 : Int) else ((bkN 60 (sNw S).1).2.length : Int)) else -1000000002
def inN (row w : List Int) : Nat → Nat → Int
  | 0, _ => -1
  | k + 1, p => if stnd row p w = true then p else inN row w k (p + 1)
def oIn (S : St) (x : Int) : Int := if 0 ≤ x ∧ x ≤ (sWl S).length - 1 then inN (sNw S).1 (wd S x) (sNw S).1.length 0 else -1000000001
/-- the fewest changes: row (last first) against word (last first) -/
def edD : List Int → List Int → Int
  | [], ys => ys.length
  | x :: xs, [] => (x :: xs).length
  | x :: xs, y :: ys => min (edD xs ys + (if x = y then 0 else 1)) (min (edD xs (y :: ys) + 1) (edD (x :: xs) ys + 1))
termination_by a b => a.length + b.length
decreasing_by all_goals (simp; try omega)
def oChanges (S : St) (x : Int) : Int := if 0 ≤ x ∧ x ≤ (sWl S).length - 1 then edD (sNw S).1.reverse (wd S x).reverse else -1000000001
/-- whether all that is heard fits a kind -/
def fitK (wl : List (List Int)) (kind : Nat) (hd : List (Int × Int × Int)) : Bool := hd.all (fun q => decide (sayL kind (wl.getD q.1.toNat []) = wl.getD q.2.1.toNat []) == decide (q.2.2 ≠ 0))
def couldB (S : St) : Nat := setOf (fun kind => fitK (sWl S) kind (sHd S)) 6
/-- how many of 0 .. n - 1 are in a set and say a word as a kind does -/
def likeN (set : Nat) (w : List Int) (kind : Nat) : Nat → Nat
  | 0 => 0
  | n + 1 => likeN set w kind n + (if set.testBit n = true ∧ sayL n w = sayL kind w then 1 else 0)
def mostN (set : Nat) (w : List Int) : Nat → Nat
  | 0 => 0
  | n + 1 => if set.testBit n = true then max (mostN set w n) (likeN set w n 6) else mostN set w n
def bits (set : Nat) : Nat → Nat
  | 0 => 0
  | n + 1 => bits set n + (if set.testBit n = true then 1 else 0)
def askN (set : Nat) (best few : Int) (i : Int) : List (List Int) → Int
  | [] => best
  | w :: wl => if (mostN set w 6 : Int) < few then askN set i (mostN set w 6) (i + 1) wl else askN set best few (i + 1) wl
def oAsk (S : St) : Int := askN (couldB S) (-1) (bits (couldB S) 6) 0 (sWl S)
/-- a row falls apart at a place -/
def apN (row : List Int) (p : Nat) : Nat → Bool
  | 0 => true
  | n + 1 => apN row p n && decide (sayN 0 row (n + 1) = sayN 0 (row.take p) (n + 1) ++ sayN 0 (row.drop p) (n + 1))
/-- the places 1 .. n at which it does: how many, the first, the last, the longest part so far -/
def apS (row : List Int) : Nat → Int × Int × Int × Int
  | 0 => (0, -1, 0, 0)
  | p + 1 => if apN row (p + 1) 6 = true then ((apS row p).1 + 1, (if (apS row p).2.1 = -1 then ((p + 1 : Nat) : Int) else (apS row p).2.1), ((p + 1 : Nat) : Int), max (apS row p).2.2.2 (((p + 1 : Nat) : Int) - (apS row p).2.2.1)) else apS row p
def oApart (S : St) (q : Int) : Int := if 0 ≤ q ∧ q ≤ 2 then (if q = 0 then (apS (sNw S).1 ((sNw S).1.length - 1)).1 else if q = 1 then (apS (sNw S).1 ((sNw S).1.length - 1)).2.1 else max (apS (sNw S).1 ((sNw S).1.length - 1)).2.2.2 ((sNw S).1.length - (apS (sNw S).1 ((sNw S).1.length - 1)).2.2.1)) else -1000000002
