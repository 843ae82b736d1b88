/-! THE STATE, in numbers and lists, and what the calls do to it -/
abbrev St : Type := List Int × Int × Int × List (List Int) × NS × List NS × (Nat → Option (NS × Int)) × Int × List (Int × Int × Int) × List (Int × Int)
abbrev sTx (S : St) : List Int := S.1
abbrev sFl (S : St) : Int := S.2.1
abbrev sDk (S : St) : Int := S.2.2.1
abbrev sWl (S : St) : List (List Int) := S.2.2.2.1
abbrev sNw (S : St) : NS := S.2.2.2.2.1
abbrev sPa (S : St) : List NS := S.2.2.2.2.2.1
abbrev sIm (S : St) : Nat → Option (NS × Int) := S.2.2.2.2.2.2.1
abbrev sSd (S : St) : Int := S.2.2.2.2.2.2.2.1
abbrev sHd (S : St) : List (Int × Int × Int) := S.2.2.2.2.2.2.2.2.1
abbrev sBk (S : St) : List (Int × Int) := S.2.2.2.2.2.2.2.2.2
def okTx (tx : List Int) : Prop := tx.length ≤ 240 ∧ ∀ v ∈ tx, 0 ≤ v ∧ v ≤ 255
def okWl (wl : List (List Int)) : Prop := wl.length ≤ 6 ∧ ∀ x ∈ wl, 1 ≤ x.length ∧ x.length ≤ 8 ∧ figs x
def okPa (pa : List NS) : Prop := pa.length ≤ 30 ∧ ∀ n ∈ pa, NSok n
def okSd (sd : Int) : Prop := 0 ≤ sd ∧ sd ≤ 2147483647
def okIm (im : Nat → Option (NS × Int)) : Prop := ∀ i q, im i = some q → NSok q.1 ∧ okSd q.2
def okHd (wl : List (List Int)) (hd : List (Int × Int × Int)) : Prop := hd.length ≤ 6 ∧ ∀ q ∈ hd, (0 ≤ q.1 ∧ q.1 < wl.length) ∧ (0 ≤ q.2.1 ∧ q.2.1 < wl.length) ∧ (q.2.2 = 0 ∨ q.2.2 = 1)
def okBk (bk : List (Int × Int)) : Prop := bk.length ≤ 20 ∧ ∀ q ∈ bk, (0 ≤ q.1 ∧ q.1 ≤ 59) ∧ -1 ≤ q.2 ∧ q.2 ≤ 9
def WF (S : St) : Prop := okTx (sTx S) ∧ (-1 ≤ sFl S ∧ sFl S ≤ 240) ∧ (sDk S = 0 ∨ sDk S = 1) ∧ okWl (sWl S) ∧ NSok (sNw S) ∧ okPa (sPa S) ∧ okIm (sIm S) ∧ okSd (sSd S) ∧ okHd (sWl S) (sHd S) ∧ okBk (sBk S)
-- setters
def uTx (S : St) (v : List Int) : St := (v, S.2)
def uNw (S : St) (v : NS) : St := (S.1, S.2.1, S.2.2.1, S.2.2.2.1, v, S.2.2.2.2.2)
def uNP (S : St) (v : NS) (p : List NS) : St := (S.1, S.2.1, S.2.2.1, S.2.2.2.1, v, p, S.2.2.2.2.2.2)
def uSd (S : St) (v : Int) : St := (S.1, S.2.1, S.2.2.1, S.2.2.2.1, S.2.2.2.2.1, S.2.2.2.2.2.1, S.2.2.2.2.2.2.1, v, S.2.2.2.2.2.2.2.2)
def uHB (S : St) (v : List (Int × Int × Int)) (b : List (Int × Int)) : St := (S.1, S.2.1, S.2.2.1, S.2.2.2.1, S.2.2.2.2.1, S.2.2.2.2.2.1, S.2.2.2.2.2.2.1, S.2.2.2.2.2.2.2.1, v, b)
def uIP (S : St) (im : Nat → Option (NS × Int)) (p : List NS) : St := (S.1, S.2.1, S.2.2.1, S.2.2.2.1, S.2.2.2.2.1, p, im, S.2.2.2.2.2.2.2)
def push (S : St) : List NS := (sNw S :: sPa S).take 30
/-- the row becomes another: a deed -/
def deed (S : St) (row : List Int) : St := uNP S (row, (sNw S).2) (push S)
def isTriedP (kind n : Int) : Prop := (0 ≤ kind ∧ kind ≤ 5) ∧ 0 ≤ n ∧ n ≤ 8
-- the calls
def oFeed (S : St) (l : Int) : Int × St := if 0 ≤ l ∧ l ≤ 255 then (if (sTx S).length = 240 then (-1000000004, S) else ((sTx S).length + 1, uTx S (sTx S ++ [l]))) else (-1000000002, S)
def oAt (S : St) (p : Int) : Int := if 0 ≤ p ∧ p ≤ 59 then (sNw S).1.getD p.toNat (-1) else -1000000002
def isW (S : St) (w : Int) : Prop := 0 ≤ w ∧ w ≤ (sWl S).length - 1
def wd (S : St) (w : Int) : List Int := (sWl S).getD w.toNat []
def oSpelt (S : St) (w k : Int) : Int := if 0 ≤ w ∧ w ≤ (sWl S).length - 1 then (if 0 ≤ k ∧ k ≤ 7 then (wd S w).getD k.toNat (-1) else -1000000002) else -1000000001
def oLogged (S : St) (i what : Int) : Int := if 0 ≤ what ∧ what ≤ 1 then (if 0 ≤ i ∧ i ≤ (sNw S).2.2.length - 1 then (if what = 0 then ((sNw S).2.2.getD i.toNat (0, 0)).1 else ((sNw S).2.2.getD i.toNat (0, 0)).2) else -1) else -1000000002
def readNS (n : NS) (kind : Int) : NS := (sayL kind n.1, n.2.1 + 1, ((kind, (n.1.length : Int)) :: n.2.2).take 20)
def oRead (S : St) (kind : Int) : Int × St := if 0 ≤ kind ∧ kind ≤ 5 then (if (sayL kind (sNw S).1).length > 60 ∨ 90000 ≤ (sNw S).2.1 then (-1000000004, S) else ((sayL kind (sNw S).1).length, uNP S (readNS (sNw S) kind) (push S))) else (-1000000002, S)
/-- the row that is told of; pm, pf: the pair ahead -/
def un (pm pf : Int) : List Int → Option (List Int)
  | [] => some []
  | [_] => none
  | m :: f :: xs => if m = 0 ∨ (pf = f ∧ pm ≠ 9) then none else (un m f xs).map (List.replicate m.toNat f ++ ·)
def oUnread (S : St) : Int × St := match un 9 (-1) (sNw S).1 with
  | none => (-1000000003, S)
  | some ys => if ys.length > 60 then (-1000000004, S) else (ys.length, deed S ys)
def oPut (S : St) (f : Int) : Int × St := if 0 ≤ f ∧ f ≤ 9 then (if (sNw S).1.length = 60 then (-1000000004, S) else ((sNw S).1.length + 1, deed S ((sNw S).1 ++ [f]))) else (-1000000002, S)
def oWord (S : St) (w : Int) : Int × St := if 0 ≤ w ∧ w ≤ (sWl S).length - 1 then (if (sNw S).1.length + (wd S w).length > 60 then (-1000000004, S) else ((sNw S).1.length + (wd S w).length, deed S ((sNw S).1 ++ wd S w))) else (-1000000001, S)
def oChange (S : St) (p f : Int) : Int × St := if 0 ≤ p ∧ p ≤ (sNw S).1.length - 1 then (if 0 ≤ f ∧ f ≤ 9 then ((sNw S).1.getD p.toNat 0, deed S ((sNw S).1.set p.toNat f)) else (-1000000002, S)) else (-1000000001, S)
def oDrop (S : St) (n : Int) : Int × St := if 0 ≤ n ∧ n ≤ (sNw S).1.length then ((sNw S).1.length - n, deed S ((sNw S).1.take ((sNw S).1.length - n.toNat))) else (-1000000002, S)
def oTurn (S : St) : Int × St := ((sNw S).1.reverse.getD 0 (-1), deed S (sNw S).1.reverse)
def sdN (s : Int) : Int := (s * 1103515245 + 12345) % 2147483648
def dr1 (S : St) : St :=
  let w := sdN (sSd S) / 65536 % 8
  if w < 6 then (if (sayL w (sNw S).1).length ≤ 60 then uSd (uNP S (readNS (sNw S) w) (push S)) (sdN (sSd S)) else uSd (uNP S (sNw S) (push S)) (sdN (sSd S)))
  else if w = 6 then (if (sNw S).1.length < 60 then uSd (deed S ((sNw S).1 ++ [sdN (sdN (sSd S)) / 65536 % 10])) (sdN (sdN (sSd S))) else uSd (uNP S (sNw S) (push S)) (sdN (sSd S)))
  else uSd (deed S ((sNw S).1.take ((sNw S).1.length - (sdN (sdN (sSd S)) / 65536 % ((sNw S).1.length + 1)).toNat))) (sdN (sdN (sSd S)))
def drN (S : St) : Nat → St
  | 0 => S
  | n + 1 => dr1 (drN S n)
def oDrift (S : St) (n : Int) : Int × St := if 1 ≤ n ∧ n ≤ 20 then (if 90000 ≤ (sNw S).2.1 then (-1000000004, S) else ((sNw (drN S n.toNat)).1.length, drN S n.toNat)) else (-1000000002, S)
def oUndo (S : St) (n : Int) : Int × St := if 1 ≤ n ∧ n ≤ 30 then (if n > (sPa S).length then (-1000000003, S) else (((sPa S).getD (n.toNat - 1) ([], 0, [])).1.length, uNP S ((sPa S).getD (n.toNat - 1) ([], 0, [])) ((sPa S).drop n.toNat))) else (-1000000002, S)
def oSeed (S : St) (v : Int) : Int × St := if v < 0 then (-1000000002, S) else (sSd S, uSd S v)
def oKeep (S : St) (i : Int) : Int × St := if 0 ≤ i ∧ i ≤ 1 then (1, uIP S (fun j => if j = i.toNat then some (sNw S, sSd S) else sIm S j) []) else (-1000000001, S)
def oGoBack (S : St) (i : Int) : Int × St := if 0 ≤ i ∧ i ≤ 1 then (match sIm S i.toNat with
  | none => (-1000000003, S)
  | some q => (1, uSd (uNP S q.1 []) q.2)) else (-1000000001, S)
def oHear (S : St) (w s : Int) (b : Int) : Int × St := if (0 ≤ w ∧ w ≤ (sWl S).length - 1) ∧ (0 ≤ s ∧ s ≤ (sWl S).length - 1) then (if (sHd S).length = 6 then (-1000000004, S) else ((sHd S).length + 1, uHB S (sHd S ++ [(w, s, b)]) (sBk S))) else (-1000000001, S)
def oWrite (S : St) (p f : Int) : Int × St := if (0 ≤ p ∧ p ≤ 59) ∧ (-1 ≤ f ∧ f ≤ 9) then (if (sBk S).length = 20 then (-1000000004, S) else ((sBk S).length + 1, uHB S (sHd S) (sBk S ++ [(p, f)]))) else (-1000000002, S)
def wrong (row : List Int) (i : Int) : List (Int × Int) → Int
  | [] => -1
  | q :: bk => if row.getD q.1.toNat (-1) ≠ q.2 then i else wrong row (i + 1) bk
def oJudge (S : St) : Int := wrong (sNw S).1 0 (sBk S)
def oTear (S : St) : Int × St := ((sHd S).length + (sBk S).length, uHB S [] [])
def slip (q : Int) : Nat → Int
  | 0 => 1000000000
  | n + 1 => slip q n * q / 100
def oNoSlip (n q : Int) : Int := if (0 ≤ n ∧ n ≤ 60) ∧ 0 ≤ q ∧ q ≤ 100 then slip q n.toNat else -1000000002
