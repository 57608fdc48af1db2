/-! WHAT THE QUERIES ANSWER -/
def qR (c : Prop) [Decidable c] (v : Int) (A : aAb) : aRes := if c then (0, v, A) else (1, -1, A)
abbrev sB (c : Prop) [Decidable c] : Int := if c then 1 else 0
def sSum (a : Int → Int) (r : Int) : Int := sN (fun k => a (59 + 13 * r + 7 + k)) (a 0).toNat
def sTot (a : Int → Int) : Int := sN (fun k => a (11 + 3 * k + 2)) (a 0).toNat
def sFs (a : Int → Int) : Nat → Int → Int
  | 0, _ => -1
  | n + 1, k => if sOpen a k then k else sFs a n (k + 1)
def sPc (bits : Int) : Nat → Int → Int → Int
  | 0, _, acc => acc
  | n + 1, k, acc => sPc bits n (k + 1) (acc + (iZ (bits / 2 ^ k.toNat) &&& iZ 1).toInt)
abbrev isL (a : Int → Int) (k : Int) : Prop := 0 ≤ k ∧ k < a 0
abbrev isG (a : Int → Int) (k : Int) : Prop := 0 ≤ k ∧ k < a 1
abbrev isN (a : Int → Int) (k : Int) : Prop := 0 ≤ k ∧ k < a 2
def qOnLine (k : Int) (A : aAb) : aRes := if isG (wM A) k then (0, sB (sMe (wM A) (wM A (sBeg (wM A (29 + 5 * k)))) (wM A (sBeg (wM A (29 + 5 * k)) + 1)) (wM A (11 + 3 * wM A (29 + 5 * k))) (wM A (11 + 3 * wM A (29 + 5 * k) + 1)) k), A) else (1, 0, A)
def qGoing (v : Int) (A : aAb) : aRes := if wM A 7 = -1 then (1, -1, A) else (0, v, A)
def qNext (A : aAb) : aRes := if wM A 7 = -1 then (1, -1, A) else if sFs (wM A) (wM A 1).toNat 0 = -1 then (2, -1, A) else (0, sFs (wM A) (wM A 1).toNat 0, A)
def qAsk (x y e v : Int) (A : aAb) : aRes := if sPt x y then (if wM A 7 = -1 then (2, e, A) else (0, v, A)) else (1, e, A)
def qPassedTo (x y : Int) (A : aAb) : aRes := qAsk x y (-1) (sPc (sGT (wM A) x y) (wM A 1).toNat 0 0) A
def qOff (x y : Int) (A : aAb) : aRes := qAsk x y 0 (sB (sFar (wM A) x y)) A
def qLoss (x y s : Int) (A : aAb) : aRes := ((cWalk x y s (wM A)).1, (cWalk x y s (wM A)).2.1, A)
def qComplete (r : Int) (A : aAb) : aRes := if isN (wM A) r then (0, sB (wM A (59 + 13 * r + 0) = 1), A) else (1, 0, A)
def qPassed (r k : Int) (A : aAb) : aRes := if isN (wM A) r ∧ isG (wM A) k then (0, sB (sBit (wM A (59 + 13 * r + 6)) k), A) else (1, 0, A)
/-- who is ahead -/
def sBy (a : Int → Int) (r o : Int) : Nat → Int → Int → Int
  | 0, _, b => b
  | n + 1, k, b => sBy a r o n (k + 1) (if b = 0 then a (59 + 13 * r + 7 + k) - a (59 + 13 * o + 7 + k) else b)
def sBy2 (a : Int → Int) (r o : Int) : Int := let b := sBy a r o (a 0).toNat 0 (sSum a r - sSum a o); if b = 0 then a (59 + 13 * o + 1) - a (59 + 13 * r + 1) else b
abbrev sAhd (a : Int → Int) (r o : Int) : Prop := 0 < sBy2 a r o ∨ (sBy2 a r o = 0 ∧ r < o)
def sRk (a : Int → Int) (r : Int) : Nat → Int → Int → Int
  | 0, _, acc => acc
  | n + 1, k, acc => sRk a r n (k + 1) (acc + (if k ≠ r ∧ sAhd a k r then 1 else 0))
def sRank (a : Int → Int) (r : Int) : Int := sRk a r (a 2).toNat 0 0
def sRd (a : Int → Int) (rank : Int) : Nat → Int → Int
  | 0, _ => -1
  | n + 1, k => if sRank a k = rank then k else sRd a rank n (k + 1)
def sRanked (a : Int → Int) (rank : Int) : Int := sRd a rank (a 2).toNat 0
def qRunAt (rank : Int) (A : aAb) : aRes := if sRanked (wM A) rank = -1 then (1, -1, A) else (0, sRanked (wM A) rank, A)
def sBs (a : Int → Int) (leg : Int) : Nat → Int → Int → Int
  | 0, _, b => b
  | n + 1, k, b => sBs a leg n (k + 1) (if a (59 + 13 * b + 7 + leg) < a (59 + 13 * k + 7 + leg) then k else b)
def qBest (leg : Int) (A : aAb) : aRes := if isL (wM A) leg then (if wM A 2 = 0 then (2, -1, A) else (0, sBs (wM A) leg ((wM A 2).toNat - 1) 1 0, A)) else (1, -1, A)
def sSums (a : Int → Int) : Int := sN (fun k => sSum a k) (a 2).toNat
def sThr (a : Int → Int) (k : Int) : Nat → Int → Int → Int
  | 0, _, acc => acc
  | n + 1, r, acc => sThr a k n (r + 1) (acc + sB (sBit (a (59 + 13 * r + 6)) k))
