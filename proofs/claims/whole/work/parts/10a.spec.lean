/-! WHAT THE COMMANDS DO, on the content a of the model's array: 0 legs, 1 gates, 2 runs, 3 4 start, 5 tolerance, 6 limit, 7 the run that goes on (or -1), 8 present leg, 9 10 flock, 11 + 3 leg: x y points, 29 + 5 gate: leg and two points, 59 + 13 run: complete, time, line, miss, fault, late, passed, points -/
def vz (f : Int → Int) : Prop := ∀ k, k < 0 ∨ 163 ≤ k → f k = 0
def sBeg (x : Int) : Int := if x = 0 then 3 else 11 + 3 * (x - 1)
def sCr (ax ay bx b_y cx cy : Int) : Int := (bx - ax) * (cy - ay) - (b_y - ay) * (cx - ax)
def sSg (v : Int) : Int := if 0 < v then 1 else if v < 0 then -1 else 0
abbrev sPt (x y : Int) : Prop := (0 ≤ x ∧ x ≤ 99) ∧ (0 ≤ y ∧ y ≤ 99)
abbrev sOn (ax ay bx b_y cx cy : Int) : Prop := sCr ax ay bx b_y cx cy = 0 ∧ ((min ax bx ≤ cx ∧ cx ≤ max ax bx) ∧ (min ay b_y ≤ cy ∧ cy ≤ max ay b_y))
abbrev sPa (cx cy dx dy ax ay bx b_y : Int) : Prop := sSg (sCr cx cy dx dy ax ay) * sSg (sCr cx cy dx dy bx b_y) < 0
abbrev sMt (cx cy dx dy ax ay bx b_y : Int) : Prop := (sPa cx cy dx dy ax ay bx b_y ∧ sPa ax ay bx b_y cx cy dx dy) ∨ (sOn cx cy dx dy ax ay ∨ (sOn cx cy dx dy bx b_y ∨ (sOn ax ay bx b_y cx cy ∨ sOn ax ay bx b_y dx dy)))
abbrev sMe (a : Int → Int) (ax ay bx b_y k : Int) : Prop := sMt (a (29 + 5 * k + 1)) (a (29 + 5 * k + 2)) (a (29 + 5 * k + 3)) (a (29 + 5 * k + 4)) ax ay bx b_y
/-- farther from the leg (bx, by) .. (ex, ey) than t -/
abbrev sFq (bx b_y ex ey x y t : Int) : Prop :=
  let al := (ex - bx) * (x - bx) + (ey - b_y) * (y - b_y)
  let le := (ex - bx) * (ex - bx) + (ey - b_y) * (ey - b_y)
  let cr := sCr bx b_y ex ey x y
  (al ≤ 0 ∧ t * t < (x - bx) * (x - bx) + (y - b_y) * (y - b_y)) ∨ ((0 < al ∧ le ≤ al) ∧ t * t < (x - ex) * (x - ex) + (y - ey) * (y - ey)) ∨ ((0 < al ∧ al < le) ∧ t * t * le < cr * cr)
abbrev sFar (a : Int → Int) (x y : Int) : Prop := sFq (a (sBeg (a 8))) (a (sBeg (a 8) + 1)) (a (11 + 3 * a 8)) (a (11 + 3 * a 8 + 1)) x y (a 5)
def orI (x y : Int) : Int := (iZ x ||| iZ y).toInt
/-- gate k's bit -/
abbrev sBit (p k : Int) : Prop := (iZ (p / 2 ^ k.toNat) &&& iZ 1).toInt = 1
abbrev sOpen (a : Int → Int) (k : Int) : Prop := a (29 + 5 * k) = a 8 ∧ ¬ sBit (a (59 + 13 * a 7 + 6)) k
/-- what is lost on a leg -/
def sLo (a : Int → Int) (leg p : Int) : Int := min p (a (59 + 13 * a 7 + 7 + leg))
def sLoA (a : Int → Int) (leg p w : Int) : Int → Int :=
  let b := ud a (59 + 13 * a 7 + 7 + leg) (a (59 + 13 * a 7 + 7 + leg) - sLo a leg p)
  ud b (59 + 13 * a 7 + w) (b (59 + 13 * a 7 + w) + sLo a leg p)
/-- what is lost from a leg on -/
def sRe (w : Int) : Nat → (Int → Int) → Int → Int → Int × (Int → Int)
  | 0, a, _, acc => (acc, a)
  | n + 1, a, leg, acc => sRe w n (sLoA a leg 30 w) (leg + 1) (acc + sLo a leg 30)
abbrev sRest (w : Int) (a : Int → Int) : Int × (Int → Int) := sRe w (a 0 - a 8).toNat a (a 8) 0
/-- the gates that a step passes -/
def sGa (a : Int → Int) (x y : Int) : Nat → Int → Int → Int
  | 0, _, bits => bits
  | n + 1, k, bits => if sOpen a k then (if sMe a (a 9) (a 10) x y k then sGa a x y n (k + 1) (orI bits (1 * 2 ^ k.toNat)) else bits) else sGa a x y n (k + 1) bits
abbrev sGT (a : Int → Int) (x y : Int) : Int := sGa a x y (a 1).toNat 0 0
def sEnds (a : Int → Int) : Int → Int := ud (ud (ud (ud a 7 (-1)) 8 0) 9 0) 10 0
def sCm : Nat → (Int → Int) → Int → Int → Int × (Int → Int)
  | 0, a, _, acc => (acc, a)
  | n + 1, a, k, acc => if sOpen a k then sCm n (sLoA a (a 8) 5 3) (k + 1) (acc + sLo a (a 8) 5) else sCm n a (k + 1) (acc + 0)
/-- a leg is done -/
def sNx (a : Int → Int) : Int → Int := if a 8 = a 0 - 1 then sEnds (ud a (59 + 13 * a 7) 1) else ud a 8 (a 8 + 1)
def sCL (a : Int → Int) : Int × (Int → Int) := let q := sCm (a 1).toNat a 0 0; (q.1, sNx q.2)
/-! the commands: what is thrown, what is answered, what is then -/
abbrev aCmd : Type := Int × Int × (Int → Int)
def cStart (x y : Int) (a : Int → Int) : aCmd := if sPt x y then (if 0 < a 2 then (2, -1, a) else (0, a 0, ud (ud a 3 x) 4 y)) else (1, -1, a)
def cLeg (x y p : Int) (a : Int → Int) : aCmd := if sPt x y ∧ (1 ≤ p ∧ p ≤ 30) then (if a 0 = 6 ∨ 0 < a 2 then (2, -1, a) else (0, a 0, ud (ud (ud (ud a (11 + 3 * a 0) x) (11 + 3 * a 0 + 1) y) (11 + 3 * a 0 + 2) p) 0 (a 0 + 1))) else (1, -1, a)
def cGate (leg x1 y1 x2 y2 : Int) (a : Int → Int) : aCmd := if 0 ≤ leg ∧ leg < a 0 then (if (sPt x1 y1 ∧ sPt x2 y2) ∧ ¬ (x1 = x2 ∧ y1 = y2) then (if a 1 = 6 ∨ 0 < a 2 then (3, -1, a) else
  (0, a 1, ud (ud (ud (ud (ud (ud a (29 + 5 * a 1) leg) (29 + 5 * a 1 + 1) x1) (29 + 5 * a 1 + 2) y1) (29 + 5 * a 1 + 3) x2) (29 + 5 * a 1 + 4) y2) 1 (a 1 + 1))) else (2, -1, a)) else (1, -1, a)
def cSet (what v lo hi : Int) (a : Int → Int) : aCmd := if lo ≤ v ∧ v ≤ hi then (if 0 < a 2 then (2, -1, a) else (0, a what, ud a what v)) else (1, -1, a)
def sPts (r : Int) : Nat → (Int → Int) → Int → (Int → Int)
  | 0, a, _ => a
  | n + 1, a, k => sPts r n (ud a (59 + 13 * r + 7 + k) (a (11 + 3 * k + 2))) (k + 1)
def sGo (r : Int) (b : Int → Int) : Int → Int :=
  let b1 := ud (ud (ud b 2 (b 2 + 1)) 7 r) 8 0
  let b2 := ud b1 9 (b1 3)
  ud b2 10 (b2 4)
def cRun (a : Int → Int) : aCmd := if a 0 = 0 ∨ (a 7 ≠ -1 ∨ a 2 = 8) then (1, -1, a) else (0, a 2, sGo (a 2) (sPts (a 2) (a 0).toNat a 0))
abbrev sNr (a : Int → Int) (x y : Int) : Prop := (x - a (11 + 3 * a 8)) * (x - a (11 + 3 * a 8)) + (y - a (11 + 3 * a 8 + 1)) * (y - a (11 + 3 * a 8 + 1)) ≤ 9
/-- a step's end, time, bits, line -/
def sAr (x y lost : Int) (a : Int → Int) : Int × (Int → Int) := if sNr a x y then (lost + (sCL a).1, (sCL a).2) else (lost, a)
def sLn (x y : Int) (a : Int → Int) : Int × (Int → Int) := if sFar a x y then sAr x y (sLo a (a 8) 1) (ud (ud (sLoA a (a 8) 1 2) 9 x) 10 y) else sAr x y 0 (ud (ud a 9 x) 10 y)
def sSt (i x y : Int) (a : Int → Int) : Int × (Int → Int) := sLn x y (ud a (i + 6) (orI (a (i + 6)) (sGT a x y)))
def sTm (i x y : Int) (a : Int → Int) : Int × (Int → Int) := if a 6 < a (i + 1) then ((sRest 5 a).1, sEnds (sRest 5 a).2) else sSt i x y a
def cWalk (x y s : Int) (a : Int → Int) : aCmd := if sPt x y ∧ (1 ≤ s ∧ s ≤ 999) then (if a 7 = -1 then (2, -1, a) else (0, sTm (59 + 13 * a 7) x y (ud a (59 + 13 * a 7 + 1) (a (59 + 13 * a 7 + 1) + s)))) else (1, -1, a)
def cFault (p : Int) (a : Int → Int) : aCmd := if 1 ≤ p ∧ p ≤ 9 then (if a 7 = -1 then (2, -1, a) else (0, sLo a (a 8) p, sLoA a (a 8) p 4)) else (1, -1, a)
def cRetire (a : Int → Int) : aCmd := if a 7 = -1 then (1, -1, a) else (0, (sRest 4 a).1, sEnds (sRest 4 a).2)
/-! what always holds -/
def sN (f : Int → Int) : Nat → Int
  | 0 => 0
  | n + 1 => sN f n + f (n : Int)
def RunOk (a : Int → Int) (r : Int) : Prop :=
  ((0 ≤ a (59 + 13 * r) ∧ a (59 + 13 * r) ≤ 1) ∧ (0 ≤ a (59 + 13 * r + 1) ∧ a (59 + 13 * r + 1) ≤ 1998) ∧ (0 ≤ a (59 + 13 * r + 6) ∧ a (59 + 13 * r + 6) < 64)) ∧
  (∀ w, 2 ≤ w → w ≤ 5 → 0 ≤ a (59 + 13 * r + w)) ∧
  (∀ k, 0 ≤ k → k < a 0 → 0 ≤ a (59 + 13 * r + 7 + k) ∧ a (59 + 13 * r + 7 + k) ≤ a (11 + 3 * k + 2)) ∧
  sN (fun k => a (59 + 13 * r + 7 + k)) (a 0).toNat + (a (59 + 13 * r + 2) + a (59 + 13 * r + 3) + a (59 + 13 * r + 4) + a (59 + 13 * r + 5)) = sN (fun k => a (11 + 3 * k + 2)) (a 0).toNat
def InvC (a : Int → Int) : Prop :=
  ((0 ≤ a 0 ∧ a 0 ≤ 6) ∧ (0 ≤ a 1 ∧ a 1 ≤ 6) ∧ (0 ≤ a 2 ∧ a 2 ≤ 8)) ∧
  (sPt (a 3) (a 4) ∧ (1 ≤ a 5 ∧ a 5 ≤ 20) ∧ (60 ≤ a 6 ∧ a 6 ≤ 999)) ∧
  (∀ i, 0 ≤ i → i < a 0 → sPt (a (11 + 3 * i)) (a (11 + 3 * i + 1)) ∧ (1 ≤ a (11 + 3 * i + 2) ∧ a (11 + 3 * i + 2) ≤ 30)) ∧
  (∀ i, 0 ≤ i → i < a 1 → (0 ≤ a (29 + 5 * i) ∧ a (29 + 5 * i) < a 0) ∧ sPt (a (29 + 5 * i + 1)) (a (29 + 5 * i + 2)) ∧ sPt (a (29 + 5 * i + 3)) (a (29 + 5 * i + 4)))
def Inv0 (a : Int → Int) : Prop :=
  InvC a ∧ (a 7 = -1 ∨ ((a 7 = a 2 - 1 ∧ 1 ≤ a 2) ∧ (0 ≤ a 8 ∧ a 8 < a 0) ∧ sPt (a 9) (a 10))) ∧
  (∀ r, 0 ≤ r → r < a 2 → RunOk a r) ∧ (∀ r, a 2 ≤ r → r < 8 → ∀ k, 0 ≤ k → k < 13 → a (59 + 13 * r + k) = 0) ∧ vz a
def Inv (a : Int → Int) : Prop := Inv0 a ∧ (a 7 ≠ -1 → a (59 + 13 * a 7 + 1) ≤ a 6 ∧ a (59 + 13 * a 7) = 0)
