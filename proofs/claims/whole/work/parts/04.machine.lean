/-! THE WALK'S OWN MACHINE: values and memory as numbers, things by names, a step as what must hold for it. Everything behind it is proved over this machine; part 05 ties it to the JVM. -/
def iZ (n : Int) : Int32 := Int32.ofInt n
def lZ (n : Int) : Int64 := Int64.ofInt n
abbrev aP : Type := Nat × Int × Int
abbrev aV : Type := Int ⊕ (Int ⊕ (aP ⊕ Value))
abbrev aM : Type := aP → Int → Int
abbrev aSt : Type := Option (Nat × (aP → Int → Bool))
abbrev aK : Type := aSt × Nat × Nat
abbrev aI : Type := Instr × Nat × Nat × Nat × Nat × List (Int × Nat)
/-- the run's constants: classes, classes of arrays, addresses of texts, the heap at the law's entry, the script -/
abbrev aG : Type := va_G × (Nat → ClassId) × (Nat → Nat) × Heap × (Nat × Nat)
def aBase (g : aG) : Nat := g.2.2.2.1.size
def aSb (i : Int) : Nat := if i.toNat < 3 then 1 + 27 * i.toNat else 3 + 27 * i.toNat
/-- where a thing lies, from the first cell that the law makes -/
def aOff (p : aP) : Nat := match p.1 with
  | 0 => 0
  | 1 => aSb p.2.1
  | 2 => aSb p.2.1 + 1
  | 3 => aSb p.2.1 + 2 + p.2.2.toNat
  | 4 => aSb p.2.1 + 10
  | 5 => aSb p.2.1 + 11 + 2 * p.2.2.toNat
  | 6 => aSb p.2.1 + 12 + 2 * p.2.2.toNat
  | 7 => 82
  | 8 => 83
  | 9 => 300
  | 10 => 301
  | 11 => 302
  | 12 => 303
  | 13 => 304
  | 14 => 305
  | 15 => 306
  | 16 => 307
  | 17 => 308 + p.2.1.toNat
  | 18 => 318
  | 19 => 319
  | _ => 320
def aBlk (s : Nat) : List aP := (1, (s : Int), 0) :: (2, (s : Int), 0) :: ((List.range 8).map (fun (j : Nat) => ((3, (s : Int), (j : Int)) : aP)) ++ (4, (s : Int), 0) :: (List.range 8).flatMap (fun (r : Nat) => [((5, (s : Int), (r : Int)) : aP), (6, (s : Int), (r : Int))]))
def aAll : List aP := (0, 0, 0) :: (aBlk 0 ++ (aBlk 1 ++ (aBlk 2 ++ ((7, 0, 0) :: (8, 0, 0) :: ((List.range 8).flatMap (fun i => aBlk (3 + i)) ++ ((9, 0, 0) :: (10, 0, 0) :: (11, 0, 0) :: (12, 0, 0) :: (13, 0, 0) :: (14, 0, 0) :: (15, 0, 0) :: (16, 0, 0) :: ((List.range 10).map (fun (j : Nat) => ((17, (j : Int), 0) : aP)) ++ [(18, 0, 0), (19, 0, 0)])))))))
/-- a thing's kind: an object of a class, or an array (of ints 0, chars 1, runs 2, states 3, longs 4, doubles 5; 9: the script, a text) and its length -/
def aSh (p : aP) : Nat ⊕ (Nat × Int) := match p.1 with
  | 0 => .inl 6
  | 1 => .inl 5
  | 2 => .inl 0
  | 3 => .inr (0, 6)
  | 4 => .inr (2, 8)
  | 5 => .inl 4
  | 6 => .inr (0, 6)
  | 7 => .inl 1
  | 8 => .inr (3, 8)
  | 9 => .inr (0, 8)
  | 10 => .inl 2
  | 11 => .inr (1, 64)
  | 12 => .inl 3
  | 13 => .inr (1, 60)
  | 14 => .inr (0, 16)
  | 15 => .inr (0, 80)
  | 16 => .inl 7
  | 17 => match p.2.1.toNat with
    | 4 => .inr (0, 1304)
    | 5 => .inr (0, 60)
    | 6 => .inr (0, 80)
    | 7 => .inr (1, 47)
    | 8 => .inr (0, 10)
    | 9 => .inr (0, 366)
    | _ => .inr (0, 163)
  | 18 => .inr (4, 1)
  | 19 => .inr (5, 1)
  | _ => .inr (9, 0)
/-- what a thing's place of a reference holds, once it is made -/
def aRf (p : aP) (k : Int) : aP := match p with
  | (kd, i, j) => match kd with
  | 0 => match k.toNat with
    | 0 => (1, 0, 0)
    | 1 => (1, 1, 0)
    | 2 => (1, 2, 0)
    | 4 => (7, 0, 0)
    | 5 => (9, 0, 0)
    | 6 => (10, 0, 0)
    | _ => (12, 0, 0)
  | 1 => match k.toNat with
    | 0 => (2, i, 0)
    | _ => (4, i, 0)
  | 2 => match k.toNat with
    | 5 => (3, i, 0)
    | 6 => (3, i, 1)
    | 7 => (3, i, 2)
    | 9 => (3, i, 3)
    | 10 => (3, i, 4)
    | 11 => (3, i, 5)
    | 12 => (3, i, 6)
    | _ => (3, i, 7)
  | 4 => (5, i, k)
  | 5 => (6, i, j)
  | 7 => (8, 0, 0)
  | 8 => (1, 3 + k, 0)
  | 10 => (11, 0, 0)
  | 12 => match k.toNat with
    | 0 => (13, 0, 0)
    | 3 => (14, 0, 0)
    | _ => (15, 0, 0)
  | 16 => match k.toNat with
    | 0 => (17, 0, 0)
    | 1 => (17, 1, 0)
    | 2 => (17, 2, 0)
    | 3 => (17, 3, 0)
    | 5 => (17, 4, 0)
    | 10 => (17, 5, 0)
    | 12 => (17, 6, 0)
    | 14 => (17, 7, 0)
    | 15 => (17, 8, 0)
    | _ => (17, 9, 0)
  | _ => (0, 0, 0)
def aWr (z : aM) (p : aP) (k x : Int) : aM := fun q j => if q = p ∧ j = k then x else z q j
def aCp (z : aM) (p : aP) (sp : Int) (q : aP) (dp n : Int) : aM := fun r j => if r = q ∧ dp ≤ j ∧ j < dp + n then z p (sp + (j - dp)) else z r j
def aZr (z : aM) (p : aP) : aM := fun q j => if q = p then 0 else z q j
def aBt (r : aP → Int → Bool) (p : aP) (k : Int) : aP → Int → Bool := fun q j => if q = p ∧ j = k then true else r q j
def aBf (r : aP → Int → Bool) (p : aP) : aP → Int → Bool := fun q j => if q = p then false else r q j
def aAd (g : aG) (p : aP) : Nat := match p.1 with
  | 30 => g.2.2.1 p.2.1.toNat
  | 31 => g.2.2.2.2.1
  | _ => aBase g + aOff p
/-- a value of the walk, as the machine has it -/
def aC (g : aG) (v : aV) : Value := match v with
  | .inl n => .int (iZ n)
  | .inr (.inl n) => .long (lZ n)
  | .inr (.inr (.inl p)) => .ref (aAd g p)
  | .inr (.inr (.inr v)) => v
def aCnt (s : aSt) : Nat := match s with
  | none => 320
  | some (n, _) => n
/-- a thing that is there -/
def aLp (s : aSt) (p : aP) : Prop := (aAll[aOff p]? = some p ∧ aOff p < aCnt s) ∨ (p.1 = 30 ∧ p.2.1.toNat < 9) ∨ p.1 = 31
def aLv (s : aSt) (v : aV) : Prop := match v with
  | .inr (.inr (.inl p)) => aLp s p
  | _ => True
/-- a place of a reference, as the machine has it -/
def aRv (g : aG) (s : aSt) (p : aP) (k : Int) : Option Nat := match s with
  | none => some (aAd g (aRf p k))
  | some (_, r) => if r p k = true then some (aAd g (aRf p k)) else none
def aFv (g : aG) (s : aSt) (z : aM) (p : aP) (ci k : Nat) : Value := if (aFl ci)[k]? = some 2 then va_rf (aRv g s p (k : Int)) else .int (iZ (z p (k : Int)))
def aAr (g : aG) (s : aSt) (z : aM) (p : aP) (ty : Nat) : (Nat → Int32) ⊕ (Nat → Int64) ⊕ (Nat → UInt32) ⊕ (Nat → UInt64) ⊕ (Nat → Option Nat) := match ty with
  | 0 => .inl (fun k => iZ (z p (k : Int)))
  | 1 => .inl (fun k => iZ (z p (k : Int)))
  | 4 => .inr (.inl (fun k => lZ (z p (k : Int))))
  | 5 => .inr (.inr (.inr (.inl (fun k => UInt64.ofNat (z p (k : Int)).toNat))))
  | _ => .inr (.inr (.inr (.inr (fun k => aRv g s p (k : Int)))))
def aCe (g : aG) (s : aSt) (z : aM) (p : aP) : va_E := match aSh p with
  | .inl ci => .inr (ci, (List.range (aFl ci).length).map (aFv g s z p ci))
  | .inr (ty, n) => .inl (g.2.1 ty, (n.toNat, aAr g s z p ty))
/-- the cells of the walk's memory -/
def aWs (g : aG) (s : aSt) (z : aM) : va_W := (List.range (aCnt s)).map (fun i => (aBase g + i, aCe g s z (aAll.getD i (0, 0, 0))))
def aRep (g : aG) (s : aSt) (z : aM) (H : Heap) : Prop :=
  va_P g.1 aCl (aWs g s z) H ∧ (∀ q : Nat, q < aBase g → H[q]? = g.2.2.2.1[q]?) ∧ (match s with
    | none => True
    | some (n, r) => H.size = aBase g + n ∧ n ≤ 320) ∧ aBase g ≤ H.size ∧ ∃ scr : Cell, g.2.2.2.1[g.2.2.2.2.1]? = some scr ∧ scr.slots.size = g.2.2.2.2.2 ∧ ∀ j : Nat, j < g.2.2.2.2.2 → scr.slots[j]? = some (.int (iZ (z (31, 0, 0) (j : Int))))
abbrev aTyl (g : aG) : List (ClassId × FieldType) := [(g.2.1 0, .int), (g.2.1 1, .char), (g.2.1 2, .object "SheepdogTrial$Run"), (g.2.1 3, .object "SheepdogTrial$State"), (g.2.1 4, .long), (g.2.1 5, .double)]
def aA (g : aG) : Nat → Prop := fun q => aBase g ≤ q
/-- the chars of the texts that a walk may hold -/
def aPtc : List (List Int) := [[115, 116, 97, 114, 116, 32, 35, 44, 35], [108, 101, 103, 32, 35, 44, 35, 61, 35], [103, 97, 116, 101, 32, 63, 32, 35, 44, 35, 45, 35, 44, 35], [108, 105, 109, 105, 116, 32, 35], [119, 105, 100, 116, 104, 32, 35], [114, 117, 110], [119, 97, 108, 107, 32, 35, 44, 35, 43, 35], [102, 97, 117, 108, 116, 32, 63], [114, 101, 116, 105, 114, 101]]
/-! lists of locals, made explicit -/
def aGet : List (Option aV) → Nat → Option aV
  | [], _ => none
  | x :: _, 0 => x
  | _ :: l, i + 1 => aGet l i
def aW2 (v : aV) : Bool := match v with
  | .inr (.inl _) => true
  | .inr (.inr (.inr (.long _))) => true
  | .inr (.inr (.inr (.double _))) => true
  | _ => false
def aClr (x : Option aV) : Option aV := match x with
  | some v => match aW2 v with
    | true => none
    | false => some v
  | none => none
def aSet1 : List (Option aV) → Nat → aV → Option (List (Option aV))
  | [], _, _ => none
  | _ :: l, 0, v => some (some v :: l)
  | x :: l, i + 1, v => match aSet1 l i v with
    | some l' => some ((match i with
      | 0 => aClr x
      | _ + 1 => x) :: l')
    | none => none
def aSet2 : List (Option aV) → Nat → aV → Option (List (Option aV))
  | [], _, _ => none
  | _ :: l, 0, v => match l with
    | [] => none
    | _ :: l' => some (some v :: none :: l')
  | x :: l, i + 1, v => match aSet2 l i v with
    | some l' => some ((match i with
      | 0 => aClr x
      | _ + 1 => x) :: l')
    | none => none
def aFo : List (Option aV) → (List (Option aV) → Prop) → Prop
  | [], c => c []
  | x :: l, c => match x with
    | none => aFo l (fun l' => c (none :: l'))
    | some v => aFo l (fun l' => c (some v :: l'))
def aEn : List aV → Nat → List (Option aV)
  | _, 0 => []
  | [], n + 1 => none :: aEn [] n
  | v :: vs, n + 1 => match aW2 v with
    | true => match n with
      | 0 => [some v]
      | m + 1 => some v :: none :: aEn vs m
    | false => some v :: aEn vs n
def aPop : Nat → List aV → List aV → (List aV → List aV → Prop) → Prop
  | 0, acc, st, c => c acc st
  | n + 1, acc, st, c => match st with
    | [] => False
    | v :: st' => aPop n (v :: acc) st' c
def aPu (r : Option aV) (rest : List aV) (c : List aV → Prop) : Prop := match r with
  | none => c rest
  | some v => c (v :: rest)
def aHas : List Nat → Nat → Bool
  | [], _ => false
  | x :: l, k => match Nat.beq x k with
    | true => true
    | false => aHas l k
def aSml (st : List aV) : Bool := Nat.ble st.length 4
def aCmp (a b : Int) : Int := if a < b then -1 else if a = b then 0 else 1
def aIR (a : Int) : Prop := -2147483648 ≤ a ∧ a ≤ 2147483647
def aBr (c : Jvm.ClassFile.Cond) (a b : Int) (T F : Prop) : Prop := match c with
  | .eq => (a = b → T) ∧ (¬ a = b → F)
  | .ne => (¬ a = b → T) ∧ (a = b → F)
  | .lt => (a < b → T) ∧ (b ≤ a → F)
  | .ge => (b ≤ a → T) ∧ (a < b → F)
  | .gt => (b < a → T) ∧ (a ≤ b → F)
  | .le => (a ≤ b → T) ∧ (b < a → F)
def aSw (a : Int) (K : Nat → Prop) (t : Nat) : List (Int × Nat) → Prop
  | [] => K t
  | (v, t') :: r => (a = v → K t') ∧ (¬ a = v → aSw a K t r)
/-- which exception a place of the law's pool names -/
def aCx (c : Nat) : Nat := match c with
  | 13 => 0
  | 15 => 1
  | 25 => 2
  | 69 => 3
  | 124 => 4
  | 144 => 5
  | _ => 6
def aHnd : List (Nat × Nat × Nat × Nat) → Nat → Nat → (Nat → Prop) → Prop → Prop
  | [], _, _, _, o => o
  | (a, b, h, c) :: r, pc, x, k, o => match Nat.ble a pc && (Nat.blt pc b && Nat.beq (aCx c) x) with
    | true => k h
    | false => aHnd r pc x k o
def aRk (r : Option FieldType) : Nat := match r with
  | none => 0
  | some .int => 1
  | some .boolean => 2
  | some .char => 3
  | some (.object _) => 4
  | some .double => 5
  | some .float => 6
  | _ => 9
