/-! THE STEP: what must hold so that an instruction takes the walk to K. -/
/-- what the tables of the machine say, at any point of the run -/
def aKN (g : aG) (U : State) : Prop :=
  (∀ w : Cond, w ∈ lw_tbl → aWarm w = true → w.before #[] U = true) ∧ va_K g.1 aCl (aTyl g) U ∧ va_AO "SheepdogTrial$Run" U ∧ va_AO "SheepdogTrial$State" U ∧
  (∀ q ∈ aThs, ∃ a, vk_R (aRn q.1) q.2.2.2.2.1 q.2.2.1 a U) ∧ (∀ (k : Nat) (q : Nat × String), aPts[k]? = some q → vk_R RX3 q.1 q.2 (g.2.2.1 k) U) ∧
  vx_Zq Bundle.tN "UNASSIGNED_STACK" Bundle.steD (aA g) U g.2.2.2.1 ∧ vx_Zq Bundle.tN "SUPPRESSED_SENTINEL" Bundle.listD (aA g) U g.2.2.2.1 ∧
  (∀ x y : Nat, x < 6 → y < 6 → x ≠ y → va_Nc (aEx.getD x "") (aEx.getD y "") U) ∧
  (vk_S 9 (aPtc.map List.length) (aPtc.map (fun t => t.map Int32.ofInt)) g.2.2.1 (fun i => g.2.2.1 (100 + i)) (aA g) U g.2.2.2.1 ∧ va_Z "java/lang/String" "COMPACT_STRINGS" "Z" (.int 1) (aA g) U g.2.2.2.1 ∧ va_Zq "jdk/internal/util/Preconditions" "SIOOBE_FORMATTER" "Ljava/util/function/BiFunction;" (aA g) U g.2.2.2.1) ∧
  (∃ scr : Cell, g.2.2.2.1[g.2.2.2.2.1]? = some scr ∧ U.isArrayOf scr .int ∧ scr.vm ≠ .unknown)
def aU (g : aG) (s : aSt) (z : aM) (U : State) : Prop := aRep g s z U.heap ∧ aKN g U
def aQ (g : aG) (Q : Option aV → aSt → aM → Prop) : Array Value → State → Outcome → State → Prop := fun _ st o t =>
  ∃ (r : Option aV) (s' : aSt) (z' : aM), o = .returned (r.map (aC g)) ∧ (∀ v, r = some v → aLv s' v) ∧ Q r s' z' ∧ aRep g s' z' t.heap ∧ va_F (aA g) st t
def aX (g : aG) (X : Nat → aSt → aM → Prop) : String → State → State → Prop := fun E st t =>
  ∃ (x : Nat) (s' : aSt) (z' : aM), x < 6 ∧ E = aEx.getD x "" ∧ X x s' z' ∧ aRep g s' z' t.heap ∧ va_F (aA g) st t
/-- THE CONTRACT: called with these values in this memory, method y answers as Q says, or throws as X says; at most mc cells of ms slots are new -/
def aCt (l : Launch) (g : aG) (y d mc ms : Nat) (s : aSt) (as : List aV) (z : aM) (Q : Option aV → aSt → aM → Prop) (X : Nat → aSt → aM → Prop) : Prop :=
  (l.stackTraces = false ∧ g.2.2.2.2.2 < 2 ^ 31) → (∀ v ∈ as, aLv s v) → vx_Met l (aMt y).1 [aWd y] { frames := d, cells := mc, slots := ms, locals := 500 * d } (va_Pc (as.map (aC g)) (aU g s z)) (aQ g Q) (aX g X) mc ms (aA g)
abbrev aT : Type := List (Nat × aI)
def aFd : aT → Nat → Option aI
  | [], _ => none
  | (k, x) :: l, pc => match Nat.beq k pc with
    | true => some x
    | false => aFd l pc
/-- a frame's constants: depth, cells and slots that it may make, its answer's kind, its handlers -/
abbrev aFr : Type := Nat × Nat × Nat × Nat × List (Nat × Nat × Nat × Nat)
section STP
variable (l : Launch) (g : aG) (f : aFr) (Q : Option aV → aSt → aM → Prop) (X : Nat → aSt → aM → Prop)
/-- the first value is a thing that the method may be called on -/
def aRcv (kd y : Nat) (as : List aV) : Bool := match kd with
  | 1 => true
  | 5 => true
  | 0 => match as with
    | .inr (.inr (.inl q)) :: _ => match aSh q with
      | .inl ci => Nat.beq ci (aMc y)
      | .inr _ => false
    | _ => false
  | _ => match as with
    | .inr (.inr (.inl _)) :: _ => true
    | _ => false
def aInv (kd pc y n na : Nat) (k : aK) (z : aM) (ls : List (Option aV)) (st : List aV) (K : aK → aM → Nat → List (Option aV) → List aV → Prop) : Prop :=
  aPop na [] st (fun as rest => ((aSml rest = true ∧ aRcv kd y as = true) ∧ 1 ≤ f.1) ∧
    (aCt l g y (f.1 - 1) 0 0 k.1 as z (fun r s' z' => s' = k.1 ∧ aPu r rest (fun st' => K k z' n ls st')) (fun _ _ _ => False) ∨
    ((k.2.1 + 1 ≤ f.2.1 ∧ k.2.2 + 6 ≤ f.2.2.1) ∧ aCt l g y (f.1 - 1) 1 6 k.1 as z (fun _ _ _ => False) (fun x s' z' => s' = k.1 ∧ aHnd f.2.2.2.2 pc x (fun h => ∀ q : Nat, K (k.1, k.2.1 + 1, k.2.2 + 6) z' h ls [.inr (.inr (.inr (.ref q)))]) (X x k.1 z'))) ∨
    ∃ c' m', (k.2.1 + c' ≤ f.2.1 ∧ k.2.2 + m' ≤ f.2.2.1) ∧ aCt l g y (f.1 - 1) c' m' k.1 as z (fun r s' z' => aCnt k.1 ≤ aCnt s' ∧ aPu r rest (fun st' => K (s', k.2.1 + c', k.2.2 + m') z' n ls st')) (fun _ _ _ => False)))
def aPrim (b n : Nat) (k : aK) (z : aM) (ls : List (Option aV)) (st : List aV) (K : aK → aM → Nat → List (Option aV) → List aV → Prop) : Prop := match b with
  | 2 => match st with
    | .inr (.inr (.inl _)) :: st => (aSml st = true ∧ 1 ≤ f.1) ∧ K k z n ls st
    | _ => False
  | 6 => match st with
    | .inl y :: .inl x :: st => ((aIR x ∧ aIR y) ∧ (aSml st = true ∧ 1 ≤ f.1)) ∧ K k z n ls (.inl (max x y) :: st)
    | _ => False
  | 7 => match st with
    | .inl y :: .inl x :: st => ((aIR x ∧ aIR y) ∧ (aSml st = true ∧ 1 ≤ f.1)) ∧ K k z n ls (.inl (min x y) :: st)
    | _ => False
  | 8 => match st with
    | .inl m :: .inl dp :: .inr (.inr (.inl q)) :: .inl sp :: .inr (.inr (.inl p)) :: st => match aSh p, aSh q with
      | .inr (0, mp), .inr (0, mq) => ((((0 ≤ m ∧ 0 ≤ sp) ∧ (0 ≤ dp ∧ (sp + m ≤ mp ∧ dp + m ≤ mq))) ∧ (aSml st = true ∧ 1 ≤ f.1)) ∧ k.1 = none) ∧ K k (aCp z p sp q dp m) n ls st
      | _, _ => False
    | _ => False
  | 9 => match st with
    | .inr (.inr (.inl p)) :: st => (p.1 = 30 ∧ (aSml st = true ∧ 4 ≤ f.1)) ∧ K k z n ls (.inl ((aPtc.getD p.2.1.toNat []).length : Int) :: st)
    | _ => False
  | 10 => match st with
    | .inl i :: .inr (.inr (.inl p)) :: st => ((p.1 = 30 ∧ (aSml st = true ∧ 6 ≤ f.1)) ∧ (0 ≤ i ∧ i < ((aPtc.getD p.2.1.toNat []).length : Int))) ∧ K k z n ls (.inl ((aPtc.getD p.2.1.toNat []).getD i.toNat 0) :: st)
    | _ => False
  | _ => False
def stp (pc : Nat) (I : aI) (k : aK) (z : aM) (ls : List (Option aV)) (st : List aV) (K : aK → aM → Nat → List (Option aV) → List aV → Prop) : Prop := match I with
  | (ins, n, t, a, b, sw) => match ins with
    | .iconst m => K k z n ls (.inl m :: st)
    | .bipush m => K k z n ls (.inl m :: st)
    | .sipush m => K k z n ls (.inl m :: st)
    | .lconst m => match m.val with
      | 0 => K k z n ls (.inr (.inl 0) :: st)
      | _ => K k z n ls (.inr (.inl 1) :: st)
    | .ldc2_w _ => match sw with
      | (v, _) :: _ => K k z n ls (.inr (.inl v) :: st)
      | [] => False
    | .ldc _ => match sw with
      | (v, _) :: _ => K k z n ls (.inr (.inr (.inl (30, v, 0))) :: st)
      | [] => False
    | .fconst m => match m.val with
      | 0 => K k z n ls (.inr (.inr (.inr (.float FP.fconst0))) :: st)
      | _ => False
    | .dconst m => match m.val with
      | 0 => K k z n ls (.inr (.inr (.inr (.double FP.dconst0))) :: st)
      | _ => False
    | .iload_n i => match aGet ls i.val with
      | some (.inl x) => K k z n ls (.inl x :: st)
      | _ => False
    | .iload i => match aGet ls i with
      | some (.inl x) => K k z n ls (.inl x :: st)
      | _ => False
    | .aload_n i => match aGet ls i.val with
      | some (.inr (.inr (.inl p))) => K k z n ls (.inr (.inr (.inl p)) :: st)
      | _ => False
    | .aload i => match aGet ls i with
      | some (.inr (.inr (.inl p))) => K k z n ls (.inr (.inr (.inl p)) :: st)
      | _ => False
    | .lload_n i => match aGet ls i.val with
      | some (.inr (.inl x)) => K k z n ls (.inr (.inl x) :: st)
      | _ => False
    | .lload i => match aGet ls i with
      | some (.inr (.inl x)) => K k z n ls (.inr (.inl x) :: st)
      | _ => False
    | .dload i => match aGet ls i with
      | some (.inr (.inr (.inr (.double x)))) => K k z n ls (.inr (.inr (.inr (.double x))) :: st)
      | _ => False
    | .fload i => match aGet ls i with
      | some (.inr (.inr (.inr (.float x)))) => K k z n ls (.inr (.inr (.inr (.float x))) :: st)
      | _ => False
    | .istore_n i => match st with
      | .inl x :: st => match aSet1 ls i.val (.inl x) with
        | some l' => aFo l' (fun l' => K k z n l' st)
        | none => False
      | _ => False
    | .istore i => match st with
      | .inl x :: st => match aSet1 ls i (.inl x) with
        | some l' => aFo l' (fun l' => K k z n l' st)
        | none => False
      | _ => False
    | .astore_n i => match st with
      | .inr (.inr (.inl p)) :: st => match aSet1 ls i.val (.inr (.inr (.inl p))) with
        | some l' => aFo l' (fun l' => K k z n l' st)
        | none => False
      | .inr (.inr (.inr (.ref q))) :: st => match aSet1 ls i.val (.inr (.inr (.inr (.ref q)))) with
        | some l' => aFo l' (fun l' => K k z n l' st)
        | none => False
      | _ => False
    | .astore i => match st with
      | .inr (.inr (.inl p)) :: st => match aSet1 ls i (.inr (.inr (.inl p))) with
        | some l' => aFo l' (fun l' => K k z n l' st)
        | none => False
      | .inr (.inr (.inr (.ref q))) :: st => match aSet1 ls i (.inr (.inr (.inr (.ref q)))) with
        | some l' => aFo l' (fun l' => K k z n l' st)
        | none => False
      | _ => False
    | .lstore i => match st with
      | .inr (.inl x) :: st => match aSet2 ls i (.inr (.inl x)) with
        | some l' => aFo l' (fun l' => K k z n l' st)
        | none => False
      | _ => False
    | .dstore i => match st with
      | .inr (.inr (.inr (.double x))) :: st => match aSet2 ls i (.inr (.inr (.inr (.double x)))) with
        | some l' => aFo l' (fun l' => K k z n l' st)
        | none => False
      | _ => False
    | .fstore i => match st with
      | .inr (.inr (.inr (.float x))) :: st => match aSet1 ls i (.inr (.inr (.inr (.float x)))) with
        | some l' => aFo l' (fun l' => K k z n l' st)
        | none => False
      | _ => False
    | .iinc i c => match aGet ls i with
      | some (.inl x) => match aSet1 ls i (.inl (x + c)) with
        | some l' => aFo l' (fun l' => K k z n l' st)
        | none => False
      | _ => False
    | .iadd => match st with
      | .inl y :: .inl x :: st => K k z n ls (.inl (x + y) :: st)
      | _ => False
    | .isub => match st with
      | .inl y :: .inl x :: st => K k z n ls (.inl (x - y) :: st)
      | _ => False
    | .imul => match st with
      | .inl y :: .inl x :: st => K k z n ls (.inl (x * y) :: st)
      | _ => False
    | .idiv => match st with
      | .inl y :: .inl x :: st => ((0 ≤ x ∧ x ≤ 2147483647) ∧ (0 < y ∧ y ≤ 2147483647)) ∧ K k z n ls (.inl (x / y) :: st)
      | _ => False
    | .irem => match st with
      | .inl y :: .inl x :: st => ((0 ≤ x ∧ x ≤ 2147483647) ∧ (0 < y ∧ y ≤ 2147483647)) ∧ K k z n ls (.inl (x % y) :: st)
      | _ => False
    | .ishl => match st with
      | .inl y :: .inl x :: st => ((0 ≤ x ∧ x * 2 ^ y.toNat ≤ 2147483647) ∧ (0 ≤ y ∧ y < 31)) ∧ K k z n ls (.inl (x * 2 ^ y.toNat) :: st)
      | _ => False
    | .ishr => match st with
      | .inl y :: .inl x :: st => ((0 ≤ x ∧ x ≤ 2147483647) ∧ (0 ≤ y ∧ y < 31)) ∧ K k z n ls (.inl (x / 2 ^ y.toNat) :: st)
      | _ => False
    | .iand => match st with
      | .inl y :: .inl x :: st => K k z n ls (.inl (iZ x &&& iZ y).toInt :: st)
      | _ => False
    | .ior => match st with
      | .inl y :: .inl x :: st => K k z n ls (.inl (iZ x ||| iZ y).toInt :: st)
      | _ => False
    | .lmul => match st with
      | .inr (.inl y) :: .inr (.inl x) :: st => K k z n ls (.inr (.inl (x * y)) :: st)
      | _ => False
    | .lsub => match st with
      | .inr (.inl y) :: .inr (.inl x) :: st => K k z n ls (.inr (.inl (x - y)) :: st)
      | _ => False
    | .i2l => match st with
      | .inl x :: st => aIR x ∧ K k z n ls (.inr (.inl x) :: st)
      | _ => False
    | .lcmp => match st with
      | .inr (.inl y) :: .inr (.inl x) :: st => ((-9223372036854775808 ≤ x ∧ x ≤ 9223372036854775807) ∧ (-9223372036854775808 ≤ y ∧ y ≤ 9223372036854775807)) ∧ K k z n ls (.inl (aCmp x y) :: st)
      | _ => False
    | .i2c => match st with
      | .inl x :: st => K k z n ls (.inl (x % 65536) :: st)
      | _ => False
    | .i2d => match st with
      | .inl x :: st => K k z n ls (.inr (.inr (.inr (.double (FP.i2d (iZ x))))) :: st)
      | _ => False
    | .i2f => match st with
      | .inl x :: st => K k z n ls (.inr (.inr (.inr (.float (FP.i2f (iZ x))))) :: st)
      | _ => False
    | .f2d => match st with
      | .inr (.inr (.inr (.float x))) :: st => vf_n64 (FP.f2d x) ∧ K k z n ls (.inr (.inr (.inr (.double (FP.f2d x)))) :: st)
      | _ => False
    | .fdiv => match st with
      | .inr (.inr (.inr (.float y))) :: .inr (.inr (.inr (.float x))) :: st => vf_n32 (FP.fdiv x y) ∧ K k z n ls (.inr (.inr (.inr (.float (FP.fdiv x y)))) :: st)
      | _ => False
    | .ddiv => match st with
      | .inr (.inr (.inr (.double y))) :: .inr (.inr (.inr (.double x))) :: st => vf_n64 (FP.ddiv x y) ∧ K k z n ls (.inr (.inr (.inr (.double (FP.ddiv x y)))) :: st)
      | _ => False
    | .dcmp o => match st with
      | .inr (.inr (.inr (.double y))) :: .inr (.inr (.inr (.double x))) :: st => K k z n ls (.inl (Op.cmpValue (FP.dcmp x y) o).toInt :: st)
      | _ => False
    | .fcmp o => match st with
      | .inr (.inr (.inr (.float y))) :: .inr (.inr (.inr (.float x))) :: st => K k z n ls (.inl (Op.cmpValue (FP.fcmp x y) o).toInt :: st)
      | _ => False
    | .ifCond c _ => match st with
      | .inl x :: st => aIR x ∧ aBr c x 0 (K k z t ls st) (K k z n ls st)
      | _ => False
    | .if_icmp c _ => match st with
      | .inl y :: .inl x :: st => (aIR x ∧ aIR y) ∧ aBr c x y (K k z t ls st) (K k z n ls st)
      | _ => False
    | .goto _ => K k z t ls st
    | .tableswitch _ _ _ _ => match st with
      | .inl x :: st => aIR x ∧ aSw x (fun t' => K k z t' ls st) t sw
      | _ => False
    | .getfield _ => match st, sw with
      | .inr (.inr (.inl p)) :: st, (i, _) :: _ => match aSh p with
        | .inl ci => match Nat.beq ci a with
          | true => match (aFl ci)[b]? with
            | some 2 => match k.1 with
              | none => match aRf p i with
                | (x, y, w) => K k z n ls (.inr (.inr (.inl (x, y, w))) :: st)
              | some (cnt, r) => (r p i = true ∧ aOff (aRf p i) < cnt) ∧ (match aRf p i with
                | (x, y, w) => K k z n ls (.inr (.inr (.inl (x, y, w))) :: st))
            | some _ => K k z n ls (.inl (z p i) :: st)
            | none => False
          | false => False
        | .inr _ => False
      | _, _ => False
    | .putfield _ => match st, sw with
      | v :: .inr (.inr (.inl p)) :: st, (i, _) :: _ => match aSh p with
        | .inl ci => match Nat.beq ci a with
          | true => match (aFl ci)[b]?, v with
            | some 0, .inl x => K k (aWr z p i x) n ls st
            | some 1, .inl x => (x = 0 ∨ x = 1) ∧ K k (aWr z p i x) n ls st
            | some 2, .inr (.inr (.inl q)) => match k.1 with
              | none => False
              | some (cnt, r) => q = aRf p i ∧ K (some (cnt, aBt r p i), k.2.1, k.2.2) z n ls st
            | _, _ => False
          | false => False
        | .inr _ => False
      | _, _ => False
    | .iaload => match st with
      | .inl i :: .inr (.inr (.inl p)) :: st => match aSh p with
        | .inr (0, m) => (0 ≤ i ∧ i < m) ∧ K k z n ls (.inl (z p i) :: st)
        | .inr (9, _) => (p = (31, 0, 0) ∧ (0 ≤ i ∧ i < (g.2.2.2.2.2 : Int))) ∧ K k z n ls (.inl (z p i) :: st)
        | _ => False
      | _ => False
    | .caload => match st with
      | .inl i :: .inr (.inr (.inl p)) :: st => match aSh p with
        | .inr (1, m) => (0 ≤ i ∧ i < m) ∧ K k z n ls (.inl (z p i) :: st)
        | _ => False
      | _ => False
    | .laload => match st with
      | .inl i :: .inr (.inr (.inl p)) :: st => match aSh p with
        | .inr (4, m) => (0 ≤ i ∧ i < m) ∧ K k z n ls (.inr (.inl (z p i)) :: st)
        | _ => False
      | _ => False
    | .daload => match st with
      | .inl i :: .inr (.inr (.inl p)) :: st => match aSh p with
        | .inr (5, m) => (0 ≤ i ∧ i < m) ∧ K k z n ls (.inr (.inr (.inr (.double (UInt64.ofNat (z p i).toNat)))) :: st)
        | _ => False
      | _ => False
    | .iastore => match st with
      | .inl x :: .inl i :: .inr (.inr (.inl p)) :: st => match aSh p with
        | .inr (0, m) => (0 ≤ i ∧ i < m) ∧ K k (aWr z p i x) n ls st
        | _ => False
      | _ => False
    | .castore => match st with
      | .inl x :: .inl i :: .inr (.inr (.inl p)) :: st => match aSh p with
        | .inr (1, m) => (0 ≤ i ∧ i < m) ∧ K k (aWr z p i (x % 65536)) n ls st
        | _ => False
      | _ => False
    | .lastore => match st with
      | .inr (.inl x) :: .inl i :: .inr (.inr (.inl p)) :: st => match aSh p with
        | .inr (4, m) => (0 ≤ i ∧ i < m) ∧ K k (aWr z p i x) n ls st
        | _ => False
      | _ => False
    | .dastore => match st with
      | .inr (.inr (.inr (.double x))) :: .inl i :: .inr (.inr (.inl p)) :: st => match aSh p with
        | .inr (5, m) => (0 ≤ i ∧ i < m) ∧ K k (aWr z p i (x.toNat : Int)) n ls st
        | _ => False
      | _ => False
    | .aaload => match st with
      | .inl i :: .inr (.inr (.inl p)) :: st => match aSh p with
        | .inr (ty, m) => (0 ≤ i ∧ (i < m ∧ (ty = 2 ∨ ty = 3))) ∧ (match k.1 with
          | none => match aRf p i with
            | (x, y, w) => K k z n ls (.inr (.inr (.inl (x, y, w))) :: st)
          | some (cnt, r) => (r p i = true ∧ aOff (aRf p i) < cnt) ∧ (match aRf p i with
            | (x, y, w) => K k z n ls (.inr (.inr (.inl (x, y, w))) :: st)))
        | _ => False
      | _ => False
    | .aastore => match st with
      | .inr (.inr (.inl q)) :: .inl i :: .inr (.inr (.inl p)) :: st => match aSh p, k.1 with
        | .inr (ty, m), some (cnt, r) => ((0 ≤ i ∧ i < m) ∧ ((ty = 2 ∨ ty = 3) ∧ q = aRf p i)) ∧ K (some (cnt, aBt r p i), k.2.1, k.2.2) z n ls st
        | _, _ => False
      | _ => False
    | .arraylength => match st with
      | .inr (.inr (.inl p)) :: st => p = (31, 0, 0) ∧ K k z n ls (.inl (g.2.2.2.2.2 : Int) :: st)
      | _ => False
    | .new _ => match Nat.beq a 100 with
      | true => (((aSml st = true ∧ 6 ≤ f.1) ∧ (k.2.1 + 1 ≤ f.2.1 ∧ k.2.2 + 6 ≤ f.2.2.1)) ∧ k.1 = none) ∧ X t k.1 z
      | false => match k.1 with
        | none => False
        | some (cnt, r) => ∃ p : aP, ((aOff p = cnt ∧ aAll[aOff p]? = some p) ∧ (aSh p = .inl a ∧ (k.2.1 + 1 ≤ f.2.1 ∧ k.2.2 + (aFl a).length ≤ f.2.2.1))) ∧ K (some (cnt + 1, aBf r p), k.2.1 + 1, k.2.2 + (aFl a).length) (aZr z p) n ls (.inr (.inr (.inl p)) :: st)
    | .newarray ty => match st, k.1 with
      | .inl m :: st, some (cnt, r) => ∃ p : aP, ((aOff p = cnt ∧ aAll[aOff p]? = some p) ∧ (aSh p = .inr ((match ty with
          | .int => 0
          | .char => 1
          | .long => 4
          | .double => 5
          | _ => 9), m) ∧ (k.2.1 + 1 ≤ f.2.1 ∧ k.2.2 + m.toNat ≤ f.2.2.1))) ∧ K (some (cnt + 1, aBf r p), k.2.1 + 1, k.2.2 + m.toNat) (aZr z p) n ls (.inr (.inr (.inl p)) :: st)
      | _, _ => False
    | .anewarray _ => match st, k.1 with
      | .inl m :: st, some (cnt, r) => ∃ p : aP, ((aOff p = cnt ∧ aAll[aOff p]? = some p) ∧ (aSh p = .inr ((match a with
          | 4 => 2
          | 5 => 3
          | _ => 9), m) ∧ (k.2.1 + 1 ≤ f.2.1 ∧ k.2.2 + m.toNat ≤ f.2.2.1))) ∧ K (some (cnt + 1, aBf r p), k.2.1 + 1, k.2.2 + m.toNat) (aZr z p) n ls (.inr (.inr (.inl p)) :: st)
      | _, _ => False
    | .pop => match st with
      | v :: st => match aW2 v with
        | false => K k z n ls st
        | true => False
      | _ => False
    | .dup => match st with
      | v :: st => match aW2 v with
        | false => K k z n ls (v :: v :: st)
        | true => False
      | _ => False
    | .dup2 => match st with
      | v :: w :: st => match aW2 v, aW2 w with
        | false, false => K k z n ls (v :: w :: v :: w :: st)
        | _, _ => False
      | _ => False
    | .invokevirtual _ => match Nat.beq a 0 with
      | true => aInv l g f X a pc b n t k z ls st K
      | false => aPrim f a n k z ls st K
    | .invokestatic _ => match Nat.beq a 1 || Nat.beq a 5 with
      | true => aInv l g f X a pc b n t k z ls st K
      | false => aPrim f a n k z ls st K
    | .invokespecial _ => match Nat.beq a 3 || Nat.beq a 4 with
      | true => aInv l g f X a pc b n t k z ls st K
      | false => aPrim f a n k z ls st K
    | .ireturn => match st with
      | [.inl x] => match f.2.2.2.1 with
        | 1 => Q (some (.inl x)) k.1 z
        | 2 => (x = 0 ∨ x = 1) ∧ Q (some (.inl x)) k.1 z
        | 3 => (0 ≤ x ∧ x ≤ 65535) ∧ Q (some (.inl x)) k.1 z
        | _ => False
      | _ => False
    | .areturn => match st with
      | [.inr (.inr (.inl p))] => match Nat.beq f.2.2.2.1 4 with
        | true => Q (some (.inr (.inr (.inl p)))) k.1 z
        | false => False
      | _ => False
    | .dreturn => match st with
      | [.inr (.inr (.inr (.double x)))] => match Nat.beq f.2.2.2.1 5 with
        | true => Q (some (.inr (.inr (.inr (.double x))))) k.1 z
        | false => False
      | _ => False
    | .freturn => match st with
      | [.inr (.inr (.inr (.float x)))] => match Nat.beq f.2.2.2.1 6 with
        | true => Q (some (.inr (.inr (.inr (.float x))))) k.1 z
        | false => False
      | _ => False
    | .return_ => match st with
      | [] => match Nat.beq f.2.2.2.1 0 with
        | true => Q none k.1 z
        | false => False
      | _ => False
    | _ => False
/-- n steps, at most, of the code T; where the walk comes to one of the places cs, or has no more steps, B must hold -/
def wp (T : aT) (cs : List Nat) (B : aK → aM → Nat → List (Option aV) → List aV → Prop) : Nat → aK → aM → Nat → List (Option aV) → List aV → Prop
  | 0, k, z, pc, ls, st => B k z pc ls st
  | n + 1, k, z, pc, ls, st => match aFd T pc with
    | none => False
    | some I => stp l g f Q X pc I k z ls st (fun k' z' pc' ls' st' => match aHas cs pc' with
      | true => B k' z' pc' ls' st'
      | false => wp T cs B n k' z' pc' ls' st')
end STP
