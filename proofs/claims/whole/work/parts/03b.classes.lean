-- printed by wip/whole/gen.py: which class a method is of
def aMc (y : Nat) : Nat :=
  match Nat.blt y 12 with
  | true => 0
  | false =>
  match Nat.blt y 16 with
  | true => 1
  | false =>
  match Nat.blt y 21 with
  | true => 2
  | false =>
  match Nat.blt y 32 with
  | true => 3
  | false =>
  match Nat.blt y 42 with
  | true => 4
  | false =>
  match Nat.blt y 68 with
  | true => 5
  | false =>
  match Nat.blt y 132 with
  | true => 6
  | false =>
  match Nat.blt y 239 with
  | true => 7
  | false => 8
set_option maxRecDepth 100000 in
theorem aPms_cl : aPms.all (fun q => decide (q.2.2.1 = 0 → aRn (aMc q.2.2.2) = (aMt q.2.2.2).1.cls ∧ aMc q.2.2.2 < 8) && decide (q.2.2.1 = 0 ∨ q.2.2.1 = 3 ∨ q.2.2.1 = 4 ∨ q.2.2.1 = 5 → (aMt q.2.2.2).2.2.2.2 = [])) = true := by decide +kernel
set_option maxRecDepth 100000 in
theorem aCx_at : [Cond.classLink RL 13 "java/lang/IllegalArgumentException", Cond.classLink RL 15 "java/lang/IllegalStateException", Cond.classLink RL 25 "java/lang/IndexOutOfBoundsException", Cond.classLink RL 69 "java/util/NoSuchElementException", Cond.classLink RL 124 "java/lang/ArithmeticException", Cond.classLink RL 144 "java/lang/UnsupportedOperationException"] = [462, 463, 616, 861, 1022, 1088].filterMap (fun i => lw_tbl[i]?) := rfl
set_option maxRecDepth 100000 in
theorem aCst_at : aEx.map (fun e => Cond.castable e e) = [563, 579, 491, 869, 1034, 1200].filterMap (fun i => lw_tbl[i]?) := rfl
