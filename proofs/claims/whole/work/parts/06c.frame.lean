/-! a frame of the machine that runs one of the methods, and what it is for the walk to hold there -/
def aFrm (l : Launch) (g : aG) (f : aFr) (y o : Nat) (p : Program) (e : Env) (R : Room) (s : State) (m : MethodId) (args : Array Value) (below : List Frame) (meth : Method) (c : Code) : Prop :=
  (p.tables.exec = Jvm.exec ∧ l.stackTraces = false ∧ c.code = (aMt y).2.1 ∧ c.maxLocals = (aMt y).2.2.1 ∧ s.vm.findClass (aRn o) = some m.cls ∧ meth.locks = false ∧ meth.sig.returnType = (aMt y).2.2.2.1) ∧
  (aKN g s ∧ aBase g ≤ s.heap.size ∧ (∀ q : Nat, q < aBase g → s.heap[q]? = g.2.2.2.1[q]?)) ∧
  (c.exceptionTable.toList = tableOf f.2.2.2.2 ∧ meth.name = (aMt y).1.name ∧ aRk (aMt y).2.2.2.1 = f.2.2.2.1 ∧ (f.2.2.2.2 = [] ∨ o = 8) ∧ ∀ q ∈ f.2.2.2.2, aCx q.2.2.2 < 6) ∧
  (f.1 ≤ R.frames ∧ f.2.1 ≤ R.cells ∧ f.2.2.1 ≤ R.slots ∧ 500 * f.1 ≤ R.locals ∧ g.2.2.2.2.2 < 2 ^ 31)
/-- the walk holds at this place: the machine, standing there, comes to the method's end as Q and X say -/
def aBs (l : Launch) (g : aG) (f : aFr) (Q : Option aV → aSt → aM → Prop) (X : Nat → aSt → aM → Prop) (p : Program) (e : Env) (R : Room) (s : State) (m : MethodId) (args : Array Value) (below : List Frame) (meth : Method) (c : Code) : aK → aM → Nat → List (Option aV) → List aV → Prop := fun k z pc ls st =>
  (∀ v ∈ st, aLv k.1 v) → (∀ v, some v ∈ ls → aLv k.1 v) → (k.2.1 ≤ f.2.1 ∧ k.2.2 ≤ f.2.2.1) → ls.length = c.maxLocals →
  ∀ (H : Heap) (locs : List Loc) (la : Array Slot), aRep g k.1 z H → va_S (aA g) s.heap H locs → aLs g c.maxLocals ls la →
    W p l e R s m args below meth c H locs k.2.1 k.2.2 (vx_MQ below (aQ g Q) (aX g X) args s f.2.1 f.2.2.1 (aA g)) (F0 m pc la (st.map (aC g)))
/-- how long an instruction is (0: not said here) -/
def aLn (i : Instr) : Nat := match i with
  | .bipush _ | .iload _ | .lload _ | .aload _ | .dload _ | .fload _ | .istore _ | .lstore _ | .astore _ | .dstore _ | .fstore _ | .newarray _ | .ldc _ => 2
  | .sipush _ | .ldc2_w _ | .iinc _ _ | .ifCond _ _ | .if_icmp _ _ | .goto _ | .getfield _ | .putfield _ | .new _ | .anewarray _ | .invokevirtual _ | .invokestatic _ | .invokespecial _ | .ldc_w _ => 3
  | .tableswitch _ _ _ _ => 0
  | _ => 1
def aSwk (pc : Nat) (lo : Int) : List Int → List (Int × Nat) → Bool
  | [], [] => true
  | o :: os, (v, t) :: r => decide (v = lo) && (decide ((pc : Int) + o = (t : Int)) && aSwk pc (lo + 1) os r)
  | _, _ => false
/-- the constructor that a throw calls, and what stands around it -/
def aThk (o : Nat) (cc : ByteArray) (pc t b idx : Nat) : Bool := match aThs[b]? with
  | some (o', x, _, ik, is, ic, ll) => decide (o' = o) && (decide (x = t) && (decide (ik = idx) && (decide (t < 6) && (decide (decode cc (pc + 3) = .ok (.dup, 1)) &&
      ((decide (ll = 2) && (decide (decode cc (pc + 4) = .ok (.ldc is, 2)) && (decide (decode cc (pc + 6) = .ok (.invokespecial ic, 3)) && decide (decode cc (pc + 9) = .ok (.athrow, 1))))) ||
       (decide (ll = 3) && (decide (decode cc (pc + 4) = .ok (.ldc_w is, 3)) && (decide (decode cc (pc + 7) = .ok (.invokespecial ic, 3)) && decide (decode cc (pc + 10) = .ok (.athrow, 1))))))))))
  | none => false
def aOk2 (y o : Nat) (cc : ByteArray) (pc : Nat) (ins : Instr) (t a b : Nat) (sw : List (Int × Nat)) : Bool := match ins with
  | .bipush m => decide ((Int8.ofInt m).toInt32 = iZ m)
  | .sipush m => decide ((Int16.ofInt m).toInt32 = iZ m)
  | .ldc2_w i => match sw with
    | (v, _) :: _ => decide ((o, i, v) ∈ aLcs)
    | [] => false
  | .ldc i => match sw with
    | (v, _) :: _ => decide (o = 3) && (decide ((aPts[v.toNat]?).map (·.1) = some i) && decide (0 ≤ v ∧ v < 9))
    | [] => false
  | .ifCond _ off => decide ((pc : Int) + off = (t : Int))
  | .if_icmp _ off => decide ((pc : Int) + off = (t : Int))
  | .goto off => decide ((pc : Int) + off = (t : Int))
  | .tableswitch d lo hi offs => decide ((pc : Int) + d = (t : Int)) && (decide (hi = lo + (offs.size : Int) - 1) && (decide (-2147483648 ≤ lo ∧ hi ≤ 2147483647) && aSwk pc lo offs.toList sw))
  | .getfield i => decide ((o, i, a, b) ∈ aPfs) && (match sw with
    | (v, _) :: _ => decide (v = (b : Int))
    | [] => false)
  | .putfield i => decide ((o, i, a, b) ∈ aPfs) && ((match sw with
    | (v, _) :: _ => decide (v = (b : Int))
    | [] => false) && (if (aFl a)[b]? = some 2 then (aTX a b).2.2.2 && (decide ((aMt y).1.name = "<init>") && decide ((aTX a b).1 = aRn o)) else !(aTX a b).2.2.2))
  | .new i => if a = 100 then aThk o cc pc t b i else decide ((o, i, a) ∈ aPcs)
  | .newarray ty => aIn (.arrayClass (newarray.typeOf ty))
  | .anewarray i => decide ((o, i, a) ∈ aPcs) && decide (a = 4 ∨ a = 5)
  | .invokevirtual i => decide ((o, i, a, b) ∈ aPms) && (decide (a = 0 ∨ a = 9 ∨ a = 10) && decide (a = 0 → (parseMethodDescriptor (aMt b).1.desc).map (fun d => d.parameters.length + 1) = some t))
  | .invokestatic i => decide ((o, i, a, b) ∈ aPms) && (decide (a = 1 ∨ a = 5 ∨ a = 6 ∨ a = 7 ∨ a = 8) && decide (a = 1 ∨ a = 5 → (parseMethodDescriptor (aMt b).1.desc).map (fun d => d.parameters.length) = some t))
  | .invokespecial i => decide ((o, i, a, b) ∈ aPms) && (decide (a = 2 ∨ a = 3 ∨ a = 4) && decide (a = 3 ∨ a = 4 → (parseMethodDescriptor (aMt b).1.desc).map (fun d => d.parameters.length + 1) = some t))
  | _ => true
def aOk (y o : Nat) (cc : ByteArray) (pc : Nat) (I : aI) : Bool := match I with
  | (ins, n, t, a, b, sw) => decide (decode cc pc = .ok (ins, n - pc)) && ((decide (aLn ins = 0) || decide (n = pc + aLn ins)) && aOk2 y o cc pc ins t a b sw)
theorem aOk_d {y o pc n t a b : Nat} {cc : ByteArray} {ins : Instr} {sw : List (Int × Nat)} (h : aOk y o cc pc (ins, n, t, a, b, sw) = true) (hl : aLn ins ≠ 0) : decode cc pc = .ok (ins, aLn ins) ∧ n = pc + aLn ins ∧ aOk2 y o cc pc ins t a b sw = true := by
  simp only [aOk, Bool.and_eq_true, Bool.or_eq_true, decide_eq_true_eq] at h
  obtain ⟨h1, h2, h3⟩ := h
  have hn : n = pc + aLn ins := h2.elim (fun q => absurd q hl) id
  refine ⟨?_, hn, h3⟩
  rw [h1, hn]
  congr 2
  omega
theorem aLv_t {s : aSt} (x : Int) (st : List aV) (h : ∀ v ∈ st, aLv s v) : ∀ v ∈ ((.inl x : aV) :: st), aLv s v := fun v hv => (List.mem_cons.mp hv).elim (fun q => by rw [q]; trivial) (h v)
theorem aLv_c {s : aSt} {w : aV} {st : List aV} (hw : aLv s w) (h : ∀ v ∈ st, aLv s v) : ∀ v ∈ (w :: st), aLv s v := fun v hv => (List.mem_cons.mp hv).elim (fun q => by rw [q]; exact hw) (h v)
theorem aLv_tl {s : aSt} {w : aV} {st : List aV} (h : ∀ v ∈ (w :: st), aLv s v) : ∀ v ∈ st, aLv s v := fun v hv => h v (List.mem_cons_of_mem _ hv)
theorem aLv_gt {s : aSt} {ls : List (Option aV)} {i : Nat} {v : aV} (h : ∀ v, some v ∈ ls → aLv s v) (hg : aGet ls i = some v) : aLv s v := h v (List.mem_of_getElem? (aGet_at ls i v hg))
theorem aLv_s1 {s : aSt} {ls l' : List (Option aV)} {i : Nat} {v : aV} (h : ∀ v, some v ∈ ls → aLv s v) (hv : aLv s v) (hg : aSet1 ls i v = some l') : ∀ v, some v ∈ l' → aLv s v := by
  intro w hw
  obtain ⟨j, hj⟩ := List.getElem?_of_mem hw
  rcases (aSet1_s ls i v l' hg).2.2 j w hj with ⟨-, rfl⟩ | ⟨-, q, -⟩
  · exact hv
  · exact h w (List.mem_of_getElem? q)
theorem aLv_s2 {s : aSt} {ls l' : List (Option aV)} {i : Nat} {v : aV} (h : ∀ v, some v ∈ ls → aLv s v) (hv : aLv s v) (hg : aSet2 ls i v = some l') : ∀ v, some v ∈ l' → aLv s v := by
  intro w hw
  obtain ⟨j, hj⟩ := List.getElem?_of_mem hw
  rcases (aSet2_s ls i v l' hg).2.2 j w hj with ⟨-, rfl⟩ | ⟨-, -, q, -⟩
  · exact hv
  · exact h w (List.mem_of_getElem? q)
