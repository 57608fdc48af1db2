/-! THE JVM KEEPS TO THE STEP: any instruction, any walk, any method (printed by wip/whole/walks.py) -/
theorem stp_ok {l : Launch} {g : aG} {f : aFr} {y o : Nat} {Q : Option aV → aSt → aM → Prop} {X : Nat → aSt → aM → Prop} {p : Program} {e : Env} {R : Room} {s : State} {m : MethodId} {args : Array Value} {below : List Frame} {meth : Method} {c : Code} (hF : aFrm l g f y o p e R s m args below meth c) {pc n t a b : Nat} {sw : List (Int × Nat)} {ins : Instr} (hI : aOk y o (aMt y).2.1 pc (ins, n, t, a, b, sw) = true) {k : aK} {z : aM} {ls : List (Option aV)} {st : List aV} {K : aK → aM → Nat → List (Option aV) → List aV → Prop} (h : stp l g f Q X pc (ins, n, t, a, b, sw) k z ls st K) (hK : ∀ k z pc ls st, K k z pc ls st → aBs l g f Q X p e R s m args below meth c k z pc ls st) : aBs l g f Q X p e R s m args below meth c k z pc ls st := by
  cases ins with
  | iconst i9 => exact sk_iconst hF hI h hK
  | bipush i9 => exact sk_bipush hF hI h hK
  | sipush i9 => exact sk_sipush hF hI h hK
  | iadd => exact sk_iadd hF hI h hK
  | isub => exact sk_isub hF hI h hK
  | imul => exact sk_imul hF hI h hK
  | idiv => exact sk_idiv hF hI h hK
  | irem => exact sk_irem hF hI h hK
  | ishl => exact sk_ishl hF hI h hK
  | ishr => exact sk_ishr hF hI h hK
  | iand => exact sk_iand hF hI h hK
  | ior => exact sk_ior hF hI h hK
  | lmul => exact sk_lmul hF hI h hK
  | lsub => exact sk_lsub hF hI h hK
  | i2l => exact sk_i2l hF hI h hK
  | lcmp => exact sk_lcmp hF hI h hK
  | i2c => exact sk_i2c hF hI h hK
  | i2d => exact sk_i2d hF hI h hK
  | i2f => exact sk_i2f hF hI h hK
  | f2d => exact sk_f2d hF hI h hK
  | fdiv => exact sk_fdiv hF hI h hK
  | ddiv => exact sk_ddiv hF hI h hK
  | dcmp o9 => exact sk_dcmp hF hI h hK
  | fcmp o9 => exact sk_fcmp hF hI h hK
  | iload_n i9 => exact sk_iload_n hF hI h hK
  | iload i9 => exact sk_iload hF hI h hK
  | aload_n i9 => exact sk_aload_n hF hI h hK
  | aload i9 => exact sk_aload hF hI h hK
  | lload_n i9 => exact sk_lload_n hF hI h hK
  | lload i9 => exact sk_lload hF hI h hK
  | dload i9 => exact sk_dload hF hI h hK
  | fload i9 => exact sk_fload hF hI h hK
  | istore_n i9 => exact sk_istore_n hF hI h hK
  | istore i9 => exact sk_istore hF hI h hK
  | astore_n i9 => exact sk_astore_n hF hI h hK
  | astore i9 => exact sk_astore hF hI h hK
  | lstore i9 => exact sk_lstore hF hI h hK
  | dstore i9 => exact sk_dstore hF hI h hK
  | fstore i9 => exact sk_fstore hF hI h hK
  | goto f9 => exact sk_goto hF hI h hK
  | pop => exact sk_pop hF hI h hK
  | dup => exact sk_dup hF hI h hK
  | dup2 => exact sk_dup2 hF hI h hK
  | lconst i9 => exact sk_lconst hF hI h hK
  | fconst i9 => exact sk_fconst hF hI h hK
  | dconst i9 => exact sk_dconst hF hI h hK
  | iinc i9 c9 => exact sk_iinc hF hI h hK
  | ldc2_w i9 => exact sk_ldc2_w hF hI h hK
  | ldc i9 => exact sk_ldc hF hI h hK
  | getfield i8 => exact sk_getfield hF hI h hK
  | putfield i8 => exact sk_putfield hF hI h hK
  | iaload => exact sk_iaload hF hI h hK
  | caload => exact sk_caload hF hI h hK
  | laload => exact sk_laload hF hI h hK
  | daload => exact sk_daload hF hI h hK
  | iastore => exact sk_iastore hF hI h hK
  | castore => exact sk_castore hF hI h hK
  | lastore => exact sk_lastore hF hI h hK
  | dastore => exact sk_dastore hF hI h hK
  | aaload => exact sk_aaload hF hI h hK
  | arraylength => exact sk_arraylength hF hI h hK
  | aastore => exact sk_aastore hF hI h hK
  | tableswitch d8 lo8 hi8 offs8 => exact sk_tableswitch hF hI h hK
  | ireturn => exact sk_ireturn hF hI h hK
  | areturn => exact sk_areturn hF hI h hK
  | dreturn => exact sk_dreturn hF hI h hK
  | freturn => exact sk_freturn hF hI h hK
  | return_ => exact sk_return_ hF hI h hK
  | newarray ty8 => exact sk_newarray hF hI h hK
  | anewarray i8 => exact sk_anewarray hF hI h hK
  | ifCond cd f9 =>
    cases cd with
    | eq => exact sk_if_eq hF hI h hK
    | ne => exact sk_if_ne hF hI h hK
    | lt => exact sk_if_lt hF hI h hK
    | ge => exact sk_if_ge hF hI h hK
    | gt => exact sk_if_gt hF hI h hK
    | le => exact sk_if_le hF hI h hK
  | if_icmp cd f9 =>
    cases cd with
    | eq => exact sk_icmp_eq hF hI h hK
    | ne => exact sk_icmp_ne hF hI h hK
    | lt => exact sk_icmp_lt hF hI h hK
    | ge => exact sk_icmp_ge hF hI h hK
    | gt => exact sk_icmp_gt hF hI h hK
    | le => exact sk_icmp_le hF hI h hK
  | new i8 =>
    by_cases ha : a = 100
    · subst ha
      obtain ⟨hd, rfl, h2⟩ := aOk_d hI (by intro q; cases q)
      exact sk_newX hF hd h2 h
    · exact sk_newO hF ha hI h hK
  | invokevirtual i8 =>
    obtain ⟨hd, rfl, h2⟩ := aOk_d hI (by intro q; cases q)
    simp only [aOk2, Bool.and_eq_true, decide_eq_true_eq] at h2
    obtain ⟨hq, ha, ht⟩ := h2
    rcases ha with rfl | rfl | rfl
    · exact sk_inv hF hq (Or.inl ⟨rfl, rfl, ht rfl⟩) hd h hK
    · exact sk_slen hF hq hd h hK
    · exact sk_sat hF hq hd h hK
  | invokestatic i8 =>
    obtain ⟨hd, rfl, h2⟩ := aOk_d hI (by intro q; cases q)
    simp only [aOk2, Bool.and_eq_true, decide_eq_true_eq] at h2
    obtain ⟨hq, ha, ht⟩ := h2
    rcases ha with rfl | rfl | rfl | rfl | rfl
    · exact sk_inv hF hq (Or.inr (Or.inl ⟨Or.inl rfl, rfl, ht (Or.inl rfl)⟩)) hd h hK
    · exact sk_inv hF hq (Or.inr (Or.inl ⟨Or.inr rfl, rfl, ht (Or.inr rfl)⟩)) hd h hK
    · exact sk_max hF hq hd h hK
    · exact sk_min hF hq hd h hK
    · exact sk_acopy hF hq hd h hK
  | invokespecial i8 =>
    obtain ⟨hd, rfl, h2⟩ := aOk_d hI (by intro q; cases q)
    simp only [aOk2, Bool.and_eq_true, decide_eq_true_eq] at h2
    obtain ⟨hq, ha, ht⟩ := h2
    rcases ha with rfl | rfl | rfl
    · exact sk_oinit hF hq hd h hK
    · exact sk_inv hF hq (Or.inr (Or.inr ⟨Or.inl rfl, rfl, ht (Or.inl rfl)⟩)) hd h hK
    · exact sk_inv hF hq (Or.inr (Or.inr ⟨Or.inr rfl, rfl, ht (Or.inr rfl)⟩)) hd h hK
  | _ => exact False.elim h
theorem aFd_in : ∀ (T : aT) (pc : Nat) (I : aI), aFd T pc = some I → (pc, I) ∈ T
  | [], pc, I, h => by cases h
  | (k, x) :: T, pc, I, h => by
    have h0 : (match Nat.beq k pc with
      | true => some x
      | false => aFd T pc) = some I := h
    rcases hb : Nat.beq k pc with _ | _
    · rw [hb] at h0
      exact List.mem_cons_of_mem _ (aFd_in T pc I h0)
    · rw [hb] at h0
      cases h0
      rw [Nat.eq_of_beq_eq_true hb]
      exact List.mem_cons_self
theorem wp_ok {l : Launch} {g : aG} {f : aFr} {y o : Nat} {Q : Option aV → aSt → aM → Prop} {X : Nat → aSt → aM → Prop} {p : Program} {e : Env} {R : Room} {s : State} {m : MethodId} {args : Array Value} {below : List Frame} {meth : Method} {c : Code} (hF : aFrm l g f y o p e R s m args below meth c) {T : aT} (hT : T.all (fun q => aOk y o (aMt y).2.1 q.1 q.2) = true) {cs : List Nat} {B : aK → aM → Nat → List (Option aV) → List aV → Prop} (hB : ∀ k z pc ls st, B k z pc ls st → aBs l g f Q X p e R s m args below meth c k z pc ls st) : ∀ (n : Nat) (k : aK) (z : aM) (pc : Nat) (ls : List (Option aV)) (st : List aV), wp l g f Q X T cs B n k z pc ls st → aBs l g f Q X p e R s m args below meth c k z pc ls st
  | 0, k, z, pc, ls, st, h => hB _ _ _ _ _ h
  | n + 1, k, z, pc, ls, st, h => by
    have h0 : (match aFd T pc with
      | none => False
      | some I => stp l g f Q X pc I k z ls st (fun k' z' pc' ls' st' => match aHas cs pc' with
        | true => B k' z' pc' ls' st'
        | false => wp l g f Q X T cs B n k' z' pc' ls' st')) := h
    rcases hI : aFd T pc with _ | ⟨ins, n9, t9, a9, b9, sw9⟩
    · rw [hI] at h0
      exact h0.elim
    · rw [hI] at h0
      refine stp_ok hF (List.all_eq_true.mp hT _ (aFd_in T pc _ hI)) h0 (fun k' z' pc' ls' st' hk => ?_)
      rcases hc : aHas cs pc' with _ | _
      · rw [hc] at hk
        exact wp_ok hF hT hB n _ _ _ _ _ hk
      · rw [hc] at hk
        exact hB _ _ _ _ _ hk
/-- a method's table, and what stands around it -/
def aTk (y o : Nat) (T : aT) (nL rk : Nat) (hh : List (Nat × Nat × Nat × Nat)) : Prop :=
  T.all (fun q => aOk y o (aMt y).2.1 q.1 q.2) = true ∧ ((aMt y).1.cls = aRn o ∧ plainName (aRn o) = true) ∧ ((aMt y).2.2.1 = nL ∧ aRk (aMt y).2.2.2.1 = rk) ∧ (aMt y).2.2.2.2 = hh ∧ ((hh = [] ∨ o = 8) ∧ hh.all (fun q => Nat.blt (aCx q.2.2.2) 6) = true)
theorem aEn_nil : ∀ n : Nat, (aEn [] n).length = n ∧ ∀ (i : Nat) (v : aV), (aEn [] n)[i]? ≠ some (some v)
  | 0 => ⟨rfl, fun i v h => by cases h⟩
  | n + 1 => by
    obtain ⟨h1, h2⟩ := aEn_nil n
    refine ⟨by show (none :: aEn [] n).length = n + 1; rw [List.length_cons, h1], fun i v h => ?_⟩
    have h' : (none :: aEn [] n)[i]? = some (some v) := h
    cases i with
    | zero => cases h'
    | succ i => exact h2 i v h'
theorem aEn_s (g : aG) : ∀ (as : List aV) (n : Nat), (aEn as n).length = n ∧ ∀ (i : Nat) (v : aV), (aEn as n)[i]? = some (some v) → v ∈ as ∧ (lg_sl (as.map (aC g)))[i]? = some (.val (aC g v))
  | [], n => ⟨(aEn_nil n).1, fun i v h => absurd h ((aEn_nil n).2 i v)⟩
  | w :: as, 0 => ⟨rfl, fun i v h => by cases h⟩
  | w :: as, n + 1 => by
    have hc := aC_cat (g := g) w
    rcases hw : aW2 w with _ | _
    · have e1 : aEn (w :: as) (n + 1) = some w :: aEn as n := by
        cases n with
        | zero =>
          show aEn (w :: as) 1 = _
          simp only [aEn, hw]
        | succ n => simp only [aEn, hw]
      have e2 : lg_sl ((w :: as).map (aC g)) = .val (aC g w) :: lg_sl (as.map (aC g)) := by
        rw [hw] at hc
        have hc1 : ¬ (aC g w).category = 2 := by rw [hc]; decide
        simp [lg_sl, hc1]
      obtain ⟨h1, h2⟩ := aEn_s g as n
      rw [e1, e2]
      refine ⟨by rw [List.length_cons, h1], fun i v h => ?_⟩
      cases i with
      | zero => cases h; exact ⟨List.mem_cons_self, rfl⟩
      | succ i => exact ⟨List.mem_cons_of_mem _ (h2 i v h).1, (h2 i v h).2⟩
    · have e2 : lg_sl ((w :: as).map (aC g)) = .val (aC g w) :: .second :: lg_sl (as.map (aC g)) := by
        rw [hw] at hc
        have hc1 : (aC g w).category = 2 := hc
        simp [lg_sl, hc1]
      rw [e2]
      cases n with
      | zero =>
        have e1 : aEn (w :: as) 1 = [some w] := by
          simp only [aEn, hw]
        rw [e1]
        refine ⟨rfl, fun i v h => ?_⟩
        cases i with
        | zero => cases h; exact ⟨List.mem_cons_self, rfl⟩
        | succ i => cases h
      | succ n =>
        have e1 : aEn (w :: as) (n + 2) = some w :: none :: aEn as n := by
          simp only [aEn, hw]
        obtain ⟨h1, h2⟩ := aEn_s g as n
        rw [e1]
        refine ⟨by rw [List.length_cons, List.length_cons, h1], fun i v h => ?_⟩
        cases i with
        | zero => cases h; exact ⟨List.mem_cons_self, rfl⟩
        | succ i =>
          cases i with
          | zero => cases h
          | succ i => exact ⟨List.mem_cons_of_mem _ (h2 i v h).1, (h2 i v h).2⟩
def aSz : List aV → Nat
  | [] => 0
  | v :: vs => match aW2 v with
    | true => aSz vs + 2
    | false => aSz vs + 1
theorem aSz_s (g : aG) : ∀ as : List aV, (lg_sl (as.map (aC g))).length = aSz as
  | [] => rfl
  | w :: as => by
    have hc := aC_cat (g := g) w
    have ih := aSz_s g as
    have e0 : aSz (w :: as) = (match aW2 w with
      | true => aSz as + 2
      | false => aSz as + 1) := rfl
    rw [e0]
    rcases hw : aW2 w with _ | _
    · rw [hw] at hc
      have hc1 : ¬ (aC g w).category = 2 := by rw [hc]; decide
      have e2 : lg_sl ((w :: as).map (aC g)) = .val (aC g w) :: lg_sl (as.map (aC g)) := by simp [lg_sl, hc1]
      rw [e2, List.length_cons, ih]
    · rw [hw] at hc
      have hc1 : (aC g w).category = 2 := hc
      have e2 : lg_sl ((w :: as).map (aC g)) = .val (aC g w) :: .second :: lg_sl (as.map (aC g)) := by simp [lg_sl, hc1]
      rw [e2, List.length_cons, List.length_cons, ih]
theorem aEn_ls (g : aG) {as : List aV} {n : Nat} (h : aSz as ≤ n) : aLs g n (aEn as n) ((lg_sl (as.map (aC g)) ++ List.replicate (n - (lg_sl (as.map (aC g))).length) Slot.unset).toArray) := by
  obtain ⟨h1, h2, h3⟩ := lv_entry (as.map (aC g)) (n := n) (by rw [aSz_s]; exact h)
  refine ⟨h1, h2, fun i v hv => ?_⟩
  have h4 := ((aEn_s g as n).2 i v hv).2
  have hlt := (List.getElem?_eq_some_iff.mp h4).1
  simp only [List.getElem?_toArray]
  rw [List.getElem?_append_left hlt]
  exact h4
/-- A CONTRACT OUT OF A WALK -/
theorem aCt_of {l : Launch} {g : aG} {y o d mc ms : Nat} {s : aSt} {as : List aV} {z : aM} {Q : Option aV → aSt → aM → Prop} {X : Nat → aSt → aM → Prop} {T : aT} {nL rk : Nat} {hh : List (Nat × Nat × Nat × Nat)} (hT : aTk y o T nL rk hh) (hn : aSz as ≤ nL)
    (h : ∀ B : aK → aM → Nat → List (Option aV) → List aV → Prop, (∀ (cs : List Nat) (n : Nat) (k : aK) (z : aM) (pc : Nat) (ls : List (Option aV)) (st : List aV), wp l g (d, mc, ms, rk, hh) Q X T cs B n k z pc ls st → B k z pc ls st) → aFo (aEn as nL) (fun ls => B (s, 0, 0) z 0 ls [])) : aCt l g y d mc ms s as z Q X := by
  intro hlg hlv
  obtain ⟨hT1, ⟨hT2, hT3⟩, ⟨hT4, hT5⟩, hT6, hT7, hT8⟩ := hT
  have main : ∀ (p : Program) (e : Env) (R : Room) (st : State) (m : MethodId) (below : List Frame) (meth : Method) (c : Code), R = { frames := d, cells := mc, slots := ms, locals := 500 * d } → p.tables.exec = Jvm.exec → c.code = (aMt y).2.1 → c.maxLocals = (aMt y).2.2.1 → st.vm.findClass (aMt y).1.cls = some m.cls → meth.locks = false → meth.sig.returnType = (aMt y).2.2.2.1 → meth.name = (aMt y).1.name → c.exceptionTable.toList = tableOf hh → aU g s z st →
      W p l e R st m (as.map (aC g)).toArray below meth c st.heap [] 0 0 (vx_MQ below (aQ g Q) (aX g X) (as.map (aC g)).toArray st mc ms (aA g)) (entryFrame m (as.map (aC g)).toArray (aMt y).2.2.1) := by
    intro p e R st m below meth c hR hx hb hml hown hlk hrt hnm htb hU
    subst hR
    have hF : aFrm l g (d, mc, ms, rk, hh) y o p e { frames := d, cells := mc, slots := ms, locals := 500 * d } st m (as.map (aC g)).toArray below meth c :=
      ⟨⟨hx, hlg.1, hb, hml, by rw [← hT2]; exact hown, hlk, hrt⟩, ⟨hU.2, hU.1.2.2.2.1, hU.1.2.1⟩, ⟨htb, hnm, hT5, hT7, fun q hq => by
        have := List.all_eq_true.mp hT8 q hq
        exact Nat.blt_eq.mp this⟩, Nat.le_refl _, Nat.le_refl _, Nat.le_refl _, Nat.le_refl _, hlg.2⟩
    have hw := aFo_eq _ (h _ (fun cs n k z pc ls st hw => wp_ok hF hT1 (fun _ _ _ _ _ q => q) n k z pc ls st hw))
    rw [lg_entry_eq, hT4]
    obtain ⟨e1, e2⟩ := aEn_s g as nL
    refine hw (fun v hv => by cases hv) (fun v hv => ?_) ⟨Nat.zero_le _, Nat.zero_le _⟩ (by rw [e1, hml, hT4]) st.heap [] _ hU.1 va_S.rf (by rw [hml, hT4]; exact aEn_ls g hn)
    obtain ⟨i, hi⟩ := List.getElem?_of_mem hv
    exact hlv v (e2 i v hi).1
  rcases hh9 : (aMt y).2.2.2.2 with _ | ⟨q9, r9⟩
  · rw [aWd_c hh9]
    refine vx_ofW (cc := (aMt y).2.1) (maxL := (aMt y).2.2.1) (ret := (aMt y).2.2.2.1) (by rw [hT2]; exact hT3) rfl ?_
    intro p e st m args below meth c s₁ B hml hx9 hv
    obtain ⟨rfl, hU⟩ := hv
    refine main p e _ st m below meth c rfl B.exec B.bytes hml (findClass_of_methodNamed B.named) B.notSynchronized B.returns (name_of_methodNamed B.named B.method).1 ?_ hU
    rw [← hT6, hh9]
    rcases hl9 : c.exceptionTable.toList with _ | ⟨x, r⟩
    · rfl
    · exact (hx9 x (by rw [hl9]; exact List.mem_cons_self)).elim
  · rw [aWd_h hh9]
    refine vx_ofWH (cc := (aMt y).2.1) (maxL := (aMt y).2.2.1) (ret := (aMt y).2.2.2.1) (hh := (aMt y).2.2.2.2) (by rw [hT2]; exact hT3) rfl ?_
    intro p e st m args below meth c s₁ B hml hv
    obtain ⟨rfl, hU⟩ := hv
    refine main p e _ st m below meth c rfl B.exec B.bytes hml (findClass_of_methodNamed B.named) B.notSynchronized B.returns (name_of_methodNamed B.named B.method).1 ?_ hU
    have h9 := vx_table (x := (aMt y).1) B (atoms_spec (ws := [Cond.codeWith (aMt y).1 (aMt y).2.1 (aMt y).2.2.1 (aMt y).2.2.2.1 (aMt y).2.2.2.2]) B.pre _ List.mem_cons_self)
    rw [h9, hT6]

