/-! THE JVM KEEPS TO THE STEP: calls -/
theorem aKN.warm {g : aG} {s U : State} (hW : s.WarmedH U.vm) (h : aKN g s) : aKN g U := by
  obtain ⟨h1, h2, h3, h4, h5, h6, h7, h8, h9, ⟨t1, t2, t3⟩, scr, h10, h11, h12⟩ := h
  refine ⟨fun w hm ha => ?_, h2.moved hW.alike, h3.moved hW.alike, h4.moved hW.alike, fun q hq => ?_, fun k q hq => (h6 k q hq).warm hW, h7.moved hW.alike, h8.moved hW.alike, fun x y hx hy hne => (h9 x y hx hy hne).moved hW.alike, ⟨t1.moved hW.alike, t2.moved hW.alike, t3.moved hW.alike⟩, scr, h10, State.isArrayOf_alike hW.alike h11, h12⟩
  · have hb := h1 w hm ha
    by_cases hg : goodWord w = true
    · exact word_at hW (good_of_word hg) hb
    · unfold aWarm at ha
      rw [Bool.or_eq_true] at ha
      rcases ha with ha | ha
      · exact absurd ha hg
      · split at ha
        · exact va_Nw.warmC hW hb
        · exact va_Nw.warmD hW hb
        · exact va_Nw.warmM hW hb
        · cases ha
  · obtain ⟨a, ha⟩ := h5 q hq
    exact ⟨a, ha.warm hW⟩
theorem aU_blind {g : aG} {s : aSt} {z : aM} {av : List Value} : FrameBlind (va_Pc av (aU g s z)) := fun _ U _ _ h => ⟨h.1, h.2.1, h.2.2.warm (s := U) (State.WarmedH.refl U)⟩
theorem aPop_s : ∀ (n : Nat) (acc st : List aV) (c : List aV → List aV → Prop), aPop n acc st c → ∃ ws rest, st = ws ++ rest ∧ ws.length = n ∧ c (ws.reverse ++ acc) rest
  | 0, acc, st, c, h => ⟨[], st, rfl, rfl, h⟩
  | n + 1, acc, [], c, h => h.elim
  | n + 1, acc, v :: st, c, h => by
    obtain ⟨ws, rest, h1, h2, h3⟩ := aPop_s n (v :: acc) st c h
    refine ⟨v :: ws, rest, by rw [h1]; rfl, by simp [h2], ?_⟩
    simpa using h3
theorem aPu_s {r : Option aV} {rest : List aV} {c : List aV → Prop} (h : aPu r rest c) : c (r.toList ++ rest) := by
  cases r with
  | none => exact h
  | some v => exact h
theorem aHnd_s {pc x : Nat} {kk : Nat → Prop} {o : Prop} : ∀ hs : List (Nat × Nat × Nat × Nat), aHnd hs pc x kk o →
    (∃ pre a b h c suf, hs = pre ++ (a, b, h, c) :: suf ∧ (∀ q ∈ pre, ¬ ((q.1 ≤ pc ∧ pc < q.2.1) ∧ aCx q.2.2.2 = x)) ∧ ((a ≤ pc ∧ pc < b) ∧ aCx c = x) ∧ kk h) ∨ ((∀ q ∈ hs, ¬ ((q.1 ≤ pc ∧ pc < q.2.1) ∧ aCx q.2.2.2 = x)) ∧ o)
  | [], h => Or.inr ⟨fun q hq => (by cases hq), h⟩
  | (a, b, hp, c) :: r, h => by
    have h0 : (match Nat.ble a pc && (Nat.blt pc b && Nat.beq (aCx c) x) with
      | true => kk hp
      | false => aHnd r pc x kk o) := h
    rcases hq : (Nat.ble a pc && (Nat.blt pc b && Nat.beq (aCx c) x)) with _ | _
    · rw [hq] at h0
      have hn : ¬ ((a ≤ pc ∧ pc < b) ∧ aCx c = x) := by
        intro ⟨⟨q1, q2⟩, q3⟩
        have e1 : Nat.ble a pc = true := Nat.ble_eq.mpr q1
        have e2 : Nat.blt pc b = true := Nat.blt_eq.mpr q2
        have e3 : Nat.beq (aCx c) x = true := Nat.beq_eq.mpr q3
        rw [e1, e2, e3] at hq
        cases hq
      rcases aHnd_s r h0 with ⟨pre, a', b', h', c', suf, e1, e2, e3, e4⟩ | ⟨e1, e2⟩
      · exact Or.inl ⟨(a, b, hp, c) :: pre, a', b', h', c', suf, by rw [e1]; rfl, fun q hq => (List.mem_cons.mp hq).elim (fun e => by rw [e]; exact hn) (e2 q), e3, e4⟩
      · exact Or.inr ⟨fun q hq => (List.mem_cons.mp hq).elim (fun e => by rw [e]; exact hn) (e1 q), e2⟩
    · rw [hq] at h0
      simp only [Bool.and_eq_true] at hq
      exact Or.inl ⟨[], a, b, hp, c, r, rfl, fun q hq => (by cases hq), ⟨⟨Nat.ble_eq.mp hq.1, Nat.blt_eq.mp hq.2.1⟩, Nat.beq_eq.mp hq.2.2⟩, h0⟩
section AGO
variable {p : Program} {l : Launch} {e : Env} {R : Room} {s : State} {m : MethodId} {args : Array Value} {below : List Frame} {meth : Method} {c : Code} {H : Heap} {locs : List Loc} {u v : Nat} {Z : State → Prop} {g : aG}
/-- behind a call that may throw -/
theorem aGo {mc ms pc : Nat} {la : Array Slot} {st0 rest : List Value} {Q : Option aV → aSt → aM → Prop} {X : Nat → aSt → aM → Prop} {a : Array Value} (hr : vx_Run p l e R s m args below meth c H locs u v mc ms (F0 m pc la st0) rest (aQ g Q a) (aX g X) (aA g)) (hS : va_S (aA g) s.heap H locs)
    (hret : ∀ (r : Option aV) (s' : aSt) (z' : aM) (H1 : Heap) (locs1 : List Loc), (∀ v, r = some v → aLv s' v) → Q r s' z' → aRep g s' z' H1 → va_S (aA g) s.heap H1 locs1 → W p l e R s m args below meth c H1 locs1 (u + mc) (v + ms) Z (F0 m (pc + 3) la ((r.map (aC g)).toList ++ rest)))
    (hthr : ∀ (x : Nat) (s' : aSt) (z' : aM) (H1 : Heap) (locs1 : List Loc) (q : Addr) (ce : Cell), x < 6 → X x s' z' → aRep g s' z' H1 → va_S (aA g) s.heap H1 locs1 → H1[q]? = some ce → ce.vm = .none → s.vm.findClass (aEx.getD x "") = some ce.cls → vx_W p l e R s m args below meth c H1 locs1 (u + mc) (v + ms) Z (F0 m pc la rest) q) :
    W p l e R s m args below meth c H locs u v Z (F0 m pc la st0) := by
  intro T hT X0
  rcases hr T hT X0 with ⟨w, st₀, t, T', L, h0, X', hL, e1, e2, hq, st⟩ | ⟨q, st₀, t, T', L, E, ce, h0, X', hL, e1, e2, hx, hce, hcv, hcl, st⟩
  · obtain ⟨r, s', z', k1, k2, k3, k4, k5⟩ := hq
    cases k1
    obtain ⟨-, -, hS'⟩ := vx_keep h0 e1 hS (fun _ _ h => h) (fun _ h => h) hL k5
    obtain ⟨t2, a1, b1⟩ := hret r s' z' T'.heap (locs ++ L) k2 k3 (by rw [e1]; exact k4) hS' T' rfl X'
    exact ⟨t2, st t2 a1, b1⟩
  · obtain ⟨x, s', z', k1, k2, k3, k4, k5⟩ := hx
    subst k2
    obtain ⟨-, -, hS'⟩ := vx_keep h0 e1 hS (fun _ _ h => h) (fun _ h => h) hL k5
    obtain ⟨t2, a1, b1⟩ := hthr x s' z' T'.heap (locs ++ L) q ce k1 k3 (by rw [e1]; exact k4) hS' (by rw [e1]; exact hce) hcv hcl T' rfl X'
    exact ⟨t2, st.trans a1, b1⟩
end AGO
theorem aPms_cl_at {q : Nat × Nat × Nat × Nat} (h : q ∈ aPms) : (q.2.2.1 = 0 → aRn (aMc q.2.2.2) = (aMt q.2.2.2).1.cls ∧ aMc q.2.2.2 < 8) ∧ (q.2.2.1 = 0 ∨ q.2.2.1 = 3 ∨ q.2.2.1 = 4 ∨ q.2.2.1 = 5 → (aMt q.2.2.2).2.2.2.2 = []) := by
  have h1 := List.all_eq_true.mp aPms_cl q h
  simp only [Bool.and_eq_true, decide_eq_true_eq] at h1
  exact h1
theorem aCxW {c : Nat} (h : aCx c < 6) : c ≠ 0 ∧ Cond.classLink RL c (aEx.getD (aCx c) "") ∈ lw_tbl ∧ aWarm (Cond.classLink RL c (aEx.getD (aCx c) "")) = true := by
  have hm : c ∈ [13, 15, 25, 69, 124, 144] := by
    unfold aCx at h
    split at h
    · simp
    · simp
    · simp
    · simp
    · simp
    · simp
    · exact absurd h (by decide)
  refine ⟨fun q => by subst q; simp at hm, ?_, rfl⟩
  have key : ∀ w ∈ [Cond.classLink RL 13 (aEx.getD 0 ""), Cond.classLink RL 15 (aEx.getD 1 ""), Cond.classLink RL 25 (aEx.getD 2 ""), Cond.classLink RL 69 (aEx.getD 3 ""), Cond.classLink RL 124 (aEx.getD 4 ""), Cond.classLink RL 144 (aEx.getD 5 "")], w ∈ lw_tbl := by
    intro w hw
    rw [show [Cond.classLink RL 13 (aEx.getD 0 ""), Cond.classLink RL 15 (aEx.getD 1 ""), Cond.classLink RL 25 (aEx.getD 2 ""), Cond.classLink RL 69 (aEx.getD 3 ""), Cond.classLink RL 124 (aEx.getD 4 ""), Cond.classLink RL 144 (aEx.getD 5 "")] = _ from aCx_at] at hw
    obtain ⟨i, -, hi⟩ := List.mem_filterMap.mp hw
    exact List.mem_of_getElem? hi
  simp only [List.mem_cons, List.not_mem_nil, or_false] at hm
  rcases hm with rfl | rfl | rfl | rfl | rfl | rfl
  · exact key _ (List.mem_of_getElem? (i := 0) rfl)
  · exact key _ (List.mem_of_getElem? (i := 1) rfl)
  · exact key _ (List.mem_of_getElem? (i := 2) rfl)
  · exact key _ (List.mem_of_getElem? (i := 3) rfl)
  · exact key _ (List.mem_of_getElem? (i := 4) rfl)
  · exact key _ (List.mem_of_getElem? (i := 5) rfl)
theorem aCstW {x : Nat} (h : x < 6) : Cond.castable (aEx.getD x "") (aEx.getD x "") ∈ lw_tbl ∧ aWarm (Cond.castable (aEx.getD x "") (aEx.getD x "")) = true := by
  refine ⟨?_, rfl⟩
  have hw : Cond.castable (aEx.getD x "") (aEx.getD x "") ∈ aEx.map (fun e => Cond.castable e e) := by
    refine List.mem_map.mpr ⟨aEx.getD x "", ?_, rfl⟩
    rw [List.getD_eq_getElem?_getD, List.getElem?_eq_getElem (show x < aEx.length from h)]
    exact List.getElem_mem _
  rw [aCst_at] at hw
  obtain ⟨i, -, hi⟩ := List.mem_filterMap.mp hw
  exact List.mem_of_getElem? hi
theorem aWd_c {y : Nat} (h : (aMt y).2.2.2.2 = []) : aWd y = .code (aMt y).1 (aMt y).2.1 (aMt y).2.2.1 (aMt y).2.2.2.1 := by
  unfold aWd
  rw [h]
theorem aWd_h {y : Nat} {q : Nat × Nat × Nat × Nat} {r : List (Nat × Nat × Nat × Nat)} (h : (aMt y).2.2.2.2 = q :: r) : aWd y = .codeWith (aMt y).1 (aMt y).2.1 (aMt y).2.2.1 (aMt y).2.2.2.1 (aMt y).2.2.2.2 := by
  unfold aWd
  rw [h]
theorem aWd_g {s : State} {y : Nat} {args : Array Value} (h : (aWd y).before args s = true) : ∀ w ∈ [aWd y], ∀ (a' : Array Value) (U : State), s.WarmedH U.vm → w.before a' U = true := by
  intro w hw a' U hW
  rw [List.mem_singleton] at hw
  subst hw
  refine word_at hW (good_of_word ?_) h
  unfold aWd
  split <;> rfl
section ARUN
variable {p : Program} {l : Launch} {e : Env} {R : Room} {s : State} {m : MethodId} {args : Array Value} {below : List Frame} {meth : Method} {c : Code} {H : Heap} {locs : List Loc} {u v : Nat} {g : aG}
/-- a call of a method that keeps its contract -/
theorem aRun {cc : ByteArray} {o i8 kd y t d mc ms pc : Nat} {la : Array Slot} {rest : List Value} {Q : Option aV → aSt → aM → Prop} {X : Nat → aSt → aM → Prop} {sta : aSt} {z : aM} {as : List aV} {ins : Instr}
    (hx : p.tables.exec = Jvm.exec) (hb : c.code = cc) (hown : s.vm.findClass (aRn o) = some m.cls) (hKN : aKN g s) (hla : la.size = c.maxLocals) (hq : (o, i8, kd, y) ∈ aPms)
    (hi : (kd = 0 ∧ ins = .invokevirtual i8 ∧ (parseMethodDescriptor (aMt y).1.desc).map (fun d => d.parameters.length + 1) = some t) ∨ ((kd = 1 ∨ kd = 5) ∧ ins = .invokestatic i8 ∧ (parseMethodDescriptor (aMt y).1.desc).map (fun d => d.parameters.length) = some t) ∨ ((kd = 3 ∨ kd = 4) ∧ ins = .invokespecial i8 ∧ (parseMethodDescriptor (aMt y).1.desc).map (fun d => d.parameters.length + 1) = some t))
    (hlen : as.length = t) (hrc : aRcv kd y as = true) (hd : decode cc pc = .ok (ins, 3)) (hlg : l.stackTraces = false ∧ g.2.2.2.2.2 < 2 ^ 31) (hct : aCt l g y d mc ms sta as z Q X) (hlv : ∀ v ∈ as, aLv sta v) (hR : aRep g sta z H) (hW : (rest.map fun v => v.category).sum ≤ 8) (hfr : d + 1 ≤ R.frames) (hlo : 500 * (d + 1) ≤ R.locals) (hcl : u + mc ≤ R.cells) (hsl : v + ms ≤ R.slots) :
    ∃ a, vx_Run p l e R s m args below meth c H locs u v mc ms (F0 m pc la ((as.map (aC g)).reverse ++ rest)) rest (aQ g Q a) (aX g X) (aA g) := by
  have hM := hct hlg hlv
  have hpm := aPms_in _ hq
  have hpc := aPms_cl_at hq
  have hw : ∀ w ∈ aPmW (o, i8, kd, y), w.before args s = true := fun w hw => aPm_w hq hw hKN args
  have hT := hpm.2
  have hWr : 2 * (F0 m pc la ((as.map (aC g)).reverse ++ rest)).monitorRoom + (rest.map fun v => v.category).sum ≤ 8 := lv_room hW
  have hPc : ∀ av : List Value, av = as.map (aC g) → ∀ U : State, U.heap = H → s.WarmedH U.vm → va_Pc (as.map (aC g)) (aU g sta z) av.toArray U := by
    intro av hav U hU hWm
    exact ⟨by rw [hav], by show aRep g sta z U.heap; rw [hU]; exact hR, hKN.warm hWm⟩
  have hS0 : CallFix p m c cc c.maxLocals s args [] (aRn o) := ⟨hx, hb, rfl, hown, fun _ h => by cases h⟩
  rcases hi with ⟨rfl, rfl, hsig⟩ | ⟨hk, rfl, hsig⟩ | ⟨hk, rfl, hsig⟩
  · have hh := hpc.2 (Or.inl rfl)
    have hlk : (Cond.methodLink (aRn o) i8 (aMt y).1).before args s = true := hw _ (List.mem_of_getElem? (i := 0) rfl)
    have hin : (Cond.instanceMethod (aMt y).1).before args s = true := hw _ (List.mem_of_getElem? (i := 1) rfl)
    have hse : (Cond.selects (aMt y).1.cls (aMt y).1 (aMt y).1).before args s = true := hw _ (List.mem_of_getElem? (i := 2) rfl)
    have hni : (Cond.initialized (aMt y).1.cls).before args s = true := hw _ (List.mem_of_getElem? (i := 3) rfl)
    have hwd : (aWd y).before args s = true := hw _ (List.mem_of_getElem? (i := 4) rfl)
    simp only [aPmT, Bool.and_eq_true, decide_eq_true_eq] at hT
    obtain ⟨⟨⟨⟨⟨n1, n2⟩, n3⟩, n4⟩, -⟩, -⟩ := hT
    have hwdg := aWd_g hwd
    rw [aWd_c hh] at hwd hwdg hM
    have hlen2 : ∀ sig, parseMethodDescriptor (aMt y).1.desc = some sig → as.length - 1 = sig.parameters.length := fun sig hs => by
      rw [hs] at hsig
      have : sig.parameters.length + 1 = t := Option.some.inj hsig
      omega
    have hex : ∃ q1 as', as = .inr (.inr (.inl q1)) :: as' ∧ aSh q1 = .inl (aMc y) := by
      match as, hrc with
      | .inr (.inr (.inl q1)) :: as', hrc =>
        have hrc' : (match aSh q1 with
          | .inl ci => Nat.beq ci (aMc y)
          | .inr _ => false) = true := hrc
        rcases hsh : aSh q1 with ci | sh
        · rw [hsh] at hrc'
          exact ⟨q1, as', rfl, by rw [hsh, Nat.eq_of_beq_eq_true hrc']⟩
        · rw [hsh] at hrc'; cases hrc'
      | [], hrc => cases hrc
      | .inl _ :: _, hrc => cases hrc
      | .inr (.inl _) :: _, hrc => cases hrc
      | .inr (.inr (.inr _)) :: _, hrc => cases hrc
    obtain ⟨q1, as', rfl, hsh⟩ := hex
    obtain ⟨hp, hc⟩ := aLp_in (hlv (.inr (.inr (.inl q1))) List.mem_cons_self) (by rw [hsh]; intro q; cases q)
    have hat := aWs_at (g := g) (z := z) hp hc
    rw [aCe_o hsh] at hat
    obtain ⟨hcn, hc8⟩ := hpc.1 rfl
    have hrv := va_recv hKN.2.1 hR.1 (ci := aMc y) (q0 := aOff q1) (aCl_at _ hc8) hat
    have hrv : ∃ cellB : Cell, H[aAd g q1]? = some cellB ∧ cellB.vm.isStatics = false ∧ s.vm.findClass (aRn (aMc y)) = some cellB.cls := hrv
    rw [hcn] at hrv
    exact ⟨_, vx_runV (C := (aMt y).1.cls) (b := aAd g q1) (As := as'.map (aC g)) (n := as'.length) (index := i8) hS0 hM ⟨⟨rfl, rfl, hfr, by show 8 + ((aMt y).2.2.1 + 11) + 500 * d ≤ R.locals; omega, hwdg, List.mem_singleton_self _, hwd, hni, ⟨n1, n2⟩, fun sig hs => by have := hlen2 sig hs; simpa using this, hlk⟩, hin, hse⟩ ⟨aU_blind, hrv, fun U hU hWm => hPc _ rfl U hU hWm⟩ rfl (by simp) hla (by simp [aC]) hWr hd ⟨hcl, hsl⟩⟩
  · have hlen2 : ∀ sig, parseMethodDescriptor (aMt y).1.desc = some sig → as.length = sig.parameters.length := fun sig hs => by
      rw [hs] at hsig
      have : sig.parameters.length = t := Option.some.inj hsig
      omega
    rcases hk with rfl | rfl
    · have hlk : (Cond.methodLink (aRn o) i8 (aMt y).1).before args s = true := hw _ (List.mem_of_getElem? (i := 0) rfl)
      have hst : (Cond.static (aMt y).1).before args s = true := hw _ (List.mem_of_getElem? (i := 1) rfl)
      have hni : (Cond.initialized (aMt y).1.cls).before args s = true := hw _ (List.mem_of_getElem? (i := 2) rfl)
      have hwd : (aWd y).before args s = true := hw _ (List.mem_of_getElem? (i := 3) rfl)
      simp only [aPmT, Bool.and_eq_true, decide_eq_true_eq] at hT
      obtain ⟨⟨⟨⟨⟨n1, n2⟩, n3⟩, n4⟩, -⟩, -⟩ := hT
      have hwdg := aWd_g hwd
      rcases hh : (aMt y).2.2.2.2 with _ | ⟨q9, r9⟩
      · rw [aWd_c hh] at hwd hwdg hM
        exact ⟨_, vx_runS (As := as.map (aC g)) (n := as.length) (index := i8) hS0 hM ⟨⟨rfl, rfl, hfr, by show 8 + ((aMt y).2.2.1 + 11) + 500 * d ≤ R.locals; omega, hwdg, List.mem_singleton_self _, hwd, hni, ⟨n1, n2⟩, hlen2, hlk⟩, hst⟩ ⟨aU_blind, fun U hU hWm => hPc _ rfl U hU hWm⟩ rfl (by simp) hla rfl hWr hd ⟨hcl, hsl⟩⟩
      · rw [aWd_h hh] at hwd hwdg hM
        exact ⟨_, vx_runSX (As := as.map (aC g)) (n := as.length) (index := i8) hS0 hM ⟨⟨rfl, rfl, hfr, by show 8 + ((aMt y).2.2.1 + 11) + 500 * d ≤ R.locals; omega, hwdg, List.mem_singleton_self _⟩, hwd, hni, ⟨n1, n2⟩, hlen2, hlk, hst⟩ ⟨aU_blind, fun U hU hWm => hPc _ rfl U hU hWm⟩ rfl (by simp) hla rfl hWr hd ⟨hcl, hsl⟩⟩
    · have hh := hpc.2 (by simp)
      have hlk : (Cond.methodLinkNest (aRn o) i8 (aMt y).1 "SheepdogTrial").before args s = true := hw _ (List.mem_of_getElem? (i := 0) rfl)
      have hst : (Cond.static (aMt y).1).before args s = true := hw _ (List.mem_of_getElem? (i := 1) rfl)
      have hni : (Cond.initialized (aMt y).1.cls).before args s = true := hw _ (List.mem_of_getElem? (i := 2) rfl)
      have hwd : (aWd y).before args s = true := hw _ (List.mem_of_getElem? (i := 3) rfl)
      simp only [aPmT, Bool.and_eq_true, decide_eq_true_eq] at hT
      obtain ⟨⟨⟨⟨⟨n1, n2⟩, n3⟩, n4⟩, -⟩, -⟩ := hT
      have hwdg := aWd_g hwd
      rw [aWd_c hh] at hwd hwdg hM
      exact ⟨_, vx_runSN (As := as.map (aC g)) (n := as.length) (index := i8) hS0 hM ⟨⟨⟨rfl, rfl, hfr, by show 8 + ((aMt y).2.2.1 + 11) + 500 * d ≤ R.locals; omega, hwdg, List.mem_singleton_self _⟩, hwd, hni, ⟨n1, n2⟩, hlen2, hlk⟩, hst, trivial⟩ ⟨aU_blind, fun U hU hWm => hPc _ rfl U hU hWm⟩ rfl (by simp) hla rfl hWr hd ⟨hcl, hsl⟩⟩
  · have hh := hpc.2 (by rcases hk with rfl | rfl <;> simp)
    have hlen2 : ∀ sig, parseMethodDescriptor (aMt y).1.desc = some sig → as.length - 1 = sig.parameters.length := fun sig hs => by
      rw [hs] at hsig
      have : sig.parameters.length + 1 = t := Option.some.inj hsig
      omega
    have hex : ∃ q1 as', as = .inr (.inr (.inl q1)) :: as' := by
      rcases hk with rfl | rfl
      · match as, hrc with
        | .inr (.inr (.inl q1)) :: as', _ => exact ⟨q1, as', rfl⟩
        | [], hrc => cases hrc
        | .inl _ :: _, hrc => cases hrc
        | .inr (.inl _) :: _, hrc => cases hrc
        | .inr (.inr (.inr _)) :: _, hrc => cases hrc
      · match as, hrc with
        | .inr (.inr (.inl q1)) :: as', _ => exact ⟨q1, as', rfl⟩
        | [], hrc => cases hrc
        | .inl _ :: _, hrc => cases hrc
        | .inr (.inl _) :: _, hrc => cases hrc
        | .inr (.inr (.inr _)) :: _, hrc => cases hrc
    obtain ⟨q1, as', rfl⟩ := hex
    rcases hk with rfl | rfl
    · have hlk : (Cond.methodLink (aRn o) i8 (aMt y).1).before args s = true := hw _ (List.mem_of_getElem? (i := 0) rfl)
      have hin : (Cond.instanceMethod (aMt y).1).before args s = true := hw _ (List.mem_of_getElem? (i := 1) rfl)
      have hni : (Cond.initialized (aMt y).1.cls).before args s = true := hw _ (List.mem_of_getElem? (i := 2) rfl)
      have hwd : (aWd y).before args s = true := hw _ (List.mem_of_getElem? (i := 3) rfl)
      simp only [aPmT, Bool.and_eq_true, decide_eq_true_eq] at hT
      obtain ⟨⟨⟨⟨⟨n1, n2⟩, n3⟩, n4⟩, -⟩, hny⟩ := hT
      obtain ⟨hy1, hy2⟩ := hny (by simp)
      have hwdg := aWd_g hwd
      rw [aWd_c hh, hy2] at hwd hwdg hM
      exact ⟨_, vx_runI (b := aAd g q1) (As := as'.map (aC g)) (n := as'.length) (index := i8) hS0 hM ⟨⟨rfl, rfl, hfr, by show 8 + ((aMt y).2.2.1 + 11) + 500 * d ≤ R.locals; omega, hwdg, List.mem_singleton_self _, hwd, hni, ⟨n1, n2⟩, fun sig hs => by have := hlen2 sig hs; simpa using this, hlk⟩, hy1, hin⟩ ⟨aU_blind, fun U hU hWm => hPc _ rfl U hU hWm⟩ rfl (by simp) hla (by simp [aC]) hWr hd ⟨hcl, hsl⟩⟩
    · have hlk : (Cond.methodLinkNest (aRn o) i8 (aMt y).1 "SheepdogTrial").before args s = true := hw _ (List.mem_of_getElem? (i := 0) rfl)
      have hin : (Cond.instanceMethod (aMt y).1).before args s = true := hw _ (List.mem_of_getElem? (i := 1) rfl)
      have hni : (Cond.initialized (aMt y).1.cls).before args s = true := hw _ (List.mem_of_getElem? (i := 2) rfl)
      have hwd : (aWd y).before args s = true := hw _ (List.mem_of_getElem? (i := 3) rfl)
      simp only [aPmT, Bool.and_eq_true, decide_eq_true_eq] at hT
      obtain ⟨⟨⟨⟨⟨n1, n2⟩, n3⟩, n4⟩, -⟩, hny⟩ := hT
      obtain ⟨hy1, hy2⟩ := hny (by simp)
      have hwdg := aWd_g hwd
      rw [aWd_c hh, hy2] at hwd hwdg hM
      exact ⟨_, vx_runIN (b := aAd g q1) (As := as'.map (aC g)) (n := as'.length) (index := i8) hS0 hM ⟨⟨⟨rfl, rfl, hfr, by show 8 + ((aMt y).2.2.1 + 11) + 500 * d ≤ R.locals; omega, hwdg, List.mem_singleton_self _⟩, hwd, hni, ⟨n1, n2⟩, fun sig hs => by have := hlen2 sig hs; simpa using this, hlk⟩, hy1, hin⟩ ⟨aU_blind, fun U hU hWm => hPc _ rfl U hU hWm⟩ rfl (by simp) hla (by simp [aC]) hWr hd ⟨hcl, hsl⟩⟩
end ARUN
