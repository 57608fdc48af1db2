/-! THE JVM KEEPS TO THE STEP: String.length and String.charAt on the texts of the run -/
def jLen : MethodName × ByteArray × Nat × Option FieldType := (⟨"java/lang/String", "length", "()I"⟩, prog_21_method_54_code, 1, (some .int))
def jCh : MethodName × ByteArray × Nat × Option FieldType := (⟨"java/lang/String", "charAt", "(I)C"⟩, prog_21_method_56_code, 2, (some .char))
def jCo : MethodName × ByteArray × Nat × Option FieldType := (⟨"java/lang/String", "coder", "()B"⟩, prog_21_method_152_code, 1, (some .byte))
def jLa : MethodName × ByteArray × Nat × Option FieldType := (⟨"java/lang/String", "isLatin1", "()Z"⟩, prog_21_method_154_code, 1, (some .boolean))
def jC1 : MethodName × ByteArray × Nat × Option FieldType := (⟨"java/lang/StringLatin1", "charAt", "([BI)C"⟩, prog_22_method_2_code, 2, (some .char))
def jCi : MethodName × ByteArray × Nat × Option FieldType := (⟨"java/lang/String", "checkIndex", "(II)V"⟩, prog_21_method_155_code, 2, none)
def jPc : MethodName × ByteArray × Nat × Option FieldType := (⟨"jdk/internal/util/Preconditions", "checkIndex", "(IILjava/util/function/BiFunction;)I"⟩, prog_30_method_11_code, 3, (some .int))
def jWs : List Cond := [.methodLink RX3 68 jLen.1, .methodLink RX3 73 jCh.1, .instanceMethod jLen.1, .selects "java/lang/String" jLen.1 jLen.1, .code jLen.1 jLen.2.1 jLen.2.2.1 jLen.2.2.2, .instanceMethod jCh.1, .selects "java/lang/String" jCh.1 jCh.1, .code jCh.1 jCh.2.1 jCh.2.2.1 jCh.2.2.2, .instanceMethod jCo.1, .selects "java/lang/String" jCo.1 jCo.1, .code jCo.1 jCo.2.1 jCo.2.2.1 jCo.2.2.2, .instanceMethod jLa.1, .selects "java/lang/String" jLa.1 jLa.1, .code jLa.1 jLa.2.1 jLa.2.2.1 jLa.2.2.2, .static jC1.1, .code jC1.1 jC1.2.1 jC1.2.2.1 jC1.2.2.2, .static jCi.1, .code jCi.1 jCi.2.1 jCi.2.2.1 jCi.2.2.2, .static jPc.1, .code jPc.1 jPc.2.1 jPc.2.2.1 jPc.2.2.2, .initialized "java/lang/String", .initialized "java/lang/StringLatin1", .initialized "jdk/internal/util/Preconditions", .methodLink "java/lang/String" 335 jCo.1, .methodLink "java/lang/String" 492 jLa.1, .methodLink "java/lang/String" 495 jC1.1, .methodLink "java/lang/StringLatin1" 9 jCi.1, .methodLink "java/lang/String" 1059 jPc.1, .fieldLink "java/lang/String" 9 "java/lang/String" "value" "[B", .fieldLink "java/lang/String" 38 "java/lang/String" "COMPACT_STRINGS" "Z", .fieldLink "java/lang/String" 15 "java/lang/String" "coder" "B", .fieldLink "java/lang/String" 1053 "jdk/internal/util/Preconditions" "SIOOBE_FORMATTER" "Ljava/util/function/BiFunction;"]
set_option maxRecDepth 100000 in
theorem jWs_at : jWs = [1117, 1127, 1118, 1119, 1120, 1128, 1129, 1130, 1122, 1123, 1124, 1132, 1133, 1134, 1136, 1137, 1139, 1140, 1144, 1145, 81, 84, 85, 1121, 1131, 1135, 1138, 1143, 1768, 1125, 1769, 1141].filterMap (fun i => lw_tbl[i]?) := rfl
theorem jWs_ok : jWs.all aWarm = true := by decide +kernel
theorem jW {g : aG} {s : State} (hK : aKN g s) (args : Array Value) (i : Nat) {w : Cond} (h : jWs[i]? = some w) : w.before args s = true := by
  have hm := List.mem_of_getElem? h
  have h2 := List.all_eq_true.mp jWs_ok w hm
  rw [jWs_at] at hm
  obtain ⟨k, -, hk⟩ := List.mem_filterMap.mp hm
  exact hK.w (List.mem_of_getElem? hk) h2 args
def jU (g : aG) : State → Prop := fun U => aKN g U ∧ aBase g ≤ U.heap.size ∧ ∀ q : Nat, q < aBase g → U.heap[q]? = g.2.2.2.1[q]?
theorem jU_blind {g : aG} {av : List Value} : FrameBlind (va_Pc av (jU g)) := fun _ U _ _ h => ⟨h.1, h.2.1.warm (s := U) (State.WarmedH.refl U), h.2.2⟩
def jM (l : Launch) (g : aG) (q : MethodName × ByteArray × Nat × Option FieldType) (d : Nat) (as : List Value) (r : Option Value) : Prop :=
  vx_Met l q.1 [.code q.1 q.2.1 q.2.2.1 q.2.2.2] { frames := d, cells := 0, slots := 0, locals := 100 * d } (va_Pc as (jU g)) (fun _ st o t => o = .returned r ∧ t.heap = st.heap) (fun _ _ _ => False) 0 0 (fun _ => False)
/-- a body's facts -/
abbrev jB (g : aG) (q : MethodName × ByteArray × Nat × Option FieldType) (d : Nat) (p : Program) (R : Room) (s : State) (m : MethodId) (meth : Method) (c : Code) : Prop :=
  p.tables.exec = Jvm.exec ∧ c.code = q.2.1 ∧ c.maxLocals = q.2.2.1 ∧ s.vm.findClass q.1.cls = some m.cls ∧ meth.locks = false ∧ meth.sig.returnType = q.2.2.2 ∧ jU g s ∧ d ≤ R.frames ∧ 100 * d ≤ R.locals ∧ va_S (aA g) s.heap s.heap []
theorem jOf {l : Launch} {g : aG} {q : MethodName × ByteArray × Nat × Option FieldType} {d : Nat} {as : List Value} {r : Option Value} (hy : plainName q.1.cls = true) (hn : (lg_sl as).length ≤ q.2.2.1)
    (body : ∀ p e R s m below meth c la, jB g q d p R s m meth c → lv_has la q.2.2.1 (lv_args 0 as) → W p l e R s m as.toArray below meth c s.heap [] 0 0 (vx_MQ below (fun _ st o t => o = .returned r ∧ t.heap = st.heap) (fun _ _ _ => False) as.toArray s 0 0 (fun _ => False)) (F0 m 0 la [])) : jM l g q d as r := by
  refine vx_ofW (cc := q.2.1) (maxL := q.2.2.1) (ret := q.2.2.2) hy rfl ?_
  intro p e s m args below meth c s₁ B hml hx hv
  obtain ⟨rfl, hU⟩ := hv
  rw [lg_entry_eq]
  exact body p e _ s m below meth c _ ⟨B.exec, B.bytes, hml, findClass_of_methodNamed B.named, B.notSynchronized, B.returns, hU, Nat.le_refl _, Nat.le_refl _, va_S.rf⟩ (lv_entry as hn)
section JCALL
variable {p : Program} {l : Launch} {e : Env} {R : Room} {s : State} {m : MethodId} {args : Array Value} {below : List Frame} {meth : Method} {c : Code} {H : Heap} {locs : List Loc} {u v : Nat} {Z : State → Prop} {g : aG}
theorem jAfter {pc : Nat} {la : Array Slot} {st0 rest : List Value} {r : Option Value} (hr : vx_Run p l e R s m args below meth c H locs u v 0 0 (F0 m pc la st0) rest (fun (st : State) (o : Outcome) (t : State) => o = .returned r ∧ t.heap = st.heap) (fun _ _ _ => False) (fun _ => False))
    (kk : W p l e R s m args below meth c H locs u v Z (F0 m (pc + 3) la (r.toList ++ rest))) : W p l e R s m args below meth c H locs u v Z (F0 m pc la st0) := by
  intro T hT X0
  rcases hr T hT X0 with ⟨w, st₀, t, T', L, h0, X', hL, e1, e2, hq, st⟩ | ⟨q, st₀, t, T', L, E, ce, h0, X', hL, e1, e2, hx, -⟩
  · obtain ⟨k1, k2⟩ := hq
    cases k1
    have hLn : L = [] := by
      rcases L with _ | ⟨q, L⟩
      · rfl
      · exact (hL q List.mem_cons_self).elim
    subst hLn
    rw [List.append_nil] at X'
    obtain ⟨t2, a1, b1⟩ := kk T' (by rw [e1, k2]; exact h0) X'
    exact ⟨t2, st t2 a1, b1⟩
  · exact hx.elim
theorem jCallV {q : MethodName × ByteArray × Nat × Option FieldType} {d n pc idx : Nat} {own : String} {la : Array Slot} {As rest : List Value} {r : Option Value} {b : Nat} (hM : jM l g q d (.ref b :: As) r)
    (hx : p.tables.exec = Jvm.exec) {cc : ByteArray} (hb : c.code = cc) (hown : s.vm.findClass own = some m.cls) (hla : la.size = c.maxLocals) (hU : aKN g s) (hH : aBase g ≤ H.size ∧ ∀ q : Nat, q < aBase g → H[q]? = g.2.2.2.1[q]?)
    (hw : ((Cond.methodLink own idx q.1).before args s = true ∧ (Cond.instanceMethod q.1).before args s = true) ∧ ((Cond.selects q.1.cls q.1 q.1).before args s = true ∧ (Cond.initialized q.1.cls).before args s = true) ∧ (Cond.code q.1 q.2.1 q.2.2.1 q.2.2.2).before args s = true)
    (hy : q.1.cls ≠ "java/lang/invoke/MethodHandle" ∧ q.1.cls ≠ "java/lang/invoke/VarHandle") (hn : (parseMethodDescriptor q.1.desc).map (fun d => d.parameters.length) = some n) (hn2 : As.length = n)
    (hrc : ∃ cell : Cell, H[b]? = some cell ∧ cell.vm.isStatics = false ∧ s.vm.findClass q.1.cls = some cell.cls) (hW : (rest.map fun v => v.category).sum ≤ 8) (hd : decode cc pc = .ok (.invokevirtual idx, 3))
    (hfr : d + 1 ≤ R.frames) (hlo : 8 + (q.2.2.1 + 11) + 100 * d ≤ R.locals) (huv : u ≤ R.cells ∧ v ≤ R.slots)
    (kk : W p l e R s m args below meth c H locs u v Z (F0 m (pc + 3) la (r.toList ++ rest))) : W p l e R s m args below meth c H locs u v Z (F0 m pc la (As.reverse ++ .ref b :: rest)) := by
  obtain ⟨⟨w1, w2⟩, ⟨w3, w4⟩, w5⟩ := hw
  have hgd : ∀ w ∈ [Cond.code q.1 q.2.1 q.2.2.1 q.2.2.2], ∀ (a' : Array Value) (U : State), s.WarmedH U.vm → w.before a' U = true := by
    intro w hw a' U hWm
    rw [List.mem_singleton.mp hw]
    exact word_at hWm (good_of_word rfl) w5
  exact jAfter (vx_runV (C := q.1.cls) (b := b) (As := As) (n := As.length) (index := idx) (own := own) (Ts := []) ⟨hx, hb, rfl, hown, fun _ h => by cases h⟩ hM
    ⟨⟨rfl, rfl, hfr, hlo, hgd, List.mem_singleton_self _, w5, w4, hy, fun sig hs => by rw [hs] at hn; exact hn2.trans (Option.some.inj hn).symm, w1⟩, w2, w3⟩
    ⟨jU_blind, hrc, fun U hU9 hWm => ⟨rfl, hU.warm hWm, by rw [hU9]; exact hH⟩⟩ rfl rfl hla rfl (lv_room hW) hd ⟨huv.1, huv.2⟩) kk
theorem jCallS {q : MethodName × ByteArray × Nat × Option FieldType} {d n pc idx : Nat} {own : String} {la : Array Slot} {As rest : List Value} {r : Option Value} (hM : jM l g q d As r)
    (hx : p.tables.exec = Jvm.exec) {cc : ByteArray} (hb : c.code = cc) (hown : s.vm.findClass own = some m.cls) (hla : la.size = c.maxLocals) (hU : aKN g s) (hH : aBase g ≤ H.size ∧ ∀ q : Nat, q < aBase g → H[q]? = g.2.2.2.1[q]?)
    (hw : ((Cond.methodLink own idx q.1).before args s = true ∧ (Cond.static q.1).before args s = true) ∧ (Cond.initialized q.1.cls).before args s = true ∧ (Cond.code q.1 q.2.1 q.2.2.1 q.2.2.2).before args s = true)
    (hy : q.1.cls ≠ "java/lang/invoke/MethodHandle" ∧ q.1.cls ≠ "java/lang/invoke/VarHandle") (hn : (parseMethodDescriptor q.1.desc).map (fun d => d.parameters.length) = some n) (hn2 : As.length = n)
    (hW : (rest.map fun v => v.category).sum ≤ 8) (hd : decode cc pc = .ok (.invokestatic idx, 3))
    (hfr : d + 1 ≤ R.frames) (hlo : 8 + (q.2.2.1 + 11) + 100 * d ≤ R.locals) (huv : u ≤ R.cells ∧ v ≤ R.slots)
    (kk : W p l e R s m args below meth c H locs u v Z (F0 m (pc + 3) la (r.toList ++ rest))) : W p l e R s m args below meth c H locs u v Z (F0 m pc la (As.reverse ++ rest)) := by
  obtain ⟨⟨w1, w2⟩, w4, w5⟩ := hw
  have hgd : ∀ w ∈ [Cond.code q.1 q.2.1 q.2.2.1 q.2.2.2], ∀ (a' : Array Value) (U : State), s.WarmedH U.vm → w.before a' U = true := by
    intro w hw a' U hWm
    rw [List.mem_singleton.mp hw]
    exact word_at hWm (good_of_word rfl) w5
  exact jAfter (vx_runS (As := As) (n := As.length) (index := idx) (own := own) (Ts := []) ⟨hx, hb, rfl, hown, fun _ h => by cases h⟩ hM
    ⟨⟨rfl, rfl, hfr, hlo, hgd, List.mem_singleton_self _, w5, w4, hy, fun sig hs => by rw [hs] at hn; exact hn2.trans (Option.some.inj hn).symm, w1⟩, w2⟩
    ⟨jU_blind, fun U hU9 hWm => ⟨rfl, hU.warm hWm, by rw [hU9]; exact hH⟩⟩ rfl rfl hla rfl (lv_room hW) hd ⟨huv.1, huv.2⟩) kk
end JCALL
abbrev jLs : List Nat := aPtc.map List.length
abbrev jBs : List (List Int32) := aPtc.map (fun t => t.map Int32.ofInt)
abbrev jSx (g : aG) (U : State) (H : Heap) (adV : Nat → Nat) : Prop := vk_S 9 jLs jBs g.2.2.1 adV (aA g) U H

theorem jCo_ct {l : Launch} {g : aG} {i : Nat} (hi : i < 9) : jM l g jCo 0 [.ref (g.2.2.1 i)] (some (.int 0)) := by
  refine jOf (by decide) (Nat.le_of_ble_eq_true rfl) ?_
  intro p e R s m below meth c la hB hl
  obtain ⟨hx, hb, hml, hown, hlk, hrt, ⟨hKN, hbs, hold⟩, hfr, hlo, hS⟩ := hB
  have hla : la.size = c.maxLocals := hl.1.trans hml.symm
  have hT0 := hKN.2.2.2.2.2.2.2.2.2.1.1
  have hT := hT0.kept (fun q h1 h2 => hold q h1)
  obtain ⟨hO, hCo, hVa, hAr⟩ := hT.1 i hi
  have hC := hKN.2.2.2.2.2.2.2.2.2.1.2.1.kept (fun q h1 h2 => hold q h1)
  refine va_gets hx hb hC hS hown (jW hKN _ 29 rfl) (fun _ h => h) (by decide +kernel) ?_
  refine lv_if_eq (off := 10) (tgt := 13) hx hb (by decide +kernel) (by decide) (fun q => absurd q (by decide)) (fun q => ?_)
  refine lv_aload_n (k := 0) (i := 0) hx hb (by decide +kernel) rfl (lv_at hl 0 rfl) ?_
  refine vk_getf hx hb hCo hS hown (jW hKN _ 30 rfl) (fun _ h => h) (by decide +kernel) ?_
  refine lv_goto (off := 4) (tgt := 14) hx hb (by decide +kernel) (by decide) ?_
  refine vx_ret ?_
  exact W.zret hx hb hrt rfl (fun t ht hW => ⟨rfl, ht⟩) (fun q h => by cases h) (by decide +kernel) hlk

theorem jLa_ct {l : Launch} {g : aG} {i : Nat} (hi : i < 9) : jM l g jLa 0 [.ref (g.2.2.1 i)] (some (.int 1)) := by
  refine jOf (by decide) (Nat.le_of_ble_eq_true rfl) ?_
  intro p e R s m below meth c la hB hl
  obtain ⟨hx, hb, hml, hown, hlk, hrt, ⟨hKN, hbs, hold⟩, hfr, hlo, hS⟩ := hB
  have hla : la.size = c.maxLocals := hl.1.trans hml.symm
  have hT0 := hKN.2.2.2.2.2.2.2.2.2.1.1
  have hT := hT0.kept (fun q h1 h2 => hold q h1)
  obtain ⟨hO, hCo, hVa, hAr⟩ := hT.1 i hi
  have hC := hKN.2.2.2.2.2.2.2.2.2.1.2.1.kept (fun q h1 h2 => hold q h1)
  refine va_gets hx hb hC hS hown (jW hKN _ 29 rfl) (fun _ h => h) (by decide +kernel) ?_
  refine lv_if_eq (off := 14) (tgt := 17) hx hb (by decide +kernel) (by decide) (fun q => absurd q (by decide)) (fun q => ?_)
  refine lv_aload_n (k := 0) (i := 0) hx hb (by decide +kernel) rfl (lv_at hl 0 rfl) ?_
  refine vk_getf hx hb hCo hS hown (jW hKN _ 30 rfl) (fun _ h => h) (by decide +kernel) ?_
  refine lv_if_ne (off := 7) (tgt := 17) hx hb (by decide +kernel) (by decide) (fun q => absurd rfl q) (fun q => ?_)
  refine lv_iconst hx hb (n := 1) (v := 1) (by decide +kernel) rfl ?_
  refine lv_goto (off := 4) (tgt := 18) hx hb (by decide +kernel) (by decide) ?_
  refine vx_ret ?_
  exact W.zret hx hb hrt rfl (fun t ht hW => ⟨rfl, ht⟩) (fun q h => by cases h) (by decide +kernel) hlk

theorem jLen_ct {l : Launch} {g : aG} {i : Nat} (hi : i < 9) : jM l g jLen 1 [.ref (g.2.2.1 i)] (some (.int (iZ (jLs.getD i 0 : Int)))) := by
  refine jOf (by decide) (Nat.le_of_ble_eq_true rfl) ?_
  intro p e R s m below meth c la hB hl
  obtain ⟨hx, hb, hml, hown, hlk, hrt, ⟨hKN, hbs, hold⟩, hfr, hlo, hS⟩ := hB
  have hla : la.size = c.maxLocals := hl.1.trans hml.symm
  have hT0 := hKN.2.2.2.2.2.2.2.2.2.1.1
  have hT := hT0.kept (fun q h1 h2 => hold q h1)
  obtain ⟨hO, hCo, hVa, hAr⟩ := hT.1 i hi
  refine lv_aload_n (k := 0) (i := 0) hx hb (by decide +kernel) rfl (lv_at hl 0 rfl) ?_
  refine vk_getf hx hb hVa hS hown (jW hKN _ 28 rfl) (fun _ h => h) (by decide +kernel) ?_
  refine va_tlen hx hb hAr hS (v := iZ (jLs.getD i 0 : Int)) ?_ (by decide +kernel) ?_
  · unfold iZ
    rfl
  refine lv_aload_n (k := 0) (i := 0) hx hb (by decide +kernel) rfl (lv_at hl 0 rfl) ?_
  refine jCallV (n := 0) (As := []) (own := "java/lang/String") (rest := [.int (iZ (jLs.getD i 0 : Int))]) (jCo_ct (l := l) (g := g) hi) hx hb hown hla hKN ⟨hbs, hold⟩ ⟨⟨jW hKN _ 23 rfl, jW hKN _ 8 rfl⟩, ⟨jW hKN _ 9 rfl, jW hKN _ 20 rfl⟩, jW hKN _ 10 rfl⟩ (by decide) (by decide +kernel) rfl (vk_recv hT hi hS) (Nat.le_of_ble_eq_true rfl) (by decide +kernel) hfr (Nat.le_trans (by decide) hlo) ⟨Nat.zero_le _, Nat.zero_le _⟩ ?_
  refine lv_ishr hx hb (x := iZ (jLs.getD i 0 : Int)) (y := 0) (by decide +kernel) ?_
  rw [show iZ (jLs.getD i 0 : Int) >>> ((0 : Int32) &&& 31) = iZ (jLs.getD i 0 : Int) from by
    have h0 : ∀ i : Nat, i < 9 → iZ (jLs.getD i 0 : Int) >>> ((0 : Int32) &&& 31) = iZ (jLs.getD i 0 : Int) := by decide +kernel
    exact h0 i hi]
  refine vx_ret ?_
  exact W.zret hx hb hrt rfl (fun t ht hW => ⟨rfl, ht⟩) (fun q h => by cases h) (by decide +kernel) hlk

theorem jPc_ct {l : Launch} {g : aG} {x n : Int} {v : Value} (hv : v = .null ∨ ∃ a, v = .ref a) (h0 : 0 ≤ x) (h1 : x < n) (h2 : n ≤ 2147483647) : jM l g jPc 0 [.int (iZ x), .int (iZ n), v] (some (.int (iZ x))) := by
  have hc2 : v.category = 1 := by rcases hv with rfl | ⟨a, rfl⟩ <;> rfl
  refine jOf (by decide) (by rcases hv with rfl | ⟨a, rfl⟩ <;> exact Nat.le_of_ble_eq_true rfl) ?_
  intro p e R s m below meth c la hB hl
  obtain ⟨hx, hb, hml, hown, hlk, hrt, ⟨hKN, hbs, hold⟩, hfr, hlo, hS⟩ := hB
  have hl : lv_has la 3 [(0, .int (iZ x)), (1, .int (iZ n)), (2, v)] := by
    rcases hv with rfl | ⟨a, rfl⟩ <;> exact hl
  refine lv_iload_n (k := 0) (i := 0) hx hb (by decide +kernel) rfl (lv_at hl 0 rfl) ?_
  refine lv_if_lt (off := 8) (tgt := 9) hx hb (by decide +kernel) (by decide) (fun q => ?_) (fun q => ?_)
  · exfalso
    rw [← iZ_0, iZ_lt ⟨by omega, by omega⟩ ⟨by omega, by omega⟩] at q
    omega
  refine lv_iload_n (k := 0) (i := 0) hx hb (by decide +kernel) rfl (lv_at hl 0 rfl) ?_
  refine lv_iload_n (k := 1) (i := 1) hx hb (by decide +kernel) rfl (lv_at hl 1 rfl) ?_
  refine lv_icmp_lt (off := 10) (tgt := 16) hx hb (by decide +kernel) (by decide) (fun q => ?_) (fun q => ?_)
  · refine lv_iload_n (k := 0) (i := 0) hx hb (by decide +kernel) rfl (lv_at hl 0 rfl) ?_
    refine vx_ret ?_
    exact W.zret hx hb hrt rfl (fun t ht hW => ⟨rfl, ht⟩) (fun q h => by cases h) (by decide +kernel) hlk
  · exact absurd ((iZ_lt ⟨by omega, by omega⟩ ⟨by omega, by omega⟩).mpr h1) q

theorem jCi_ct {l : Launch} {g : aG} {x n : Int} (h0 : 0 ≤ x) (h1 : x < n) (h2 : n ≤ 2147483647) : jM l g jCi 1 [.int (iZ x), .int (iZ n)] none := by
  refine jOf (by decide) (Nat.le_of_ble_eq_true rfl) ?_
  intro p e R s m below meth c la hB hl
  obtain ⟨hx, hb, hml, hown, hlk, hrt, ⟨hKN, hbs, hold⟩, hfr, hlo, hS⟩ := hB
  have hla : la.size = c.maxLocals := hl.1.trans hml.symm
  refine lv_iload_n (k := 0) (i := 0) hx hb (by decide +kernel) rfl (lv_at hl 0 rfl) ?_
  refine lv_iload_n (k := 1) (i := 1) hx hb (by decide +kernel) rfl (lv_at hl 1 rfl) ?_
  obtain ⟨v, hv, hZ⟩ : ∃ v : Value, (v = .null ∨ ∃ a, v = .ref a) ∧ va_Z "jdk/internal/util/Preconditions" "SIOOBE_FORMATTER" "Ljava/util/function/BiFunction;" v (aA g) s s.heap := by
    rcases hKN.2.2.2.2.2.2.2.2.2.1.2.2.kept (fun q h1 h2 => hold q h1) with h | ⟨a, h⟩
    · exact ⟨_, Or.inl rfl, h⟩
    · exact ⟨_, Or.inr ⟨a, rfl⟩, h⟩
  refine va_gets hx hb hZ hS hown (jW hKN _ 31 rfl) (fun _ h => h) (by decide +kernel) ?_
  refine jCallS (n := 3) (As := [.int (iZ x), .int (iZ n), v]) (own := "java/lang/String") (rest := []) (jPc_ct (l := l) (g := g) hv h0 h1 h2) hx hb hown hla hKN ⟨hbs, hold⟩ ⟨⟨jW hKN _ 27 rfl, jW hKN _ 18 rfl⟩, jW hKN _ 22 rfl, jW hKN _ 19 rfl⟩ (by decide) (by decide +kernel) rfl (Nat.le_of_ble_eq_true rfl) (by decide +kernel) hfr (Nat.le_trans (by decide) hlo) ⟨Nat.zero_le _, Nat.zero_le _⟩ ?_
  refine lv_pop hx hb (va := .int (iZ x)) (by decide +kernel) rfl ?_
  refine vx_ret ?_
  exact W.vret hx hb hrt (fun t ht hW => ⟨rfl, ht⟩) (fun q h => by cases h) (by decide +kernel) hlk

theorem jTx {i j : Nat} (hi : i < 9) (hj : j < jLs.getD i 0) : jLs.getD i 0 ≤ 2147483647 ∧ ((((jBs.getD i []).getD j 0 &&& 255).toUInt32 % 65536).toInt32 = iZ ((aPtc.getD i []).getD j 0) ∧ narrow .char (.int (iZ ((aPtc.getD i []).getD j 0))) = .int (iZ ((aPtc.getD i []).getD j 0))) := by
  have h0 : ∀ i : Nat, i < 9 → ∀ j : Nat, j < jLs.getD i 0 → jLs.getD i 0 ≤ 2147483647 ∧ ((((jBs.getD i []).getD j 0 &&& 255).toUInt32 % 65536).toInt32 = iZ ((aPtc.getD i []).getD j 0) ∧ narrow .char (.int (iZ ((aPtc.getD i []).getD j 0))) = .int (iZ ((aPtc.getD i []).getD j 0))) := by decide +kernel
  exact h0 i hi j hj
theorem jC1_ct {l : Launch} {g : aG} {i : Nat} {x : Int} (hi : i < 9) (h0 : 0 ≤ x) (h1 : x < (jLs.getD i 0 : Int)) {a : Nat} (ha : ∀ s, jU g s → va_T .byte a (jLs.getD i 0) (fun j => .int ((jBs.getD i []).getD j 0)) (aA g) s s.heap) : jM l g jC1 2 [.ref a, .int (iZ x)] (some (.int (iZ ((aPtc.getD i []).getD x.toNat 0)))) := by
  obtain ⟨t1, t2, t3⟩ := jTx (j := x.toNat) hi (by omega)
  refine jOf (by decide) (Nat.le_of_ble_eq_true rfl) ?_
  intro p e R s m below meth c la hB hl
  obtain ⟨hx, hb, hml, hown, hlk, hrt, ⟨hKN, hbs, hold⟩, hfr, hlo, hS⟩ := hB
  have hla : la.size = c.maxLocals := hl.1.trans hml.symm
  have hAr := ha s ⟨hKN, hbs, hold⟩
  refine lv_iload_n (k := 1) (i := 1) hx hb (by decide +kernel) rfl (lv_at hl 1 rfl) ?_
  refine lv_aload_n (k := 0) (i := 0) hx hb (by decide +kernel) rfl (lv_at hl 0 rfl) ?_
  refine va_tlen hx hb hAr hS (v := iZ (jLs.getD i 0 : Int)) ?_ (by decide +kernel) ?_
  · unfold iZ
    rfl
  refine jCallS (n := 2) (As := [.int (iZ x), .int (iZ (jLs.getD i 0 : Int))]) (own := "java/lang/StringLatin1") (rest := []) (jCi_ct (l := l) (g := g) h0 h1 (by omega)) hx hb hown hla hKN ⟨hbs, hold⟩ ⟨⟨jW hKN _ 26 rfl, jW hKN _ 16 rfl⟩, jW hKN _ 20 rfl, jW hKN _ 17 rfl⟩ (by decide) (by decide +kernel) rfl (Nat.le_of_ble_eq_true rfl) (by decide +kernel) hfr (Nat.le_trans (by decide) hlo) ⟨Nat.zero_le _, Nat.zero_le _⟩ ?_
  refine lv_aload_n (k := 0) (i := 0) hx hb (by decide +kernel) rfl (lv_at hl 0 rfl) ?_
  refine lv_iload_n (k := 1) (i := 1) hx hb (by decide +kernel) rfl (lv_at hl 1 rfl) ?_
  have hcl := iZ_cl (x := x) h0 (by omega)
  refine va_tb hx hb hAr hS (i := iZ x) (v := .int ((jBs.getD i []).getD x.toNat 0)) ?_ (by rw [hcl]) (by decide +kernel) ?_
  · intro q
    rcases q with q | q
    · rw [← iZ_0, iZ_lt ⟨by omega, by omega⟩ ⟨by omega, by omega⟩] at q
      omega
    · rw [hcl] at q
      omega
  refine lv_sipush hx hb (n := 255) (v := 255) (by decide +kernel) (by decide) ?_
  refine lv_iand hx hb (by decide +kernel) ?_
  refine lv_i2c hx hb (v := iZ ((aPtc.getD i []).getD x.toNat 0)) (by decide +kernel) t2 ?_
  refine vx_ret ?_
  exact W.zret hx hb hrt t3 (fun t ht hW => ⟨rfl, ht⟩) (fun q h => by cases h) (by decide +kernel) hlk

theorem jCh_ct {l : Launch} {g : aG} {i : Nat} {x : Int} (hi : i < 9) (h0 : 0 ≤ x) (h1 : x < (jLs.getD i 0 : Int)) : jM l g jCh 3 [.ref (g.2.2.1 i), .int (iZ x)] (some (.int (iZ ((aPtc.getD i []).getD x.toNat 0)))) := by
  obtain ⟨t1, t2, t3⟩ := jTx (j := x.toNat) hi (by omega)
  refine jOf (by decide) (Nat.le_of_ble_eq_true rfl) ?_
  intro p e R s m below meth c la hB hl
  obtain ⟨hx, hb, hml, hown, hlk, hrt, ⟨hKN, hbs, hold⟩, hfr, hlo, hS⟩ := hB
  have hla : la.size = c.maxLocals := hl.1.trans hml.symm
  have hT0 := hKN.2.2.2.2.2.2.2.2.2.1.1
  have hT := hT0.kept (fun q h1 h2 => hold q h1)
  obtain ⟨hO, hCo, hVa, hAr⟩ := hT.1 i hi
  refine lv_aload_n (k := 0) (i := 0) hx hb (by decide +kernel) rfl (lv_at hl 0 rfl) ?_
  refine jCallV (n := 0) (As := []) (own := "java/lang/String") (rest := []) (jLa_ct (l := l) (g := g) hi) hx hb hown hla hKN ⟨hbs, hold⟩ ⟨⟨jW hKN _ 24 rfl, jW hKN _ 11 rfl⟩, ⟨jW hKN _ 12 rfl, jW hKN _ 20 rfl⟩, jW hKN _ 13 rfl⟩ (by decide) (by decide +kernel) rfl (vk_recv hT hi hS) (Nat.le_of_ble_eq_true rfl) (by decide +kernel) (Nat.le_trans (by decide) hfr) (Nat.le_trans (by decide) hlo) ⟨Nat.zero_le _, Nat.zero_le _⟩ ?_
  refine lv_if_eq (off := 12) (tgt := 16) hx hb (by decide +kernel) (by decide) (fun q => absurd q (by decide)) (fun q => ?_)
  refine lv_aload_n (k := 0) (i := 0) hx hb (by decide +kernel) rfl (lv_at hl 0 rfl) ?_
  refine vk_getf hx hb hVa hS hown (jW hKN _ 28 rfl) (fun _ h => h) (by decide +kernel) ?_
  refine lv_iload_n (k := 1) (i := 1) hx hb (by decide +kernel) rfl (lv_at hl 1 rfl) ?_
  refine jCallS (n := 2) (As := [.ref (g.2.2.1 (100 + i)), .int (iZ x)]) (own := "java/lang/String") (rest := []) (jC1_ct (l := l) (g := g) hi h0 h1 (a := g.2.2.1 (100 + i)) (fun s2 h2 => ?_)) hx hb hown hla hKN ⟨hbs, hold⟩ ⟨⟨jW hKN _ 25 rfl, jW hKN _ 14 rfl⟩, jW hKN _ 21 rfl, jW hKN _ 15 rfl⟩ (by decide) (by decide +kernel) rfl (Nat.le_of_ble_eq_true rfl) (by decide +kernel) hfr (Nat.le_trans (by decide) hlo) ⟨Nat.zero_le _, Nat.zero_le _⟩ ?_
  · exact ((h2.1.2.2.2.2.2.2.2.2.2.1.1.kept (fun q h1 h3 => h2.2.2 q h1)).1 i hi).2.2.2
  refine vx_ret ?_
  exact W.zret hx hb hrt t3 (fun t ht hW => ⟨rfl, ht⟩) (fun q h => by cases h) (by decide +kernel) hlk

