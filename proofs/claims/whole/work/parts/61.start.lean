/-! THE LAW'S ENTRY: what the Statement gives of the start (printed by wip/whole/start.py) -/
def nwF : List Cond := flatC (Jvm.Cond.and given_1 narrow_1)
def bT (i : Nat) : Term := .string RX3 (aPts.getD i (0, "")).1
def bL : List Nat := aPtc.map List.length
def bB : List (List Int32) := aPtc.map (fun t => t.map Int32.ofInt)
def bSw (i : Nat) : List Cond := .exactly (bT i) "java/lang/String" :: .eq (.field (bT i) "java/lang/String" "coder" "B") (.int 0) :: .arrayOf (.field (bT i) "java/lang/String" "value" "[B") .byte :: .eq (.length (.field (bT i) "java/lang/String" "value" "[B")) (.int (Int32.ofNat (bL.getD i 0))) :: (List.range (bL.getD i 0)).map (fun j => .eq (.elem (.field (bT i) "java/lang/String" "value" "[B") (.int (Int32.ofNat j))) (.int ((bB.getD i []).getD j 0)))
set_option maxRecDepth 100000 in
theorem bS_at : (List.range 9).flatMap bSw = (nwF.drop 479).take 108 := by decide +kernel
theorem bS_in : ∀ i : Nat, i < 9 → ∀ w ∈ bSw i, w ∈ nwF := by
  intro i hi w hw
  have h : w ∈ (List.range 9).flatMap bSw := List.mem_flatMap.mpr ⟨i, List.mem_range.mpr hi, hw⟩
  rw [bS_at] at h
  exact List.mem_of_mem_drop (List.mem_of_mem_take h)
set_option maxRecDepth 100000 in
theorem bX_at : aThs.map (fun q => Cond.exactly (Term.string (aRn q.1) q.2.2.2.2.1) "java/lang/String") = [267, 366, 391, 391, 391, 412, 449, 587, 616, 636, 664, 685, 712, 126, 150, 181, 126, 220, 342, 245, 310].filterMap (fun i => nwF[i]?) := by decide +kernel
def bNp : List (Nat × Nat) := (List.range 6).flatMap (fun x => ((List.range 6).filter (fun y => decide (x ≠ y))).map (fun y => (x, y)))
set_option maxRecDepth 100000 in
theorem bN_at : bNp.map (fun q => Cond.not (.castable (aEx.getD q.1 "") (aEx.getD q.2 ""))) = [34, 47, 61, 75, 89, 20, 48, 62, 76, 90, 19, 33, 60, 74, 88, 22, 36, 49, 78, 92, 23, 37, 50, 64, 93, 24, 38, 51, 65, 79].filterMap (fun i => nwF[i]?) := by decide +kernel
theorem bN_in : ∀ x : Nat, x < 6 → ∀ y : Nat, y < 6 → x ≠ y → (x, y) ∈ bNp := fun x hx y hy n => List.mem_flatMap.mpr ⟨x, List.mem_range.mpr hx, List.mem_map.mpr ⟨y, List.mem_filter.mpr ⟨List.mem_range.mpr hy, decide_eq_true n⟩, rfl⟩⟩
theorem nw_map {α : Type} {l : List α} {f : α → Cond} {ps : List Nat} (h : l.map f = ps.filterMap (fun i => nwF[i]?)) : ∀ q ∈ l, f q ∈ nwF := by
  intro q hq
  have hm : f q ∈ l.map f := List.mem_map.mpr ⟨q, hq, rfl⟩
  rw [h] at hm
  obtain ⟨i, -, hi⟩ := List.mem_filterMap.mp hm
  exact List.mem_of_getElem? hi
set_option maxRecDepth 100000 in
theorem bZ_at : [Cond.isRef (.static Bundle.tN "UNASSIGNED_STACK" Bundle.steD), Cond.isRef (.static Bundle.tN "SUPPRESSED_SENTINEL" Bundle.listD), Cond.eq (.static "java/lang/String" "COMPACT_STRINGS" "Z") (.int 1), Cond.isRef (.static "jdk/internal/util/Preconditions" "SIOOBE_FORMATTER" "Ljava/util/function/BiFunction;")] = [4, 5, 6, 7].filterMap (fun i => nwF[i]?) := by decide +kernel
theorem bZ_in : ∀ w ∈ [Cond.isRef (.static Bundle.tN "UNASSIGNED_STACK" Bundle.steD), Cond.isRef (.static Bundle.tN "SUPPRESSED_SENTINEL" Bundle.listD), Cond.eq (.static "java/lang/String" "COMPACT_STRINGS" "Z") (.int 1), Cond.isRef (.static "jdk/internal/util/Preconditions" "SIOOBE_FORMATTER" "Ljava/util/function/BiFunction;")], w ∈ nwF := by
  intro w hw
  rw [bZ_at] at hw
  obtain ⟨i, -, hi⟩ := List.mem_filterMap.mp hw
  exact List.mem_of_getElem? hi
theorem bD_ok : ∀ i : Nat, i < 9 → ∀ j : Nat, j < 9 → i ≠ j → Int32.ofNat (bL.getD i 0) ≠ Int32.ofNat (bL.getD j 0) ∨ ((0 < bL.getD i 0 ∧ 0 < bL.getD j 0) ∧ (bB.getD i []).getD 0 0 ≠ (bB.getD j []).getD 0 0) := by decide +kernel
theorem bL_lt : ∀ i : Nat, i < 9 → bL.getD i 0 < 2 ^ 31 := by decide +kernel
/-- the texts' addresses: they are apart, for what they hold differs -/
theorem bTexts {s : State} {args : Array Value} {A : Nat → Prop} (hnw : ∀ w ∈ nwF, w.before args s = true) (hA : ∀ a : Nat, a < s.heap.size → ¬ A a) : ∃ ad : Nat → Nat, vk_S 9 bL bB ad (fun i => ad (100 + i)) A s s.heap ∧ ∀ i : Nat, i < 9 → (bT i).eval args s none [] s = some (.ref (ad i)) := by
  have h0 : ∀ i : Nat, ∃ q : Nat × Nat, i < 9 → (bT i).eval args s none [] s = some (.ref q.1) ∧ (va_O "java/lang/String" q.1 A s s.heap ∧ va_OF "java/lang/String" "coder" "B" (.int 0) q.1 A s s.heap ∧ va_OF "java/lang/String" "value" "[B" (.ref q.2) q.1 A s s.heap ∧ va_T .byte q.2 (bL.getD i 0) (fun j => .int ((bB.getD i []).getD j 0)) A s s.heap) := by
    intro i
    by_cases hi : i < 9
    · have w := bS_in i hi
      have hw : ∀ c ∈ bSw i, c.before args s = true := fun c hc => hnw c (w c hc)
      obtain ⟨adK, adV, h1, h2⟩ := vk_Sof (args := args) (s := s) (N := 1) (tm := fun _ => bT i) (len := [bL.getD i 0]) (byt := [bB.getD i []]) (A := A)
        (fun k hk => by rw [show k = 0 by omega]; exact bL_lt i hi)
        (fun k hk => hw _ List.mem_cons_self)
        (fun k hk => hw _ (List.mem_cons_of_mem _ List.mem_cons_self))
        (fun k hk => hw _ (List.mem_cons_of_mem _ (List.mem_cons_of_mem _ List.mem_cons_self)))
        (fun k hk => by rw [show k = 0 by omega]; exact hw _ (List.mem_cons_of_mem _ (List.mem_cons_of_mem _ (List.mem_cons_of_mem _ List.mem_cons_self))))
        (fun k hk j hj => by
          rw [show k = 0 by omega] at hj ⊢
          exact hw _ (List.mem_cons_of_mem _ (List.mem_cons_of_mem _ (List.mem_cons_of_mem _ (List.mem_cons_of_mem _ (List.mem_map.mpr ⟨j, List.mem_range.mpr hj, rfl⟩))))))
        (fun k j hk hj n => absurd (show k = j by omega) n) hA
      have h3 := h1.1 0 (by decide)
      exact ⟨(adK 0, adV 0), fun _ => ⟨h2 0 (by decide), h3⟩⟩
    · exact ⟨(0, 0), fun h => absurd h hi⟩
  obtain ⟨q, hq⟩ := Classical.axiomOfChoice h0
  have e1 : ∀ i : Nat, i < 9 → (fun k => if k < 100 then (q k).1 else (q (k - 100)).2) i = (q i).1 := fun i hi => if_pos (by omega)
  have e2 : ∀ i : Nat, (fun k => if k < 100 then (q k).1 else (q (k - 100)).2) (100 + i) = (q i).2 := fun i => by
    show (if 100 + i < 100 then (q (100 + i)).1 else (q (100 + i - 100)).2) = (q i).2
    rw [if_neg (by omega), show 100 + i - 100 = i by omega]
  refine ⟨fun k => if k < 100 then (q k).1 else (q (k - 100)).2, ⟨fun i hi => ?_, fun i j hi hj e => ?_⟩, fun i hi => ?_⟩
  · rw [e1 i hi, e2 i]
    exact (hq i hi).2
  · rw [e1 i hi, e1 j hj] at e
    by_cases hij : i = j
    · exact hij
    · exfalso
      obtain ⟨-, -, -, vi, ti⟩ := hq i hi
      obtain ⟨-, -, -, vj, tj⟩ := hq j hj
      rw [e] at vi
      obtain ⟨cf, k, fi, f, cell, f1, f2, f3, f4, f5, -⟩ := vi
      obtain ⟨cf', k', fi', f', cell', f1', f2', f3', f4', f5', -⟩ := vj
      cases f1.symm.trans f1'
      cases f3.symm.trans f3'
      have ev : (q i).2 = (q j).2 := by
        have := f5.symm.trans f5'
        injection this with this
        injection this
      rw [ev] at ti
      obtain ⟨c1, t1, -, -, -, t5, t6, -⟩ := ti
      obtain ⟨c2, u1, -, -, -, u5, u6, -⟩ := tj
      cases t1.symm.trans u1
      rcases bD_ok i hi j hj hij with d | ⟨⟨d1, d2⟩, d3⟩
      · exact d (t5.symm.trans u5)
      · have := (t6 0 d1).symm.trans (u6 0 d2)
        injection this with this
        injection this with this
        exact d3 this
  · rw [e1 i hi]
    exact (hq i hi).1
theorem bAc {s : State} {args : Array Value} {t : FieldType} (h : (Cond.arrayClass t).before args s = true) : ∃ c : ClassId, ArrOfT s c t ∧ s.vm.findClass ("[" ++ t.toString) = some c := by
  obtain ⟨c, k, comp, h1, h2, h3⟩ := Cond.arrayClass_spec h
  exact ⟨c, fun n z => ⟨fun k h => (by cases h), k, h2, comp, h3⟩, h1⟩
theorem bAo {s : State} {args : Array Value} {C : String} (h : (Cond.arrayOver (.object C)).before args s = true) : ∃ c : ClassId, ArrOfT s c (.object C) ∧ va_RA s c (.object C) := by
  obtain ⟨comp, c, k, h1, h2, h3, h4, h5⟩ := Cond.arrayOver_spec h
  exact ⟨c, fun N z => ⟨(fun k h => (by cases h)), k, h3, comp, h4⟩, k, comp, h3, h4, h1, h5⟩
theorem aKN_start {s : State} {b L : Nat} {xs : Nat → Int32} (hts : ∀ w ∈ lw_tbl, w.before #[Value.ref b] s = true) (hX : va_X b L xs s s.heap) (hgv : (Jvm.Cond.and given_1 narrow_1).before #[Value.ref b] s = true) : ∃ g : aG, aKN g s ∧ g.2.2.2.1 = s.heap ∧ g.2.2.2.2 = (b, L) := by
  have hnw : ∀ w ∈ nwF, w.before #[Value.ref b] s = true := flat_of_before _ hgv
  have hA : ∀ a : Nat, a < s.heap.size → ¬ (fun q : Nat => s.heap.size ≤ q) a := fun a ha hn => by
    have : s.heap.size ≤ a := hn
    omega
  have ht : ∀ (i : Nat) (w : Cond), lw_tbl[i]? = some w → w.before #[Value.ref b] s = true := fun i w h => hts w (List.mem_of_getElem? h)
  obtain ⟨ad, hS, had⟩ := bTexts hnw hA
  have hC : ∀ ci : Nat, ∃ q : ClassId × (Nat → Nat), ci < 8 → u_Kn s (aRn ci) (aTX ci) (aFl ci).length q.1 q.2 := by
    have key : ∀ ci : Nat, ci < 8 → ∀ i n : Nat, lw_tbl[i]? = some (Cond.instantiable (aRn ci) n) → ∃ q : ClassId × (Nat → Nat), ci < 8 → u_Kn s (aRn ci) (aTX ci) (aFl ci).length q.1 q.2 := by
      intro ci hci i n hi
      obtain ⟨c0, i0, h⟩ := u_known (C := aRn ci) (T := aTX ci) (N := (aFl ci).length) (n := n) hts (fun w hw => (aUws ci hci w hw).1) (ht i _ hi)
      exact ⟨(c0, i0), fun _ => h⟩
    intro ci
    match ci with
    | 0 => exact key 0 (by decide) 103 14 (by decide +kernel)
    | 1 => exact key 1 (by decide) 254 3 (by decide +kernel)
    | 2 => exact key 2 (by decide) 274 2 (by decide +kernel)
    | 3 => exact key 3 (by decide) 290 6 (by decide +kernel)
    | 4 => exact key 4 (by decide) 176 9 (by decide +kernel)
    | 5 => exact key 5 (by decide) 97 7 (by decide +kernel)
    | 6 => exact key 6 (by decide) 89 10 (by decide +kernel)
    | 7 => exact key 7 (by decide) 1255 21 (by decide +kernel)
    | n + 8 => exact ⟨(0, fun _ => 0), fun h => absurd h (by omega)⟩
  obtain ⟨qC, hqC⟩ := Classical.axiomOfChoice hC
  obtain ⟨c0, a0, b0⟩ := bAc (t := .int) (ht 173 _ (by decide +kernel))
  obtain ⟨c1, a1, b1⟩ := bAc (t := .char) (ht 288 _ (by decide +kernel))
  obtain ⟨c2, a2, b2⟩ := bAo (C := "SheepdogTrial$Run") (ht 175 _ (by decide +kernel))
  obtain ⟨c3, a3, b3⟩ := bAo (C := "SheepdogTrial$State") (ht 260 _ (by decide +kernel))
  obtain ⟨c4, a4, b4⟩ := bAc (t := .long) (ht 1747 _ (by decide +kernel))
  obtain ⟨c5, a5, b5⟩ := bAc (t := .double) (ht 1748 _ (by decide +kernel))
  obtain ⟨tyc, e0, e1, e2, e3, e4, e5⟩ : ∃ f : Nat → ClassId, f 0 = c0 ∧ f 1 = c1 ∧ f 2 = c2 ∧ f 3 = c3 ∧ f 4 = c4 ∧ f 5 = c5 := ⟨fun k => match k with
    | 0 => c0
    | 1 => c1
    | 2 => c2
    | 3 => c3
    | 4 => c4
    | _ => c5, rfl, rfl, rfl, rfl, rfl, rfl⟩
  refine ⟨((fun k => (qC k).1, fun k => (qC k).2), tyc, ad, s.heap, (b, L)), ⟨fun w hm ha => ?_, ⟨fun k q hq => ?_, fun k q hq => ?_⟩, va_AO.of (ht 175 _ (by decide +kernel)), va_AO.of (ht 260 _ (by decide +kernel)), fun q hq => ?_, fun k q hq => ?_, ?_, ?_, fun x y hx hy hne => ?_, ⟨?_, ?_, ?_⟩, ?_⟩, rfl, rfl⟩
  · have hb := hts w hm
    by_cases hg : goodWord w = true
    · exact word_at (State.WarmedH.refl s) (good_of_word hg) hb
    · have ho : w.onTables = true := by
        unfold aWarm at ha
        rw [Bool.or_eq_true] at ha
        rcases ha with ha | ha
        · exact absurd ha hg
        · split at ha
          · rfl
          · rfl
          · rfl
          · cases ha
      exact va_tabs ho rfl hb
  · have hk : k < 8 := (List.getElem?_eq_some_iff.mp hq).1
    rw [aCl_at k hk] at hq
    cases hq
    exact hqC k hk
  · dsimp only [aTyl] at hq
    match k, hq with
    | 0, hq => cases hq; show ArrOfT s (tyc 0) _ ∧ va_RA s (tyc 0) _; rw [e0]; exact ⟨a0, b0⟩
    | 1, hq => cases hq; show ArrOfT s (tyc 1) _ ∧ va_RA s (tyc 1) _; rw [e1]; exact ⟨a1, b1⟩
    | 2, hq => cases hq; show ArrOfT s (tyc 2) _ ∧ va_RA s (tyc 2) _; rw [e2]; exact ⟨a2, b2⟩
    | 3, hq => cases hq; show ArrOfT s (tyc 3) _ ∧ va_RA s (tyc 3) _; rw [e3]; exact ⟨a3, b3⟩
    | 4, hq => cases hq; show ArrOfT s (tyc 4) _ ∧ va_RA s (tyc 4) _; rw [e4]; exact ⟨a4, b4⟩
    | 5, hq => cases hq; show ArrOfT s (tyc 5) _ ∧ va_RA s (tyc 5) _; rw [e5]; exact ⟨a5, b5⟩
    | n + 6, hq => simp at hq
  · have h1 : (Cond.stringRef (aRn q.1) q.2.2.2.2.1 q.2.2.1).before #[Value.ref b] s = true := hts _ (of_decide_eq_true (List.all_eq_true.mp aTh_str q hq))
    obtain ⟨a, c, cell, k, q1, -⟩ := Cond.exactly_spec (args := #[Value.ref b]) (first := s) (o := none) (s := s) (idx := []) (hnw _ (nw_map bX_at q hq))
    exact ⟨a, vk_R.of h1 q1⟩
  · have hk : k < 9 := (List.getElem?_eq_some_iff.mp hq).1
    have key : ∀ i : Nat, i < 9 → ∀ (x : Nat × String), aPts[i]? = some x → lw_tbl[1104 + i]? = some (Cond.stringRef RX3 x.1 x.2) := by
      intro i hi
      match i with
      | 0 => intro x hx; cases hx; decide +kernel
      | 1 => intro x hx; cases hx; decide +kernel
      | 2 => intro x hx; cases hx; decide +kernel
      | 3 => intro x hx; cases hx; decide +kernel
      | 4 => intro x hx; cases hx; decide +kernel
      | 5 => intro x hx; cases hx; decide +kernel
      | 6 => intro x hx; cases hx; decide +kernel
      | 7 => intro x hx; cases hx; decide +kernel
      | 8 => intro x hx; cases hx; decide +kernel
      | n + 9 => exact absurd hi (by omega)
    have h2 := had k hk
    have e : bT k = .string RX3 q.1 := by
      unfold bT
      rw [List.getD_eq_getElem?_getD, hq]
      rfl
    rw [e] at h2
    exact vk_R.of (ht _ _ (key k hk q hq)) h2
  · exact vx_Zqof (ht 516 _ (by decide +kernel)) (ht 73 _ (by decide +kernel)) (hnw _ (bZ_in _ List.mem_cons_self)) hA
  · exact vx_Zqof (ht 518 _ (by decide +kernel)) (ht 73 _ (by decide +kernel)) (hnw _ (bZ_in _ (List.mem_cons_of_mem _ List.mem_cons_self))) hA
  · exact va_Nc.of (hnw _ (nw_map bN_at (x, y) (bN_in x hx y hy hne)))
  · exact hS
  · exact va_Zof (ht 1126 _ (by decide +kernel)) (ht 81 _ (by decide +kernel)) (va_eqi (hnw _ (bZ_in _ (List.mem_cons_of_mem _ (List.mem_cons_of_mem _ List.mem_cons_self))))) hA
  · exact va_Zqof (ht 1142 _ (by decide +kernel)) (ht 85 _ (by decide +kernel)) (hnw _ (bZ_in _ (List.mem_cons_of_mem _ (List.mem_cons_of_mem _ (List.mem_cons_of_mem _ List.mem_cons_self))))) hA
  · obtain ⟨scr, h1, h2, h3, -⟩ := hX
    exact ⟨scr, h1, h2, h3⟩
