/-! THE JVM KEEPS TO THE STEP: new things, Math, arraycopy (heads printed by wip/whole/sound5.py) -/
theorem aSm_w {g : aG} {st : List aV} (h : aSml st = true) : ((st.map (aC g)).map fun v => v.category).sum ≤ 8 := by
  have hl : st.length ≤ 4 := Nat.le_of_ble_eq_true h
  have key : ∀ l : List aV, ((l.map (aC g)).map fun v => v.category).sum ≤ 2 * l.length := by
    intro l
    induction l with
    | nil => simp
    | cons v l ih =>
      simp only [List.map_cons, List.sum_cons, List.length_cons]
      have hv : (aC g v).category ≤ 2 := by rw [aC_cat]; split <;> omega
      simp only [List.map_map] at ih ⊢
      omega
  have := key st
  omega
theorem aPc_w {q : Nat × Nat × Nat} (h : q ∈ aPcs) : (Cond.classLink (aRn q.1) q.2.1 (aRn q.2.2) ∈ lw_tbl ∧ aWarm (Cond.classLink (aRn q.1) q.2.1 (aRn q.2.2)) = true) ∧ (Cond.instantiable (aRn q.2.2) (aFl q.2.2).length ∈ lw_tbl ∧ aWarm (Cond.instantiable (aRn q.2.2) (aFl q.2.2).length) = true) ∧ (Cond.initialized (aRn q.2.2) ∈ lw_tbl ∧ aWarm (Cond.initialized (aRn q.2.2)) = true) := by
  have h1 := List.all_eq_true.mp aPcs_ok q h
  simp only [aIn, Bool.and_eq_true, decide_eq_true_eq] at h1
  exact ⟨h1.1.1, h1.1.2, h1.2⟩
theorem aPm_w {q : Nat × Nat × Nat × Nat} (h : q ∈ aPms) {w : Cond} (hw : w ∈ aPmW q) {g : aG} {s : State} (hK : aKN g s) (args : Array Value) : w.before args s = true := hK.w ((aPms_in q h).1 w hw).1 ((aPms_in q h).1 w hw).2 args
/-- memory and heap after a new thing -/
theorem aRep.push {g : aG} {n : Nat} {r : aP → Int → Bool} {z : aM} {H H1 : Heap} {p : aP} (hR : aRep g (some (n, r)) z H) (hp : aAll[aOff p]? = some p) (ho : aOff p = n) (hsz : H1.size = H.size + 1) (hq : ∀ q : Nat, q < H.size → H1[q]? = H[q]?) (he : va_at g.1 aCl (aAd g p, aCe g (some (n + 1, aBf r p)) (aZr z p) p) H1) : aRep g (some (n + 1, aBf r p)) (aZr z p) H1 := by
  obtain ⟨h1, h2, ⟨h3, h3'⟩, h4, h5⟩ := id hR
  have hn : n < 320 := by have := (aOkp hp).1; omega
  have hne : ∀ i : Nat, i < n → aAll.getD i (0, 0, 0) ≠ p := by
    intro i hi e
    have := (aAll_off i (by omega)).1
    rw [e, ho] at this
    omega
  have hce : ∀ q : aP, q ≠ p → aCe g (some (n + 1, aBf r p)) (aZr z p) q = aCe g (some (n, r)) z q := by
    intro q hqp
    have e1 : (aZr z p) q = z q := by funext j; unfold aZr; rw [if_neg hqp]
    have e2 : ∀ j, aBf r p q j = r q j := fun j => by unfold aBf; rw [if_neg hqp]
    unfold aCe aFv aAr aRv
    simp only [e1, e2]
  have hws : aWs g (some (n + 1, aBf r p)) (aZr z p) = aWs g (some (n, r)) z ++ [(aAd g p, aCe g (some (n + 1, aBf r p)) (aZr z p) p)] := by
    unfold aWs
    show (List.range (n + 1)).map _ = (List.range n).map _ ++ _
    rw [List.range_succ, List.map_append]
    congr 1
    · refine List.map_congr_left (fun i hi => ?_)
      rw [hce _ (hne i (List.mem_range.mp hi))]
    · simp only [List.map_cons, List.map_nil]
      rw [aAd_of (aOkp hp).2.2, ho, ← ho, (aOkp hp).2.1]
  refine ⟨?_, fun q hq2 => ?_, ⟨by rw [hsz, h3]; omega, by omega⟩, by omega, ?_⟩
  · rw [hws]
    refine (h1.kept (fun k q hk => hq q.1 (h1 k q hk).lt)).app (fun k q hk => ?_)
    have hz : k < 1 := (List.getElem?_eq_some_iff.mp hk).1
    rw [show k = 0 by omega] at hk
    cases hk
    exact he
  · rw [hq q (by omega)]
    exact h2 q hq2
  · obtain ⟨scr, a1, a2, a3⟩ := h5
    refine ⟨scr, a1, a2, fun j hj => ?_⟩
    have e : aZr z p (31, 0, 0) (j : Int) = z (31, 0, 0) (j : Int) := by unfold aZr; rw [if_neg (aLk_31 hp)]
    rw [e]
    exact a3 j hj
theorem aSpush {g : aG} {s : State} {H H1 : Heap} {locs : List Loc} (hS : va_S (aA g) s.heap H locs) (hsz : H1.size = H.size + 1) (hq : ∀ q : Nat, q < H.size → H1[q]? = H[q]?) : va_S (aA g) s.heap H1 locs :=
  ⟨by have := hS.1; omega, fun q h1 h2 => (hq q (Nat.lt_of_lt_of_le h1 hS.1)).trans (hS.2.1 q h1 h2), hS.2.2⟩
theorem aLv_up {n : Nat} {r r' : aP → Int → Bool} {v : aV} (h : aLv (some (n, r)) v) : aLv (some (n + 1, r')) v := by
  rcases v with v | v | v | v
  · trivial
  · trivial
  · rcases h with h | h
    · exact Or.inl ⟨h.1, Nat.lt_succ_of_lt h.2⟩
    · exact Or.inr h
  · trivial
theorem aRv_new {g : aG} {n : Nat} {r : aP → Int → Bool} {p : aP} {k : Int} : aRv g (some (n, aBf r p)) p k = none := by
  have e : aBf r p p k = false := by unfold aBf; rw [if_pos rfl]
  show (if aBf r p p k = true then some (aAd g (aRf p k)) else none) = none
  rw [e]
  rfl
theorem aLv_new {n : Nat} {r' : aP → Int → Bool} {p : aP} (hp : aAll[aOff p]? = some p) (ho : aOff p = n) : aLv (some (n + 1, r')) (.inr (.inr (.inl p))) := Or.inl ⟨hp, by show aOff p < n + 1; omega⟩
theorem aFl_k : ∀ ci : Nat, ci < 8 → ∀ k : Nat, k < (aFl ci).length → (aFl ci)[k]? ≠ some 2 → (aFl ci)[k]? = some 0 ∨ (aFl ci)[k]? = some 1 := by decide +kernel
theorem sk_newO {l : Launch} {g : aG} {f : aFr} {y o : Nat} {Q : Option aV → aSt → aM → Prop} {X : Nat → aSt → aM → Prop} {p : Program} {e : Env} {R : Room} {s : State} {m : MethodId} {args : Array Value} {below : List Frame} {meth : Method} {c : Code} (hF : aFrm l g f y o p e R s m args below meth c) {pc n t a b : Nat} {sw : List (Int × Nat)} {i8 : Nat} (ha : a ≠ 100) (hI : aOk y o (aMt y).2.1 pc (.new i8, n, t, a, b, sw) = true) {k : aK} {z : aM} {ls : List (Option aV)} {st : List aV} {K : aK → aM → Nat → List (Option aV) → List aV → Prop} (h : stp l g f Q X pc (.new i8, n, t, a, b, sw) k z ls st K) (hK : ∀ k z pc ls st, K k z pc ls st → aBs l g f Q X p e R s m args below meth c k z pc ls st) : aBs l g f Q X p e R s m args below meth c k z pc ls st := by
  obtain ⟨⟨hx, hst, hb, hml, hown, hlk, hrt⟩, ⟨hKN, hbs, hold⟩, ⟨hex, hnm, hrk, hho, hhc⟩, hr1, hr2, hr3, hr4, hr5⟩ := hF
  obtain ⟨hd, rfl, h2⟩ := aOk_d hI (by first | decide | (intro q; cases q))
  have h0 := h
  unfold stp at h0
  simp only at h0
  have hbq : Nat.beq a 100 = false := by
    rcases hq : Nat.beq a 100 with _ | _
    · rfl
    · exact absurd (Nat.eq_of_beq_eq_true hq) ha
  rw [hbq] at h0
  simp only [aOk2, if_neg ha, decide_eq_true_eq] at h2
  obtain ⟨sta, u9, v9⟩ := k
  rcases sta with _ | ⟨cnt, r⟩
  · exact False.elim h0
  obtain ⟨q1, ⟨⟨ho, hp⟩, hsh, hb1, hb2⟩, h9⟩ := h0
  have hc8 := aSh_o hp hsh
  obtain ⟨w1, w2, w3⟩ := aPc_w h2
  intro hs hl hbd hlen H locs la hR hS hL
  have hKn := hKN.2.1.1 a _ (aCl_at a hc8)
  refine W.newcK (g := F0 m pc la (st.map (aC g))) hx hb hown (hKN.w w1.1 w1.2 args) (hKN.w w2.1 w2.2 args) (hKN.w w3.1 w3.2 args) rfl hd (Nat.le_trans hb1 hr2) (Nat.le_trans hb2 hr3) hKn.2.1 (h := H.size) rfl (fun H1 kC hkC e1 e2 e3 => ?_)
  have had : aAd g q1 = H.size := by rw [aAd_of (aOkp hp).2.2, ho]; exact hR.2.2.1.1.symm
  have hRn : aRep g (some (cnt + 1, aBf r q1)) (aZr z q1) H1 := by
    refine hR.push hp ho e2 e3 ?_
    rw [aCe_o hsh]
    refine ⟨_, aCl_at a hc8, (u_born (aTy a) (aHts (args := args) hKN hc8) (fun w hw => hw) hKn hkC (by rw [had]; exact e1) (aTy_ok a hc8)).to (fun j hj => ?_)⟩
    show defaultValue (aTy a j) = vp_V _ j
    have hj9 := aFs_at (g := g) (s := some (cnt + 1, aBf r q1)) (z := aZr z q1) (p := q1) hj
    have hv9 : vp_V ((List.range (aFl a).length).map (aFv g (some (cnt + 1, aBf r q1)) (aZr z q1) q1 a)) j = aFv g (some (cnt + 1, aBf r q1)) (aZr z q1) q1 a j := by
      unfold vp_V
      rw [List.getD_eq_getElem?_getD, hj9]
      rfl
    rw [hv9]
    have hj21 : j < 21 := Nat.lt_of_lt_of_le hj (aFl_21 a hc8)
    obtain ⟨t0, t1, t2⟩ := aTy_k a hc8 j hj21
    unfold aFv
    by_cases hf2 : (aFl a)[j]? = some 2
    · rw [if_pos hf2]
      have hrv : aRv g (some (cnt + 1, aBf r q1)) q1 (j : Int) = none := aRv_new
      rw [hrv]
      have := t2 hf2
      revert this
      cases aTy a j <;> intro hq <;> first | rfl | cases hq
    · rw [if_neg hf2]
      have hz9 : aZr z q1 q1 (j : Int) = 0 := by unfold aZr; rw [if_pos rfl]
      rw [hz9]
      have hcase : (aFl a)[j]? = some 0 ∨ (aFl a)[j]? = some 1 := aFl_k a hc8 j hj hf2
      rcases hcase with hq | hq
      · rw [t0 hq]; rfl
      · rw [t1 hq]; rfl
  have h99 := hK _ _ _ _ _ h9 (aLv_c (aLv_new hp ho) (fun v hv => aLv_up (hs v hv))) (fun v hv => aLv_up (hl v hv)) ⟨hb1, hb2⟩ hlen H1 locs la hRn (aSpush hS e2 e3) hL
  have h98 := h99
  show W p l e R s m args below meth c H1 locs _ _ _ (F0 m (pc + 3) la (.ref H.size :: st.map (aC g)))
  rw [← had]
  exact h98

theorem sk_newarray {l : Launch} {g : aG} {f : aFr} {y o : Nat} {Q : Option aV → aSt → aM → Prop} {X : Nat → aSt → aM → Prop} {p : Program} {e : Env} {R : Room} {s : State} {m : MethodId} {args : Array Value} {below : List Frame} {meth : Method} {c : Code} (hF : aFrm l g f y o p e R s m args below meth c) {pc n t a b : Nat} {sw : List (Int × Nat)} {ty8 : ArrayType} (hI : aOk y o (aMt y).2.1 pc (.newarray ty8, n, t, a, b, sw) = true) {k : aK} {z : aM} {ls : List (Option aV)} {st : List aV} {K : aK → aM → Nat → List (Option aV) → List aV → Prop} (h : stp l g f Q X pc (.newarray ty8, n, t, a, b, sw) k z ls st K) (hK : ∀ k z pc ls st, K k z pc ls st → aBs l g f Q X p e R s m args below meth c k z pc ls st) : aBs l g f Q X p e R s m args below meth c k z pc ls st := by
  obtain ⟨⟨hx, hst, hb, hml, hown, hlk, hrt⟩, ⟨hKN, hbs, hold⟩, ⟨hex, hnm, hrk, hho, hhc⟩, hr1, hr2, hr3, hr4, hr5⟩ := hF
  obtain ⟨hd, rfl, h2⟩ := aOk_d hI (by first | decide | (intro q; cases q))
  rcases st with _ | ⟨m1, st⟩
  · exact False.elim h
  rcases m1 with m1 | m1 | m1 | m1
  · have h0 := h
    unfold stp at h0
    simp only at h0
    obtain ⟨sta, u9, v9⟩ := k
    rcases sta with _ | ⟨cnt, r⟩
    · exact False.elim h0
    simp only at h0
    obtain ⟨q1, ⟨⟨ho, hp⟩, hsh, hb1, hb2⟩, h9⟩ := h0
    have hb9 := aSh_r hp hsh
    simp only [aOk2, aIn, Bool.and_eq_true, decide_eq_true_eq] at h2
    intro hs hl hbd hlen H locs la hR hS hL
    refine W.eq (g2 := F0 m pc la (.int (iZ m1) :: st.map (aC g))) rfl ?_
    have had : aAd g q1 = H.size := by rw [aAd_of (aOkp hp).2.2, ho]; exact hR.2.2.1.1.symm
    have hm0 : ¬ iZ m1 < 0 := by rw [← iZ_0, iZ_lt ⟨by omega, by omega⟩ ⟨by omega, by omega⟩]; omega
    have hcl := iZ_cl (x := m1) hb9.2.1 (by omega)
    have key : ∀ (ty : Nat) (t : FieldType) (dv : Value), newarray.typeOf ty8 = t → aSh q1 = .inr (ty, m1) → (aTyl g)[ty]? = some (g.2.1 ty, t) → (∀ cA, va_RA s cA t → s.vm.findClass ("[" ++ t.toString) = some cA) → defaultValue t = dv → (∀ j, aAv g (some (cnt + 1, aBf r q1)) (aZr z q1) q1 ty j = dv) → componentBytes t ≤ 8 → W p l e R s m args below meth c H locs u9 v9 (vx_MQ below (aQ g Q) (aX g X) args s f.2.1 f.2.2.1 (aA g)) (F0 m pc la (.int (iZ m1) :: st.map (aC g))) := by
      intro ty t dv hty hsh2 htl hra hdv hav hcb
      refine W.newa hx hb (hKN.w h2.1 h2.2 args) (g := F0 m pc la (.int (iZ m1) :: st.map (aC g))) rfl hd rfl hm0 (by rw [hcl, hty]; have := Nat.mul_le_mul (show m1.toNat ≤ 2000 by omega) hcb; omega) (Nat.le_trans hb1 hr2) (by rw [hcl]; exact Nat.le_trans hb2 hr3) (fun cA kA comp f1 f2 f3 => ?_)
      rw [hty] at f1 ⊢
      have hcA : cA = g.2.1 ty := Option.some.inj (f1.symm.trans (hra _ (hKN.2.1.2 ty _ htl).2))
      subst hcA
      generalize hH1 : H.push ({ cls := g.2.1 ty, slots := Array.replicate (iZ m1).toNatClampNeg (defaultValue t), vm := .none } : Cell) = H1
      have e2 : H1.size = H.size + 1 := by rw [← hH1, Array.size_push]
      have e1 : H1[H.size]? = some (arrV (g.2.1 ty) m1.toNat (fun _ => dv)) := by rw [← hH1, Array.getElem?_push_size, arrV_new, hcl, hdv]
      have e3 : ∀ q : Nat, q < H.size → H1[q]? = H[q]? := fun q hq => by rw [← hH1, Array.getElem?_push, if_neg (Nat.ne_of_lt hq)]
      have hRn : aRep g (some (cnt + 1, aBf r q1)) (aZr z q1) H1 := by
        refine hR.push hp ho e2 e3 ((aVp hsh2).mpr ?_)
        rw [had, e1]
        congr 2
        funext j
        exact (hav j).symm
      have h98 := hK _ _ _ _ _ h9 (aLv_c (aLv_new hp ho) (fun v hv => aLv_up (aLv_tl hs v hv))) (fun v hv => aLv_up (hl v hv)) ⟨hb1, hb2⟩ hlen H1 locs la hRn (aSpush hS e2 e3) hL
      refine W.cs (cells' := u9 + 1) (slots' := v9 + m1.toNat) rfl (by rw [hcl]) ?_
      show W p l e R s m args below meth c H1 locs _ _ _ (F0 m (pc + 2) la (.ref H.size :: st.map (aC g)))
      rw [← had]
      exact h98
    have hz9 : ∀ j, aZr z q1 q1 j = 0 := fun j => by unfold aZr; rw [if_pos rfl]
    cases ty8 with
    | int => exact key 0 .int (.int 0) rfl hsh rfl (fun _ h => h) rfl (fun j => by unfold aAv; rw [hz9]; rfl) (by decide)
    | char => exact key 1 .char (.int 0) rfl hsh rfl (fun _ h => h) rfl (fun j => by unfold aAv; rw [hz9]; rfl) (by decide)
    | long => exact key 4 .long (.long 0) rfl hsh rfl (fun _ h => h) rfl (fun j => by unfold aAv; rw [hz9]; rfl) (by decide)
    | double => exact key 5 .double (.double 0) rfl hsh rfl (fun _ h => h) rfl (fun j => by unfold aAv; rw [hz9]; rfl) (by decide)
    | _ => exact absurd hb9.1 (by decide)
  · exact False.elim h
  · exact False.elim h
  · exact False.elim h

theorem sk_anewarray {l : Launch} {g : aG} {f : aFr} {y o : Nat} {Q : Option aV → aSt → aM → Prop} {X : Nat → aSt → aM → Prop} {p : Program} {e : Env} {R : Room} {s : State} {m : MethodId} {args : Array Value} {below : List Frame} {meth : Method} {c : Code} (hF : aFrm l g f y o p e R s m args below meth c) {pc n t a b : Nat} {sw : List (Int × Nat)} {i8 : Nat} (hI : aOk y o (aMt y).2.1 pc (.anewarray i8, n, t, a, b, sw) = true) {k : aK} {z : aM} {ls : List (Option aV)} {st : List aV} {K : aK → aM → Nat → List (Option aV) → List aV → Prop} (h : stp l g f Q X pc (.anewarray i8, n, t, a, b, sw) k z ls st K) (hK : ∀ k z pc ls st, K k z pc ls st → aBs l g f Q X p e R s m args below meth c k z pc ls st) : aBs l g f Q X p e R s m args below meth c k z pc ls st := by
  obtain ⟨⟨hx, hst, hb, hml, hown, hlk, hrt⟩, ⟨hKN, hbs, hold⟩, ⟨hex, hnm, hrk, hho, hhc⟩, hr1, hr2, hr3, hr4, hr5⟩ := hF
  obtain ⟨hd, rfl, h2⟩ := aOk_d hI (by first | decide | (intro q; cases q))
  rcases st with _ | ⟨m1, st⟩
  · exact False.elim h
  rcases m1 with m1 | m1 | m1 | m1
  · have h0 := h
    unfold stp at h0
    simp only at h0
    obtain ⟨sta, u9, v9⟩ := k
    rcases sta with _ | ⟨cnt, r⟩
    · exact False.elim h0
    simp only at h0
    obtain ⟨q1, ⟨⟨ho, hp⟩, hsh, hb1, hb2⟩, h9⟩ := h0
    have hb9 := aSh_r hp hsh
    simp only [aOk2, Bool.and_eq_true, decide_eq_true_eq] at h2
    obtain ⟨h2, ha45⟩ := h2
    obtain ⟨w1, w2, w3⟩ := aPc_w h2
    intro hs hl hbd hlen H locs la hR hS hL
    refine W.eq (g2 := F0 m pc la (.int (iZ m1) :: st.map (aC g))) rfl ?_
    have had : aAd g q1 = H.size := by rw [aAd_of (aOkp hp).2.2, ho]; exact hR.2.2.1.1.symm
    have hm0 : ¬ iZ m1 < 0 := by rw [← iZ_0, iZ_lt ⟨by omega, by omega⟩ ⟨by omega, by omega⟩]; omega
    have hcl := iZ_cl (x := m1) hb9.2.1 (by omega)
    have key : ∀ (ty : Nat), (ty = 2 ∨ ty = 3) → aSh q1 = .inr (ty, m1) → (aTyl g)[ty]? = some (g.2.1 ty, .object (aRn a)) → va_AO (aRn a) s → W p l e R s m args below meth c H locs u9 v9 (vx_MQ below (aQ g Q) (aX g X) args s f.2.1 f.2.2.1 (aA g)) (F0 m pc la (.int (iZ m1) :: st.map (aC g))) := by
      intro ty hty hsh2 htl hao
      refine W.anew hx hb hown (hKN.w w1.1 w1.2 args) (va_AO.use hao) (g := F0 m pc la (.int (iZ m1) :: st.map (aC g))) rfl hd rfl hm0 (by rw [hcl]; omega) (Nat.le_trans hb1 hr2) (by rw [hcl]; exact Nat.le_trans hb2 hr3) (fun cA kA comp f1 f2 f3 f4 => ?_)
      have hra := (hKN.2.1.2 ty _ htl).2
      obtain ⟨kA', comp', r1, r2, r3, r4⟩ := hra
      have hcA : cA = g.2.1 ty := Option.some.inj (f1.symm.trans r4)
      subst hcA
      generalize hH1 : H.push ({ cls := g.2.1 ty, slots := Array.replicate (iZ m1).toNatClampNeg .null, vm := .none } : Cell) = H1
      have e2 : H1.size = H.size + 1 := by rw [← hH1, Array.size_push]
      have e1 : H1[H.size]? = some (arrV (g.2.1 ty) m1.toNat (fun _ => .null)) := by rw [← hH1, Array.getElem?_push_size, arrV_new, hcl]
      have e3 : ∀ q : Nat, q < H.size → H1[q]? = H[q]? := fun q hq => by rw [← hH1, Array.getElem?_push, if_neg (Nat.ne_of_lt hq)]
      have hav : ∀ j, aAv g (some (cnt + 1, aBf r q1)) (aZr z q1) q1 ty j = .null := by
        intro j
        have hrv : aRv g (some (cnt + 1, aBf r q1)) q1 (j : Int) = none := aRv_new
        rcases hty with rfl | rfl
        · show va_rf _ = _
          rw [hrv]; rfl
        · show va_rf _ = _
          rw [hrv]; rfl
      have hRn : aRep g (some (cnt + 1, aBf r q1)) (aZr z q1) H1 := by
        refine hR.push hp ho e2 e3 ((aVp hsh2).mpr ?_)
        rw [had, e1]
        congr 2
        funext j
        exact (hav j).symm
      have h98 := hK _ _ _ _ _ h9 (aLv_c (aLv_new hp ho) (fun v hv => aLv_up (aLv_tl hs v hv))) (fun v hv => aLv_up (hl v hv)) ⟨hb1, hb2⟩ hlen H1 locs la hRn (aSpush hS e2 e3) hL
      refine W.cs (cells' := u9 + 1) (slots' := v9 + m1.toNat) rfl (by rw [hcl]) ?_
      show W p l e R s m args below meth c H1 locs _ _ _ (F0 m (pc + 3) la (.ref H.size :: st.map (aC g)))
      rw [← had]
      exact h98
    rcases ha45 with rfl | rfl
    · exact key 2 (Or.inl rfl) hsh rfl hKN.2.2.1
    · exact key 3 (Or.inr rfl) hsh rfl hKN.2.2.2.1
  · exact False.elim h
  · exact False.elim h
  · exact False.elim h

