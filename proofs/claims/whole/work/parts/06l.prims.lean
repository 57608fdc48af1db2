/-! THE JVM KEEPS TO THE STEP: the primitives, throws (heads printed by wip/whole/sound6.py) -/
theorem aNfw : nativeFrameWords "java/lang/System" "arraycopy" 5 + 11 ≤ 400 := by decide +kernel
theorem sk_oinit {l : Launch} {g : aG} {f : aFr} {y0 o : Nat} {Q : Option aV → aSt → aM → Prop} {X : Nat → aSt → aM → Prop} {p : Program} {e : Env} {R : Room} {s : State} {m : MethodId} {args : Array Value} {below : List Frame} {meth : Method} {c : Code} (hF : aFrm l g f y0 o p e R s m args below meth c) {pc i8 b : Nat} {k : aK} {z : aM} {ls : List (Option aV)} {st : List aV} {K : aK → aM → Nat → List (Option aV) → List aV → Prop}
    (hq : (o, i8, 2, b) ∈ aPms) (hd : decode (aMt y0).2.1 pc = .ok (.invokespecial i8, 3)) (h : aPrim f 2 (pc + 3) k z ls st K) (hK : ∀ k z pc ls st, K k z pc ls st → aBs l g f Q X p e R s m args below meth c k z pc ls st) : aBs l g f Q X p e R s m args below meth c k z pc ls st := by
  obtain ⟨⟨hx, hst, hb, hml, hown, hlk, hrt⟩, ⟨hKN, hbs, hold⟩, ⟨hex, hnm, hrk, hho, hhc⟩, hr1, hr2, hr3, hr4, hr5⟩ := hF
  have hw : ∀ w ∈ aPmW (o, i8, 2, b), w.before args s = true := fun w hw => aPm_w hq hw hKN args
  rcases st with _ | ⟨q1, st⟩
  · exact False.elim h
  · rcases q1 with q1 | q1 | q1 | q1
    · exact False.elim h
    · exact False.elim h
    · obtain ⟨⟨hsm, hd1⟩, h9⟩ := h
      intro hs hl hbd hlen H locs la hR hS hL
      refine W.eq (g2 := F0 m pc la (.ref (aAd g q1) :: st.map (aC g))) rfl ?_
      refine W.objInit (own := aRn o) (idx := i8) hx hb hown (hw _ (List.mem_of_getElem? (i := 0) rfl)) (hw _ (List.mem_of_getElem? (i := 1) rfl)) (hw _ (List.mem_of_getElem? (i := 2) rfl)) rfl hL.1 rfl hd (by omega) (by have h8 := lv_room (m := m) (pc := pc) (ls := la) (rest := .ref (aAd g q1) :: st.map (aC g)) (aSm_w (g := g) hsm); show 2 * (F0 m pc la (.ref (aAd g q1) :: st.map (aC g))).monitorRoom + _ + 12 ≤ R.locals; omega) ?_
      exact hK _ _ _ _ _ h9 (aLv_tl hs) hl hbd hlen H locs la hR hS hL
    · exact False.elim h

theorem sk_max {l : Launch} {g : aG} {f : aFr} {y0 o : Nat} {Q : Option aV → aSt → aM → Prop} {X : Nat → aSt → aM → Prop} {p : Program} {e : Env} {R : Room} {s : State} {m : MethodId} {args : Array Value} {below : List Frame} {meth : Method} {c : Code} (hF : aFrm l g f y0 o p e R s m args below meth c) {pc i8 b : Nat} {k : aK} {z : aM} {ls : List (Option aV)} {st : List aV} {K : aK → aM → Nat → List (Option aV) → List aV → Prop}
    (hq : (o, i8, 6, b) ∈ aPms) (hd : decode (aMt y0).2.1 pc = .ok (.invokestatic i8, 3)) (h : aPrim f 6 (pc + 3) k z ls st K) (hK : ∀ k z pc ls st, K k z pc ls st → aBs l g f Q X p e R s m args below meth c k z pc ls st) : aBs l g f Q X p e R s m args below meth c k z pc ls st := by
  obtain ⟨⟨hx, hst, hb, hml, hown, hlk, hrt⟩, ⟨hKN, hbs, hold⟩, ⟨hex, hnm, hrk, hho, hhc⟩, hr1, hr2, hr3, hr4, hr5⟩ := hF
  have hw : ∀ w ∈ aPmW (o, i8, 6, b), w.before args s = true := fun w hw => aPm_w hq hw hKN args
  rcases st with _ | ⟨y1, st⟩
  · exact False.elim h
  · rcases y1 with y1 | y1 | y1 | y1
    · rcases st with _ | ⟨x1, st⟩
      · exact False.elim h
      · rcases x1 with x1 | x1 | x1 | x1
        · obtain ⟨⟨⟨hxr, hyr⟩, hsm, hd1⟩, h9⟩ := h
          intro hs hl hbd hlen H locs la hR hS hL
          refine W.eq (g2 := F0 m pc la (.int (iZ y1) :: .int (iZ x1) :: st.map (aC g))) rfl ?_
          have h8 := aSm_w (g := g) hsm
          refine va_mmax hx hb hL.1.symm hown (hw _ (List.mem_of_getElem? (i := 0) rfl)) (hw _ (List.mem_of_getElem? (i := 1) rfl)) (hw _ (List.mem_of_getElem? (i := 2) rfl)) (hw _ (List.mem_of_getElem? (i := 3) rfl)) (by omega) (by omega) (Nat.le_trans hbd.1 hr2) (Nat.le_trans hbd.2 hr3) hd ?_
          rw [iZ_max hxr hyr]
          exact hK _ _ _ _ _ h9 (aLv_c (w := .inl (max x1 y1)) trivial (aLv_tl (aLv_tl hs))) hl hbd hlen H locs la hR hS hL
        · exact False.elim h
        · exact False.elim h
        · exact False.elim h
    · exact False.elim h
    · exact False.elim h
    · exact False.elim h

theorem iZ_min2 {x y : Int} (hx : aIR x) (hy : aIR y) : (if iZ y < iZ x then iZ y else iZ x) = iZ (min x y) := by
  by_cases h : y < x
  · rw [if_pos ((iZ_lt hy hx).mpr h), Int.min_eq_right (by omega)]
  · rw [if_neg (fun q => h ((iZ_lt hy hx).mp q)), Int.min_eq_left (by omega)]
theorem sk_min {l : Launch} {g : aG} {f : aFr} {y0 o : Nat} {Q : Option aV → aSt → aM → Prop} {X : Nat → aSt → aM → Prop} {p : Program} {e : Env} {R : Room} {s : State} {m : MethodId} {args : Array Value} {below : List Frame} {meth : Method} {c : Code} (hF : aFrm l g f y0 o p e R s m args below meth c) {pc i8 b : Nat} {k : aK} {z : aM} {ls : List (Option aV)} {st : List aV} {K : aK → aM → Nat → List (Option aV) → List aV → Prop}
    (hq : (o, i8, 7, b) ∈ aPms) (hd : decode (aMt y0).2.1 pc = .ok (.invokestatic i8, 3)) (h : aPrim f 7 (pc + 3) k z ls st K) (hK : ∀ k z pc ls st, K k z pc ls st → aBs l g f Q X p e R s m args below meth c k z pc ls st) : aBs l g f Q X p e R s m args below meth c k z pc ls st := by
  obtain ⟨⟨hx, hst, hb, hml, hown, hlk, hrt⟩, ⟨hKN, hbs, hold⟩, ⟨hex, hnm, hrk, hho, hhc⟩, hr1, hr2, hr3, hr4, hr5⟩ := hF
  have hw : ∀ w ∈ aPmW (o, i8, 7, b), w.before args s = true := fun w hw => aPm_w hq hw hKN args
  rcases st with _ | ⟨y1, st⟩
  · exact False.elim h
  · rcases y1 with y1 | y1 | y1 | y1
    · rcases st with _ | ⟨x1, st⟩
      · exact False.elim h
      · rcases x1 with x1 | x1 | x1 | x1
        · obtain ⟨⟨⟨hxr, hyr⟩, hsm, hd1⟩, h9⟩ := h
          intro hs hl hbd hlen H locs la hR hS hL
          refine W.eq (g2 := F0 m pc la (.int (iZ y1) :: .int (iZ x1) :: st.map (aC g))) rfl ?_
          have h8 := aSm_w (g := g) hsm
          refine va_mmin hx hb hL.1.symm hown (hw _ (List.mem_of_getElem? (i := 0) rfl)) (hw _ (List.mem_of_getElem? (i := 1) rfl)) (hw _ (List.mem_of_getElem? (i := 2) rfl)) (hw _ (List.mem_of_getElem? (i := 3) rfl)) (by omega) (by omega) (Nat.le_trans hbd.1 hr2) (Nat.le_trans hbd.2 hr3) hd ?_
          rw [iZ_min2 hxr hyr]
          exact hK _ _ _ _ _ h9 (aLv_c (w := .inl (min x1 y1)) trivial (aLv_tl (aLv_tl hs))) hl hbd hlen H locs la hR hS hL
        · exact False.elim h
        · exact False.elim h
        · exact False.elim h
    · exact False.elim h
    · exact False.elim h
    · exact False.elim h

theorem sk_acopy {l : Launch} {g : aG} {f : aFr} {y0 o : Nat} {Q : Option aV → aSt → aM → Prop} {X : Nat → aSt → aM → Prop} {p : Program} {e : Env} {R : Room} {s : State} {m : MethodId} {args : Array Value} {below : List Frame} {meth : Method} {c : Code} (hF : aFrm l g f y0 o p e R s m args below meth c) {pc i8 b : Nat} {k : aK} {z : aM} {ls : List (Option aV)} {st : List aV} {K : aK → aM → Nat → List (Option aV) → List aV → Prop}
    (hq : (o, i8, 8, b) ∈ aPms) (hd : decode (aMt y0).2.1 pc = .ok (.invokestatic i8, 3)) (h : aPrim f 8 (pc + 3) k z ls st K) (hK : ∀ k z pc ls st, K k z pc ls st → aBs l g f Q X p e R s m args below meth c k z pc ls st) : aBs l g f Q X p e R s m args below meth c k z pc ls st := by
  obtain ⟨⟨hx, hst, hb, hml, hown, hlk, hrt⟩, ⟨hKN, hbs, hold⟩, ⟨hex, hnm, hrk, hho, hhc⟩, hr1, hr2, hr3, hr4, hr5⟩ := hF
  have hw : ∀ w ∈ aPmW (o, i8, 8, b), w.before args s = true := fun w hw => aPm_w hq hw hKN args
  rcases st with _ | ⟨m1, st⟩
  · exact False.elim h
  · rcases m1 with m1 | m1 | m1 | m1
    · rcases st with _ | ⟨dp, st⟩
      · exact False.elim h
      · rcases dp with dp | dp | dp | dp
        · rcases st with _ | ⟨q2, st⟩
          · exact False.elim h
          · rcases q2 with q2 | q2 | q2 | q2
            · exact False.elim h
            · exact False.elim h
            · rcases st with _ | ⟨sp, st⟩
              · exact False.elim h
              · rcases sp with sp | sp | sp | sp
                · rcases st with _ | ⟨q1, st⟩
                  · exact False.elim h
                  · rcases q1 with q1 | q1 | q1 | q1
                    · exact False.elim h
                    · exact False.elim h
                    · have h0 : (match aSh q1, aSh q2 with
                        | .inr (0, mp), .inr (0, mq) => ((((0 ≤ m1 ∧ 0 ≤ sp) ∧ (0 ≤ dp ∧ (sp + m1 ≤ mp ∧ dp + m1 ≤ mq))) ∧ (aSml st = true ∧ 1 ≤ f.1)) ∧ k.1 = none) ∧ K k (aCp z q1 sp q2 dp m1) (pc + 3) ls st
                        | _, _ => False) := h
                      rcases hs1 : aSh q1 with ci | ⟨ty1, mp⟩
                      · rw [hs1] at h0; exact False.elim h0
                      rcases hs2 : aSh q2 with ci | ⟨ty2, mq⟩
                      · rw [hs1, hs2] at h0; revert h0; split <;> intro h0 <;> first | (next he => cases he) | exact h0.elim
                      rw [hs1, hs2] at h0
                      by_cases ht : ty1 = 0 ∧ ty2 = 0
                      · obtain ⟨rfl, rfl⟩ := ht
                        obtain ⟨⟨⟨⟨⟨a1, a2⟩, a3, a4, a5⟩, hsm, hd1⟩, hkn⟩, h9⟩ := h0
                        intro hs hl hbd hlen H locs la hR hS hL
                        obtain ⟨hp1, hc1⟩ := aLp_ar (hs (.inr (.inr (.inl q1))) (by simp)) hs1 (by decide)
                        obtain ⟨hp2, hc2⟩ := aLp_ar (hs (.inr (.inr (.inl q2))) (by simp)) hs2 (by decide)
                        have hb1 := aSh_r hp1 hs1
                        have hb2 := aSh_r hp2 hs2
                        refine W.eq (g2 := F0 m pc la (.int (iZ m1) :: .int (iZ dp) :: .ref (aAd g q2) :: .int (iZ sp) :: .ref (aAd g q1) :: st.map (aC g))) rfl ?_
                        have h8 := aSm_w (g := g) hsm
                        have hat1 := aWs_at (g := g) (z := z) hp1 hc1
                        have hat2 := aWs_at (g := g) (z := z) hp2 hc2
                        rw [aCe_a hs1] at hat1
                        rw [aCe_a hs2] at hat2
                        have n1 : ∀ x : Int, 0 ≤ x → x ≤ 2147483647 → ¬ iZ x < 0 := fun x h1 h2 => by rw [← iZ_0, iZ_lt ⟨by omega, h2⟩ ⟨by omega, by omega⟩]; omega
                        have c1 := iZ_cl (x := m1) a1 (by omega)
                        have c2 := iZ_cl (x := sp) a2 (by omega)
                        have c3 := iZ_cl (x := dp) a3 (by omega)
                        refine va_copyi hx hb hL.1.symm hown (hw _ (List.mem_of_getElem? (i := 0) rfl)) (hw _ (List.mem_of_getElem? (i := 1) rfl)) (hw _ (List.mem_of_getElem? (i := 2) rfl)) (hw _ (List.mem_of_getElem? (i := 3) rfl)) hKN.2.1 hR.1 aWs_D hS (aOff q1) (aOff q2) 0 0 (ty := .int) hat1 hat2 rfl rfl rfl (n1 sp a2 (by omega)) (n1 dp a3 (by omega)) (n1 m1 a1 (by omega)) (by rw [c1, c2]; omega) (by rw [c1, c3]; omega) (fun _ _ => rfl) (by omega) (by have h7 := aNfw; omega) hd (fun H1 locs1 hP1 hD1 hS1 => ?_)
                        have hRn : aRep g k.1 (aCp z q1 sp q2 dp m1) H1 := by
                          obtain ⟨b1, b2, b3, b4, b5⟩ := id hR
                          have hne : ∀ q : aP, q ≠ q2 → aCp z q1 sp q2 dp m1 q = z q := fun q hq => by funext j; unfold aCp; rw [if_neg (fun w => hq w.1)]
                          refine ⟨?_, fun q hq2 => ?_, ?_, Nat.le_trans hbs hS1.1, ?_⟩
                          · rw [← aWs_set (z' := aCp z q1 sp q2 dp m1) (s' := k.1) hp2 hc2 (aRep_cnt hR) rfl rfl (fun q hq => aCe_ne (fun j => congrFun (hne q hq) j))]
                            rw [aCe_a hs2]
                            have hf : (Sum.inl (va_cpy (fun k => iZ (z q1 (k : Int))) (fun k => iZ (z q2 (k : Int))) (iZ sp).toNatClampNeg (iZ dp).toNatClampNeg (iZ m1).toNatClampNeg) : (Nat → Int32) ⊕ (Nat → Int64) ⊕ (Nat → UInt32) ⊕ (Nat → UInt64) ⊕ (Nat → Option Nat)) = aAr g k.1 (aCp z q1 sp q2 dp m1) q2 0 := by
                              show _ = Sum.inl _
                              congr 1
                              funext j
                              rw [c1, c2, c3]
                              unfold va_cpy aCp
                              by_cases hj : dp.toNat ≤ j ∧ j < dp.toNat + m1.toNat
                              · rw [if_pos hj, if_pos ⟨rfl, by omega, by omega⟩]
                                have e1 : ((sp.toNat + (j - dp.toNat) : Nat) : Int) = sp + ((j : Int) - dp) := by omega
                                show iZ (z q1 ((sp.toNat + (j - dp.toNat) : Nat) : Int)) = _
                                rw [e1]
                              · rw [if_neg hj, if_neg (fun w => hj (by have h1 := w.2.1; have h2 := w.2.2; omega))]
                            rw [← hf]
                            exact hP1
                          · rw [hS1.2.1 q (Nat.lt_of_lt_of_le hq2 hbs) (Nat.not_le.mpr hq2)]
                            exact hold q hq2
                          · rw [hkn]; trivial
                          · obtain ⟨scr, d1, d2, d3⟩ := b5
                            exact ⟨scr, d1, d2, fun j hj => by rw [congrFun (hne _ (aLk_31 hp2)) _]; exact d3 j hj⟩
                        exact hK _ _ _ _ _ h9 (aLv_tl (aLv_tl (aLv_tl (aLv_tl (aLv_tl hs))))) hl hbd hlen H1 locs1 la hRn hS1 hL
                      · exfalso
                        revert h0
                        split
                        · next he1 he2 => intro _; cases he1; cases he2; exact ht ⟨rfl, rfl⟩
                        · exact id
                    · exact False.elim h
                · exact False.elim h
                · exact False.elim h
                · exact False.elim h
            · exact False.elim h
        · exact False.elim h
        · exact False.elim h
        · exact False.elim h
    · exact False.elim h
    · exact False.elim h
    · exact False.elim h

