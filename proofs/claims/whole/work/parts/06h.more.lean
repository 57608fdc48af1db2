/-! THE JVM KEEPS TO THE STEP: arrays of references, switches, returns (heads printed by wip/whole/sound4.py) -/
theorem aTn {g : aG} {ty : Nat} (h : ty = 2 ∨ ty = 3) : ∃ C, (aTyl g)[ty]? = some (g.2.1 ty, .object C) ∧ ∀ s z p, aAr g s z p ty = .inr (.inr (.inr (.inr (fun k => aRv g s p (k : Int))))) := by
  rcases h with rfl | rfl
  · exact ⟨_, rfl, fun _ _ _ => rfl⟩
  · exact ⟨_, rfl, fun _ _ _ => rfl⟩
theorem sk_aaload {l : Launch} {g : aG} {f : aFr} {y o : Nat} {Q : Option aV → aSt → aM → Prop} {X : Nat → aSt → aM → Prop} {p : Program} {e : Env} {R : Room} {s : State} {m : MethodId} {args : Array Value} {below : List Frame} {meth : Method} {c : Code} (hF : aFrm l g f y o p e R s m args below meth c) {pc n t a b : Nat} {sw : List (Int × Nat)}  (hI : aOk y o (aMt y).2.1 pc (.aaload, n, t, a, b, sw) = true) {k : aK} {z : aM} {ls : List (Option aV)} {st : List aV} {K : aK → aM → Nat → List (Option aV) → List aV → Prop} (h : stp l g f Q X pc (.aaload, n, t, a, b, sw) k z ls st K) (hK : ∀ k z pc ls st, K k z pc ls st → aBs l g f Q X p e R s m args below meth c k z pc ls st) : aBs l g f Q X p e R s m args below meth c k z pc ls st := by
  obtain ⟨⟨hx, hst, hb, hml, hown, hlk, hrt⟩, ⟨hKN, hbs, hold⟩, ⟨hex, hnm, hrk, hho, hhc⟩, hr1, hr2, hr3, hr4, hr5⟩ := hF
  obtain ⟨hd, rfl, h2⟩ := aOk_d hI (by first | decide | (intro q; cases q))
  rcases st with _ | ⟨i1, st⟩
  · exact False.elim h
  rcases i1 with i1 | i1 | i1 | i1
  · rcases st with _ | ⟨q1, st⟩
    · exact False.elim h
    rcases q1 with q1 | q1 | q1 | q1
    · exact False.elim h
    · exact False.elim h
    · have h0 := h
      unfold stp at h0
      simp only at h0
      rcases hsh : aSh q1 with ci | ⟨ty, m1⟩
      · rw [hsh] at h0; exact False.elim h0
      rw [hsh] at h0
      simp only at h0
      obtain ⟨⟨h01, h02, hty⟩, h9⟩ := h0
      intro hs hl hbd hlen H locs la hR hS hL
      obtain ⟨hp, hc⟩ := aLp_ar (hs (.inr (.inr (.inl q1))) (List.mem_cons_of_mem _ List.mem_cons_self)) hsh (by omega)
      have hb9 := aSh_r hp hsh
      obtain ⟨C, htl, har⟩ := aTn (g := g) hty
      refine W.eq (g2 := F0 m pc la (.int (iZ i1) :: .ref (aAd g q1) :: st.map (aC g))) rfl ?_
      have hat := aWs_at (g := g) (z := z) hp hc
      rw [aCe_a hsh, har] at hat
      refine va_aldq hx hb hKN.2.1 hR.1 (aOff q1) ty hat htl (iZ_in h01 h02 (by omega)) hd ?_
      rw [iZ_cl h01 (by omega), Int.toNat_of_nonneg h01]
      have key : aLp k.1 (aRf q1 i1) → aRv g k.1 q1 i1 = some (aAd g (aRf q1 i1)) → K k z (pc + 1) ls (.inr (.inr (.inl (aRf q1 i1))) :: st) → W p l e R s m args below meth c H locs k.2.1 k.2.2 (vx_MQ below (aQ g Q) (aX g X) args s f.2.1 f.2.2.1 (aA g)) (F0 m (pc + 1) la (va_rf (aRv g k.1 q1 i1) :: st.map (aC g))) := by
        intro hw he h99
        rw [he]
        exact hK _ _ _ _ _ h99 (aLv_c (w := .inr (.inr (.inl (aRf q1 i1)))) hw (aLv_tl (aLv_tl hs))) hl hbd hlen H locs la hR hS hL
      obtain ⟨sta, u9, v9⟩ := k
      rcases sta with _ | ⟨cnt, r⟩
      · exact key (aRefA_lv hp hsh hty h01 h02 (Or.inl rfl)) rfl h9
      · obtain ⟨⟨ha1, ha2⟩, h00⟩ := h9
        exact key (aRefA_lv (s := some (cnt, r)) hp hsh hty h01 h02 (Or.inr ha2)) (aRv_eq (s := some (cnt, r)) ha1) h00
    · exact False.elim h
  · exact False.elim h
  · exact False.elim h
  · exact False.elim h

theorem sk_arraylength {l : Launch} {g : aG} {f : aFr} {y o : Nat} {Q : Option aV → aSt → aM → Prop} {X : Nat → aSt → aM → Prop} {p : Program} {e : Env} {R : Room} {s : State} {m : MethodId} {args : Array Value} {below : List Frame} {meth : Method} {c : Code} (hF : aFrm l g f y o p e R s m args below meth c) {pc n t a b : Nat} {sw : List (Int × Nat)}  (hI : aOk y o (aMt y).2.1 pc (.arraylength, n, t, a, b, sw) = true) {k : aK} {z : aM} {ls : List (Option aV)} {st : List aV} {K : aK → aM → Nat → List (Option aV) → List aV → Prop} (h : stp l g f Q X pc (.arraylength, n, t, a, b, sw) k z ls st K) (hK : ∀ k z pc ls st, K k z pc ls st → aBs l g f Q X p e R s m args below meth c k z pc ls st) : aBs l g f Q X p e R s m args below meth c k z pc ls st := by
  obtain ⟨⟨hx, hst, hb, hml, hown, hlk, hrt⟩, ⟨hKN, hbs, hold⟩, ⟨hex, hnm, hrk, hho, hhc⟩, hr1, hr2, hr3, hr4, hr5⟩ := hF
  obtain ⟨hd, rfl, h2⟩ := aOk_d hI (by first | decide | (intro q; cases q))
  rcases st with _ | ⟨q1, st⟩
  · exact False.elim h
  rcases q1 with q1 | q1 | q1 | q1
  · exact False.elim h
  · exact False.elim h
  · obtain ⟨rfl, h9⟩ := h
    intro hs hl hbd hlen H locs la hR hS hL
    refine W.eq (g2 := F0 m pc la (.ref g.2.2.2.2.1 :: st.map (aC g))) rfl ?_
    obtain ⟨scr, c1, c2, c3⟩ := hR.2.2.2.2
    obtain ⟨scr2, d1, d2, d3⟩ := hKN.2.2.2.2.2.2.2.2.2.2
    obtain rfl : scr2 = scr := Option.some.inj (d1.symm.trans c1)
    have hbl : g.2.2.2.2.1 < aBase g := (Array.getElem?_eq_some_iff.mp c1).1
    have hX : va_X g.2.2.2.2.1 g.2.2.2.2.2 (fun j => iZ (z (31, 0, 0) (j : Int))) s s.heap := ⟨scr2, by rw [hold _ hbl]; exact c1, d2, d3, c2, c3⟩
    refine va_slen hx hb hX (Nat.lt_of_lt_of_le hbl hbs) (Nat.not_le.mpr hbl) hS hd ?_
    have e : nI g.2.2.2.2.2 = iZ (g.2.2.2.2.2 : Int) := by rw [iZ_nat (Int.natCast_nonneg _), Int.toNat_natCast]
    have h99 := hK _ _ _ _ _ h9 (aLv_c (w := .inl (g.2.2.2.2.2 : Int)) trivial (aLv_tl hs)) hl hbd hlen H locs la hR hS hL
    first | (rw [e]; exact h99) | exact h99
  · exact False.elim h

theorem sk_aastore {l : Launch} {g : aG} {f : aFr} {y o : Nat} {Q : Option aV → aSt → aM → Prop} {X : Nat → aSt → aM → Prop} {p : Program} {e : Env} {R : Room} {s : State} {m : MethodId} {args : Array Value} {below : List Frame} {meth : Method} {c : Code} (hF : aFrm l g f y o p e R s m args below meth c) {pc n t a b : Nat} {sw : List (Int × Nat)}  (hI : aOk y o (aMt y).2.1 pc (.aastore, n, t, a, b, sw) = true) {k : aK} {z : aM} {ls : List (Option aV)} {st : List aV} {K : aK → aM → Nat → List (Option aV) → List aV → Prop} (h : stp l g f Q X pc (.aastore, n, t, a, b, sw) k z ls st K) (hK : ∀ k z pc ls st, K k z pc ls st → aBs l g f Q X p e R s m args below meth c k z pc ls st) : aBs l g f Q X p e R s m args below meth c k z pc ls st := by
  obtain ⟨⟨hx, hst, hb, hml, hown, hlk, hrt⟩, ⟨hKN, hbs, hold⟩, ⟨hex, hnm, hrk, hho, hhc⟩, hr1, hr2, hr3, hr4, hr5⟩ := hF
  obtain ⟨hd, rfl, h2⟩ := aOk_d hI (by first | decide | (intro q; cases q))
  rcases st with _ | ⟨q2, st⟩
  · exact False.elim h
  rcases q2 with q2 | q2 | q2 | q2
  · exact False.elim h
  · exact False.elim h
  · rcases st with _ | ⟨i1, st⟩
    · exact False.elim h
    rcases i1 with i1 | i1 | i1 | i1
    · rcases st with _ | ⟨q1, st⟩
      · exact False.elim h
      rcases q1 with q1 | q1 | q1 | q1
      · exact False.elim h
      · exact False.elim h
      · have h0 := h
        unfold stp at h0
        simp only at h0
        rcases hsh : aSh q1 with ci | ⟨ty, m1⟩
        · rw [hsh] at h0; exact False.elim h0
        rw [hsh] at h0
        obtain ⟨sta, u9, v9⟩ := k
        rcases sta with _ | ⟨cnt, r⟩
        · exact False.elim h0
        obtain ⟨⟨⟨h01, h02⟩, hty, rfl⟩, h9⟩ := h0
        intro hs hl hbd hlen H locs la hR hS hL
        obtain ⟨hp, hc⟩ := aLp_ar (hs (.inr (.inr (.inl q1))) (List.mem_cons_of_mem _ (List.mem_cons_of_mem _ List.mem_cons_self))) hsh (by omega)
        have hb9 := aSh_r hp hsh
        have hlq : aLp (some (cnt, r)) (aRf q1 i1) := hs (.inr (.inr (.inl (aRf q1 i1)))) List.mem_cons_self
        obtain ⟨C, htl, har⟩ := aTn (g := g) hty
        refine W.eq (g2 := F0 m pc la (.ref (aAd g (aRf q1 i1)) :: .int (iZ i1) :: .ref (aAd g q1) :: st.map (aC g))) rfl ?_
        -- the thing that is put is an object of the array's class
        obtain ⟨ci, hsq, hrn⟩ : ∃ ci, aSh (aRf q1 i1) = .inl ci ∧ (aTyl g)[ty]? = some (g.2.1 ty, .object (aRn ci)) ∧ ci < 8 := by
          obtain ⟨kd, a9, b9⟩ := q1
          rcases hty with rfl | rfl
          · have hk : kd = 4 := by
              revert hsh
              simp only [aSh]
              split <;> intro hh <;> first | rfl | cases hh | (revert hh; split <;> intro hh <;> cases hh)
            subst hk
            exact ⟨4, rfl, rfl, by decide⟩
          · have hk : kd = 8 := by
              revert hsh
              simp only [aSh]
              split <;> intro hh <;> first | rfl | cases hh | (revert hh; split <;> intro hh <;> cases hh)
            subst hk
            exact ⟨5, rfl, rfl, by decide⟩
        obtain ⟨hq1, hq2⟩ := aLp_in hlq (by rw [hsq]; intro q; cases q)
        have hatq := aWs_at (g := g) (z := z) hq1 hq2
        rw [aCe_o hsq] at hatq
        obtain ⟨r', hr', cellV, g1, g2, g3, -⟩ := hR.1 _ _ hatq
        have hcell := aArr hR hp hc hsh
        have hcls := (hKN.2.1.1 ci _ (aCl_at ci hrn.2)).2
        obtain ⟨kA, comp, k1, k2, k3, -⟩ := (hKN.2.1.2 ty _ hrn.1).2
        have hcomp : comp = g.1.1 ci := Option.some.inj (k3.symm.trans hcls.1)
        subst hcomp
        obtain ⟨kC, hkC, -⟩ := hcls.2
        refine W.aast hx hb hcell (fun q h => by cases h) (fun h => by cases h) k1 k2 rfl hkC ⟨fun q => (aAin (cA := g.2.1 ty) (f := fun _ => .null) h01 h02 (by omega)) (Or.inl q), ?_⟩ g1 (fun q h => by rw [g3] at h; cases h) (by rw [g2]; exact hkC) (by rw [g2]; exact va_assign hcls) rfl rfl hd (fun H1 e1 e2 e3 => ?_)
        · show _ < (arrV _ _ _).slots.size
          rw [arrV_size, iZ_cl h01 (by omega)]
          omega
        rw [iZ_cl h01 (by omega)] at e1 ⊢
        have hav : ∀ s z j, aAv g s z q1 ty j = va_rf (aRv g s q1 (j : Int)) := fun s z j => by rcases hty with rfl | rfl <;> rfl
        have hRn : aRep g (some (cnt, aBt r q1 i1)) z H1 := by
          refine aSto hR hp hc hsh (Or.inr ⟨cnt, r, _, rfl, rfl⟩) ?_ (fun j hj => ?_) (fun q hq => aCe_bt hq) (fun j => rfl) e1 e2 e3
          · rw [hav, Int.toNat_of_nonneg h01, aRv_eq (s := some (cnt, aBt r q1 i1)) (by unfold aBt; exact if_pos ⟨rfl, rfl⟩)]
            rfl
          · rw [hav, hav]
            have e : aBt r q1 i1 q1 (j : Int) = r q1 (j : Int) := by unfold aBt; rw [if_neg (fun w => hj (by omega))]
            unfold aRv
            simp only [e]
        exact hK _ _ _ _ _ h9 (aCl_st (s := some (cnt, r)) rfl (aLv_tl (aLv_tl (aLv_tl hs)))) (aCl_ls (s := some (cnt, r)) rfl hl) hbd hlen H1 _ la hRn (hS.put e2 e3 (aAd_A hp)) hL
      · exact False.elim h
    · exact False.elim h
    · exact False.elim h
    · exact False.elim h
  · exact False.elim h

theorem aSwk_at {pc : Nat} : ∀ (os : List Int) (sw : List (Int × Nat)) (lo x : Int) (t : Nat) (K : Nat → Prop), aSwk pc lo os sw = true → aSw x K t sw → (∀ j : Nat, j < os.length → x = lo + (j : Int) → ∃ (o : Int) (t' : Nat), os[j]? = some o ∧ (pc : Int) + o = (t' : Int) ∧ K t') ∧ ((x < lo ∨ lo + (os.length : Int) ≤ x) → K t)
  | [], [], lo, x, t, K, _, h => ⟨fun j hj => absurd hj (Nat.not_lt_zero _), fun _ => h⟩
  | [], _ :: _, _, _, _, _, h, _ => by cases h
  | _ :: _, [], _, _, _, _, h, _ => by cases h
  | o :: os, (v, t') :: r, lo, x, t, K, h, hK => by
    simp only [aSwk, Bool.and_eq_true, decide_eq_true_eq] at h
    obtain ⟨rfl, h2, h3⟩ := h
    obtain ⟨k1, k2⟩ := hK
    refine ⟨fun j hj hx => ?_, fun hx => ?_⟩
    · cases j with
      | zero => exact ⟨o, t', rfl, h2, k1 (by omega)⟩
      | succ j =>
        obtain ⟨a1, a2⟩ := aSwk_at os r (v + 1) x t K h3 (k2 (by omega))
        obtain ⟨o', t'', b1, b2, b3⟩ := a1 j (by simpa using hj) (by omega)
        exact ⟨o', t'', by rw [List.getElem?_cons_succ]; exact b1, b2, b3⟩
    · obtain ⟨a1, a2⟩ := aSwk_at os r (v + 1) x t K h3 (k2 (by simp only [List.length_cons] at hx; omega))
      refine a2 ?_
      simp only [List.length_cons] at hx
      omega
theorem sk_tableswitch {l : Launch} {g : aG} {f : aFr} {y o : Nat} {Q : Option aV → aSt → aM → Prop} {X : Nat → aSt → aM → Prop} {p : Program} {e : Env} {R : Room} {s : State} {m : MethodId} {args : Array Value} {below : List Frame} {meth : Method} {c : Code} (hF : aFrm l g f y o p e R s m args below meth c) {pc n t a b : Nat} {sw : List (Int × Nat)} {d8 lo8 hi8 : Int} {offs8 : Array Int} (hI : aOk y o (aMt y).2.1 pc (.tableswitch d8 lo8 hi8 offs8, n, t, a, b, sw) = true) {k : aK} {z : aM} {ls : List (Option aV)} {st : List aV} {K : aK → aM → Nat → List (Option aV) → List aV → Prop} (h : stp l g f Q X pc (.tableswitch d8 lo8 hi8 offs8, n, t, a, b, sw) k z ls st K) (hK : ∀ k z pc ls st, K k z pc ls st → aBs l g f Q X p e R s m args below meth c k z pc ls st) : aBs l g f Q X p e R s m args below meth c k z pc ls st := by
  obtain ⟨⟨hx, hst, hb, hml, hown, hlk, hrt⟩, ⟨hKN, hbs, hold⟩, ⟨hex, hnm, hrk, hho, hhc⟩, hr1, hr2, hr3, hr4, hr5⟩ := hF
  simp only [aOk, aOk2, Bool.and_eq_true, Bool.or_eq_true, decide_eq_true_eq] at hI
  obtain ⟨hd, -, ht, hhi, hrg, hsw⟩ := hI
  rcases st with _ | ⟨x1, st⟩
  · exact False.elim h
  rcases x1 with x1 | x1 | x1 | x1
  · obtain ⟨hxr, h9⟩ := h
    intro hs hl hbd hlen H locs la hR hS hL
    refine W.eq (g2 := F0 m pc la (.int (iZ x1) :: st.map (aC g))) rfl ?_
    obtain ⟨a1, a2⟩ := aSwk_at _ _ _ _ _ _ hsw h9
    have hln : offs8.toList.length = offs8.size := Array.length_toList
    by_cases hq : x1 < lo8 ∨ hi8 < x1
    · refine lv_tableOut (tgt := t) hx hb hd (by rw [iZ_to hxr]; exact hq) ht ?_
      exact hK _ _ _ _ _ (a2 (by omega)) (aLv_tl hs) hl hbd hlen H locs la hR hS hL
    · obtain ⟨o', t', b1, b2, b3⟩ := a1 (x1 - lo8).toNat (by omega) (by omega)
      refine lv_tableIn (off := o') (tgt := t') hx hb hd (by rw [iZ_to hxr]; omega) (by rw [iZ_to hxr]; omega) (by rw [iZ_to hxr, ← Array.getElem?_toList]; exact b1) b2 ?_
      exact hK _ _ _ _ _ b3 (aLv_tl hs) hl hbd hlen H locs la hR hS hL
  · exact False.elim h
  · exact False.elim h
  · exact False.elim h

theorem aRk_1 {r : Option FieldType} (h : aRk r = 1) : r = some .int := by
  unfold aRk at h; split at h <;> first | rfl | cases h
theorem aRk_2 {r : Option FieldType} (h : aRk r = 2) : r = some .boolean := by
  unfold aRk at h; split at h <;> first | rfl | cases h
theorem aRk_3 {r : Option FieldType} (h : aRk r = 3) : r = some .char := by
  unfold aRk at h; split at h <;> first | rfl | cases h
theorem aRk_4 {r : Option FieldType} (h : aRk r = 4) : ∃ n, r = some (.object n) := by
  unfold aRk at h; split at h <;> first | exact ⟨_, rfl⟩ | cases h
theorem aRk_5 {r : Option FieldType} (h : aRk r = 5) : r = some .double := by
  unfold aRk at h; split at h <;> first | rfl | cases h
theorem aRk_6 {r : Option FieldType} (h : aRk r = 6) : r = some .float := by
  unfold aRk at h; split at h <;> first | rfl | cases h
theorem aRk_0 {r : Option FieldType} (h : aRk r = 0) : r = none := by
  unfold aRk at h; split at h <;> first | rfl | cases h
theorem aLq {g : aG} {l : List Loc} {s : State} {H : Heap} (h : va_S (aA g) s.heap H l) : ∀ q ∈ l, aA g q.base := h.2.2
theorem sk_ireturn {l : Launch} {g : aG} {f : aFr} {y o : Nat} {Q : Option aV → aSt → aM → Prop} {X : Nat → aSt → aM → Prop} {p : Program} {e : Env} {R : Room} {s : State} {m : MethodId} {args : Array Value} {below : List Frame} {meth : Method} {c : Code} (hF : aFrm l g f y o p e R s m args below meth c) {pc n t a b : Nat} {sw : List (Int × Nat)}  (hI : aOk y o (aMt y).2.1 pc (.ireturn, n, t, a, b, sw) = true) {k : aK} {z : aM} {ls : List (Option aV)} {st : List aV} {K : aK → aM → Nat → List (Option aV) → List aV → Prop} (h : stp l g f Q X pc (.ireturn, n, t, a, b, sw) k z ls st K) (hK : ∀ k z pc ls st, K k z pc ls st → aBs l g f Q X p e R s m args below meth c k z pc ls st) : aBs l g f Q X p e R s m args below meth c k z pc ls st := by
  obtain ⟨⟨hx, hst, hb, hml, hown, hlk, hrt⟩, ⟨hKN, hbs, hold⟩, ⟨hex, hnm, hrk, hho, hhc⟩, hr1, hr2, hr3, hr4, hr5⟩ := hF
  obtain ⟨hd, rfl, h2⟩ := aOk_d hI (by first | decide | (intro q; cases q))
  rcases st with _ | ⟨x1, st⟩
  · exact False.elim h
  rcases x1 with x1 | x1 | x1 | x1
  · rcases st with _ | ⟨w9, st⟩
    · have h0 := h
      unfold stp at h0
      simp only at h0
      have key : ∀ ty, (aMt y).2.2.2.1 = some ty → narrow ty (.int (iZ x1)) = .int (iZ x1) → Q (some (.inl x1)) k.1 z → aBs l g f Q X p e R s m args below meth c k z pc ls [.inl x1] := by
        intro ty hty hn hq hs hl hbd hlen H locs la hR hS hL
        refine W.widen (k := f.2.1) (n := f.2.2.1) hbd.1 hbd.2 (vx_ret ?_)
        exact W.zret (v := iZ x1) hx hb (hrt.trans hty) hn (fun t ht hW => ⟨some (.inl x1), k.1, z, rfl, fun v hv => by cases hv; trivial, hq, by rw [ht]; exact hR, hS.F ht⟩) hS.2.2 hd hlk
      split at h0
      · next he => exact key .int (aRk_1 (hrk.trans he)) rfl h0
      · next he => exact key .boolean (aRk_2 (hrk.trans he)) (by rcases h0.1 with rfl | rfl <;> rfl) h0.2
      · next he => exact key .char (aRk_3 (hrk.trans he)) (by rw [aNc, Int.emod_eq_of_lt h0.1.1 (by omega)]) h0.2
      · exact False.elim h0
    · exact False.elim h
  · exact False.elim h
  · exact False.elim h
  · exact False.elim h

theorem sk_areturn {l : Launch} {g : aG} {f : aFr} {y o : Nat} {Q : Option aV → aSt → aM → Prop} {X : Nat → aSt → aM → Prop} {p : Program} {e : Env} {R : Room} {s : State} {m : MethodId} {args : Array Value} {below : List Frame} {meth : Method} {c : Code} (hF : aFrm l g f y o p e R s m args below meth c) {pc n t a b : Nat} {sw : List (Int × Nat)}  (hI : aOk y o (aMt y).2.1 pc (.areturn, n, t, a, b, sw) = true) {k : aK} {z : aM} {ls : List (Option aV)} {st : List aV} {K : aK → aM → Nat → List (Option aV) → List aV → Prop} (h : stp l g f Q X pc (.areturn, n, t, a, b, sw) k z ls st K) (hK : ∀ k z pc ls st, K k z pc ls st → aBs l g f Q X p e R s m args below meth c k z pc ls st) : aBs l g f Q X p e R s m args below meth c k z pc ls st := by
  obtain ⟨⟨hx, hst, hb, hml, hown, hlk, hrt⟩, ⟨hKN, hbs, hold⟩, ⟨hex, hnm, hrk, hho, hhc⟩, hr1, hr2, hr3, hr4, hr5⟩ := hF
  obtain ⟨hd, rfl, h2⟩ := aOk_d hI (by first | decide | (intro q; cases q))
  have h0 := h
  unfold stp at h0
  simp only at h0
  split at h0
  · next x1 =>
    rcases hrk9 : Nat.beq f.2.2.2.1 4 with _ | _
    · rw [hrk9] at h0; exact False.elim h0
    rw [hrk9] at h0
    have hre : f.2.2.2.1 = 4 := Nat.eq_of_beq_eq_true hrk9
    intro hs hl hbd hlen H locs la hR hS hL
    refine W.widen (k := f.2.1) (n := f.2.2.1) hbd.1 hbd.2 (vx_ret ?_)
    obtain ⟨nm, hnm9⟩ := aRk_4 (hrk.trans hre)
    exact W.aret (v := .ref (aAd g x1)) hx hb (hrt.trans hnm9) (Or.inl ⟨_, rfl⟩) (Or.inr ⟨_, rfl⟩) (fun t ht hW => ⟨some (.inr (.inr (.inl x1))), k.1, z, rfl, fun v hv => by cases hv; exact hs _ List.mem_cons_self, h0, by rw [ht]; exact hR, hS.F ht⟩) hS.2.2 hd hlk
  · exact False.elim h0

theorem sk_dreturn {l : Launch} {g : aG} {f : aFr} {y o : Nat} {Q : Option aV → aSt → aM → Prop} {X : Nat → aSt → aM → Prop} {p : Program} {e : Env} {R : Room} {s : State} {m : MethodId} {args : Array Value} {below : List Frame} {meth : Method} {c : Code} (hF : aFrm l g f y o p e R s m args below meth c) {pc n t a b : Nat} {sw : List (Int × Nat)}  (hI : aOk y o (aMt y).2.1 pc (.dreturn, n, t, a, b, sw) = true) {k : aK} {z : aM} {ls : List (Option aV)} {st : List aV} {K : aK → aM → Nat → List (Option aV) → List aV → Prop} (h : stp l g f Q X pc (.dreturn, n, t, a, b, sw) k z ls st K) (hK : ∀ k z pc ls st, K k z pc ls st → aBs l g f Q X p e R s m args below meth c k z pc ls st) : aBs l g f Q X p e R s m args below meth c k z pc ls st := by
  obtain ⟨⟨hx, hst, hb, hml, hown, hlk, hrt⟩, ⟨hKN, hbs, hold⟩, ⟨hex, hnm, hrk, hho, hhc⟩, hr1, hr2, hr3, hr4, hr5⟩ := hF
  obtain ⟨hd, rfl, h2⟩ := aOk_d hI (by first | decide | (intro q; cases q))
  have h0 := h
  unfold stp at h0
  simp only at h0
  split at h0
  · next x1 =>
    rcases hrk9 : Nat.beq f.2.2.2.1 5 with _ | _
    · rw [hrk9] at h0; exact False.elim h0
    rw [hrk9] at h0
    have hre : f.2.2.2.1 = 5 := Nat.eq_of_beq_eq_true hrk9
    intro hs hl hbd hlen H locs la hR hS hL
    refine W.widen (k := f.2.1) (n := f.2.2.1) hbd.1 hbd.2 (vx_ret ?_)
    exact W.dret (v := x1) hx hb (hrt.trans (aRk_5 (hrk.trans hre))) (fun t ht hW => ⟨some (.inr (.inr (.inr (.double x1)))), k.1, z, rfl, fun v hv => by cases hv; trivial, h0, by rw [ht]; exact hR, hS.F ht⟩) hS.2.2 hd hlk
  · exact False.elim h0

theorem sk_freturn {l : Launch} {g : aG} {f : aFr} {y o : Nat} {Q : Option aV → aSt → aM → Prop} {X : Nat → aSt → aM → Prop} {p : Program} {e : Env} {R : Room} {s : State} {m : MethodId} {args : Array Value} {below : List Frame} {meth : Method} {c : Code} (hF : aFrm l g f y o p e R s m args below meth c) {pc n t a b : Nat} {sw : List (Int × Nat)}  (hI : aOk y o (aMt y).2.1 pc (.freturn, n, t, a, b, sw) = true) {k : aK} {z : aM} {ls : List (Option aV)} {st : List aV} {K : aK → aM → Nat → List (Option aV) → List aV → Prop} (h : stp l g f Q X pc (.freturn, n, t, a, b, sw) k z ls st K) (hK : ∀ k z pc ls st, K k z pc ls st → aBs l g f Q X p e R s m args below meth c k z pc ls st) : aBs l g f Q X p e R s m args below meth c k z pc ls st := by
  obtain ⟨⟨hx, hst, hb, hml, hown, hlk, hrt⟩, ⟨hKN, hbs, hold⟩, ⟨hex, hnm, hrk, hho, hhc⟩, hr1, hr2, hr3, hr4, hr5⟩ := hF
  obtain ⟨hd, rfl, h2⟩ := aOk_d hI (by first | decide | (intro q; cases q))
  have h0 := h
  unfold stp at h0
  simp only at h0
  split at h0
  · next x1 =>
    rcases hrk9 : Nat.beq f.2.2.2.1 6 with _ | _
    · rw [hrk9] at h0; exact False.elim h0
    rw [hrk9] at h0
    have hre : f.2.2.2.1 = 6 := Nat.eq_of_beq_eq_true hrk9
    intro hs hl hbd hlen H locs la hR hS hL
    refine W.widen (k := f.2.1) (n := f.2.2.1) hbd.1 hbd.2 (vx_ret ?_)
    exact W.fret (v := x1) hx hb (hrt.trans (aRk_6 (hrk.trans hre))) (fun t ht hW => ⟨some (.inr (.inr (.inr (.float x1)))), k.1, z, rfl, fun v hv => by cases hv; trivial, h0, by rw [ht]; exact hR, hS.F ht⟩) hS.2.2 hd hlk
  · exact False.elim h0

theorem sk_return_ {l : Launch} {g : aG} {f : aFr} {y o : Nat} {Q : Option aV → aSt → aM → Prop} {X : Nat → aSt → aM → Prop} {p : Program} {e : Env} {R : Room} {s : State} {m : MethodId} {args : Array Value} {below : List Frame} {meth : Method} {c : Code} (hF : aFrm l g f y o p e R s m args below meth c) {pc n t a b : Nat} {sw : List (Int × Nat)}  (hI : aOk y o (aMt y).2.1 pc (.return_, n, t, a, b, sw) = true) {k : aK} {z : aM} {ls : List (Option aV)} {st : List aV} {K : aK → aM → Nat → List (Option aV) → List aV → Prop} (h : stp l g f Q X pc (.return_, n, t, a, b, sw) k z ls st K) (hK : ∀ k z pc ls st, K k z pc ls st → aBs l g f Q X p e R s m args below meth c k z pc ls st) : aBs l g f Q X p e R s m args below meth c k z pc ls st := by
  obtain ⟨⟨hx, hst, hb, hml, hown, hlk, hrt⟩, ⟨hKN, hbs, hold⟩, ⟨hex, hnm, hrk, hho, hhc⟩, hr1, hr2, hr3, hr4, hr5⟩ := hF
  obtain ⟨hd, rfl, h2⟩ := aOk_d hI (by first | decide | (intro q; cases q))
  have h0 := h
  unfold stp at h0
  simp only at h0
  split at h0
  · skip
    rcases hrk9 : Nat.beq f.2.2.2.1 0 with _ | _
    · rw [hrk9] at h0; exact False.elim h0
    rw [hrk9] at h0
    have hre : f.2.2.2.1 = 0 := Nat.eq_of_beq_eq_true hrk9
    intro hs hl hbd hlen H locs la hR hS hL
    refine W.widen (k := f.2.1) (n := f.2.2.1) hbd.1 hbd.2 (vx_ret ?_)
    exact W.vret hx hb (hrt.trans (aRk_0 (hrk.trans hre))) (fun t ht hW => ⟨none, k.1, z, rfl, fun v hv => (by cases hv), h0, by rw [ht]; exact hR, hS.F ht⟩) hS.2.2 hd hlk
  · exact False.elim h0

