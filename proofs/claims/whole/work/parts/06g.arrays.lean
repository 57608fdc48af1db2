/-! THE JVM KEEPS TO THE STEP: arrays (heads printed by wip/whole/sound3.py) -/
def aAv (g : aG) (s : aSt) (z : aM) (p : aP) (ty : Nat) : Nat → Value := fun k => match ty with
  | 0 => .int (iZ (z p (k : Int)))
  | 1 => .int (iZ (z p (k : Int)))
  | 4 => .long (lZ (z p (k : Int)))
  | 5 => .double (UInt64.ofNat (z p (k : Int)).toNat)
  | _ => va_rf (aRv g s p (k : Int))
theorem aNc (x : Int) : narrow .char (.int (iZ x)) = .int (iZ (x % 65536)) := by
  rw [← iZ_i2c x]
  rfl
theorem aCe_a {g : aG} {s : aSt} {z : aM} {p : aP} {ty : Nat} {m : Int} (h : aSh p = .inr (ty, m)) : aCe g s z p = .inl (g.2.1 ty, (m.toNat, aAr g s z p ty)) := by unfold aCe; rw [h]
theorem aVp {g : aG} {D : va_G} {s : aSt} {z : aM} {p : aP} {ty : Nat} {m : Int} {q : Nat} {H : Heap} (h : aSh p = .inr (ty, m)) : va_at D aCl (q, aCe g s z p) H ↔ H[q]? = some (arrV (g.2.1 ty) m.toNat (aAv g s z p ty)) := by
  rw [aCe_a h]
  show H[q]? = some (vp_cell _ _) ↔ _
  have e : vp_cell (g.2.1 ty) (m.toNat, aAr g s z p ty) = arrV (g.2.1 ty) m.toNat (aAv g s z p ty) := by
    match ty with
    | 0 => rfl
    | 1 => rfl
    | 2 => rfl
    | 3 => rfl
    | 4 => rfl
    | 5 => rfl
    | n + 6 => rfl
  rw [e]
theorem aArr {g : aG} {s : aSt} {z : aM} {p : aP} {ty : Nat} {m : Int} {H : Heap} (hR : aRep g s z H) (hp : aAll[aOff p]? = some p) (hc : aOff p < aCnt s) (h : aSh p = .inr (ty, m)) : H[aAd g p]? = some (arrV (g.2.1 ty) m.toNat (aAv g s z p ty)) := (aVp h).mp (hR.1 _ _ (aWs_at hp hc))
theorem aSto {g : aG} {s s' : aSt} {z z' : aM} {p : aP} {ty : Nat} {m i : Int} {w : Value} {H H1 : Heap} (hR : aRep g s z H) (hp : aAll[aOff p]? = some p) (hc : aOff p < aCnt s) (h : aSh p = .inr (ty, m)) (hs' : s' = s ∨ ∃ n r r', s = some (n, r) ∧ s' = some (n, r'))
    (hw : w = aAv g s' z' p ty i.toNat) (ho1 : ∀ j : Nat, j ≠ i.toNat → aAv g s' z' p ty j = aAv g s z p ty j) (ho2 : ∀ q : aP, q ≠ p → aCe g s' z' q = aCe g s z q) (h31 : ∀ j, z' (31, 0, 0) j = z (31, 0, 0) j)
    (e1 : H1[aAd g p]? = some ((arrV (g.2.1 ty) m.toNat (aAv g s z p ty)).setSlot i.toNat w)) (e2 : H1.size = H.size) (e3 : ∀ q : Nat, q ≠ aAd g p → H1[q]? = H[q]?) : aRep g s' z' H1 := by
  refine hR.put hp hc hs' e2 e3 ((aVp h).mpr ?_) ho2 h31
  rw [e1, arrV_store]
  congr 2
  funext j
  by_cases hj : j = i.toNat
  · subst hj
    unfold updV
    rw [if_pos rfl, hw]
  · unfold updV
    rw [if_neg hj, ho1 j hj]
theorem aTl {g : aG} {s : State} (h : aKN g s) (ty : Nat) {t : FieldType} (ht : (aTyl g)[ty]? = some (g.2.1 ty, t)) : ArrOfT s (g.2.1 ty) t := (h.2.1.2 ty _ ht).1
theorem aAin {cA : ClassId} {m i : Int} {f : Nat → Value} (h0 : 0 ≤ i) (h1 : i < m) (hm : m ≤ 2000) : ¬ (iZ i < 0 ∨ (arrV cA m.toNat f).slots.size ≤ (iZ i).toNatClampNeg) := by
  rw [arrV_size]
  exact iZ_in h0 h1 (by omega)
theorem aLp_ar {s : aSt} {p : aP} {ty : Nat} {m : Int} (h : aLp s p) (hs : aSh p = .inr (ty, m)) (ht : ty ≠ 9) : (aAll[aOff p]? = some p ∧ aOff p < aCnt s) := aLp_in h (by rw [hs]; intro q; cases q; exact ht rfl)
theorem sk_iaload {l : Launch} {g : aG} {f : aFr} {y o : Nat} {Q : Option aV → aSt → aM → Prop} {X : Nat → aSt → aM → Prop} {p : Program} {e : Env} {R : Room} {s : State} {m : MethodId} {args : Array Value} {below : List Frame} {meth : Method} {c : Code} (hF : aFrm l g f y o p e R s m args below meth c) {pc n t a b : Nat} {sw : List (Int × Nat)}  (hI : aOk y o (aMt y).2.1 pc (.iaload, n, t, a, b, sw) = true) {k : aK} {z : aM} {ls : List (Option aV)} {st : List aV} {K : aK → aM → Nat → List (Option aV) → List aV → Prop} (h : stp l g f Q X pc (.iaload, n, t, a, b, sw) k z ls st K) (hK : ∀ k z pc ls st, K k z pc ls st → aBs l g f Q X p e R s m args below meth c k z pc ls st) : aBs l g f Q X p e R s m args below meth c k z pc ls st := by
  obtain ⟨⟨hx, hst, hb, hml, hown, hlk, hrt⟩, ⟨hKN, hbs, hold⟩, ⟨hex, hnm, hrk, hho, hhc⟩, hr1, hr2, hr3, hr4, hr5⟩ := hF
  obtain ⟨hd, rfl, h2⟩ := aOk_d hI (by first | decide | (intro q; cases q))
  rcases st with _ | ⟨i1, st⟩
  · exact False.elim h
  · rcases i1 with i1 | i1 | i1 | i1
    · rcases st with _ | ⟨q1, st⟩
      · exact False.elim h
      · rcases q1 with q1 | q1 | q1 | q1
        · exact False.elim h
        · exact False.elim h
        · have h0 := h
          unfold stp at h0
          simp only at h0
          rcases hsh : aSh q1 with ci | ⟨ty, m1⟩
          · rw [hsh] at h0; exact False.elim h0
          · rw [hsh] at h0
            by_cases hty : ty = 0
            · subst hty
              simp only at h0
              obtain ⟨⟨h01, h02⟩, h9⟩ := h0
              intro hs hl hbd hlen H locs la hR hS hL
              obtain ⟨hp, hc⟩ := aLp_ar (hs (.inr (.inr (.inl q1))) (List.mem_cons_of_mem _ List.mem_cons_self)) hsh (by decide)
              have hb9 := aSh_r hp hsh
              refine W.eq (g2 := F0 m pc la (.int (iZ i1) :: .ref (aAd g q1) :: st.map (aC g))) rfl ?_
              have hat := aWs_at (g := g) (z := z) hp hc
              rw [aCe_a hsh] at hat
              refine va_iald hx hb hKN.2.1 hR.1 (aOff q1) 0 hat rfl (iZ_in h01 h02 (by omega)) hd ?_
              rw [iZ_cl h01 (by omega), Int.toNat_of_nonneg h01]
              exact hK _ _ _ _ _ h9 (aLv_c (w := .inl (z q1 i1)) trivial (aLv_tl (aLv_tl hs))) hl hbd hlen H locs la hR hS hL
            · by_cases hty9 : ty = 9
              · subst hty9
                simp only at h0
                obtain ⟨⟨rfl, h01, h02⟩, h9⟩ := h0
                intro hs hl hbd hlen H locs la hR hS hL
                refine W.eq (g2 := F0 m pc la (.int (iZ i1) :: .ref g.2.2.2.2.1 :: st.map (aC g))) rfl ?_
                obtain ⟨scr, c1, c2, c3⟩ := hR.2.2.2.2
                obtain ⟨scr2, d1, d2, d3⟩ := hKN.2.2.2.2.2.2.2.2.2.2
                obtain rfl : scr2 = scr := Option.some.inj (d1.symm.trans c1)
                have hbl : g.2.2.2.2.1 < aBase g := (Array.getElem?_eq_some_iff.mp c1).1
                have hX : va_X g.2.2.2.2.1 g.2.2.2.2.2 (fun j => iZ (z (31, 0, 0) (j : Int))) s s.heap := ⟨scr2, by rw [hold _ hbl]; exact c1, d2, d3, c2, c3⟩
                have hsz : g.2.2.2.2.2 < 2 ^ 31 := hr5
                refine va_sld hx hb hX (Nat.lt_of_lt_of_le hbl hbs) (Nat.not_le.mpr hbl) hS (iZ_in h01 h02 (by omega)) hd ?_
                rw [iZ_cl h01 (by omega), Int.toNat_of_nonneg h01]
                exact hK _ _ _ _ _ h9 (aLv_c (w := .inl (z (31, 0, 0) i1)) trivial (aLv_tl (aLv_tl hs))) hl hbd hlen H locs la hR hS hL
              · exfalso
                revert h0
                split
                · next he => intro _; cases he; exact hty rfl
                · next he => intro _; cases he; exact hty9 rfl
                · exact id
        · exact False.elim h
    · exact False.elim h
    · exact False.elim h
    · exact False.elim h

theorem sk_caload {l : Launch} {g : aG} {f : aFr} {y o : Nat} {Q : Option aV → aSt → aM → Prop} {X : Nat → aSt → aM → Prop} {p : Program} {e : Env} {R : Room} {s : State} {m : MethodId} {args : Array Value} {below : List Frame} {meth : Method} {c : Code} (hF : aFrm l g f y o p e R s m args below meth c) {pc n t a b : Nat} {sw : List (Int × Nat)}  (hI : aOk y o (aMt y).2.1 pc (.caload, n, t, a, b, sw) = true) {k : aK} {z : aM} {ls : List (Option aV)} {st : List aV} {K : aK → aM → Nat → List (Option aV) → List aV → Prop} (h : stp l g f Q X pc (.caload, n, t, a, b, sw) k z ls st K) (hK : ∀ k z pc ls st, K k z pc ls st → aBs l g f Q X p e R s m args below meth c k z pc ls st) : aBs l g f Q X p e R s m args below meth c k z pc ls st := by
  obtain ⟨⟨hx, hst, hb, hml, hown, hlk, hrt⟩, ⟨hKN, hbs, hold⟩, ⟨hex, hnm, hrk, hho, hhc⟩, hr1, hr2, hr3, hr4, hr5⟩ := hF
  obtain ⟨hd, rfl, h2⟩ := aOk_d hI (by first | decide | (intro q; cases q))
  rcases st with _ | ⟨i1, st⟩
  · exact False.elim h
  · rcases i1 with i1 | i1 | i1 | i1
    · rcases st with _ | ⟨q1, st⟩
      · exact False.elim h
      · rcases q1 with q1 | q1 | q1 | q1
        · exact False.elim h
        · exact False.elim h
        · have h0 := h
          unfold stp at h0
          simp only at h0
          rcases hsh : aSh q1 with ci | ⟨ty, m1⟩
          · rw [hsh] at h0; exact False.elim h0
          · rw [hsh] at h0
            by_cases hty : ty = 1
            · subst hty
              simp only at h0
              obtain ⟨⟨h01, h02⟩, h9⟩ := h0
              intro hs hl hbd hlen H locs la hR hS hL
              obtain ⟨hp, hc⟩ := aLp_ar (hs (.inr (.inr (.inl q1))) (List.mem_cons_of_mem _ List.mem_cons_self)) hsh (by decide)
              have hb9 := aSh_r hp hsh
              refine W.eq (g2 := F0 m pc la (.int (iZ i1) :: .ref (aAd g q1) :: st.map (aC g))) rfl ?_
              have hat := aWs_at (g := g) (z := z) hp hc
              rw [aCe_a hsh] at hat
              refine va_cald hx hb hKN.2.1 hR.1 (aOff q1) 1 hat rfl (iZ_in h01 h02 (by omega)) hd ?_
              rw [iZ_cl h01 (by omega), Int.toNat_of_nonneg h01]
              exact hK _ _ _ _ _ h9 (aLv_c (w := .inl (z q1 i1)) trivial (aLv_tl (aLv_tl hs))) hl hbd hlen H locs la hR hS hL
            · exfalso
              revert h0
              split
              · next he => intro _; cases he; exact hty rfl
              · exact id
        · exact False.elim h
    · exact False.elim h
    · exact False.elim h
    · exact False.elim h

theorem sk_laload {l : Launch} {g : aG} {f : aFr} {y o : Nat} {Q : Option aV → aSt → aM → Prop} {X : Nat → aSt → aM → Prop} {p : Program} {e : Env} {R : Room} {s : State} {m : MethodId} {args : Array Value} {below : List Frame} {meth : Method} {c : Code} (hF : aFrm l g f y o p e R s m args below meth c) {pc n t a b : Nat} {sw : List (Int × Nat)}  (hI : aOk y o (aMt y).2.1 pc (.laload, n, t, a, b, sw) = true) {k : aK} {z : aM} {ls : List (Option aV)} {st : List aV} {K : aK → aM → Nat → List (Option aV) → List aV → Prop} (h : stp l g f Q X pc (.laload, n, t, a, b, sw) k z ls st K) (hK : ∀ k z pc ls st, K k z pc ls st → aBs l g f Q X p e R s m args below meth c k z pc ls st) : aBs l g f Q X p e R s m args below meth c k z pc ls st := by
  obtain ⟨⟨hx, hst, hb, hml, hown, hlk, hrt⟩, ⟨hKN, hbs, hold⟩, ⟨hex, hnm, hrk, hho, hhc⟩, hr1, hr2, hr3, hr4, hr5⟩ := hF
  obtain ⟨hd, rfl, h2⟩ := aOk_d hI (by first | decide | (intro q; cases q))
  rcases st with _ | ⟨i1, st⟩
  · exact False.elim h
  · rcases i1 with i1 | i1 | i1 | i1
    · rcases st with _ | ⟨q1, st⟩
      · exact False.elim h
      · rcases q1 with q1 | q1 | q1 | q1
        · exact False.elim h
        · exact False.elim h
        · have h0 := h
          unfold stp at h0
          simp only at h0
          rcases hsh : aSh q1 with ci | ⟨ty, m1⟩
          · rw [hsh] at h0; exact False.elim h0
          · rw [hsh] at h0
            by_cases hty : ty = 4
            · subst hty
              simp only at h0
              obtain ⟨⟨h01, h02⟩, h9⟩ := h0
              intro hs hl hbd hlen H locs la hR hS hL
              obtain ⟨hp, hc⟩ := aLp_ar (hs (.inr (.inr (.inl q1))) (List.mem_cons_of_mem _ List.mem_cons_self)) hsh (by decide)
              have hb9 := aSh_r hp hsh
              refine W.eq (g2 := F0 m pc la (.int (iZ i1) :: .ref (aAd g q1) :: st.map (aC g))) rfl ?_
              have hat := aWs_at (g := g) (z := z) hp hc
              rw [aCe_a hsh] at hat
              refine va_lald hx hb hKN.2.1 hR.1 (aOff q1) 4 hat rfl (iZ_in h01 h02 (by omega)) hd ?_
              rw [iZ_cl h01 (by omega), Int.toNat_of_nonneg h01]
              exact hK _ _ _ _ _ h9 (aLv_c (w := .inr (.inl (z q1 i1))) trivial (aLv_tl (aLv_tl hs))) hl hbd hlen H locs la hR hS hL
            · exfalso
              revert h0
              split
              · next he => intro _; cases he; exact hty rfl
              · exact id
        · exact False.elim h
    · exact False.elim h
    · exact False.elim h
    · exact False.elim h

theorem sk_daload {l : Launch} {g : aG} {f : aFr} {y o : Nat} {Q : Option aV → aSt → aM → Prop} {X : Nat → aSt → aM → Prop} {p : Program} {e : Env} {R : Room} {s : State} {m : MethodId} {args : Array Value} {below : List Frame} {meth : Method} {c : Code} (hF : aFrm l g f y o p e R s m args below meth c) {pc n t a b : Nat} {sw : List (Int × Nat)}  (hI : aOk y o (aMt y).2.1 pc (.daload, n, t, a, b, sw) = true) {k : aK} {z : aM} {ls : List (Option aV)} {st : List aV} {K : aK → aM → Nat → List (Option aV) → List aV → Prop} (h : stp l g f Q X pc (.daload, n, t, a, b, sw) k z ls st K) (hK : ∀ k z pc ls st, K k z pc ls st → aBs l g f Q X p e R s m args below meth c k z pc ls st) : aBs l g f Q X p e R s m args below meth c k z pc ls st := by
  obtain ⟨⟨hx, hst, hb, hml, hown, hlk, hrt⟩, ⟨hKN, hbs, hold⟩, ⟨hex, hnm, hrk, hho, hhc⟩, hr1, hr2, hr3, hr4, hr5⟩ := hF
  obtain ⟨hd, rfl, h2⟩ := aOk_d hI (by first | decide | (intro q; cases q))
  rcases st with _ | ⟨i1, st⟩
  · exact False.elim h
  · rcases i1 with i1 | i1 | i1 | i1
    · rcases st with _ | ⟨q1, st⟩
      · exact False.elim h
      · rcases q1 with q1 | q1 | q1 | q1
        · exact False.elim h
        · exact False.elim h
        · have h0 := h
          unfold stp at h0
          simp only at h0
          rcases hsh : aSh q1 with ci | ⟨ty, m1⟩
          · rw [hsh] at h0; exact False.elim h0
          · rw [hsh] at h0
            by_cases hty : ty = 5
            · subst hty
              simp only at h0
              obtain ⟨⟨h01, h02⟩, h9⟩ := h0
              intro hs hl hbd hlen H locs la hR hS hL
              obtain ⟨hp, hc⟩ := aLp_ar (hs (.inr (.inr (.inl q1))) (List.mem_cons_of_mem _ List.mem_cons_self)) hsh (by decide)
              have hb9 := aSh_r hp hsh
              refine W.eq (g2 := F0 m pc la (.int (iZ i1) :: .ref (aAd g q1) :: st.map (aC g))) rfl ?_
              have hat := aWs_at (g := g) (z := z) hp hc
              rw [aCe_a hsh] at hat
              refine va_dald hx hb hKN.2.1 hR.1 (aOff q1) 5 hat rfl (iZ_in h01 h02 (by omega)) hd ?_
              rw [iZ_cl h01 (by omega), Int.toNat_of_nonneg h01]
              exact hK _ _ _ _ _ h9 (aLv_c (w := .inr (.inr (.inr (.double (UInt64.ofNat (z q1 i1).toNat))))) trivial (aLv_tl (aLv_tl hs))) hl hbd hlen H locs la hR hS hL
            · exfalso
              revert h0
              split
              · next he => intro _; cases he; exact hty rfl
              · exact id
        · exact False.elim h
    · exact False.elim h
    · exact False.elim h
    · exact False.elim h

theorem sk_iastore {l : Launch} {g : aG} {f : aFr} {y o : Nat} {Q : Option aV → aSt → aM → Prop} {X : Nat → aSt → aM → Prop} {p : Program} {e : Env} {R : Room} {s : State} {m : MethodId} {args : Array Value} {below : List Frame} {meth : Method} {c : Code} (hF : aFrm l g f y o p e R s m args below meth c) {pc n t a b : Nat} {sw : List (Int × Nat)}  (hI : aOk y o (aMt y).2.1 pc (.iastore, n, t, a, b, sw) = true) {k : aK} {z : aM} {ls : List (Option aV)} {st : List aV} {K : aK → aM → Nat → List (Option aV) → List aV → Prop} (h : stp l g f Q X pc (.iastore, n, t, a, b, sw) k z ls st K) (hK : ∀ k z pc ls st, K k z pc ls st → aBs l g f Q X p e R s m args below meth c k z pc ls st) : aBs l g f Q X p e R s m args below meth c k z pc ls st := by
  obtain ⟨⟨hx, hst, hb, hml, hown, hlk, hrt⟩, ⟨hKN, hbs, hold⟩, ⟨hex, hnm, hrk, hho, hhc⟩, hr1, hr2, hr3, hr4, hr5⟩ := hF
  obtain ⟨hd, rfl, h2⟩ := aOk_d hI (by first | decide | (intro q; cases q))
  rcases st with _ | ⟨x1, st⟩
  · exact False.elim h
  · rcases x1 with x1 | x1 | x1 | x1
    · rcases st with _ | ⟨i1, st⟩
      · exact False.elim h
      · rcases i1 with i1 | i1 | i1 | i1
        · rcases st with _ | ⟨q1, st⟩
          · exact False.elim h
          · rcases q1 with q1 | q1 | q1 | q1
            · exact False.elim h
            · exact False.elim h
            · have h0 := h
              unfold stp at h0
              simp only at h0
              rcases hsh : aSh q1 with ci | ⟨ty, m1⟩
              · rw [hsh] at h0; exact False.elim h0
              · rw [hsh] at h0
                by_cases hty : ty = 0
                · subst hty
                  simp only at h0
                  obtain ⟨⟨h01, h02⟩, h9⟩ := h0
                  intro hs hl hbd hlen H locs la hR hS hL
                  obtain ⟨hp, hc⟩ := aLp_ar (hs (.inr (.inr (.inl q1))) (List.mem_cons_of_mem _ (List.mem_cons_of_mem _ List.mem_cons_self))) hsh (by decide)
                  have hb9 := aSh_r hp hsh
                  refine W.eq (g2 := F0 m pc la (.int (iZ x1) :: .int (iZ i1) :: .ref (aAd g q1) :: st.map (aC g))) rfl ?_
                  have hcell := aArr hR hp hc hsh
                  refine W.iast hx hb hcell (aTl hKN 0 rfl _ _) (fun q => by cases q) (aAin h01 h02 (by omega)) rfl rfl hd (fun H1 e1 e2 e3 => ?_)
                  rw [iZ_cl h01 (by omega)] at e1 ⊢
                  have hRn : aRep g k.1 (aWr z q1 i1 x1) H1 := by
                    refine aSto hR hp hc hsh (Or.inl rfl) ?_ (fun j hj => ?_) (fun q hq => aCe_ne (fun j => aWr_ne hq)) (fun j => aWr_ne (aLk_31 hp)) e1 e2 e3
                    · show _ = aAv g k.1 (aWr z q1 i1 x1) q1 0 i1.toNat
                      unfold aAv
                      rw [Int.toNat_of_nonneg h01, aWr_at]
                      first | rfl | skip
                    · unfold aAv
                      rw [aWr_nk (by omega)]
                  exact hK _ _ _ _ _ h9 (aLv_tl (aLv_tl (aLv_tl hs))) hl hbd hlen H1 _ la hRn (hS.put e2 e3 (aAd_A hp)) hL
                · exfalso
                  revert h0
                  split
                  · next he => intro _; cases he; exact hty rfl
                  · exact id
            · exact False.elim h
        · exact False.elim h
        · exact False.elim h
        · exact False.elim h
    · exact False.elim h
    · exact False.elim h
    · exact False.elim h

theorem sk_castore {l : Launch} {g : aG} {f : aFr} {y o : Nat} {Q : Option aV → aSt → aM → Prop} {X : Nat → aSt → aM → Prop} {p : Program} {e : Env} {R : Room} {s : State} {m : MethodId} {args : Array Value} {below : List Frame} {meth : Method} {c : Code} (hF : aFrm l g f y o p e R s m args below meth c) {pc n t a b : Nat} {sw : List (Int × Nat)}  (hI : aOk y o (aMt y).2.1 pc (.castore, n, t, a, b, sw) = true) {k : aK} {z : aM} {ls : List (Option aV)} {st : List aV} {K : aK → aM → Nat → List (Option aV) → List aV → Prop} (h : stp l g f Q X pc (.castore, n, t, a, b, sw) k z ls st K) (hK : ∀ k z pc ls st, K k z pc ls st → aBs l g f Q X p e R s m args below meth c k z pc ls st) : aBs l g f Q X p e R s m args below meth c k z pc ls st := by
  obtain ⟨⟨hx, hst, hb, hml, hown, hlk, hrt⟩, ⟨hKN, hbs, hold⟩, ⟨hex, hnm, hrk, hho, hhc⟩, hr1, hr2, hr3, hr4, hr5⟩ := hF
  obtain ⟨hd, rfl, h2⟩ := aOk_d hI (by first | decide | (intro q; cases q))
  rcases st with _ | ⟨x1, st⟩
  · exact False.elim h
  · rcases x1 with x1 | x1 | x1 | x1
    · rcases st with _ | ⟨i1, st⟩
      · exact False.elim h
      · rcases i1 with i1 | i1 | i1 | i1
        · rcases st with _ | ⟨q1, st⟩
          · exact False.elim h
          · rcases q1 with q1 | q1 | q1 | q1
            · exact False.elim h
            · exact False.elim h
            · have h0 := h
              unfold stp at h0
              simp only at h0
              rcases hsh : aSh q1 with ci | ⟨ty, m1⟩
              · rw [hsh] at h0; exact False.elim h0
              · rw [hsh] at h0
                by_cases hty : ty = 1
                · subst hty
                  simp only at h0
                  obtain ⟨⟨h01, h02⟩, h9⟩ := h0
                  intro hs hl hbd hlen H locs la hR hS hL
                  obtain ⟨hp, hc⟩ := aLp_ar (hs (.inr (.inr (.inl q1))) (List.mem_cons_of_mem _ (List.mem_cons_of_mem _ List.mem_cons_self))) hsh (by decide)
                  have hb9 := aSh_r hp hsh
                  refine W.eq (g2 := F0 m pc la (.int (iZ x1) :: .int (iZ i1) :: .ref (aAd g q1) :: st.map (aC g))) rfl ?_
                  have hcell := aArr hR hp hc hsh
                  refine W.cast hx hb hcell (aTl hKN 1 rfl _ _) (fun q => by cases q) (aAin h01 h02 (by omega)) rfl rfl hd (fun H1 e1 e2 e3 => ?_)
                  rw [iZ_cl h01 (by omega)] at e1 ⊢
                  have hRn : aRep g k.1 (aWr z q1 i1 (x1 % 65536)) H1 := by
                    refine aSto hR hp hc hsh (Or.inl rfl) ?_ (fun j hj => ?_) (fun q hq => aCe_ne (fun j => aWr_ne hq)) (fun j => aWr_ne (aLk_31 hp)) e1 e2 e3
                    · show _ = aAv g k.1 (aWr z q1 i1 (x1 % 65536)) q1 1 i1.toNat
                      unfold aAv
                      rw [Int.toNat_of_nonneg h01, aWr_at]
                      exact aNc x1
                    · unfold aAv
                      rw [aWr_nk (by omega)]
                  exact hK _ _ _ _ _ h9 (aLv_tl (aLv_tl (aLv_tl hs))) hl hbd hlen H1 _ la hRn (hS.put e2 e3 (aAd_A hp)) hL
                · exfalso
                  revert h0
                  split
                  · next he => intro _; cases he; exact hty rfl
                  · exact id
            · exact False.elim h
        · exact False.elim h
        · exact False.elim h
        · exact False.elim h
    · exact False.elim h
    · exact False.elim h
    · exact False.elim h

theorem sk_lastore {l : Launch} {g : aG} {f : aFr} {y o : Nat} {Q : Option aV → aSt → aM → Prop} {X : Nat → aSt → aM → Prop} {p : Program} {e : Env} {R : Room} {s : State} {m : MethodId} {args : Array Value} {below : List Frame} {meth : Method} {c : Code} (hF : aFrm l g f y o p e R s m args below meth c) {pc n t a b : Nat} {sw : List (Int × Nat)}  (hI : aOk y o (aMt y).2.1 pc (.lastore, n, t, a, b, sw) = true) {k : aK} {z : aM} {ls : List (Option aV)} {st : List aV} {K : aK → aM → Nat → List (Option aV) → List aV → Prop} (h : stp l g f Q X pc (.lastore, n, t, a, b, sw) k z ls st K) (hK : ∀ k z pc ls st, K k z pc ls st → aBs l g f Q X p e R s m args below meth c k z pc ls st) : aBs l g f Q X p e R s m args below meth c k z pc ls st := by
  obtain ⟨⟨hx, hst, hb, hml, hown, hlk, hrt⟩, ⟨hKN, hbs, hold⟩, ⟨hex, hnm, hrk, hho, hhc⟩, hr1, hr2, hr3, hr4, hr5⟩ := hF
  obtain ⟨hd, rfl, h2⟩ := aOk_d hI (by first | decide | (intro q; cases q))
  rcases st with _ | ⟨x1, st⟩
  · exact False.elim h
  · rcases x1 with x1 | x1 | x1 | x1
    · exact False.elim h
    · rcases st with _ | ⟨i1, st⟩
      · exact False.elim h
      · rcases i1 with i1 | i1 | i1 | i1
        · rcases st with _ | ⟨q1, st⟩
          · exact False.elim h
          · rcases q1 with q1 | q1 | q1 | q1
            · exact False.elim h
            · exact False.elim h
            · have h0 := h
              unfold stp at h0
              simp only at h0
              rcases hsh : aSh q1 with ci | ⟨ty, m1⟩
              · rw [hsh] at h0; exact False.elim h0
              · rw [hsh] at h0
                by_cases hty : ty = 4
                · subst hty
                  simp only at h0
                  obtain ⟨⟨h01, h02⟩, h9⟩ := h0
                  intro hs hl hbd hlen H locs la hR hS hL
                  obtain ⟨hp, hc⟩ := aLp_ar (hs (.inr (.inr (.inl q1))) (List.mem_cons_of_mem _ (List.mem_cons_of_mem _ List.mem_cons_self))) hsh (by decide)
                  have hb9 := aSh_r hp hsh
                  refine W.eq (g2 := F0 m pc la (.long (lZ x1) :: .int (iZ i1) :: .ref (aAd g q1) :: st.map (aC g))) rfl ?_
                  have hcell := aArr hR hp hc hsh
                  refine W.last hx hb hcell (aTl hKN 4 rfl _ _) (fun q => by cases q) (aAin h01 h02 (by omega)) rfl rfl hd (fun H1 e1 e2 e3 => ?_)
                  rw [iZ_cl h01 (by omega)] at e1 ⊢
                  have hRn : aRep g k.1 (aWr z q1 i1 x1) H1 := by
                    refine aSto hR hp hc hsh (Or.inl rfl) ?_ (fun j hj => ?_) (fun q hq => aCe_ne (fun j => aWr_ne hq)) (fun j => aWr_ne (aLk_31 hp)) e1 e2 e3
                    · show _ = aAv g k.1 (aWr z q1 i1 x1) q1 4 i1.toNat
                      unfold aAv
                      rw [Int.toNat_of_nonneg h01, aWr_at]
                      first | rfl | skip
                    · unfold aAv
                      rw [aWr_nk (by omega)]
                  exact hK _ _ _ _ _ h9 (aLv_tl (aLv_tl (aLv_tl hs))) hl hbd hlen H1 _ la hRn (hS.put e2 e3 (aAd_A hp)) hL
                · exfalso
                  revert h0
                  split
                  · next he => intro _; cases he; exact hty rfl
                  · exact id
            · exact False.elim h
        · exact False.elim h
        · exact False.elim h
        · exact False.elim h
    · exact False.elim h
    · exact False.elim h

theorem sk_dastore {l : Launch} {g : aG} {f : aFr} {y o : Nat} {Q : Option aV → aSt → aM → Prop} {X : Nat → aSt → aM → Prop} {p : Program} {e : Env} {R : Room} {s : State} {m : MethodId} {args : Array Value} {below : List Frame} {meth : Method} {c : Code} (hF : aFrm l g f y o p e R s m args below meth c) {pc n t a b : Nat} {sw : List (Int × Nat)}  (hI : aOk y o (aMt y).2.1 pc (.dastore, n, t, a, b, sw) = true) {k : aK} {z : aM} {ls : List (Option aV)} {st : List aV} {K : aK → aM → Nat → List (Option aV) → List aV → Prop} (h : stp l g f Q X pc (.dastore, n, t, a, b, sw) k z ls st K) (hK : ∀ k z pc ls st, K k z pc ls st → aBs l g f Q X p e R s m args below meth c k z pc ls st) : aBs l g f Q X p e R s m args below meth c k z pc ls st := by
  obtain ⟨⟨hx, hst, hb, hml, hown, hlk, hrt⟩, ⟨hKN, hbs, hold⟩, ⟨hex, hnm, hrk, hho, hhc⟩, hr1, hr2, hr3, hr4, hr5⟩ := hF
  obtain ⟨hd, rfl, h2⟩ := aOk_d hI (by first | decide | (intro q; cases q))
  rcases st with _ | ⟨x1, st⟩
  · exact False.elim h
  · rcases x1 with x1 | x1 | x1 | x1
    · exact False.elim h
    · exact False.elim h
    · exact False.elim h
    · cases x1 with
      | double x1 =>
        rcases st with _ | ⟨i1, st⟩
        · exact False.elim h
        · rcases i1 with i1 | i1 | i1 | i1
          · rcases st with _ | ⟨q1, st⟩
            · exact False.elim h
            · rcases q1 with q1 | q1 | q1 | q1
              · exact False.elim h
              · exact False.elim h
              · have h0 := h
                unfold stp at h0
                simp only at h0
                rcases hsh : aSh q1 with ci | ⟨ty, m1⟩
                · rw [hsh] at h0; exact False.elim h0
                · rw [hsh] at h0
                  by_cases hty : ty = 5
                  · subst hty
                    simp only at h0
                    obtain ⟨⟨h01, h02⟩, h9⟩ := h0
                    intro hs hl hbd hlen H locs la hR hS hL
                    obtain ⟨hp, hc⟩ := aLp_ar (hs (.inr (.inr (.inl q1))) (List.mem_cons_of_mem _ (List.mem_cons_of_mem _ List.mem_cons_self))) hsh (by decide)
                    have hb9 := aSh_r hp hsh
                    refine W.eq (g2 := F0 m pc la (.double x1 :: .int (iZ i1) :: .ref (aAd g q1) :: st.map (aC g))) rfl ?_
                    have hcell := aArr hR hp hc hsh
                    refine W.dast hx hb hcell (aTl hKN 5 rfl _ _) (fun q => by cases q) (aAin h01 h02 (by omega)) rfl rfl hd (fun H1 e1 e2 e3 => ?_)
                    rw [iZ_cl h01 (by omega)] at e1 ⊢
                    have hRn : aRep g k.1 (aWr z q1 i1 (x1.toNat : Int)) H1 := by
                      refine aSto hR hp hc hsh (Or.inl rfl) ?_ (fun j hj => ?_) (fun q hq => aCe_ne (fun j => aWr_ne hq)) (fun j => aWr_ne (aLk_31 hp)) e1 e2 e3
                      · show _ = aAv g k.1 (aWr z q1 i1 (x1.toNat : Int)) q1 5 i1.toNat
                        unfold aAv
                        rw [Int.toNat_of_nonneg h01, aWr_at]
                        rw [Int.toNat_natCast]; exact congrArg Value.double (UInt64.ofNat_toNat).symm
                      · unfold aAv
                        rw [aWr_nk (by omega)]
                    exact hK _ _ _ _ _ h9 (aLv_tl (aLv_tl (aLv_tl hs))) hl hbd hlen H1 _ la hRn (hS.put e2 e3 (aAd_A hp)) hL
                  · exfalso
                    revert h0
                    split
                    · next he => intro _; cases he; exact hty rfl
                    · exact id
              · exact False.elim h
          · exact False.elim h
          · exact False.elim h
          · exact False.elim h
      | _ => exact False.elim h

