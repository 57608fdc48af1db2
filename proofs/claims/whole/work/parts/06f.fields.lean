/-! THE JVM KEEPS TO THE STEP: fields and arrays, one instruction each (heads printed by wip/whole/sound2.py) -/
theorem aCe_o {g : aG} {s : aSt} {z : aM} {p : aP} {ci : Nat} (h : aSh p = .inl ci) : aCe g s z p = .inr (ci, (List.range (aFl ci).length).map (aFv g s z p ci)) := by unfold aCe; rw [h]
theorem aHts {g : aG} {s : State} {args : Array Value} (hKN : aKN g s) {ci : Nat} (hc : ci < 8) : ∀ w ∈ u_ws (aRn ci) (aTX ci) (aFl ci).length, w.before args s = true := fun w hw => hKN.w (aUws ci hc w hw).1 (aUws ci hc w hw).2 args
theorem sk_getfield {l : Launch} {g : aG} {f : aFr} {y o : Nat} {Q : Option aV → aSt → aM → Prop} {X : Nat → aSt → aM → Prop} {p : Program} {e : Env} {R : Room} {s : State} {m : MethodId} {args : Array Value} {below : List Frame} {meth : Method} {c : Code} (hF : aFrm l g f y o p e R s m args below meth c) {pc n t a b : Nat} {sw : List (Int × Nat)} {i8 : Nat} (hI : aOk y o (aMt y).2.1 pc (.getfield i8, n, t, a, b, sw) = true) {k : aK} {z : aM} {ls : List (Option aV)} {st : List aV} {K : aK → aM → Nat → List (Option aV) → List aV → Prop} (h : stp l g f Q X pc (.getfield i8, n, t, a, b, sw) k z ls st K) (hK : ∀ k z pc ls st, K k z pc ls st → aBs l g f Q X p e R s m args below meth c k z pc ls st) : aBs l g f Q X p e R s m args below meth c k z pc ls st := by
  obtain ⟨⟨hx, hst, hb, hml, hown, hlk, hrt⟩, ⟨hKN, hbs, hold⟩, ⟨hex, hnm, hrk, hho, hhc⟩, hr1, hr2, hr3, hr4, hr5⟩ := hF
  obtain ⟨hd, rfl, h2⟩ := aOk_d hI (by first | decide | (intro q; cases q))
  rcases st with _ | ⟨w, st⟩
  · exact False.elim h
  · rcases w with w | w | q1 | w
    · exact False.elim h
    · exact False.elim h
    · rcases sw with _ | ⟨⟨i9, w9⟩, sw⟩
      · exact False.elim h
      · have h0 := h
        unfold stp at h0
        simp only at h0
        rcases hsh : aSh q1 with ci | sh
        · rw [hsh] at h0
          simp only at h0
          rcases hbq : Nat.beq ci a with _ | _
          · rw [hbq] at h0; exact False.elim h0
          · rw [hbq] at h0
            simp only at h0
            obtain rfl : ci = a := Nat.eq_of_beq_eq_true hbq
            simp only [aOk2, Bool.and_eq_true, decide_eq_true_eq] at h2
            obtain ⟨hpf, rfl⟩ := h2
            obtain ⟨hw1, hw2, hbl, hc8⟩ : aPfW (o, i8, ci, b) ∈ lw_tbl ∧ aWarm (aPfW (o, i8, ci, b)) = true ∧ b < (aFl ci).length ∧ ci < 8 := aPf_w hpf
            intro hs hl hbd hlen H locs la hR hS hL
            obtain ⟨hp, hc⟩ := aLp_in (hs _ List.mem_cons_self) (by rw [hsh]; intro q; cases q)
            have hat := aWs_at (g := g) (z := z) hp hc
            rw [aCe_o hsh] at hat
            refine W.eq (g2 := F0 m pc la (.ref (aAd g q1) :: st.map (aC g))) rfl ?_
            refine va_get (D := g.1) (ci := ci) (v := aFv g k.1 z q1 ci b) (C := aRn ci) (T := aTX ci) (N := (aFl ci).length) (Ts := u_ws (aRn ci) (aTX ci) (aFl ci).length) hx hb (aHts hKN hc8) (fun w hw => hw) hown hKN.2.1 hR.1 (aOff q1) hat (aCl_at ci hc8) b hbl (hKN.w hw1 hw2 args) (fun _ h => h) (aFs_at hbl) hd ?_
            have key : ∀ w : aV, aLv k.1 w → aFv g k.1 z q1 ci b = aC g w → K k z (pc + 3) ls (w :: st) → W p l e R s m args below meth c H locs k.2.1 k.2.2 (vx_MQ below (aQ g Q) (aX g X) args s f.2.1 f.2.2.1 (aA g)) (F0 m (pc + 3) la (aFv g k.1 z q1 ci b :: st.map (aC g))) := by
              intro w hw he h9
              rw [he]
              exact hK _ _ _ _ _ h9 (aLv_c hw (aLv_tl hs)) hl hbd hlen H locs la hR hS hL
            by_cases hfk : (aFl ci)[b]? = some 2
            · rw [hfk] at h0
              simp only at h0
              have hfv : ∀ s z, aFv g s z q1 ci b = va_rf (aRv g s q1 (b : Int)) := fun s z => by unfold aFv; rw [if_pos hfk]
              obtain ⟨sta, u9, v9⟩ := k
              rcases sta with _ | ⟨cnt, r⟩
              · have h00 : (match aRf q1 (b : Int) with | (x, y, w) => K (none, u9, v9) z (pc + 3) ls (.inr (.inr (.inl (x, y, w))) :: st)) := h0
                exact key (.inr (.inr (.inl (aRf q1 (b : Int))))) (aRef_lv hp hsh hfk (Or.inl rfl)) (by rw [hfv]; rfl) h00
              · obtain ⟨⟨ha1, ha2⟩, h00⟩ := h0
                exact key (.inr (.inr (.inl (aRf q1 (b : Int))))) (aRef_lv (s := some (cnt, r)) hp hsh hfk (Or.inr ha2)) (by rw [hfv, aRv_eq (s := some (cnt, r)) ha1]; rfl) h00
            · have hfv : aFv g k.1 z q1 ci b = .int (iZ (z q1 (b : Int))) := by unfold aFv; rw [if_neg hfk]
              refine key (.inl (z q1 (b : Int))) trivial hfv ?_
              split at h0
              · next he => exact absurd he hfk
              · exact h0
              · exact False.elim h0
        · rw [hsh] at h0; exact False.elim h0
    · exact False.elim h

/-- a field of an object is written: what the heap is then -/
theorem aPut {l : Launch} {g : aG} {p : Program} {e : Env} {R : Room} {s : State} {m : MethodId} {args : Array Value} {below : List Frame} {meth : Method} {c : Code} {cc : ByteArray} {o pc i8 ci b u v : Nat} {H : Heap} {locs : List Loc} {la : Array Slot} {rest : List Value} {Z : State → Prop} {sta sta' : aSt} {z z' : aM} {q1 : aP} {w : Value}
    (hx : p.tables.exec = Jvm.exec) (hb : c.code = cc) (hown : s.vm.findClass (aRn o) = some m.cls) (hKN : aKN g s) (hpf : (o, i8, ci, b) ∈ aPfs) (hfin : (aTX ci b).2.2.2 = false ∨ ((aTX ci b).2.2.2 = true ∧ meth.name = "<init>" ∧ (aTX ci b).1 = aRn o))
    (hn : narrow (aTy ci b) w = w) (hfit : fits (aTy ci b) w = true) (hp : aAll[aOff q1]? = some q1) (hc : aOff q1 < aCnt sta) (hsh : aSh q1 = .inl ci) (hd : decode cc pc = .ok (.putfield i8, 3))
    (hR : aRep g sta z H) (hS : va_S (aA g) s.heap H locs) (hs' : sta' = sta ∨ ∃ n r r', sta = some (n, r) ∧ sta' = some (n, r')) (hv : w = aFv g sta' z' q1 ci b) (ho1 : ∀ j : Nat, j ≠ b → aFv g sta' z' q1 ci j = aFv g sta z q1 ci j) (ho2 : ∀ q : aP, q ≠ q1 → aCe g sta' z' q = aCe g sta z q) (h31 : ∀ j, z' (31, 0, 0) j = z (31, 0, 0) j)
    (kk : ∀ (H1 : Heap) (locs1 : List Loc), aRep g sta' z' H1 → va_S (aA g) s.heap H1 locs1 → W p l e R s m args below meth c H1 locs1 u v Z (F0 m (pc + 3) la rest)) :
    W p l e R s m args below meth c H locs u v Z (F0 m pc la (w :: .ref (aAd g q1) :: rest)) := by
  obtain ⟨hw1, hw2, hbl, hc8⟩ : aPfW (o, i8, ci, b) ∈ lw_tbl ∧ aWarm (aPfW (o, i8, ci, b)) = true ∧ b < (aFl ci).length ∧ ci < 8 := aPf_w hpf
  have hlink : (Cond.fieldLink (aRn o) i8 (aTX ci b).1 (aTX ci b).2.1 (aTX ci b).2.2.1).before args s = true := hKN.w hw1 hw2 args
  have hts := aHts (args := args) hKN hc8
  have hat := aWs_at (g := g) (z := z) hp hc
  rw [aCe_o hsh] at hat
  obtain ⟨r, h1, cell, q1', q2, q3, q4⟩ := hR.1 _ _ hat
  have hr : r = (aRn ci, aTX ci, (aFl ci).length) := Option.some.inj (h1.symm.trans (aCl_at ci hc8))
  subst hr
  obtain ⟨hSl, hfc, kC, hkC, hkind⟩ := hKN.2.1.1 ci _ (aCl_at ci hc8)
  obtain ⟨cf, kf, fi, fd, hi, hsl⟩ := hSl b hbl
  have hlay := u_lays hts (fun w hw => hw) hbl
  have hst := (u_facts hfc hkC hlay hi).1
  have hap := va_apart (own := aRn o) hts (fun w hw => hw) (aTy ci) (aTy_ok ci hc8) (aNm_ok ci hc8) hKN.2.1 (aCl_at ci hc8)
  have fin : ∀ H' : Heap, H'[aAd g q1]? = some (cell.setSlot fd.slot w) → H'.size = H.size → (∀ q, q ≠ aAd g q1 → H'[q]? = H[q]?) → W p l e R s m args below meth c H' (locs ++ [⟨aAd g q1, fd.slot⟩]) u v Z (F0 m (pc + 3) la rest) := by
    intro H' e1 e2 e3
    rw [hsl] at e1
    refine kk H' _ (hR.put hp hc hs' e2 e3 ?_ ho2 h31) (hS.put e2 e3 (aAd_A hp))
    rw [aCe_o hsh]
    refine ⟨_, aCl_at ci hc8, ⟨_, e1, q2, q3, fun j hj => ?_⟩⟩
    have h9 := t_set q4 hap hbl w j hj
    rw [h9]
    congr 1
    have h8 := aFs_set (g := g) (s := sta) (s' := sta') (z := z) (z' := z') (p := q1) (ci := ci) hv ho1
    show updV (vp_V _) b w j = vp_V _ j
    rw [← h8]
    exact vp_updV_set (by simpa using hbl) w j
  by_cases hf : (aTX ci b).2.2.2 = true
  · have hlF : (Cond.laysFinal (aRn ci) (aTX ci b).1 (aTX ci b).2.1 (aTX ci b).2.2.1).before args s = true := by
      have := hts _ (u_in_lay hbl)
      unfold u_lay at this
      rwa [if_pos hf] at this
    obtain ⟨hinit, hdecl⟩ : meth.name = "<init>" ∧ (aTX ci b).1 = aRn o := by
      rcases hfin with h9 | h9
      · rw [hf] at h9; cases h9
      · exact h9.2
    have hcf : m.cls = cf := by
      obtain ⟨_, _, c', _, _, _, -, -, hf', -, -, -, hown2, -⟩ := Cond.laysFinal_spec hlF
      have e1 : c' = cf := by have := hi.symm.trans hf'; simp at this; exact this.1.symm
      rw [hdecl] at hown2
      rw [← e1]
      exact Option.some.inj (hown.symm.trans hown2)
    have h6 := u_fits hfc hkC hkind (Or.inr hlF) hi (aTy_ok ci hc8 b hbl) hn hfit
    exact W.putFinK hx hb hown hlink hi hst hcf hinit (by rw [q2]; exact h6) q1' q3 (by rw [hsl]; exact k2_hasslot (q4 b hbl)) rfl rfl hd fin
  · have hlN : (Cond.lays (aRn ci) (aTX ci b).1 (aTX ci b).2.1 (aTX ci b).2.2.1).before args s = true := by
      have := hts _ (u_in_lay hbl)
      unfold u_lay at this
      rwa [if_neg hf] at this
    have h6 := u_store hfc hkC hkind hlN hi (aTy_ok ci hc8 b hbl) hn hfit
    exact W.putK hx hb (f := fd) ⟨hown, hlink, ⟨_, _, _, hi⟩, hst⟩ (by rw [q2]; exact h6) q1' q3 (by rw [hsl]; exact k2_hasslot (q4 b hbl)) rfl rfl hd fin
theorem aFv_ne {g : aG} {s : aSt} {z : aM} {p : aP} {ci b j : Nat} {x : Int} (h : j ≠ b) : aFv g s (aWr z p (b : Int) x) p ci j = aFv g s z p ci j := by
  unfold aFv
  rw [aWr_nk (by omega)]
theorem aFv_at {g : aG} {s : aSt} {z : aM} {p : aP} {ci b : Nat} {x : Int} (h : (aFl ci)[b]? ≠ some 2) : aFv g s (aWr z p (b : Int) x) p ci b = .int (iZ x) := by
  unfold aFv
  rw [if_neg h, aWr_at]
theorem aLk_31 {p : aP} (hp : aAll[aOff p]? = some p) : ((31, 0, 0) : aP) ≠ p := fun h => by
  have := (aOkp hp).2.2
  rw [← h] at this
  exact absurd this (by decide)
theorem aCe_bt {g : aG} {n : Nat} {r : aP → Int → Bool} {z : aM} {p q : aP} {i : Int} (h : q ≠ p) : aCe g (some (n, aBt r p i)) z q = aCe g (some (n, r)) z q := by
  have e : ∀ j, aBt r p i q j = r q j := fun j => by unfold aBt; rw [if_neg (fun w => h w.1)]
  unfold aCe aFv aAr aRv
  simp only [e]
theorem aCl_st {s : aSt} {st : List aV} {s' : aSt} (h : aCnt s' = aCnt s) (hs : ∀ v ∈ st, aLv s v) : ∀ v ∈ st, aLv s' v := by
  intro v hv
  have h1 := hs v hv
  rcases v with v | v | v | v
  · trivial
  · trivial
  · rcases h1 with h1 | h1
    · exact Or.inl ⟨h1.1, by rw [h]; exact h1.2⟩
    · exact Or.inr h1
  · trivial
theorem aCl_ls {s : aSt} {ls : List (Option aV)} {s' : aSt} (h : aCnt s' = aCnt s) (hs : ∀ v, some v ∈ ls → aLv s v) : ∀ v, some v ∈ ls → aLv s' v := by
  intro v hv
  have h1 := hs v hv
  rcases v with v | v | v | v
  · trivial
  · trivial
  · rcases h1 with h1 | h1
    · exact Or.inl ⟨h1.1, by rw [h]; exact h1.2⟩
    · exact Or.inr h1
  · trivial
theorem sk_putfield {l : Launch} {g : aG} {f : aFr} {y o : Nat} {Q : Option aV → aSt → aM → Prop} {X : Nat → aSt → aM → Prop} {p : Program} {e : Env} {R : Room} {s : State} {m : MethodId} {args : Array Value} {below : List Frame} {meth : Method} {c : Code} (hF : aFrm l g f y o p e R s m args below meth c) {pc n t a b : Nat} {sw : List (Int × Nat)} {i8 : Nat} (hI : aOk y o (aMt y).2.1 pc (.putfield i8, n, t, a, b, sw) = true) {k : aK} {z : aM} {ls : List (Option aV)} {st : List aV} {K : aK → aM → Nat → List (Option aV) → List aV → Prop} (h : stp l g f Q X pc (.putfield i8, n, t, a, b, sw) k z ls st K) (hK : ∀ k z pc ls st, K k z pc ls st → aBs l g f Q X p e R s m args below meth c k z pc ls st) : aBs l g f Q X p e R s m args below meth c k z pc ls st := by
  obtain ⟨⟨hx, hst, hb, hml, hown, hlk, hrt⟩, ⟨hKN, hbs, hold⟩, ⟨hex, hnm, hrk, hho, hhc⟩, hr1, hr2, hr3, hr4, hr5⟩ := hF
  obtain ⟨hd, rfl, h2⟩ := aOk_d hI (by first | decide | (intro q; cases q))
  rcases st with _ | ⟨vv, st⟩
  · exact False.elim h
  rcases st with _ | ⟨w, st⟩
  · exact False.elim h
  rcases w with w | w | q1 | w
  · exact False.elim h
  · exact False.elim h
  · rcases sw with _ | ⟨⟨i9, w9⟩, sw⟩
    · exact False.elim h
    have h0 := h
    unfold stp at h0
    simp only at h0
    rcases hsh : aSh q1 with ci | sh
    · rw [hsh] at h0
      simp only at h0
      rcases hbq : Nat.beq ci a with _ | _
      · rw [hbq] at h0; exact False.elim h0
      rw [hbq] at h0
      simp only at h0
      obtain rfl : ci = a := Nat.eq_of_beq_eq_true hbq
      simp only [aOk2, Bool.and_eq_true, decide_eq_true_eq] at h2
      obtain ⟨hpf, rfl, h3⟩ := h2
      obtain ⟨hw1, hw2, hbl, hc8⟩ : aPfW (o, i8, ci, b) ∈ lw_tbl ∧ aWarm (aPfW (o, i8, ci, b)) = true ∧ b < (aFl ci).length ∧ ci < 8 := aPf_w hpf
      have hb21 : b < 21 := Nat.lt_of_lt_of_le hbl (aFl_21 ci hc8)
      obtain ⟨ht0, ht1, ht2⟩ := aTy_k ci hc8 b hb21
      have hfin : (aTX ci b).2.2.2 = false ∨ ((aTX ci b).2.2.2 = true ∧ meth.name = "<init>" ∧ (aTX ci b).1 = aRn o) := by
        by_cases h2k : (aFl ci)[b]? = some 2
        · rw [if_pos h2k] at h3
          simp only [Bool.and_eq_true, decide_eq_true_eq] at h3
          exact Or.inr ⟨h3.1, by rw [hnm]; exact h3.2.1, h3.2.2⟩
        · rw [if_neg h2k] at h3
          exact Or.inl (by simpa using h3)
      have ints : ∀ x : Int, vv = .inl x → (aFl ci)[b]? ≠ some 2 → narrow (aTy ci b) (.int (iZ x)) = .int (iZ x) → fits (aTy ci b) (.int (iZ x)) = true → K k (aWr z q1 (b : Int) x) (pc + 3) ls st → aBs l g f Q X p e R s m args below meth c k z pc ls (vv :: .inr (.inr (.inl q1)) :: st) := by
        intro x hvv hn2 hn hfit h9 hs hl hbd hlen H locs la hR hS hL
        subst hvv
        obtain ⟨hp, hc⟩ := aLp_in (hs (.inr (.inr (.inl q1))) (List.mem_cons_of_mem _ List.mem_cons_self)) (by rw [hsh]; intro q; cases q)
        refine W.eq (g2 := F0 m pc la (.int (iZ x) :: .ref (aAd g q1) :: st.map (aC g))) rfl ?_
        refine aPut (sta := k.1) (sta' := k.1) (z := z) (z' := aWr z q1 (b : Int) x) hx hb hown hKN hpf hfin hn hfit hp hc hsh hd hR hS (Or.inl rfl) (aFv_at hn2).symm (fun j hj => aFv_ne hj) (fun q hq => aCe_ne (fun j => aWr_ne hq)) (fun j => aWr_ne (aLk_31 hp)) (fun H1 locs1 hR1 hS1 => ?_)
        exact hK _ _ _ _ _ h9 (aLv_tl (aLv_tl hs)) hl hbd hlen H1 locs1 la hR1 hS1 hL
      split at h0
      · next x he =>
        exact ints x rfl (by rw [he]; intro q; cases q) (by rw [ht0 he]; rfl) (by rw [ht0 he]; rfl) h0
      · next x he =>
        obtain ⟨hx01, h9⟩ := h0
        refine ints x rfl (by rw [he]; intro q; cases q) ?_ ?_ h9
        · rw [ht1 he]
          rcases hx01 with rfl | rfl <;> rfl
        · rw [ht1 he]
          rcases hx01 with rfl | rfl <;> rfl
      · next q he =>
        obtain ⟨sta, u9, v9⟩ := k
        rcases sta with _ | ⟨cnt, r⟩
        · exact False.elim h0
        obtain ⟨rfl, h9⟩ := h0
        intro hs hl hbd hlen H locs la hR hS hL
        obtain ⟨hp, hc⟩ := aLp_in (hs (.inr (.inr (.inl q1))) (List.mem_cons_of_mem _ List.mem_cons_self)) (by rw [hsh]; intro q; cases q)
        refine W.eq (g2 := F0 m pc la (.ref (aAd g (aRf q1 (b : Int))) :: .ref (aAd g q1) :: st.map (aC g))) rfl ?_
        have hrk9 := ht2 he
        refine aPut (sta := some (cnt, r)) (sta' := some (cnt, aBt r q1 (b : Int))) (z := z) (z' := z) hx hb hown hKN hpf hfin ?_ ?_ hp hc hsh hd hR hS (Or.inr ⟨cnt, r, _, rfl, rfl⟩) ?_ (fun j hj => ?_) (fun q hq => aCe_bt hq) (fun j => rfl) (fun H1 locs1 hR1 hS1 => ?_)
        · revert hrk9; cases aTy ci b <;> intro hrk9 <;> first | rfl | cases hrk9
        · revert hrk9; cases aTy ci b <;> intro hrk9 <;> first | rfl | cases hrk9
        · unfold aFv
          rw [if_pos he, aRv_eq (s := some (cnt, aBt r q1 (b : Int))) (by unfold aBt; exact if_pos ⟨rfl, rfl⟩)]
          rfl
        · have e : aBt r q1 (b : Int) q1 (j : Int) = r q1 (j : Int) := by unfold aBt; rw [if_neg (fun w => hj (by omega))]
          unfold aFv aRv
          simp only [e]
        · exact hK _ _ _ _ _ h9 (aCl_st (s := some (cnt, r)) rfl (aLv_tl (aLv_tl hs))) (aCl_ls (s := some (cnt, r)) rfl hl) hbd hlen H1 locs1 la hR1 hS1 hL
      · exact False.elim h0
    · rw [hsh] at h0; exact False.elim h0
  · exact False.elim h

