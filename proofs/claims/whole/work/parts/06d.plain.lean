/-! THE JVM KEEPS TO THE STEP: the plain instructions (printed by wip/whole/sound.py) -/
theorem sk_iconst {l : Launch} {g : aG} {f : aFr} {y o : Nat} {Q : Option aV → aSt → aM → Prop} {X : Nat → aSt → aM → Prop} {p : Program} {e : Env} {R : Room} {s : State} {m : MethodId} {args : Array Value} {below : List Frame} {meth : Method} {c : Code} (hF : aFrm l g f y o p e R s m args below meth c) {pc n t a b : Nat} {sw : List (Int × Nat)} {i9 : Int} (hI : aOk y o (aMt y).2.1 pc (.iconst i9, n, t, a, b, sw) = true) {k : aK} {z : aM} {ls : List (Option aV)} {st : List aV} {K : aK → aM → Nat → List (Option aV) → List aV → Prop} (h : stp l g f Q X pc (.iconst i9, n, t, a, b, sw) k z ls st K) (hK : ∀ k z pc ls st, K k z pc ls st → aBs l g f Q X p e R s m args below meth c k z pc ls st) : aBs l g f Q X p e R s m args below meth c k z pc ls st := by
  obtain ⟨⟨hx, hst, hb, hml, hown, hlk, hrt⟩, ⟨hKN, hbs, hold⟩, ⟨hex, hnm, hrk, hho, hhc⟩, hr1, hr2, hr3, hr4, hr5⟩ := hF
  obtain ⟨hd, rfl, h2⟩ := aOk_d hI (by first | decide | (intro q; cases q))
  have h9 : K k z _ ls ((.inl (i9)) :: st) := h
  intro hs hl hbd hlen H locs la hR hS hL
  refine W.eq (g2 := F0 m pc la (st.map (aC g))) rfl ?_
  refine lv_iconst hx hb hd rfl ?_
  exact hK _ _ _ _ _ h9 (aLv_c (w := .inl (i9)) trivial hs) hl hbd hlen H locs la hR hS hL

theorem sk_bipush {l : Launch} {g : aG} {f : aFr} {y o : Nat} {Q : Option aV → aSt → aM → Prop} {X : Nat → aSt → aM → Prop} {p : Program} {e : Env} {R : Room} {s : State} {m : MethodId} {args : Array Value} {below : List Frame} {meth : Method} {c : Code} (hF : aFrm l g f y o p e R s m args below meth c) {pc n t a b : Nat} {sw : List (Int × Nat)} {i9 : Int} (hI : aOk y o (aMt y).2.1 pc (.bipush i9, n, t, a, b, sw) = true) {k : aK} {z : aM} {ls : List (Option aV)} {st : List aV} {K : aK → aM → Nat → List (Option aV) → List aV → Prop} (h : stp l g f Q X pc (.bipush i9, n, t, a, b, sw) k z ls st K) (hK : ∀ k z pc ls st, K k z pc ls st → aBs l g f Q X p e R s m args below meth c k z pc ls st) : aBs l g f Q X p e R s m args below meth c k z pc ls st := by
  obtain ⟨⟨hx, hst, hb, hml, hown, hlk, hrt⟩, ⟨hKN, hbs, hold⟩, ⟨hex, hnm, hrk, hho, hhc⟩, hr1, hr2, hr3, hr4, hr5⟩ := hF
  obtain ⟨hd, rfl, h2⟩ := aOk_d hI (by first | decide | (intro q; cases q))
  have h9 : K k z _ ls ((.inl (i9)) :: st) := h
  intro hs hl hbd hlen H locs la hR hS hL
  refine W.eq (g2 := F0 m pc la (st.map (aC g))) rfl ?_
  refine lv_bipush hx hb hd (of_decide_eq_true h2) ?_
  exact hK _ _ _ _ _ h9 (aLv_c (w := .inl (i9)) trivial hs) hl hbd hlen H locs la hR hS hL

theorem sk_sipush {l : Launch} {g : aG} {f : aFr} {y o : Nat} {Q : Option aV → aSt → aM → Prop} {X : Nat → aSt → aM → Prop} {p : Program} {e : Env} {R : Room} {s : State} {m : MethodId} {args : Array Value} {below : List Frame} {meth : Method} {c : Code} (hF : aFrm l g f y o p e R s m args below meth c) {pc n t a b : Nat} {sw : List (Int × Nat)} {i9 : Int} (hI : aOk y o (aMt y).2.1 pc (.sipush i9, n, t, a, b, sw) = true) {k : aK} {z : aM} {ls : List (Option aV)} {st : List aV} {K : aK → aM → Nat → List (Option aV) → List aV → Prop} (h : stp l g f Q X pc (.sipush i9, n, t, a, b, sw) k z ls st K) (hK : ∀ k z pc ls st, K k z pc ls st → aBs l g f Q X p e R s m args below meth c k z pc ls st) : aBs l g f Q X p e R s m args below meth c k z pc ls st := by
  obtain ⟨⟨hx, hst, hb, hml, hown, hlk, hrt⟩, ⟨hKN, hbs, hold⟩, ⟨hex, hnm, hrk, hho, hhc⟩, hr1, hr2, hr3, hr4, hr5⟩ := hF
  obtain ⟨hd, rfl, h2⟩ := aOk_d hI (by first | decide | (intro q; cases q))
  have h9 : K k z _ ls ((.inl (i9)) :: st) := h
  intro hs hl hbd hlen H locs la hR hS hL
  refine W.eq (g2 := F0 m pc la (st.map (aC g))) rfl ?_
  refine lv_sipush hx hb hd (of_decide_eq_true h2) ?_
  exact hK _ _ _ _ _ h9 (aLv_c (w := .inl (i9)) trivial hs) hl hbd hlen H locs la hR hS hL

theorem sk_iadd {l : Launch} {g : aG} {f : aFr} {y o : Nat} {Q : Option aV → aSt → aM → Prop} {X : Nat → aSt → aM → Prop} {p : Program} {e : Env} {R : Room} {s : State} {m : MethodId} {args : Array Value} {below : List Frame} {meth : Method} {c : Code} (hF : aFrm l g f y o p e R s m args below meth c) {pc n t a b : Nat} {sw : List (Int × Nat)}  (hI : aOk y o (aMt y).2.1 pc (.iadd, n, t, a, b, sw) = true) {k : aK} {z : aM} {ls : List (Option aV)} {st : List aV} {K : aK → aM → Nat → List (Option aV) → List aV → Prop} (h : stp l g f Q X pc (.iadd, n, t, a, b, sw) k z ls st K) (hK : ∀ k z pc ls st, K k z pc ls st → aBs l g f Q X p e R s m args below meth c k z pc ls st) : aBs l g f Q X p e R s m args below meth c k z pc ls st := by
  obtain ⟨⟨hx, hst, hb, hml, hown, hlk, hrt⟩, ⟨hKN, hbs, hold⟩, ⟨hex, hnm, hrk, hho, hhc⟩, hr1, hr2, hr3, hr4, hr5⟩ := hF
  obtain ⟨hd, rfl, h2⟩ := aOk_d hI (by first | decide | (intro q; cases q))
  rcases st with _ | ⟨y1, st⟩
  · exact False.elim h
  · rcases y1 with y1 | y1 | y1 | y1
    · rcases st with _ | ⟨x1, st⟩
      · exact False.elim h
      · rcases x1 with x1 | x1 | x1 | x1
        · have h9 : K k z _ ls ((.inl (x1 + y1)) :: st) := h
          intro hs hl hbd hlen H locs la hR hS hL
          refine W.eq (g2 := F0 m pc la ((.int (iZ y1)) :: (.int (iZ x1)) :: st.map (aC g))) rfl ?_
          refine lv_iadd hx hb hd ?_
          rw [iZ_add]
          exact hK _ _ _ _ _ h9 (aLv_c (w := .inl (x1 + y1)) trivial (aLv_tl (aLv_tl hs))) hl hbd hlen H locs la hR hS hL
        · exact False.elim h
        · exact False.elim h
        · exact False.elim h
    · exact False.elim h
    · exact False.elim h
    · exact False.elim h

theorem sk_isub {l : Launch} {g : aG} {f : aFr} {y o : Nat} {Q : Option aV → aSt → aM → Prop} {X : Nat → aSt → aM → Prop} {p : Program} {e : Env} {R : Room} {s : State} {m : MethodId} {args : Array Value} {below : List Frame} {meth : Method} {c : Code} (hF : aFrm l g f y o p e R s m args below meth c) {pc n t a b : Nat} {sw : List (Int × Nat)}  (hI : aOk y o (aMt y).2.1 pc (.isub, n, t, a, b, sw) = true) {k : aK} {z : aM} {ls : List (Option aV)} {st : List aV} {K : aK → aM → Nat → List (Option aV) → List aV → Prop} (h : stp l g f Q X pc (.isub, n, t, a, b, sw) k z ls st K) (hK : ∀ k z pc ls st, K k z pc ls st → aBs l g f Q X p e R s m args below meth c k z pc ls st) : aBs l g f Q X p e R s m args below meth c k z pc ls st := by
  obtain ⟨⟨hx, hst, hb, hml, hown, hlk, hrt⟩, ⟨hKN, hbs, hold⟩, ⟨hex, hnm, hrk, hho, hhc⟩, hr1, hr2, hr3, hr4, hr5⟩ := hF
  obtain ⟨hd, rfl, h2⟩ := aOk_d hI (by first | decide | (intro q; cases q))
  rcases st with _ | ⟨y1, st⟩
  · exact False.elim h
  · rcases y1 with y1 | y1 | y1 | y1
    · rcases st with _ | ⟨x1, st⟩
      · exact False.elim h
      · rcases x1 with x1 | x1 | x1 | x1
        · have h9 : K k z _ ls ((.inl (x1 - y1)) :: st) := h
          intro hs hl hbd hlen H locs la hR hS hL
          refine W.eq (g2 := F0 m pc la ((.int (iZ y1)) :: (.int (iZ x1)) :: st.map (aC g))) rfl ?_
          refine lv_isub hx hb hd ?_
          rw [iZ_sub]
          exact hK _ _ _ _ _ h9 (aLv_c (w := .inl (x1 - y1)) trivial (aLv_tl (aLv_tl hs))) hl hbd hlen H locs la hR hS hL
        · exact False.elim h
        · exact False.elim h
        · exact False.elim h
    · exact False.elim h
    · exact False.elim h
    · exact False.elim h

theorem sk_imul {l : Launch} {g : aG} {f : aFr} {y o : Nat} {Q : Option aV → aSt → aM → Prop} {X : Nat → aSt → aM → Prop} {p : Program} {e : Env} {R : Room} {s : State} {m : MethodId} {args : Array Value} {below : List Frame} {meth : Method} {c : Code} (hF : aFrm l g f y o p e R s m args below meth c) {pc n t a b : Nat} {sw : List (Int × Nat)}  (hI : aOk y o (aMt y).2.1 pc (.imul, n, t, a, b, sw) = true) {k : aK} {z : aM} {ls : List (Option aV)} {st : List aV} {K : aK → aM → Nat → List (Option aV) → List aV → Prop} (h : stp l g f Q X pc (.imul, n, t, a, b, sw) k z ls st K) (hK : ∀ k z pc ls st, K k z pc ls st → aBs l g f Q X p e R s m args below meth c k z pc ls st) : aBs l g f Q X p e R s m args below meth c k z pc ls st := by
  obtain ⟨⟨hx, hst, hb, hml, hown, hlk, hrt⟩, ⟨hKN, hbs, hold⟩, ⟨hex, hnm, hrk, hho, hhc⟩, hr1, hr2, hr3, hr4, hr5⟩ := hF
  obtain ⟨hd, rfl, h2⟩ := aOk_d hI (by first | decide | (intro q; cases q))
  rcases st with _ | ⟨y1, st⟩
  · exact False.elim h
  · rcases y1 with y1 | y1 | y1 | y1
    · rcases st with _ | ⟨x1, st⟩
      · exact False.elim h
      · rcases x1 with x1 | x1 | x1 | x1
        · have h9 : K k z _ ls ((.inl (x1 * y1)) :: st) := h
          intro hs hl hbd hlen H locs la hR hS hL
          refine W.eq (g2 := F0 m pc la ((.int (iZ y1)) :: (.int (iZ x1)) :: st.map (aC g))) rfl ?_
          refine lv_imul hx hb hd ?_
          rw [iZ_mul]
          exact hK _ _ _ _ _ h9 (aLv_c (w := .inl (x1 * y1)) trivial (aLv_tl (aLv_tl hs))) hl hbd hlen H locs la hR hS hL
        · exact False.elim h
        · exact False.elim h
        · exact False.elim h
    · exact False.elim h
    · exact False.elim h
    · exact False.elim h

theorem sk_idiv {l : Launch} {g : aG} {f : aFr} {y o : Nat} {Q : Option aV → aSt → aM → Prop} {X : Nat → aSt → aM → Prop} {p : Program} {e : Env} {R : Room} {s : State} {m : MethodId} {args : Array Value} {below : List Frame} {meth : Method} {c : Code} (hF : aFrm l g f y o p e R s m args below meth c) {pc n t a b : Nat} {sw : List (Int × Nat)}  (hI : aOk y o (aMt y).2.1 pc (.idiv, n, t, a, b, sw) = true) {k : aK} {z : aM} {ls : List (Option aV)} {st : List aV} {K : aK → aM → Nat → List (Option aV) → List aV → Prop} (h : stp l g f Q X pc (.idiv, n, t, a, b, sw) k z ls st K) (hK : ∀ k z pc ls st, K k z pc ls st → aBs l g f Q X p e R s m args below meth c k z pc ls st) : aBs l g f Q X p e R s m args below meth c k z pc ls st := by
  obtain ⟨⟨hx, hst, hb, hml, hown, hlk, hrt⟩, ⟨hKN, hbs, hold⟩, ⟨hex, hnm, hrk, hho, hhc⟩, hr1, hr2, hr3, hr4, hr5⟩ := hF
  obtain ⟨hd, rfl, h2⟩ := aOk_d hI (by first | decide | (intro q; cases q))
  rcases st with _ | ⟨y1, st⟩
  · exact False.elim h
  · rcases y1 with y1 | y1 | y1 | y1
    · rcases st with _ | ⟨x1, st⟩
      · exact False.elim h
      · rcases x1 with x1 | x1 | x1 | x1
        · have h1 := h.1
          have h9 := h.2
          intro hs hl hbd hlen H locs la hR hS hL
          refine W.eq (g2 := F0 m pc la ((.int (iZ y1)) :: (.int (iZ x1)) :: st.map (aC g))) rfl ?_
          refine lv_idiv hx hb hd (iZ_ne0 h1.2.1 h1.2.2) ?_
          rw [iZ_div h1]
          exact hK _ _ _ _ _ h9 (aLv_c (w := .inl (x1 / y1)) trivial (aLv_tl (aLv_tl hs))) hl hbd hlen H locs la hR hS hL
        · exact False.elim h
        · exact False.elim h
        · exact False.elim h
    · exact False.elim h
    · exact False.elim h
    · exact False.elim h

theorem sk_irem {l : Launch} {g : aG} {f : aFr} {y o : Nat} {Q : Option aV → aSt → aM → Prop} {X : Nat → aSt → aM → Prop} {p : Program} {e : Env} {R : Room} {s : State} {m : MethodId} {args : Array Value} {below : List Frame} {meth : Method} {c : Code} (hF : aFrm l g f y o p e R s m args below meth c) {pc n t a b : Nat} {sw : List (Int × Nat)}  (hI : aOk y o (aMt y).2.1 pc (.irem, n, t, a, b, sw) = true) {k : aK} {z : aM} {ls : List (Option aV)} {st : List aV} {K : aK → aM → Nat → List (Option aV) → List aV → Prop} (h : stp l g f Q X pc (.irem, n, t, a, b, sw) k z ls st K) (hK : ∀ k z pc ls st, K k z pc ls st → aBs l g f Q X p e R s m args below meth c k z pc ls st) : aBs l g f Q X p e R s m args below meth c k z pc ls st := by
  obtain ⟨⟨hx, hst, hb, hml, hown, hlk, hrt⟩, ⟨hKN, hbs, hold⟩, ⟨hex, hnm, hrk, hho, hhc⟩, hr1, hr2, hr3, hr4, hr5⟩ := hF
  obtain ⟨hd, rfl, h2⟩ := aOk_d hI (by first | decide | (intro q; cases q))
  rcases st with _ | ⟨y1, st⟩
  · exact False.elim h
  · rcases y1 with y1 | y1 | y1 | y1
    · rcases st with _ | ⟨x1, st⟩
      · exact False.elim h
      · rcases x1 with x1 | x1 | x1 | x1
        · have h1 := h.1
          have h9 := h.2
          intro hs hl hbd hlen H locs la hR hS hL
          refine W.eq (g2 := F0 m pc la ((.int (iZ y1)) :: (.int (iZ x1)) :: st.map (aC g))) rfl ?_
          refine lv_irem hx hb hd (iZ_ne0 h1.2.1 h1.2.2) ?_
          rw [iZ_rem h1]
          exact hK _ _ _ _ _ h9 (aLv_c (w := .inl (x1 % y1)) trivial (aLv_tl (aLv_tl hs))) hl hbd hlen H locs la hR hS hL
        · exact False.elim h
        · exact False.elim h
        · exact False.elim h
    · exact False.elim h
    · exact False.elim h
    · exact False.elim h

theorem sk_ishl {l : Launch} {g : aG} {f : aFr} {y o : Nat} {Q : Option aV → aSt → aM → Prop} {X : Nat → aSt → aM → Prop} {p : Program} {e : Env} {R : Room} {s : State} {m : MethodId} {args : Array Value} {below : List Frame} {meth : Method} {c : Code} (hF : aFrm l g f y o p e R s m args below meth c) {pc n t a b : Nat} {sw : List (Int × Nat)}  (hI : aOk y o (aMt y).2.1 pc (.ishl, n, t, a, b, sw) = true) {k : aK} {z : aM} {ls : List (Option aV)} {st : List aV} {K : aK → aM → Nat → List (Option aV) → List aV → Prop} (h : stp l g f Q X pc (.ishl, n, t, a, b, sw) k z ls st K) (hK : ∀ k z pc ls st, K k z pc ls st → aBs l g f Q X p e R s m args below meth c k z pc ls st) : aBs l g f Q X p e R s m args below meth c k z pc ls st := by
  obtain ⟨⟨hx, hst, hb, hml, hown, hlk, hrt⟩, ⟨hKN, hbs, hold⟩, ⟨hex, hnm, hrk, hho, hhc⟩, hr1, hr2, hr3, hr4, hr5⟩ := hF
  obtain ⟨hd, rfl, h2⟩ := aOk_d hI (by first | decide | (intro q; cases q))
  rcases st with _ | ⟨y1, st⟩
  · exact False.elim h
  · rcases y1 with y1 | y1 | y1 | y1
    · rcases st with _ | ⟨x1, st⟩
      · exact False.elim h
      · rcases x1 with x1 | x1 | x1 | x1
        · have h1 := h.1
          have h9 := h.2
          intro hs hl hbd hlen H locs la hR hS hL
          refine W.eq (g2 := F0 m pc la ((.int (iZ y1)) :: (.int (iZ x1)) :: st.map (aC g))) rfl ?_
          refine lv_ishl hx hb hd ?_
          rw [iZ_shl h1]
          exact hK _ _ _ _ _ h9 (aLv_c (w := .inl (x1 * 2 ^ y1.toNat)) trivial (aLv_tl (aLv_tl hs))) hl hbd hlen H locs la hR hS hL
        · exact False.elim h
        · exact False.elim h
        · exact False.elim h
    · exact False.elim h
    · exact False.elim h
    · exact False.elim h

theorem sk_ishr {l : Launch} {g : aG} {f : aFr} {y o : Nat} {Q : Option aV → aSt → aM → Prop} {X : Nat → aSt → aM → Prop} {p : Program} {e : Env} {R : Room} {s : State} {m : MethodId} {args : Array Value} {below : List Frame} {meth : Method} {c : Code} (hF : aFrm l g f y o p e R s m args below meth c) {pc n t a b : Nat} {sw : List (Int × Nat)}  (hI : aOk y o (aMt y).2.1 pc (.ishr, n, t, a, b, sw) = true) {k : aK} {z : aM} {ls : List (Option aV)} {st : List aV} {K : aK → aM → Nat → List (Option aV) → List aV → Prop} (h : stp l g f Q X pc (.ishr, n, t, a, b, sw) k z ls st K) (hK : ∀ k z pc ls st, K k z pc ls st → aBs l g f Q X p e R s m args below meth c k z pc ls st) : aBs l g f Q X p e R s m args below meth c k z pc ls st := by
  obtain ⟨⟨hx, hst, hb, hml, hown, hlk, hrt⟩, ⟨hKN, hbs, hold⟩, ⟨hex, hnm, hrk, hho, hhc⟩, hr1, hr2, hr3, hr4, hr5⟩ := hF
  obtain ⟨hd, rfl, h2⟩ := aOk_d hI (by first | decide | (intro q; cases q))
  rcases st with _ | ⟨y1, st⟩
  · exact False.elim h
  · rcases y1 with y1 | y1 | y1 | y1
    · rcases st with _ | ⟨x1, st⟩
      · exact False.elim h
      · rcases x1 with x1 | x1 | x1 | x1
        · have h1 := h.1
          have h9 := h.2
          intro hs hl hbd hlen H locs la hR hS hL
          refine W.eq (g2 := F0 m pc la ((.int (iZ y1)) :: (.int (iZ x1)) :: st.map (aC g))) rfl ?_
          refine lv_ishr hx hb hd ?_
          rw [iZ_shr h1]
          exact hK _ _ _ _ _ h9 (aLv_c (w := .inl (x1 / 2 ^ y1.toNat)) trivial (aLv_tl (aLv_tl hs))) hl hbd hlen H locs la hR hS hL
        · exact False.elim h
        · exact False.elim h
        · exact False.elim h
    · exact False.elim h
    · exact False.elim h
    · exact False.elim h

theorem sk_iand {l : Launch} {g : aG} {f : aFr} {y o : Nat} {Q : Option aV → aSt → aM → Prop} {X : Nat → aSt → aM → Prop} {p : Program} {e : Env} {R : Room} {s : State} {m : MethodId} {args : Array Value} {below : List Frame} {meth : Method} {c : Code} (hF : aFrm l g f y o p e R s m args below meth c) {pc n t a b : Nat} {sw : List (Int × Nat)}  (hI : aOk y o (aMt y).2.1 pc (.iand, n, t, a, b, sw) = true) {k : aK} {z : aM} {ls : List (Option aV)} {st : List aV} {K : aK → aM → Nat → List (Option aV) → List aV → Prop} (h : stp l g f Q X pc (.iand, n, t, a, b, sw) k z ls st K) (hK : ∀ k z pc ls st, K k z pc ls st → aBs l g f Q X p e R s m args below meth c k z pc ls st) : aBs l g f Q X p e R s m args below meth c k z pc ls st := by
  obtain ⟨⟨hx, hst, hb, hml, hown, hlk, hrt⟩, ⟨hKN, hbs, hold⟩, ⟨hex, hnm, hrk, hho, hhc⟩, hr1, hr2, hr3, hr4, hr5⟩ := hF
  obtain ⟨hd, rfl, h2⟩ := aOk_d hI (by first | decide | (intro q; cases q))
  rcases st with _ | ⟨y1, st⟩
  · exact False.elim h
  · rcases y1 with y1 | y1 | y1 | y1
    · rcases st with _ | ⟨x1, st⟩
      · exact False.elim h
      · rcases x1 with x1 | x1 | x1 | x1
        · have h9 : K k z _ ls ((.inl ((iZ x1 &&& iZ y1).toInt)) :: st) := h
          intro hs hl hbd hlen H locs la hR hS hL
          refine W.eq (g2 := F0 m pc la ((.int (iZ y1)) :: (.int (iZ x1)) :: st.map (aC g))) rfl ?_
          refine lv_iand hx hb hd ?_
          rw [← iZ_of (iZ x1 &&& iZ y1)]
          exact hK _ _ _ _ _ h9 (aLv_c (w := .inl ((iZ x1 &&& iZ y1).toInt)) trivial (aLv_tl (aLv_tl hs))) hl hbd hlen H locs la hR hS hL
        · exact False.elim h
        · exact False.elim h
        · exact False.elim h
    · exact False.elim h
    · exact False.elim h
    · exact False.elim h

theorem sk_ior {l : Launch} {g : aG} {f : aFr} {y o : Nat} {Q : Option aV → aSt → aM → Prop} {X : Nat → aSt → aM → Prop} {p : Program} {e : Env} {R : Room} {s : State} {m : MethodId} {args : Array Value} {below : List Frame} {meth : Method} {c : Code} (hF : aFrm l g f y o p e R s m args below meth c) {pc n t a b : Nat} {sw : List (Int × Nat)}  (hI : aOk y o (aMt y).2.1 pc (.ior, n, t, a, b, sw) = true) {k : aK} {z : aM} {ls : List (Option aV)} {st : List aV} {K : aK → aM → Nat → List (Option aV) → List aV → Prop} (h : stp l g f Q X pc (.ior, n, t, a, b, sw) k z ls st K) (hK : ∀ k z pc ls st, K k z pc ls st → aBs l g f Q X p e R s m args below meth c k z pc ls st) : aBs l g f Q X p e R s m args below meth c k z pc ls st := by
  obtain ⟨⟨hx, hst, hb, hml, hown, hlk, hrt⟩, ⟨hKN, hbs, hold⟩, ⟨hex, hnm, hrk, hho, hhc⟩, hr1, hr2, hr3, hr4, hr5⟩ := hF
  obtain ⟨hd, rfl, h2⟩ := aOk_d hI (by first | decide | (intro q; cases q))
  rcases st with _ | ⟨y1, st⟩
  · exact False.elim h
  · rcases y1 with y1 | y1 | y1 | y1
    · rcases st with _ | ⟨x1, st⟩
      · exact False.elim h
      · rcases x1 with x1 | x1 | x1 | x1
        · have h9 : K k z _ ls ((.inl ((iZ x1 ||| iZ y1).toInt)) :: st) := h
          intro hs hl hbd hlen H locs la hR hS hL
          refine W.eq (g2 := F0 m pc la ((.int (iZ y1)) :: (.int (iZ x1)) :: st.map (aC g))) rfl ?_
          refine lv_ior hx hb hd ?_
          rw [← iZ_of (iZ x1 ||| iZ y1)]
          exact hK _ _ _ _ _ h9 (aLv_c (w := .inl ((iZ x1 ||| iZ y1).toInt)) trivial (aLv_tl (aLv_tl hs))) hl hbd hlen H locs la hR hS hL
        · exact False.elim h
        · exact False.elim h
        · exact False.elim h
    · exact False.elim h
    · exact False.elim h
    · exact False.elim h

theorem sk_lmul {l : Launch} {g : aG} {f : aFr} {y o : Nat} {Q : Option aV → aSt → aM → Prop} {X : Nat → aSt → aM → Prop} {p : Program} {e : Env} {R : Room} {s : State} {m : MethodId} {args : Array Value} {below : List Frame} {meth : Method} {c : Code} (hF : aFrm l g f y o p e R s m args below meth c) {pc n t a b : Nat} {sw : List (Int × Nat)}  (hI : aOk y o (aMt y).2.1 pc (.lmul, n, t, a, b, sw) = true) {k : aK} {z : aM} {ls : List (Option aV)} {st : List aV} {K : aK → aM → Nat → List (Option aV) → List aV → Prop} (h : stp l g f Q X pc (.lmul, n, t, a, b, sw) k z ls st K) (hK : ∀ k z pc ls st, K k z pc ls st → aBs l g f Q X p e R s m args below meth c k z pc ls st) : aBs l g f Q X p e R s m args below meth c k z pc ls st := by
  obtain ⟨⟨hx, hst, hb, hml, hown, hlk, hrt⟩, ⟨hKN, hbs, hold⟩, ⟨hex, hnm, hrk, hho, hhc⟩, hr1, hr2, hr3, hr4, hr5⟩ := hF
  obtain ⟨hd, rfl, h2⟩ := aOk_d hI (by first | decide | (intro q; cases q))
  rcases st with _ | ⟨y1, st⟩
  · exact False.elim h
  · rcases y1 with y1 | y1 | y1 | y1
    · exact False.elim h
    · rcases st with _ | ⟨x1, st⟩
      · exact False.elim h
      · rcases x1 with x1 | x1 | x1 | x1
        · exact False.elim h
        · have h9 : K k z _ ls ((.inr (.inl (x1 * y1))) :: st) := h
          intro hs hl hbd hlen H locs la hR hS hL
          refine W.eq (g2 := F0 m pc la ((.long (lZ y1)) :: (.long (lZ x1)) :: st.map (aC g))) rfl ?_
          refine lv_lmul hx hb hd ?_
          rw [lZ_mul]
          exact hK _ _ _ _ _ h9 (aLv_c (w := .inr (.inl (x1 * y1))) trivial (aLv_tl (aLv_tl hs))) hl hbd hlen H locs la hR hS hL
        · exact False.elim h
        · exact False.elim h
    · exact False.elim h
    · exact False.elim h

theorem sk_lsub {l : Launch} {g : aG} {f : aFr} {y o : Nat} {Q : Option aV → aSt → aM → Prop} {X : Nat → aSt → aM → Prop} {p : Program} {e : Env} {R : Room} {s : State} {m : MethodId} {args : Array Value} {below : List Frame} {meth : Method} {c : Code} (hF : aFrm l g f y o p e R s m args below meth c) {pc n t a b : Nat} {sw : List (Int × Nat)}  (hI : aOk y o (aMt y).2.1 pc (.lsub, n, t, a, b, sw) = true) {k : aK} {z : aM} {ls : List (Option aV)} {st : List aV} {K : aK → aM → Nat → List (Option aV) → List aV → Prop} (h : stp l g f Q X pc (.lsub, n, t, a, b, sw) k z ls st K) (hK : ∀ k z pc ls st, K k z pc ls st → aBs l g f Q X p e R s m args below meth c k z pc ls st) : aBs l g f Q X p e R s m args below meth c k z pc ls st := by
  obtain ⟨⟨hx, hst, hb, hml, hown, hlk, hrt⟩, ⟨hKN, hbs, hold⟩, ⟨hex, hnm, hrk, hho, hhc⟩, hr1, hr2, hr3, hr4, hr5⟩ := hF
  obtain ⟨hd, rfl, h2⟩ := aOk_d hI (by first | decide | (intro q; cases q))
  rcases st with _ | ⟨y1, st⟩
  · exact False.elim h
  · rcases y1 with y1 | y1 | y1 | y1
    · exact False.elim h
    · rcases st with _ | ⟨x1, st⟩
      · exact False.elim h
      · rcases x1 with x1 | x1 | x1 | x1
        · exact False.elim h
        · have h9 : K k z _ ls ((.inr (.inl (x1 - y1))) :: st) := h
          intro hs hl hbd hlen H locs la hR hS hL
          refine W.eq (g2 := F0 m pc la ((.long (lZ y1)) :: (.long (lZ x1)) :: st.map (aC g))) rfl ?_
          refine lv_lsub hx hb hd ?_
          rw [lZ_sub]
          exact hK _ _ _ _ _ h9 (aLv_c (w := .inr (.inl (x1 - y1))) trivial (aLv_tl (aLv_tl hs))) hl hbd hlen H locs la hR hS hL
        · exact False.elim h
        · exact False.elim h
    · exact False.elim h
    · exact False.elim h

theorem sk_i2l {l : Launch} {g : aG} {f : aFr} {y o : Nat} {Q : Option aV → aSt → aM → Prop} {X : Nat → aSt → aM → Prop} {p : Program} {e : Env} {R : Room} {s : State} {m : MethodId} {args : Array Value} {below : List Frame} {meth : Method} {c : Code} (hF : aFrm l g f y o p e R s m args below meth c) {pc n t a b : Nat} {sw : List (Int × Nat)}  (hI : aOk y o (aMt y).2.1 pc (.i2l, n, t, a, b, sw) = true) {k : aK} {z : aM} {ls : List (Option aV)} {st : List aV} {K : aK → aM → Nat → List (Option aV) → List aV → Prop} (h : stp l g f Q X pc (.i2l, n, t, a, b, sw) k z ls st K) (hK : ∀ k z pc ls st, K k z pc ls st → aBs l g f Q X p e R s m args below meth c k z pc ls st) : aBs l g f Q X p e R s m args below meth c k z pc ls st := by
  obtain ⟨⟨hx, hst, hb, hml, hown, hlk, hrt⟩, ⟨hKN, hbs, hold⟩, ⟨hex, hnm, hrk, hho, hhc⟩, hr1, hr2, hr3, hr4, hr5⟩ := hF
  obtain ⟨hd, rfl, h2⟩ := aOk_d hI (by first | decide | (intro q; cases q))
  rcases st with _ | ⟨x1, st⟩
  · exact False.elim h
  · rcases x1 with x1 | x1 | x1 | x1
    · have h1 := h.1
      have h9 := h.2
      intro hs hl hbd hlen H locs la hR hS hL
      refine W.eq (g2 := F0 m pc la ((.int (iZ x1)) :: st.map (aC g))) rfl ?_
      refine lv_i2l hx hb hd (iZ_i2l h1) ?_
      exact hK _ _ _ _ _ h9 (aLv_c (w := .inr (.inl (x1))) trivial (aLv_tl hs)) hl hbd hlen H locs la hR hS hL
    · exact False.elim h
    · exact False.elim h
    · exact False.elim h

theorem sk_lcmp {l : Launch} {g : aG} {f : aFr} {y o : Nat} {Q : Option aV → aSt → aM → Prop} {X : Nat → aSt → aM → Prop} {p : Program} {e : Env} {R : Room} {s : State} {m : MethodId} {args : Array Value} {below : List Frame} {meth : Method} {c : Code} (hF : aFrm l g f y o p e R s m args below meth c) {pc n t a b : Nat} {sw : List (Int × Nat)}  (hI : aOk y o (aMt y).2.1 pc (.lcmp, n, t, a, b, sw) = true) {k : aK} {z : aM} {ls : List (Option aV)} {st : List aV} {K : aK → aM → Nat → List (Option aV) → List aV → Prop} (h : stp l g f Q X pc (.lcmp, n, t, a, b, sw) k z ls st K) (hK : ∀ k z pc ls st, K k z pc ls st → aBs l g f Q X p e R s m args below meth c k z pc ls st) : aBs l g f Q X p e R s m args below meth c k z pc ls st := by
  obtain ⟨⟨hx, hst, hb, hml, hown, hlk, hrt⟩, ⟨hKN, hbs, hold⟩, ⟨hex, hnm, hrk, hho, hhc⟩, hr1, hr2, hr3, hr4, hr5⟩ := hF
  obtain ⟨hd, rfl, h2⟩ := aOk_d hI (by first | decide | (intro q; cases q))
  rcases st with _ | ⟨y1, st⟩
  · exact False.elim h
  · rcases y1 with y1 | y1 | y1 | y1
    · exact False.elim h
    · rcases st with _ | ⟨x1, st⟩
      · exact False.elim h
      · rcases x1 with x1 | x1 | x1 | x1
        · exact False.elim h
        · have h1 := h.1
          have h9 := h.2
          intro hs hl hbd hlen H locs la hR hS hL
          refine W.eq (g2 := F0 m pc la ((.long (lZ y1)) :: (.long (lZ x1)) :: st.map (aC g))) rfl ?_
          refine W.lcmp hx hb hd ?_
          rw [iZ_cmp h1]
          exact hK _ _ _ _ _ h9 (aLv_c (w := .inl (aCmp x1 y1)) trivial (aLv_tl (aLv_tl hs))) hl hbd hlen H locs la hR hS hL
        · exact False.elim h
        · exact False.elim h
    · exact False.elim h
    · exact False.elim h

theorem sk_i2c {l : Launch} {g : aG} {f : aFr} {y o : Nat} {Q : Option aV → aSt → aM → Prop} {X : Nat → aSt → aM → Prop} {p : Program} {e : Env} {R : Room} {s : State} {m : MethodId} {args : Array Value} {below : List Frame} {meth : Method} {c : Code} (hF : aFrm l g f y o p e R s m args below meth c) {pc n t a b : Nat} {sw : List (Int × Nat)}  (hI : aOk y o (aMt y).2.1 pc (.i2c, n, t, a, b, sw) = true) {k : aK} {z : aM} {ls : List (Option aV)} {st : List aV} {K : aK → aM → Nat → List (Option aV) → List aV → Prop} (h : stp l g f Q X pc (.i2c, n, t, a, b, sw) k z ls st K) (hK : ∀ k z pc ls st, K k z pc ls st → aBs l g f Q X p e R s m args below meth c k z pc ls st) : aBs l g f Q X p e R s m args below meth c k z pc ls st := by
  obtain ⟨⟨hx, hst, hb, hml, hown, hlk, hrt⟩, ⟨hKN, hbs, hold⟩, ⟨hex, hnm, hrk, hho, hhc⟩, hr1, hr2, hr3, hr4, hr5⟩ := hF
  obtain ⟨hd, rfl, h2⟩ := aOk_d hI (by first | decide | (intro q; cases q))
  rcases st with _ | ⟨x1, st⟩
  · exact False.elim h
  · rcases x1 with x1 | x1 | x1 | x1
    · have h9 : K k z _ ls ((.inl (x1 % 65536)) :: st) := h
      intro hs hl hbd hlen H locs la hR hS hL
      refine W.eq (g2 := F0 m pc la ((.int (iZ x1)) :: st.map (aC g))) rfl ?_
      refine lv_i2c hx hb hd (iZ_i2c x1) ?_
      exact hK _ _ _ _ _ h9 (aLv_c (w := .inl (x1 % 65536)) trivial (aLv_tl hs)) hl hbd hlen H locs la hR hS hL
    · exact False.elim h
    · exact False.elim h
    · exact False.elim h

theorem sk_i2d {l : Launch} {g : aG} {f : aFr} {y o : Nat} {Q : Option aV → aSt → aM → Prop} {X : Nat → aSt → aM → Prop} {p : Program} {e : Env} {R : Room} {s : State} {m : MethodId} {args : Array Value} {below : List Frame} {meth : Method} {c : Code} (hF : aFrm l g f y o p e R s m args below meth c) {pc n t a b : Nat} {sw : List (Int × Nat)}  (hI : aOk y o (aMt y).2.1 pc (.i2d, n, t, a, b, sw) = true) {k : aK} {z : aM} {ls : List (Option aV)} {st : List aV} {K : aK → aM → Nat → List (Option aV) → List aV → Prop} (h : stp l g f Q X pc (.i2d, n, t, a, b, sw) k z ls st K) (hK : ∀ k z pc ls st, K k z pc ls st → aBs l g f Q X p e R s m args below meth c k z pc ls st) : aBs l g f Q X p e R s m args below meth c k z pc ls st := by
  obtain ⟨⟨hx, hst, hb, hml, hown, hlk, hrt⟩, ⟨hKN, hbs, hold⟩, ⟨hex, hnm, hrk, hho, hhc⟩, hr1, hr2, hr3, hr4, hr5⟩ := hF
  obtain ⟨hd, rfl, h2⟩ := aOk_d hI (by first | decide | (intro q; cases q))
  rcases st with _ | ⟨x1, st⟩
  · exact False.elim h
  · rcases x1 with x1 | x1 | x1 | x1
    · have h9 : K k z _ ls ((.inr (.inr (.inr (.double (FP.i2d (iZ x1)))))) :: st) := h
      intro hs hl hbd hlen H locs la hR hS hL
      refine W.eq (g2 := F0 m pc la ((.int (iZ x1)) :: st.map (aC g))) rfl ?_
      refine lv_i2d hx hb hd ?_
      exact hK _ _ _ _ _ h9 (aLv_c (w := .inr (.inr (.inr (.double (FP.i2d (iZ x1)))))) trivial (aLv_tl hs)) hl hbd hlen H locs la hR hS hL
    · exact False.elim h
    · exact False.elim h
    · exact False.elim h

theorem sk_i2f {l : Launch} {g : aG} {f : aFr} {y o : Nat} {Q : Option aV → aSt → aM → Prop} {X : Nat → aSt → aM → Prop} {p : Program} {e : Env} {R : Room} {s : State} {m : MethodId} {args : Array Value} {below : List Frame} {meth : Method} {c : Code} (hF : aFrm l g f y o p e R s m args below meth c) {pc n t a b : Nat} {sw : List (Int × Nat)}  (hI : aOk y o (aMt y).2.1 pc (.i2f, n, t, a, b, sw) = true) {k : aK} {z : aM} {ls : List (Option aV)} {st : List aV} {K : aK → aM → Nat → List (Option aV) → List aV → Prop} (h : stp l g f Q X pc (.i2f, n, t, a, b, sw) k z ls st K) (hK : ∀ k z pc ls st, K k z pc ls st → aBs l g f Q X p e R s m args below meth c k z pc ls st) : aBs l g f Q X p e R s m args below meth c k z pc ls st := by
  obtain ⟨⟨hx, hst, hb, hml, hown, hlk, hrt⟩, ⟨hKN, hbs, hold⟩, ⟨hex, hnm, hrk, hho, hhc⟩, hr1, hr2, hr3, hr4, hr5⟩ := hF
  obtain ⟨hd, rfl, h2⟩ := aOk_d hI (by first | decide | (intro q; cases q))
  rcases st with _ | ⟨x1, st⟩
  · exact False.elim h
  · rcases x1 with x1 | x1 | x1 | x1
    · have h9 : K k z _ ls ((.inr (.inr (.inr (.float (FP.i2f (iZ x1)))))) :: st) := h
      intro hs hl hbd hlen H locs la hR hS hL
      refine W.eq (g2 := F0 m pc la ((.int (iZ x1)) :: st.map (aC g))) rfl ?_
      refine lv_i2f hx hb hd ?_
      exact hK _ _ _ _ _ h9 (aLv_c (w := .inr (.inr (.inr (.float (FP.i2f (iZ x1)))))) trivial (aLv_tl hs)) hl hbd hlen H locs la hR hS hL
    · exact False.elim h
    · exact False.elim h
    · exact False.elim h

theorem sk_f2d {l : Launch} {g : aG} {f : aFr} {y o : Nat} {Q : Option aV → aSt → aM → Prop} {X : Nat → aSt → aM → Prop} {p : Program} {e : Env} {R : Room} {s : State} {m : MethodId} {args : Array Value} {below : List Frame} {meth : Method} {c : Code} (hF : aFrm l g f y o p e R s m args below meth c) {pc n t a b : Nat} {sw : List (Int × Nat)}  (hI : aOk y o (aMt y).2.1 pc (.f2d, n, t, a, b, sw) = true) {k : aK} {z : aM} {ls : List (Option aV)} {st : List aV} {K : aK → aM → Nat → List (Option aV) → List aV → Prop} (h : stp l g f Q X pc (.f2d, n, t, a, b, sw) k z ls st K) (hK : ∀ k z pc ls st, K k z pc ls st → aBs l g f Q X p e R s m args below meth c k z pc ls st) : aBs l g f Q X p e R s m args below meth c k z pc ls st := by
  obtain ⟨⟨hx, hst, hb, hml, hown, hlk, hrt⟩, ⟨hKN, hbs, hold⟩, ⟨hex, hnm, hrk, hho, hhc⟩, hr1, hr2, hr3, hr4, hr5⟩ := hF
  obtain ⟨hd, rfl, h2⟩ := aOk_d hI (by first | decide | (intro q; cases q))
  rcases st with _ | ⟨x1, st⟩
  · exact False.elim h
  · rcases x1 with x1 | x1 | x1 | x1
    · exact False.elim h
    · exact False.elim h
    · exact False.elim h
    · cases x1 with
      | float x1 =>
        have h1 := h.1
        have h9 := h.2
        intro hs hl hbd hlen H locs la hR hS hL
        refine W.eq (g2 := F0 m pc la ((.float x1) :: st.map (aC g))) rfl ?_
        refine lv_f2d hx hb hd h1 ?_
        exact hK _ _ _ _ _ h9 (aLv_c (w := .inr (.inr (.inr (.double (FP.f2d x1))))) trivial (aLv_tl hs)) hl hbd hlen H locs la hR hS hL
      | _ => exact False.elim h

theorem sk_fdiv {l : Launch} {g : aG} {f : aFr} {y o : Nat} {Q : Option aV → aSt → aM → Prop} {X : Nat → aSt → aM → Prop} {p : Program} {e : Env} {R : Room} {s : State} {m : MethodId} {args : Array Value} {below : List Frame} {meth : Method} {c : Code} (hF : aFrm l g f y o p e R s m args below meth c) {pc n t a b : Nat} {sw : List (Int × Nat)}  (hI : aOk y o (aMt y).2.1 pc (.fdiv, n, t, a, b, sw) = true) {k : aK} {z : aM} {ls : List (Option aV)} {st : List aV} {K : aK → aM → Nat → List (Option aV) → List aV → Prop} (h : stp l g f Q X pc (.fdiv, n, t, a, b, sw) k z ls st K) (hK : ∀ k z pc ls st, K k z pc ls st → aBs l g f Q X p e R s m args below meth c k z pc ls st) : aBs l g f Q X p e R s m args below meth c k z pc ls st := by
  obtain ⟨⟨hx, hst, hb, hml, hown, hlk, hrt⟩, ⟨hKN, hbs, hold⟩, ⟨hex, hnm, hrk, hho, hhc⟩, hr1, hr2, hr3, hr4, hr5⟩ := hF
  obtain ⟨hd, rfl, h2⟩ := aOk_d hI (by first | decide | (intro q; cases q))
  rcases st with _ | ⟨y1, st⟩
  · exact False.elim h
  · rcases y1 with y1 | y1 | y1 | y1
    · exact False.elim h
    · exact False.elim h
    · exact False.elim h
    · cases y1 with
      | float y1 =>
        rcases st with _ | ⟨x1, st⟩
        · exact False.elim h
        · rcases x1 with x1 | x1 | x1 | x1
          · exact False.elim h
          · exact False.elim h
          · exact False.elim h
          · cases x1 with
            | float x1 =>
              have h1 := h.1
              have h9 := h.2
              intro hs hl hbd hlen H locs la hR hS hL
              refine W.eq (g2 := F0 m pc la ((.float y1) :: (.float x1) :: st.map (aC g))) rfl ?_
              refine lv_fdiv hx hb hd h1 ?_
              exact hK _ _ _ _ _ h9 (aLv_c (w := .inr (.inr (.inr (.float (FP.fdiv x1 y1))))) trivial (aLv_tl (aLv_tl hs))) hl hbd hlen H locs la hR hS hL
            | _ => exact False.elim h
      | _ => exact False.elim h

theorem sk_ddiv {l : Launch} {g : aG} {f : aFr} {y o : Nat} {Q : Option aV → aSt → aM → Prop} {X : Nat → aSt → aM → Prop} {p : Program} {e : Env} {R : Room} {s : State} {m : MethodId} {args : Array Value} {below : List Frame} {meth : Method} {c : Code} (hF : aFrm l g f y o p e R s m args below meth c) {pc n t a b : Nat} {sw : List (Int × Nat)}  (hI : aOk y o (aMt y).2.1 pc (.ddiv, n, t, a, b, sw) = true) {k : aK} {z : aM} {ls : List (Option aV)} {st : List aV} {K : aK → aM → Nat → List (Option aV) → List aV → Prop} (h : stp l g f Q X pc (.ddiv, n, t, a, b, sw) k z ls st K) (hK : ∀ k z pc ls st, K k z pc ls st → aBs l g f Q X p e R s m args below meth c k z pc ls st) : aBs l g f Q X p e R s m args below meth c k z pc ls st := by
  obtain ⟨⟨hx, hst, hb, hml, hown, hlk, hrt⟩, ⟨hKN, hbs, hold⟩, ⟨hex, hnm, hrk, hho, hhc⟩, hr1, hr2, hr3, hr4, hr5⟩ := hF
  obtain ⟨hd, rfl, h2⟩ := aOk_d hI (by first | decide | (intro q; cases q))
  rcases st with _ | ⟨y1, st⟩
  · exact False.elim h
  · rcases y1 with y1 | y1 | y1 | y1
    · exact False.elim h
    · exact False.elim h
    · exact False.elim h
    · cases y1 with
      | double y1 =>
        rcases st with _ | ⟨x1, st⟩
        · exact False.elim h
        · rcases x1 with x1 | x1 | x1 | x1
          · exact False.elim h
          · exact False.elim h
          · exact False.elim h
          · cases x1 with
            | double x1 =>
              have h1 := h.1
              have h9 := h.2
              intro hs hl hbd hlen H locs la hR hS hL
              refine W.eq (g2 := F0 m pc la ((.double y1) :: (.double x1) :: st.map (aC g))) rfl ?_
              refine lv_ddiv hx hb hd h1 ?_
              exact hK _ _ _ _ _ h9 (aLv_c (w := .inr (.inr (.inr (.double (FP.ddiv x1 y1))))) trivial (aLv_tl (aLv_tl hs))) hl hbd hlen H locs la hR hS hL
            | _ => exact False.elim h
      | _ => exact False.elim h

theorem sk_dcmp {l : Launch} {g : aG} {f : aFr} {y o : Nat} {Q : Option aV → aSt → aM → Prop} {X : Nat → aSt → aM → Prop} {p : Program} {e : Env} {R : Room} {s : State} {m : MethodId} {args : Array Value} {below : List Frame} {meth : Method} {c : Code} (hF : aFrm l g f y o p e R s m args below meth c) {pc n t a b : Nat} {sw : List (Int × Nat)} {o9 : CmpOp} (hI : aOk y o (aMt y).2.1 pc (.dcmp o9, n, t, a, b, sw) = true) {k : aK} {z : aM} {ls : List (Option aV)} {st : List aV} {K : aK → aM → Nat → List (Option aV) → List aV → Prop} (h : stp l g f Q X pc (.dcmp o9, n, t, a, b, sw) k z ls st K) (hK : ∀ k z pc ls st, K k z pc ls st → aBs l g f Q X p e R s m args below meth c k z pc ls st) : aBs l g f Q X p e R s m args below meth c k z pc ls st := by
  obtain ⟨⟨hx, hst, hb, hml, hown, hlk, hrt⟩, ⟨hKN, hbs, hold⟩, ⟨hex, hnm, hrk, hho, hhc⟩, hr1, hr2, hr3, hr4, hr5⟩ := hF
  obtain ⟨hd, rfl, h2⟩ := aOk_d hI (by first | decide | (intro q; cases q))
  rcases st with _ | ⟨y1, st⟩
  · exact False.elim h
  · rcases y1 with y1 | y1 | y1 | y1
    · exact False.elim h
    · exact False.elim h
    · exact False.elim h
    · cases y1 with
      | double y1 =>
        rcases st with _ | ⟨x1, st⟩
        · exact False.elim h
        · rcases x1 with x1 | x1 | x1 | x1
          · exact False.elim h
          · exact False.elim h
          · exact False.elim h
          · cases x1 with
            | double x1 =>
              have h9 : K k z _ ls ((.inl ((Op.cmpValue (FP.dcmp x1 y1) o9).toInt)) :: st) := h
              intro hs hl hbd hlen H locs la hR hS hL
              refine W.eq (g2 := F0 m pc la ((.double y1) :: (.double x1) :: st.map (aC g))) rfl ?_
              refine lv_dcmp hx hb hd ?_
              rw [← iZ_of (Op.cmpValue (FP.dcmp x1 y1) o9)]
              exact hK _ _ _ _ _ h9 (aLv_c (w := .inl ((Op.cmpValue (FP.dcmp x1 y1) o9).toInt)) trivial (aLv_tl (aLv_tl hs))) hl hbd hlen H locs la hR hS hL
            | _ => exact False.elim h
      | _ => exact False.elim h

theorem sk_fcmp {l : Launch} {g : aG} {f : aFr} {y o : Nat} {Q : Option aV → aSt → aM → Prop} {X : Nat → aSt → aM → Prop} {p : Program} {e : Env} {R : Room} {s : State} {m : MethodId} {args : Array Value} {below : List Frame} {meth : Method} {c : Code} (hF : aFrm l g f y o p e R s m args below meth c) {pc n t a b : Nat} {sw : List (Int × Nat)} {o9 : CmpOp} (hI : aOk y o (aMt y).2.1 pc (.fcmp o9, n, t, a, b, sw) = true) {k : aK} {z : aM} {ls : List (Option aV)} {st : List aV} {K : aK → aM → Nat → List (Option aV) → List aV → Prop} (h : stp l g f Q X pc (.fcmp o9, n, t, a, b, sw) k z ls st K) (hK : ∀ k z pc ls st, K k z pc ls st → aBs l g f Q X p e R s m args below meth c k z pc ls st) : aBs l g f Q X p e R s m args below meth c k z pc ls st := by
  obtain ⟨⟨hx, hst, hb, hml, hown, hlk, hrt⟩, ⟨hKN, hbs, hold⟩, ⟨hex, hnm, hrk, hho, hhc⟩, hr1, hr2, hr3, hr4, hr5⟩ := hF
  obtain ⟨hd, rfl, h2⟩ := aOk_d hI (by first | decide | (intro q; cases q))
  rcases st with _ | ⟨y1, st⟩
  · exact False.elim h
  · rcases y1 with y1 | y1 | y1 | y1
    · exact False.elim h
    · exact False.elim h
    · exact False.elim h
    · cases y1 with
      | float y1 =>
        rcases st with _ | ⟨x1, st⟩
        · exact False.elim h
        · rcases x1 with x1 | x1 | x1 | x1
          · exact False.elim h
          · exact False.elim h
          · exact False.elim h
          · cases x1 with
            | float x1 =>
              have h9 : K k z _ ls ((.inl ((Op.cmpValue (FP.fcmp x1 y1) o9).toInt)) :: st) := h
              intro hs hl hbd hlen H locs la hR hS hL
              refine W.eq (g2 := F0 m pc la ((.float y1) :: (.float x1) :: st.map (aC g))) rfl ?_
              refine lv_fcmp hx hb hd ?_
              rw [← iZ_of (Op.cmpValue (FP.fcmp x1 y1) o9)]
              exact hK _ _ _ _ _ h9 (aLv_c (w := .inl ((Op.cmpValue (FP.fcmp x1 y1) o9).toInt)) trivial (aLv_tl (aLv_tl hs))) hl hbd hlen H locs la hR hS hL
            | _ => exact False.elim h
      | _ => exact False.elim h

theorem sk_iload_n {l : Launch} {g : aG} {f : aFr} {y o : Nat} {Q : Option aV → aSt → aM → Prop} {X : Nat → aSt → aM → Prop} {p : Program} {e : Env} {R : Room} {s : State} {m : MethodId} {args : Array Value} {below : List Frame} {meth : Method} {c : Code} (hF : aFrm l g f y o p e R s m args below meth c) {pc n t a b : Nat} {sw : List (Int × Nat)} {i9 : Fin 4} (hI : aOk y o (aMt y).2.1 pc (.iload_n i9, n, t, a, b, sw) = true) {k : aK} {z : aM} {ls : List (Option aV)} {st : List aV} {K : aK → aM → Nat → List (Option aV) → List aV → Prop} (h : stp l g f Q X pc (.iload_n i9, n, t, a, b, sw) k z ls st K) (hK : ∀ k z pc ls st, K k z pc ls st → aBs l g f Q X p e R s m args below meth c k z pc ls st) : aBs l g f Q X p e R s m args below meth c k z pc ls st := by
  obtain ⟨⟨hx, hst, hb, hml, hown, hlk, hrt⟩, ⟨hKN, hbs, hold⟩, ⟨hex, hnm, hrk, hho, hhc⟩, hr1, hr2, hr3, hr4, hr5⟩ := hF
  obtain ⟨hd, rfl, h2⟩ := aOk_d hI (by first | decide | (intro q; cases q))
  rcases hg : aGet ls i9.val with _ | v
  · exact False.elim (by have h0 := h; unfold stp at h0; simp only [hg] at h0)
  · have h0 := h
    unfold stp at h0
    simp only [hg] at h0
    rcases v with v | v | v | v
    · have h9 : K k z _ ls ((.inl v) :: st) := h0
      intro hs hl hbd hlen H locs la hR hS hL
      have hv := hL.2.2 _ _ (aGet_at _ _ _ hg)
      refine lv_iload_n hx hb hd rfl hv ?_
      exact hK _ _ _ _ _ h9 (aLv_c (w := .inl v) (aLv_gt hl hg) hs) hl hbd hlen H locs la hR hS hL
    · exact False.elim h0
    · exact False.elim h0
    · exact False.elim h0

theorem sk_iload {l : Launch} {g : aG} {f : aFr} {y o : Nat} {Q : Option aV → aSt → aM → Prop} {X : Nat → aSt → aM → Prop} {p : Program} {e : Env} {R : Room} {s : State} {m : MethodId} {args : Array Value} {below : List Frame} {meth : Method} {c : Code} (hF : aFrm l g f y o p e R s m args below meth c) {pc n t a b : Nat} {sw : List (Int × Nat)} {i9 : Nat} (hI : aOk y o (aMt y).2.1 pc (.iload i9, n, t, a, b, sw) = true) {k : aK} {z : aM} {ls : List (Option aV)} {st : List aV} {K : aK → aM → Nat → List (Option aV) → List aV → Prop} (h : stp l g f Q X pc (.iload i9, n, t, a, b, sw) k z ls st K) (hK : ∀ k z pc ls st, K k z pc ls st → aBs l g f Q X p e R s m args below meth c k z pc ls st) : aBs l g f Q X p e R s m args below meth c k z pc ls st := by
  obtain ⟨⟨hx, hst, hb, hml, hown, hlk, hrt⟩, ⟨hKN, hbs, hold⟩, ⟨hex, hnm, hrk, hho, hhc⟩, hr1, hr2, hr3, hr4, hr5⟩ := hF
  obtain ⟨hd, rfl, h2⟩ := aOk_d hI (by first | decide | (intro q; cases q))
  rcases hg : aGet ls i9 with _ | v
  · exact False.elim (by have h0 := h; unfold stp at h0; simp only [hg] at h0)
  · have h0 := h
    unfold stp at h0
    simp only [hg] at h0
    rcases v with v | v | v | v
    · have h9 : K k z _ ls ((.inl v) :: st) := h0
      intro hs hl hbd hlen H locs la hR hS hL
      have hv := hL.2.2 _ _ (aGet_at _ _ _ hg)
      refine lv_iload hx hb hd hv ?_
      exact hK _ _ _ _ _ h9 (aLv_c (w := .inl v) (aLv_gt hl hg) hs) hl hbd hlen H locs la hR hS hL
    · exact False.elim h0
    · exact False.elim h0
    · exact False.elim h0

theorem sk_aload_n {l : Launch} {g : aG} {f : aFr} {y o : Nat} {Q : Option aV → aSt → aM → Prop} {X : Nat → aSt → aM → Prop} {p : Program} {e : Env} {R : Room} {s : State} {m : MethodId} {args : Array Value} {below : List Frame} {meth : Method} {c : Code} (hF : aFrm l g f y o p e R s m args below meth c) {pc n t a b : Nat} {sw : List (Int × Nat)} {i9 : Fin 4} (hI : aOk y o (aMt y).2.1 pc (.aload_n i9, n, t, a, b, sw) = true) {k : aK} {z : aM} {ls : List (Option aV)} {st : List aV} {K : aK → aM → Nat → List (Option aV) → List aV → Prop} (h : stp l g f Q X pc (.aload_n i9, n, t, a, b, sw) k z ls st K) (hK : ∀ k z pc ls st, K k z pc ls st → aBs l g f Q X p e R s m args below meth c k z pc ls st) : aBs l g f Q X p e R s m args below meth c k z pc ls st := by
  obtain ⟨⟨hx, hst, hb, hml, hown, hlk, hrt⟩, ⟨hKN, hbs, hold⟩, ⟨hex, hnm, hrk, hho, hhc⟩, hr1, hr2, hr3, hr4, hr5⟩ := hF
  obtain ⟨hd, rfl, h2⟩ := aOk_d hI (by first | decide | (intro q; cases q))
  rcases hg : aGet ls i9.val with _ | v
  · exact False.elim (by have h0 := h; unfold stp at h0; simp only [hg] at h0)
  · have h0 := h
    unfold stp at h0
    simp only [hg] at h0
    rcases v with v | v | v | v
    · exact False.elim h0
    · exact False.elim h0
    · have h9 : K k z _ ls ((.inr (.inr (.inl v))) :: st) := h0
      intro hs hl hbd hlen H locs la hR hS hL
      have hv := hL.2.2 _ _ (aGet_at _ _ _ hg)
      refine lv_aload_n hx hb hd rfl hv ?_
      exact hK _ _ _ _ _ h9 (aLv_c (w := .inr (.inr (.inl v))) (aLv_gt hl hg) hs) hl hbd hlen H locs la hR hS hL
    · exact False.elim h0

theorem sk_aload {l : Launch} {g : aG} {f : aFr} {y o : Nat} {Q : Option aV → aSt → aM → Prop} {X : Nat → aSt → aM → Prop} {p : Program} {e : Env} {R : Room} {s : State} {m : MethodId} {args : Array Value} {below : List Frame} {meth : Method} {c : Code} (hF : aFrm l g f y o p e R s m args below meth c) {pc n t a b : Nat} {sw : List (Int × Nat)} {i9 : Nat} (hI : aOk y o (aMt y).2.1 pc (.aload i9, n, t, a, b, sw) = true) {k : aK} {z : aM} {ls : List (Option aV)} {st : List aV} {K : aK → aM → Nat → List (Option aV) → List aV → Prop} (h : stp l g f Q X pc (.aload i9, n, t, a, b, sw) k z ls st K) (hK : ∀ k z pc ls st, K k z pc ls st → aBs l g f Q X p e R s m args below meth c k z pc ls st) : aBs l g f Q X p e R s m args below meth c k z pc ls st := by
  obtain ⟨⟨hx, hst, hb, hml, hown, hlk, hrt⟩, ⟨hKN, hbs, hold⟩, ⟨hex, hnm, hrk, hho, hhc⟩, hr1, hr2, hr3, hr4, hr5⟩ := hF
  obtain ⟨hd, rfl, h2⟩ := aOk_d hI (by first | decide | (intro q; cases q))
  rcases hg : aGet ls i9 with _ | v
  · exact False.elim (by have h0 := h; unfold stp at h0; simp only [hg] at h0)
  · have h0 := h
    unfold stp at h0
    simp only [hg] at h0
    rcases v with v | v | v | v
    · exact False.elim h0
    · exact False.elim h0
    · have h9 : K k z _ ls ((.inr (.inr (.inl v))) :: st) := h0
      intro hs hl hbd hlen H locs la hR hS hL
      have hv := hL.2.2 _ _ (aGet_at _ _ _ hg)
      refine lv_aload hx hb hd hv ?_
      exact hK _ _ _ _ _ h9 (aLv_c (w := .inr (.inr (.inl v))) (aLv_gt hl hg) hs) hl hbd hlen H locs la hR hS hL
    · exact False.elim h0

theorem sk_lload_n {l : Launch} {g : aG} {f : aFr} {y o : Nat} {Q : Option aV → aSt → aM → Prop} {X : Nat → aSt → aM → Prop} {p : Program} {e : Env} {R : Room} {s : State} {m : MethodId} {args : Array Value} {below : List Frame} {meth : Method} {c : Code} (hF : aFrm l g f y o p e R s m args below meth c) {pc n t a b : Nat} {sw : List (Int × Nat)} {i9 : Fin 4} (hI : aOk y o (aMt y).2.1 pc (.lload_n i9, n, t, a, b, sw) = true) {k : aK} {z : aM} {ls : List (Option aV)} {st : List aV} {K : aK → aM → Nat → List (Option aV) → List aV → Prop} (h : stp l g f Q X pc (.lload_n i9, n, t, a, b, sw) k z ls st K) (hK : ∀ k z pc ls st, K k z pc ls st → aBs l g f Q X p e R s m args below meth c k z pc ls st) : aBs l g f Q X p e R s m args below meth c k z pc ls st := by
  obtain ⟨⟨hx, hst, hb, hml, hown, hlk, hrt⟩, ⟨hKN, hbs, hold⟩, ⟨hex, hnm, hrk, hho, hhc⟩, hr1, hr2, hr3, hr4, hr5⟩ := hF
  obtain ⟨hd, rfl, h2⟩ := aOk_d hI (by first | decide | (intro q; cases q))
  rcases hg : aGet ls i9.val with _ | v
  · exact False.elim (by have h0 := h; unfold stp at h0; simp only [hg] at h0)
  · have h0 := h
    unfold stp at h0
    simp only [hg] at h0
    rcases v with v | v | v | v
    · exact False.elim h0
    · have h9 : K k z _ ls ((.inr (.inl v)) :: st) := h0
      intro hs hl hbd hlen H locs la hR hS hL
      have hv := hL.2.2 _ _ (aGet_at _ _ _ hg)
      refine lv_lload_n hx hb hd rfl hv ?_
      exact hK _ _ _ _ _ h9 (aLv_c (w := .inr (.inl v)) (aLv_gt hl hg) hs) hl hbd hlen H locs la hR hS hL
    · exact False.elim h0
    · exact False.elim h0

theorem sk_lload {l : Launch} {g : aG} {f : aFr} {y o : Nat} {Q : Option aV → aSt → aM → Prop} {X : Nat → aSt → aM → Prop} {p : Program} {e : Env} {R : Room} {s : State} {m : MethodId} {args : Array Value} {below : List Frame} {meth : Method} {c : Code} (hF : aFrm l g f y o p e R s m args below meth c) {pc n t a b : Nat} {sw : List (Int × Nat)} {i9 : Nat} (hI : aOk y o (aMt y).2.1 pc (.lload i9, n, t, a, b, sw) = true) {k : aK} {z : aM} {ls : List (Option aV)} {st : List aV} {K : aK → aM → Nat → List (Option aV) → List aV → Prop} (h : stp l g f Q X pc (.lload i9, n, t, a, b, sw) k z ls st K) (hK : ∀ k z pc ls st, K k z pc ls st → aBs l g f Q X p e R s m args below meth c k z pc ls st) : aBs l g f Q X p e R s m args below meth c k z pc ls st := by
  obtain ⟨⟨hx, hst, hb, hml, hown, hlk, hrt⟩, ⟨hKN, hbs, hold⟩, ⟨hex, hnm, hrk, hho, hhc⟩, hr1, hr2, hr3, hr4, hr5⟩ := hF
  obtain ⟨hd, rfl, h2⟩ := aOk_d hI (by first | decide | (intro q; cases q))
  rcases hg : aGet ls i9 with _ | v
  · exact False.elim (by have h0 := h; unfold stp at h0; simp only [hg] at h0)
  · have h0 := h
    unfold stp at h0
    simp only [hg] at h0
    rcases v with v | v | v | v
    · exact False.elim h0
    · have h9 : K k z _ ls ((.inr (.inl v)) :: st) := h0
      intro hs hl hbd hlen H locs la hR hS hL
      have hv := hL.2.2 _ _ (aGet_at _ _ _ hg)
      refine lv_lload hx hb hd hv ?_
      exact hK _ _ _ _ _ h9 (aLv_c (w := .inr (.inl v)) (aLv_gt hl hg) hs) hl hbd hlen H locs la hR hS hL
    · exact False.elim h0
    · exact False.elim h0

theorem sk_dload {l : Launch} {g : aG} {f : aFr} {y o : Nat} {Q : Option aV → aSt → aM → Prop} {X : Nat → aSt → aM → Prop} {p : Program} {e : Env} {R : Room} {s : State} {m : MethodId} {args : Array Value} {below : List Frame} {meth : Method} {c : Code} (hF : aFrm l g f y o p e R s m args below meth c) {pc n t a b : Nat} {sw : List (Int × Nat)} {i9 : Nat} (hI : aOk y o (aMt y).2.1 pc (.dload i9, n, t, a, b, sw) = true) {k : aK} {z : aM} {ls : List (Option aV)} {st : List aV} {K : aK → aM → Nat → List (Option aV) → List aV → Prop} (h : stp l g f Q X pc (.dload i9, n, t, a, b, sw) k z ls st K) (hK : ∀ k z pc ls st, K k z pc ls st → aBs l g f Q X p e R s m args below meth c k z pc ls st) : aBs l g f Q X p e R s m args below meth c k z pc ls st := by
  obtain ⟨⟨hx, hst, hb, hml, hown, hlk, hrt⟩, ⟨hKN, hbs, hold⟩, ⟨hex, hnm, hrk, hho, hhc⟩, hr1, hr2, hr3, hr4, hr5⟩ := hF
  obtain ⟨hd, rfl, h2⟩ := aOk_d hI (by first | decide | (intro q; cases q))
  rcases hg : aGet ls i9 with _ | v
  · exact False.elim (by have h0 := h; unfold stp at h0; simp only [hg] at h0)
  · have h0 := h
    unfold stp at h0
    simp only [hg] at h0
    rcases v with v | v | v | v
    · exact False.elim h0
    · exact False.elim h0
    · exact False.elim h0
    · cases v with
      | double v =>
        have h9 : K k z _ ls ((.inr (.inr (.inr (.double v)))) :: st) := h0
        intro hs hl hbd hlen H locs la hR hS hL
        have hv := hL.2.2 _ _ (aGet_at _ _ _ hg)
        refine lv_dload hx hb hd hv ?_
        exact hK _ _ _ _ _ h9 (aLv_c (w := .inr (.inr (.inr (.double v)))) (aLv_gt hl hg) hs) hl hbd hlen H locs la hR hS hL
      | _ => exact False.elim h0

theorem sk_fload {l : Launch} {g : aG} {f : aFr} {y o : Nat} {Q : Option aV → aSt → aM → Prop} {X : Nat → aSt → aM → Prop} {p : Program} {e : Env} {R : Room} {s : State} {m : MethodId} {args : Array Value} {below : List Frame} {meth : Method} {c : Code} (hF : aFrm l g f y o p e R s m args below meth c) {pc n t a b : Nat} {sw : List (Int × Nat)} {i9 : Nat} (hI : aOk y o (aMt y).2.1 pc (.fload i9, n, t, a, b, sw) = true) {k : aK} {z : aM} {ls : List (Option aV)} {st : List aV} {K : aK → aM → Nat → List (Option aV) → List aV → Prop} (h : stp l g f Q X pc (.fload i9, n, t, a, b, sw) k z ls st K) (hK : ∀ k z pc ls st, K k z pc ls st → aBs l g f Q X p e R s m args below meth c k z pc ls st) : aBs l g f Q X p e R s m args below meth c k z pc ls st := by
  obtain ⟨⟨hx, hst, hb, hml, hown, hlk, hrt⟩, ⟨hKN, hbs, hold⟩, ⟨hex, hnm, hrk, hho, hhc⟩, hr1, hr2, hr3, hr4, hr5⟩ := hF
  obtain ⟨hd, rfl, h2⟩ := aOk_d hI (by first | decide | (intro q; cases q))
  rcases hg : aGet ls i9 with _ | v
  · exact False.elim (by have h0 := h; unfold stp at h0; simp only [hg] at h0)
  · have h0 := h
    unfold stp at h0
    simp only [hg] at h0
    rcases v with v | v | v | v
    · exact False.elim h0
    · exact False.elim h0
    · exact False.elim h0
    · cases v with
      | float v =>
        have h9 : K k z _ ls ((.inr (.inr (.inr (.float v)))) :: st) := h0
        intro hs hl hbd hlen H locs la hR hS hL
        have hv := hL.2.2 _ _ (aGet_at _ _ _ hg)
        refine lv_fload hx hb hd hv ?_
        exact hK _ _ _ _ _ h9 (aLv_c (w := .inr (.inr (.inr (.float v)))) (aLv_gt hl hg) hs) hl hbd hlen H locs la hR hS hL
      | _ => exact False.elim h0

theorem sk_istore_n {l : Launch} {g : aG} {f : aFr} {y o : Nat} {Q : Option aV → aSt → aM → Prop} {X : Nat → aSt → aM → Prop} {p : Program} {e : Env} {R : Room} {s : State} {m : MethodId} {args : Array Value} {below : List Frame} {meth : Method} {c : Code} (hF : aFrm l g f y o p e R s m args below meth c) {pc n t a b : Nat} {sw : List (Int × Nat)} {i9 : Fin 4} (hI : aOk y o (aMt y).2.1 pc (.istore_n i9, n, t, a, b, sw) = true) {k : aK} {z : aM} {ls : List (Option aV)} {st : List aV} {K : aK → aM → Nat → List (Option aV) → List aV → Prop} (h : stp l g f Q X pc (.istore_n i9, n, t, a, b, sw) k z ls st K) (hK : ∀ k z pc ls st, K k z pc ls st → aBs l g f Q X p e R s m args below meth c k z pc ls st) : aBs l g f Q X p e R s m args below meth c k z pc ls st := by
  obtain ⟨⟨hx, hst, hb, hml, hown, hlk, hrt⟩, ⟨hKN, hbs, hold⟩, ⟨hex, hnm, hrk, hho, hhc⟩, hr1, hr2, hr3, hr4, hr5⟩ := hF
  obtain ⟨hd, rfl, h2⟩ := aOk_d hI (by first | decide | (intro q; cases q))
  rcases st with _ | ⟨x1, st⟩
  · exact False.elim h
  · rcases x1 with x1 | x1 | x1 | x1
    · have h0 := h
      unfold stp at h0
      simp only at h0
      rcases hg : aSet1 ls i9.val (.inl x1) with _ | l1
      · rw [hg] at h0; exact False.elim h0
      · rw [hg] at h0
        have h9 := aFo_eq l1 h0
        intro hs hl hbd hlen H locs la hR hS hL
        have hsp := aSet1_s ls _ _ _ hg
        refine W.eq (g2 := F0 m pc la ((.int (iZ x1)) :: st.map (aC g))) rfl ?_
        refine lv_istore_n hx hb hd rfl hL.has (by have := hsp.2.1; rw [hlen] at this; exact this) rfl (fun la2 hh => ?_)
        exact hK _ _ _ _ _ h9 (aLv_tl hs) (aLv_s1 (v := .inl x1) hl trivial hg) hbd (hsp.1.trans hlen) H locs la2 hR hS (aLs.set1 hg hh)
    · exact False.elim h
    · exact False.elim h
    · exact False.elim h

theorem sk_istore {l : Launch} {g : aG} {f : aFr} {y o : Nat} {Q : Option aV → aSt → aM → Prop} {X : Nat → aSt → aM → Prop} {p : Program} {e : Env} {R : Room} {s : State} {m : MethodId} {args : Array Value} {below : List Frame} {meth : Method} {c : Code} (hF : aFrm l g f y o p e R s m args below meth c) {pc n t a b : Nat} {sw : List (Int × Nat)} {i9 : Nat} (hI : aOk y o (aMt y).2.1 pc (.istore i9, n, t, a, b, sw) = true) {k : aK} {z : aM} {ls : List (Option aV)} {st : List aV} {K : aK → aM → Nat → List (Option aV) → List aV → Prop} (h : stp l g f Q X pc (.istore i9, n, t, a, b, sw) k z ls st K) (hK : ∀ k z pc ls st, K k z pc ls st → aBs l g f Q X p e R s m args below meth c k z pc ls st) : aBs l g f Q X p e R s m args below meth c k z pc ls st := by
  obtain ⟨⟨hx, hst, hb, hml, hown, hlk, hrt⟩, ⟨hKN, hbs, hold⟩, ⟨hex, hnm, hrk, hho, hhc⟩, hr1, hr2, hr3, hr4, hr5⟩ := hF
  obtain ⟨hd, rfl, h2⟩ := aOk_d hI (by first | decide | (intro q; cases q))
  rcases st with _ | ⟨x1, st⟩
  · exact False.elim h
  · rcases x1 with x1 | x1 | x1 | x1
    · have h0 := h
      unfold stp at h0
      simp only at h0
      rcases hg : aSet1 ls i9 (.inl x1) with _ | l1
      · rw [hg] at h0; exact False.elim h0
      · rw [hg] at h0
        have h9 := aFo_eq l1 h0
        intro hs hl hbd hlen H locs la hR hS hL
        have hsp := aSet1_s ls _ _ _ hg
        refine W.eq (g2 := F0 m pc la ((.int (iZ x1)) :: st.map (aC g))) rfl ?_
        refine lv_istore hx hb hd hL.has (by have := hsp.2.1; rw [hlen] at this; exact this) rfl (fun la2 hh => ?_)
        exact hK _ _ _ _ _ h9 (aLv_tl hs) (aLv_s1 (v := .inl x1) hl trivial hg) hbd (hsp.1.trans hlen) H locs la2 hR hS (aLs.set1 hg hh)
    · exact False.elim h
    · exact False.elim h
    · exact False.elim h

theorem sk_astore_n {l : Launch} {g : aG} {f : aFr} {y o : Nat} {Q : Option aV → aSt → aM → Prop} {X : Nat → aSt → aM → Prop} {p : Program} {e : Env} {R : Room} {s : State} {m : MethodId} {args : Array Value} {below : List Frame} {meth : Method} {c : Code} (hF : aFrm l g f y o p e R s m args below meth c) {pc n t a b : Nat} {sw : List (Int × Nat)} {i9 : Fin 4} (hI : aOk y o (aMt y).2.1 pc (.astore_n i9, n, t, a, b, sw) = true) {k : aK} {z : aM} {ls : List (Option aV)} {st : List aV} {K : aK → aM → Nat → List (Option aV) → List aV → Prop} (h : stp l g f Q X pc (.astore_n i9, n, t, a, b, sw) k z ls st K) (hK : ∀ k z pc ls st, K k z pc ls st → aBs l g f Q X p e R s m args below meth c k z pc ls st) : aBs l g f Q X p e R s m args below meth c k z pc ls st := by
  obtain ⟨⟨hx, hst, hb, hml, hown, hlk, hrt⟩, ⟨hKN, hbs, hold⟩, ⟨hex, hnm, hrk, hho, hhc⟩, hr1, hr2, hr3, hr4, hr5⟩ := hF
  obtain ⟨hd, rfl, h2⟩ := aOk_d hI (by first | decide | (intro q; cases q))
  rcases st with _ | ⟨x1, st⟩
  · exact False.elim h
  · rcases x1 with x1 | x1 | x1 | x1
    · exact False.elim h
    · exact False.elim h
    · have h0 := h
      unfold stp at h0
      simp only at h0
      rcases hg : aSet1 ls i9.val (.inr (.inr (.inl x1))) with _ | l1
      · rw [hg] at h0; exact False.elim h0
      · rw [hg] at h0
        have h9 := aFo_eq l1 h0
        intro hs hl hbd hlen H locs la hR hS hL
        have hsp := aSet1_s ls _ _ _ hg
        refine W.eq (g2 := F0 m pc la ((.ref (aAd g x1)) :: st.map (aC g))) rfl ?_
        refine lv_astore_n hx hb hd rfl hL.has (by have := hsp.2.1; rw [hlen] at this; exact this) rfl (fun la2 hh => ?_)
        exact hK _ _ _ _ _ h9 (aLv_tl hs) (aLv_s1 (v := .inr (.inr (.inl x1))) hl (hs _ List.mem_cons_self) hg) hbd (hsp.1.trans hlen) H locs la2 hR hS (aLs.set1 hg hh)
    · cases x1 with
      | ref x1 =>
        have h0 := h
        unfold stp at h0
        simp only at h0
        rcases hg : aSet1 ls i9.val (.inr (.inr (.inr (.ref x1)))) with _ | l1
        · rw [hg] at h0; exact False.elim h0
        · rw [hg] at h0
          have h9 := aFo_eq l1 h0
          intro hs hl hbd hlen H locs la hR hS hL
          have hsp := aSet1_s ls _ _ _ hg
          refine W.eq (g2 := F0 m pc la ((.ref x1) :: st.map (aC g))) rfl ?_
          refine lv_astore_n hx hb hd rfl hL.has (by have := hsp.2.1; rw [hlen] at this; exact this) rfl (fun la2 hh => ?_)
          exact hK _ _ _ _ _ h9 (aLv_tl hs) (aLv_s1 (v := .inr (.inr (.inr (.ref x1)))) hl trivial hg) hbd (hsp.1.trans hlen) H locs la2 hR hS (aLs.set1 hg hh)
      | _ => exact False.elim h

theorem sk_astore {l : Launch} {g : aG} {f : aFr} {y o : Nat} {Q : Option aV → aSt → aM → Prop} {X : Nat → aSt → aM → Prop} {p : Program} {e : Env} {R : Room} {s : State} {m : MethodId} {args : Array Value} {below : List Frame} {meth : Method} {c : Code} (hF : aFrm l g f y o p e R s m args below meth c) {pc n t a b : Nat} {sw : List (Int × Nat)} {i9 : Nat} (hI : aOk y o (aMt y).2.1 pc (.astore i9, n, t, a, b, sw) = true) {k : aK} {z : aM} {ls : List (Option aV)} {st : List aV} {K : aK → aM → Nat → List (Option aV) → List aV → Prop} (h : stp l g f Q X pc (.astore i9, n, t, a, b, sw) k z ls st K) (hK : ∀ k z pc ls st, K k z pc ls st → aBs l g f Q X p e R s m args below meth c k z pc ls st) : aBs l g f Q X p e R s m args below meth c k z pc ls st := by
  obtain ⟨⟨hx, hst, hb, hml, hown, hlk, hrt⟩, ⟨hKN, hbs, hold⟩, ⟨hex, hnm, hrk, hho, hhc⟩, hr1, hr2, hr3, hr4, hr5⟩ := hF
  obtain ⟨hd, rfl, h2⟩ := aOk_d hI (by first | decide | (intro q; cases q))
  rcases st with _ | ⟨x1, st⟩
  · exact False.elim h
  · rcases x1 with x1 | x1 | x1 | x1
    · exact False.elim h
    · exact False.elim h
    · have h0 := h
      unfold stp at h0
      simp only at h0
      rcases hg : aSet1 ls i9 (.inr (.inr (.inl x1))) with _ | l1
      · rw [hg] at h0; exact False.elim h0
      · rw [hg] at h0
        have h9 := aFo_eq l1 h0
        intro hs hl hbd hlen H locs la hR hS hL
        have hsp := aSet1_s ls _ _ _ hg
        refine W.eq (g2 := F0 m pc la ((.ref (aAd g x1)) :: st.map (aC g))) rfl ?_
        refine lv_astore hx hb hd hL.has (by have := hsp.2.1; rw [hlen] at this; exact this) rfl (fun la2 hh => ?_)
        exact hK _ _ _ _ _ h9 (aLv_tl hs) (aLv_s1 (v := .inr (.inr (.inl x1))) hl (hs _ List.mem_cons_self) hg) hbd (hsp.1.trans hlen) H locs la2 hR hS (aLs.set1 hg hh)
    · cases x1 with
      | ref x1 =>
        have h0 := h
        unfold stp at h0
        simp only at h0
        rcases hg : aSet1 ls i9 (.inr (.inr (.inr (.ref x1)))) with _ | l1
        · rw [hg] at h0; exact False.elim h0
        · rw [hg] at h0
          have h9 := aFo_eq l1 h0
          intro hs hl hbd hlen H locs la hR hS hL
          have hsp := aSet1_s ls _ _ _ hg
          refine W.eq (g2 := F0 m pc la ((.ref x1) :: st.map (aC g))) rfl ?_
          refine lv_astore hx hb hd hL.has (by have := hsp.2.1; rw [hlen] at this; exact this) rfl (fun la2 hh => ?_)
          exact hK _ _ _ _ _ h9 (aLv_tl hs) (aLv_s1 (v := .inr (.inr (.inr (.ref x1)))) hl trivial hg) hbd (hsp.1.trans hlen) H locs la2 hR hS (aLs.set1 hg hh)
      | _ => exact False.elim h

theorem sk_lstore {l : Launch} {g : aG} {f : aFr} {y o : Nat} {Q : Option aV → aSt → aM → Prop} {X : Nat → aSt → aM → Prop} {p : Program} {e : Env} {R : Room} {s : State} {m : MethodId} {args : Array Value} {below : List Frame} {meth : Method} {c : Code} (hF : aFrm l g f y o p e R s m args below meth c) {pc n t a b : Nat} {sw : List (Int × Nat)} {i9 : Nat} (hI : aOk y o (aMt y).2.1 pc (.lstore i9, n, t, a, b, sw) = true) {k : aK} {z : aM} {ls : List (Option aV)} {st : List aV} {K : aK → aM → Nat → List (Option aV) → List aV → Prop} (h : stp l g f Q X pc (.lstore i9, n, t, a, b, sw) k z ls st K) (hK : ∀ k z pc ls st, K k z pc ls st → aBs l g f Q X p e R s m args below meth c k z pc ls st) : aBs l g f Q X p e R s m args below meth c k z pc ls st := by
  obtain ⟨⟨hx, hst, hb, hml, hown, hlk, hrt⟩, ⟨hKN, hbs, hold⟩, ⟨hex, hnm, hrk, hho, hhc⟩, hr1, hr2, hr3, hr4, hr5⟩ := hF
  obtain ⟨hd, rfl, h2⟩ := aOk_d hI (by first | decide | (intro q; cases q))
  rcases st with _ | ⟨x1, st⟩
  · exact False.elim h
  · rcases x1 with x1 | x1 | x1 | x1
    · exact False.elim h
    · have h0 := h
      unfold stp at h0
      simp only at h0
      rcases hg : aSet2 ls i9 (.inr (.inl x1)) with _ | l1
      · rw [hg] at h0; exact False.elim h0
      · rw [hg] at h0
        have h9 := aFo_eq l1 h0
        intro hs hl hbd hlen H locs la hR hS hL
        have hsp := aSet2_s ls _ _ _ hg
        refine W.eq (g2 := F0 m pc la ((.long (lZ x1)) :: st.map (aC g))) rfl ?_
        refine lv_lstore hx hb hd hL.has (by have := hsp.2.1; rw [hlen] at this; exact this) rfl (fun la2 hh => ?_)
        exact hK _ _ _ _ _ h9 (aLv_tl hs) (aLv_s2 (v := .inr (.inl x1)) hl trivial hg) hbd (hsp.1.trans hlen) H locs la2 hR hS (aLs.set2 hg hh)
    · exact False.elim h
    · exact False.elim h

theorem sk_dstore {l : Launch} {g : aG} {f : aFr} {y o : Nat} {Q : Option aV → aSt → aM → Prop} {X : Nat → aSt → aM → Prop} {p : Program} {e : Env} {R : Room} {s : State} {m : MethodId} {args : Array Value} {below : List Frame} {meth : Method} {c : Code} (hF : aFrm l g f y o p e R s m args below meth c) {pc n t a b : Nat} {sw : List (Int × Nat)} {i9 : Nat} (hI : aOk y o (aMt y).2.1 pc (.dstore i9, n, t, a, b, sw) = true) {k : aK} {z : aM} {ls : List (Option aV)} {st : List aV} {K : aK → aM → Nat → List (Option aV) → List aV → Prop} (h : stp l g f Q X pc (.dstore i9, n, t, a, b, sw) k z ls st K) (hK : ∀ k z pc ls st, K k z pc ls st → aBs l g f Q X p e R s m args below meth c k z pc ls st) : aBs l g f Q X p e R s m args below meth c k z pc ls st := by
  obtain ⟨⟨hx, hst, hb, hml, hown, hlk, hrt⟩, ⟨hKN, hbs, hold⟩, ⟨hex, hnm, hrk, hho, hhc⟩, hr1, hr2, hr3, hr4, hr5⟩ := hF
  obtain ⟨hd, rfl, h2⟩ := aOk_d hI (by first | decide | (intro q; cases q))
  rcases st with _ | ⟨x1, st⟩
  · exact False.elim h
  · rcases x1 with x1 | x1 | x1 | x1
    · exact False.elim h
    · exact False.elim h
    · exact False.elim h
    · cases x1 with
      | double x1 =>
        have h0 := h
        unfold stp at h0
        simp only at h0
        rcases hg : aSet2 ls i9 (.inr (.inr (.inr (.double x1)))) with _ | l1
        · rw [hg] at h0; exact False.elim h0
        · rw [hg] at h0
          have h9 := aFo_eq l1 h0
          intro hs hl hbd hlen H locs la hR hS hL
          have hsp := aSet2_s ls _ _ _ hg
          refine W.eq (g2 := F0 m pc la ((.double x1) :: st.map (aC g))) rfl ?_
          refine lv_dstore hx hb hd hL.has (by have := hsp.2.1; rw [hlen] at this; exact this) rfl (fun la2 hh => ?_)
          exact hK _ _ _ _ _ h9 (aLv_tl hs) (aLv_s2 (v := .inr (.inr (.inr (.double x1)))) hl trivial hg) hbd (hsp.1.trans hlen) H locs la2 hR hS (aLs.set2 hg hh)
      | _ => exact False.elim h

theorem sk_fstore {l : Launch} {g : aG} {f : aFr} {y o : Nat} {Q : Option aV → aSt → aM → Prop} {X : Nat → aSt → aM → Prop} {p : Program} {e : Env} {R : Room} {s : State} {m : MethodId} {args : Array Value} {below : List Frame} {meth : Method} {c : Code} (hF : aFrm l g f y o p e R s m args below meth c) {pc n t a b : Nat} {sw : List (Int × Nat)} {i9 : Nat} (hI : aOk y o (aMt y).2.1 pc (.fstore i9, n, t, a, b, sw) = true) {k : aK} {z : aM} {ls : List (Option aV)} {st : List aV} {K : aK → aM → Nat → List (Option aV) → List aV → Prop} (h : stp l g f Q X pc (.fstore i9, n, t, a, b, sw) k z ls st K) (hK : ∀ k z pc ls st, K k z pc ls st → aBs l g f Q X p e R s m args below meth c k z pc ls st) : aBs l g f Q X p e R s m args below meth c k z pc ls st := by
  obtain ⟨⟨hx, hst, hb, hml, hown, hlk, hrt⟩, ⟨hKN, hbs, hold⟩, ⟨hex, hnm, hrk, hho, hhc⟩, hr1, hr2, hr3, hr4, hr5⟩ := hF
  obtain ⟨hd, rfl, h2⟩ := aOk_d hI (by first | decide | (intro q; cases q))
  rcases st with _ | ⟨x1, st⟩
  · exact False.elim h
  · rcases x1 with x1 | x1 | x1 | x1
    · exact False.elim h
    · exact False.elim h
    · exact False.elim h
    · cases x1 with
      | float x1 =>
        have h0 := h
        unfold stp at h0
        simp only at h0
        rcases hg : aSet1 ls i9 (.inr (.inr (.inr (.float x1)))) with _ | l1
        · rw [hg] at h0; exact False.elim h0
        · rw [hg] at h0
          have h9 := aFo_eq l1 h0
          intro hs hl hbd hlen H locs la hR hS hL
          have hsp := aSet1_s ls _ _ _ hg
          refine W.eq (g2 := F0 m pc la ((.float x1) :: st.map (aC g))) rfl ?_
          refine lv_fstore hx hb hd hL.has (by have := hsp.2.1; rw [hlen] at this; exact this) rfl (fun la2 hh => ?_)
          exact hK _ _ _ _ _ h9 (aLv_tl hs) (aLv_s1 (v := .inr (.inr (.inr (.float x1)))) hl trivial hg) hbd (hsp.1.trans hlen) H locs la2 hR hS (aLs.set1 hg hh)
      | _ => exact False.elim h

theorem sk_if_eq {l : Launch} {g : aG} {f : aFr} {y o : Nat} {Q : Option aV → aSt → aM → Prop} {X : Nat → aSt → aM → Prop} {p : Program} {e : Env} {R : Room} {s : State} {m : MethodId} {args : Array Value} {below : List Frame} {meth : Method} {c : Code} (hF : aFrm l g f y o p e R s m args below meth c) {pc n t a b : Nat} {sw : List (Int × Nat)} {f9 : Int} (hI : aOk y o (aMt y).2.1 pc (.ifCond .eq f9, n, t, a, b, sw) = true) {k : aK} {z : aM} {ls : List (Option aV)} {st : List aV} {K : aK → aM → Nat → List (Option aV) → List aV → Prop} (h : stp l g f Q X pc (.ifCond .eq f9, n, t, a, b, sw) k z ls st K) (hK : ∀ k z pc ls st, K k z pc ls st → aBs l g f Q X p e R s m args below meth c k z pc ls st) : aBs l g f Q X p e R s m args below meth c k z pc ls st := by
  obtain ⟨⟨hx, hst, hb, hml, hown, hlk, hrt⟩, ⟨hKN, hbs, hold⟩, ⟨hex, hnm, hrk, hho, hhc⟩, hr1, hr2, hr3, hr4, hr5⟩ := hF
  obtain ⟨hd, rfl, h2⟩ := aOk_d hI (by first | decide | (intro q; cases q))
  rcases st with _ | ⟨x1, st⟩
  · exact False.elim h
  · rcases x1 with x1 | x1 | x1 | x1
    · obtain ⟨h1, h3, h4⟩ := h
      have q1 := h1
      have q2 : aIR 0 := ⟨by decide, by decide⟩
      intro hs hl hbd hlen H locs la hR hS hL
      have ht := of_decide_eq_true h2
      refine W.eq (g2 := F0 m pc la ((.int (iZ x1)) :: st.map (aC g))) rfl ?_
      refine lv_if_eq (tgt := t) hx hb hd ht (fun q => ?_) (fun q => ?_)
      all_goals rw [← iZ_0] at q
      · exact hK _ _ _ _ _ (h3 ((iZ_eq q1 q2).mp q)) (aLv_tl hs) hl hbd hlen H locs la hR hS hL
      · exact hK _ _ _ _ _ (h4 (fun w => q ((iZ_eq q1 q2).mpr w))) (aLv_tl hs) hl hbd hlen H locs la hR hS hL
    · exact False.elim h
    · exact False.elim h
    · exact False.elim h

theorem sk_icmp_eq {l : Launch} {g : aG} {f : aFr} {y o : Nat} {Q : Option aV → aSt → aM → Prop} {X : Nat → aSt → aM → Prop} {p : Program} {e : Env} {R : Room} {s : State} {m : MethodId} {args : Array Value} {below : List Frame} {meth : Method} {c : Code} (hF : aFrm l g f y o p e R s m args below meth c) {pc n t a b : Nat} {sw : List (Int × Nat)} {f9 : Int} (hI : aOk y o (aMt y).2.1 pc (.if_icmp .eq f9, n, t, a, b, sw) = true) {k : aK} {z : aM} {ls : List (Option aV)} {st : List aV} {K : aK → aM → Nat → List (Option aV) → List aV → Prop} (h : stp l g f Q X pc (.if_icmp .eq f9, n, t, a, b, sw) k z ls st K) (hK : ∀ k z pc ls st, K k z pc ls st → aBs l g f Q X p e R s m args below meth c k z pc ls st) : aBs l g f Q X p e R s m args below meth c k z pc ls st := by
  obtain ⟨⟨hx, hst, hb, hml, hown, hlk, hrt⟩, ⟨hKN, hbs, hold⟩, ⟨hex, hnm, hrk, hho, hhc⟩, hr1, hr2, hr3, hr4, hr5⟩ := hF
  obtain ⟨hd, rfl, h2⟩ := aOk_d hI (by first | decide | (intro q; cases q))
  rcases st with _ | ⟨y1, st⟩
  · exact False.elim h
  · rcases y1 with y1 | y1 | y1 | y1
    · rcases st with _ | ⟨x1, st⟩
      · exact False.elim h
      · rcases x1 with x1 | x1 | x1 | x1
        · obtain ⟨h1, h3, h4⟩ := h
          obtain ⟨q1, q2⟩ := h1
          intro hs hl hbd hlen H locs la hR hS hL
          have ht := of_decide_eq_true h2
          refine W.eq (g2 := F0 m pc la ((.int (iZ y1)) :: (.int (iZ x1)) :: st.map (aC g))) rfl ?_
          refine lv_icmp_eq (tgt := t) hx hb hd ht (fun q => ?_) (fun q => ?_)
          · exact hK _ _ _ _ _ (h3 ((iZ_eq q1 q2).mp q)) (aLv_tl (aLv_tl hs)) hl hbd hlen H locs la hR hS hL
          · exact hK _ _ _ _ _ (h4 (fun w => q ((iZ_eq q1 q2).mpr w))) (aLv_tl (aLv_tl hs)) hl hbd hlen H locs la hR hS hL
        · exact False.elim h
        · exact False.elim h
        · exact False.elim h
    · exact False.elim h
    · exact False.elim h
    · exact False.elim h

theorem sk_if_ne {l : Launch} {g : aG} {f : aFr} {y o : Nat} {Q : Option aV → aSt → aM → Prop} {X : Nat → aSt → aM → Prop} {p : Program} {e : Env} {R : Room} {s : State} {m : MethodId} {args : Array Value} {below : List Frame} {meth : Method} {c : Code} (hF : aFrm l g f y o p e R s m args below meth c) {pc n t a b : Nat} {sw : List (Int × Nat)} {f9 : Int} (hI : aOk y o (aMt y).2.1 pc (.ifCond .ne f9, n, t, a, b, sw) = true) {k : aK} {z : aM} {ls : List (Option aV)} {st : List aV} {K : aK → aM → Nat → List (Option aV) → List aV → Prop} (h : stp l g f Q X pc (.ifCond .ne f9, n, t, a, b, sw) k z ls st K) (hK : ∀ k z pc ls st, K k z pc ls st → aBs l g f Q X p e R s m args below meth c k z pc ls st) : aBs l g f Q X p e R s m args below meth c k z pc ls st := by
  obtain ⟨⟨hx, hst, hb, hml, hown, hlk, hrt⟩, ⟨hKN, hbs, hold⟩, ⟨hex, hnm, hrk, hho, hhc⟩, hr1, hr2, hr3, hr4, hr5⟩ := hF
  obtain ⟨hd, rfl, h2⟩ := aOk_d hI (by first | decide | (intro q; cases q))
  rcases st with _ | ⟨x1, st⟩
  · exact False.elim h
  · rcases x1 with x1 | x1 | x1 | x1
    · obtain ⟨h1, h3, h4⟩ := h
      have q1 := h1
      have q2 : aIR 0 := ⟨by decide, by decide⟩
      intro hs hl hbd hlen H locs la hR hS hL
      have ht := of_decide_eq_true h2
      refine W.eq (g2 := F0 m pc la ((.int (iZ x1)) :: st.map (aC g))) rfl ?_
      refine lv_if_ne (tgt := t) hx hb hd ht (fun q => ?_) (fun q => ?_)
      all_goals rw [← iZ_0] at q
      · exact hK _ _ _ _ _ (h3 (fun w => q ((iZ_eq q1 q2).mpr w))) (aLv_tl hs) hl hbd hlen H locs la hR hS hL
      · exact hK _ _ _ _ _ (h4 ((iZ_eq q1 q2).mp q)) (aLv_tl hs) hl hbd hlen H locs la hR hS hL
    · exact False.elim h
    · exact False.elim h
    · exact False.elim h

theorem sk_icmp_ne {l : Launch} {g : aG} {f : aFr} {y o : Nat} {Q : Option aV → aSt → aM → Prop} {X : Nat → aSt → aM → Prop} {p : Program} {e : Env} {R : Room} {s : State} {m : MethodId} {args : Array Value} {below : List Frame} {meth : Method} {c : Code} (hF : aFrm l g f y o p e R s m args below meth c) {pc n t a b : Nat} {sw : List (Int × Nat)} {f9 : Int} (hI : aOk y o (aMt y).2.1 pc (.if_icmp .ne f9, n, t, a, b, sw) = true) {k : aK} {z : aM} {ls : List (Option aV)} {st : List aV} {K : aK → aM → Nat → List (Option aV) → List aV → Prop} (h : stp l g f Q X pc (.if_icmp .ne f9, n, t, a, b, sw) k z ls st K) (hK : ∀ k z pc ls st, K k z pc ls st → aBs l g f Q X p e R s m args below meth c k z pc ls st) : aBs l g f Q X p e R s m args below meth c k z pc ls st := by
  obtain ⟨⟨hx, hst, hb, hml, hown, hlk, hrt⟩, ⟨hKN, hbs, hold⟩, ⟨hex, hnm, hrk, hho, hhc⟩, hr1, hr2, hr3, hr4, hr5⟩ := hF
  obtain ⟨hd, rfl, h2⟩ := aOk_d hI (by first | decide | (intro q; cases q))
  rcases st with _ | ⟨y1, st⟩
  · exact False.elim h
  · rcases y1 with y1 | y1 | y1 | y1
    · rcases st with _ | ⟨x1, st⟩
      · exact False.elim h
      · rcases x1 with x1 | x1 | x1 | x1
        · obtain ⟨h1, h3, h4⟩ := h
          obtain ⟨q1, q2⟩ := h1
          intro hs hl hbd hlen H locs la hR hS hL
          have ht := of_decide_eq_true h2
          refine W.eq (g2 := F0 m pc la ((.int (iZ y1)) :: (.int (iZ x1)) :: st.map (aC g))) rfl ?_
          refine lv_icmp_ne (tgt := t) hx hb hd ht (fun q => ?_) (fun q => ?_)
          · exact hK _ _ _ _ _ (h3 (fun w => q ((iZ_eq q1 q2).mpr w))) (aLv_tl (aLv_tl hs)) hl hbd hlen H locs la hR hS hL
          · exact hK _ _ _ _ _ (h4 ((iZ_eq q1 q2).mp q)) (aLv_tl (aLv_tl hs)) hl hbd hlen H locs la hR hS hL
        · exact False.elim h
        · exact False.elim h
        · exact False.elim h
    · exact False.elim h
    · exact False.elim h
    · exact False.elim h

theorem sk_if_lt {l : Launch} {g : aG} {f : aFr} {y o : Nat} {Q : Option aV → aSt → aM → Prop} {X : Nat → aSt → aM → Prop} {p : Program} {e : Env} {R : Room} {s : State} {m : MethodId} {args : Array Value} {below : List Frame} {meth : Method} {c : Code} (hF : aFrm l g f y o p e R s m args below meth c) {pc n t a b : Nat} {sw : List (Int × Nat)} {f9 : Int} (hI : aOk y o (aMt y).2.1 pc (.ifCond .lt f9, n, t, a, b, sw) = true) {k : aK} {z : aM} {ls : List (Option aV)} {st : List aV} {K : aK → aM → Nat → List (Option aV) → List aV → Prop} (h : stp l g f Q X pc (.ifCond .lt f9, n, t, a, b, sw) k z ls st K) (hK : ∀ k z pc ls st, K k z pc ls st → aBs l g f Q X p e R s m args below meth c k z pc ls st) : aBs l g f Q X p e R s m args below meth c k z pc ls st := by
  obtain ⟨⟨hx, hst, hb, hml, hown, hlk, hrt⟩, ⟨hKN, hbs, hold⟩, ⟨hex, hnm, hrk, hho, hhc⟩, hr1, hr2, hr3, hr4, hr5⟩ := hF
  obtain ⟨hd, rfl, h2⟩ := aOk_d hI (by first | decide | (intro q; cases q))
  rcases st with _ | ⟨x1, st⟩
  · exact False.elim h
  · rcases x1 with x1 | x1 | x1 | x1
    · obtain ⟨h1, h3, h4⟩ := h
      have q1 := h1
      have q2 : aIR 0 := ⟨by decide, by decide⟩
      intro hs hl hbd hlen H locs la hR hS hL
      have ht := of_decide_eq_true h2
      refine W.eq (g2 := F0 m pc la ((.int (iZ x1)) :: st.map (aC g))) rfl ?_
      refine lv_if_lt (tgt := t) hx hb hd ht (fun q => ?_) (fun q => ?_)
      all_goals rw [← iZ_0] at q
      · exact hK _ _ _ _ _ (h3 ((iZ_lt q1 q2).mp q)) (aLv_tl hs) hl hbd hlen H locs la hR hS hL
      · exact hK _ _ _ _ _ (h4 (Int.not_lt.mp fun w => q ((iZ_lt q1 q2).mpr w))) (aLv_tl hs) hl hbd hlen H locs la hR hS hL
    · exact False.elim h
    · exact False.elim h
    · exact False.elim h

theorem sk_icmp_lt {l : Launch} {g : aG} {f : aFr} {y o : Nat} {Q : Option aV → aSt → aM → Prop} {X : Nat → aSt → aM → Prop} {p : Program} {e : Env} {R : Room} {s : State} {m : MethodId} {args : Array Value} {below : List Frame} {meth : Method} {c : Code} (hF : aFrm l g f y o p e R s m args below meth c) {pc n t a b : Nat} {sw : List (Int × Nat)} {f9 : Int} (hI : aOk y o (aMt y).2.1 pc (.if_icmp .lt f9, n, t, a, b, sw) = true) {k : aK} {z : aM} {ls : List (Option aV)} {st : List aV} {K : aK → aM → Nat → List (Option aV) → List aV → Prop} (h : stp l g f Q X pc (.if_icmp .lt f9, n, t, a, b, sw) k z ls st K) (hK : ∀ k z pc ls st, K k z pc ls st → aBs l g f Q X p e R s m args below meth c k z pc ls st) : aBs l g f Q X p e R s m args below meth c k z pc ls st := by
  obtain ⟨⟨hx, hst, hb, hml, hown, hlk, hrt⟩, ⟨hKN, hbs, hold⟩, ⟨hex, hnm, hrk, hho, hhc⟩, hr1, hr2, hr3, hr4, hr5⟩ := hF
  obtain ⟨hd, rfl, h2⟩ := aOk_d hI (by first | decide | (intro q; cases q))
  rcases st with _ | ⟨y1, st⟩
  · exact False.elim h
  · rcases y1 with y1 | y1 | y1 | y1
    · rcases st with _ | ⟨x1, st⟩
      · exact False.elim h
      · rcases x1 with x1 | x1 | x1 | x1
        · obtain ⟨h1, h3, h4⟩ := h
          obtain ⟨q1, q2⟩ := h1
          intro hs hl hbd hlen H locs la hR hS hL
          have ht := of_decide_eq_true h2
          refine W.eq (g2 := F0 m pc la ((.int (iZ y1)) :: (.int (iZ x1)) :: st.map (aC g))) rfl ?_
          refine lv_icmp_lt (tgt := t) hx hb hd ht (fun q => ?_) (fun q => ?_)
          · exact hK _ _ _ _ _ (h3 ((iZ_lt q1 q2).mp q)) (aLv_tl (aLv_tl hs)) hl hbd hlen H locs la hR hS hL
          · exact hK _ _ _ _ _ (h4 (Int.not_lt.mp fun w => q ((iZ_lt q1 q2).mpr w))) (aLv_tl (aLv_tl hs)) hl hbd hlen H locs la hR hS hL
        · exact False.elim h
        · exact False.elim h
        · exact False.elim h
    · exact False.elim h
    · exact False.elim h
    · exact False.elim h

theorem sk_if_ge {l : Launch} {g : aG} {f : aFr} {y o : Nat} {Q : Option aV → aSt → aM → Prop} {X : Nat → aSt → aM → Prop} {p : Program} {e : Env} {R : Room} {s : State} {m : MethodId} {args : Array Value} {below : List Frame} {meth : Method} {c : Code} (hF : aFrm l g f y o p e R s m args below meth c) {pc n t a b : Nat} {sw : List (Int × Nat)} {f9 : Int} (hI : aOk y o (aMt y).2.1 pc (.ifCond .ge f9, n, t, a, b, sw) = true) {k : aK} {z : aM} {ls : List (Option aV)} {st : List aV} {K : aK → aM → Nat → List (Option aV) → List aV → Prop} (h : stp l g f Q X pc (.ifCond .ge f9, n, t, a, b, sw) k z ls st K) (hK : ∀ k z pc ls st, K k z pc ls st → aBs l g f Q X p e R s m args below meth c k z pc ls st) : aBs l g f Q X p e R s m args below meth c k z pc ls st := by
  obtain ⟨⟨hx, hst, hb, hml, hown, hlk, hrt⟩, ⟨hKN, hbs, hold⟩, ⟨hex, hnm, hrk, hho, hhc⟩, hr1, hr2, hr3, hr4, hr5⟩ := hF
  obtain ⟨hd, rfl, h2⟩ := aOk_d hI (by first | decide | (intro q; cases q))
  rcases st with _ | ⟨x1, st⟩
  · exact False.elim h
  · rcases x1 with x1 | x1 | x1 | x1
    · obtain ⟨h1, h3, h4⟩ := h
      have q1 := h1
      have q2 : aIR 0 := ⟨by decide, by decide⟩
      intro hs hl hbd hlen H locs la hR hS hL
      have ht := of_decide_eq_true h2
      refine W.eq (g2 := F0 m pc la ((.int (iZ x1)) :: st.map (aC g))) rfl ?_
      refine lv_if_ge (tgt := t) hx hb hd ht (fun q => ?_) (fun q => ?_)
      all_goals rw [← iZ_0] at q
      · exact hK _ _ _ _ _ (h3 ((iZ_le q2 q1).mp q)) (aLv_tl hs) hl hbd hlen H locs la hR hS hL
      · exact hK _ _ _ _ _ (h4 (Int.not_le.mp fun w => q ((iZ_le q2 q1).mpr w))) (aLv_tl hs) hl hbd hlen H locs la hR hS hL
    · exact False.elim h
    · exact False.elim h
    · exact False.elim h

theorem sk_icmp_ge {l : Launch} {g : aG} {f : aFr} {y o : Nat} {Q : Option aV → aSt → aM → Prop} {X : Nat → aSt → aM → Prop} {p : Program} {e : Env} {R : Room} {s : State} {m : MethodId} {args : Array Value} {below : List Frame} {meth : Method} {c : Code} (hF : aFrm l g f y o p e R s m args below meth c) {pc n t a b : Nat} {sw : List (Int × Nat)} {f9 : Int} (hI : aOk y o (aMt y).2.1 pc (.if_icmp .ge f9, n, t, a, b, sw) = true) {k : aK} {z : aM} {ls : List (Option aV)} {st : List aV} {K : aK → aM → Nat → List (Option aV) → List aV → Prop} (h : stp l g f Q X pc (.if_icmp .ge f9, n, t, a, b, sw) k z ls st K) (hK : ∀ k z pc ls st, K k z pc ls st → aBs l g f Q X p e R s m args below meth c k z pc ls st) : aBs l g f Q X p e R s m args below meth c k z pc ls st := by
  obtain ⟨⟨hx, hst, hb, hml, hown, hlk, hrt⟩, ⟨hKN, hbs, hold⟩, ⟨hex, hnm, hrk, hho, hhc⟩, hr1, hr2, hr3, hr4, hr5⟩ := hF
  obtain ⟨hd, rfl, h2⟩ := aOk_d hI (by first | decide | (intro q; cases q))
  rcases st with _ | ⟨y1, st⟩
  · exact False.elim h
  · rcases y1 with y1 | y1 | y1 | y1
    · rcases st with _ | ⟨x1, st⟩
      · exact False.elim h
      · rcases x1 with x1 | x1 | x1 | x1
        · obtain ⟨h1, h3, h4⟩ := h
          obtain ⟨q1, q2⟩ := h1
          intro hs hl hbd hlen H locs la hR hS hL
          have ht := of_decide_eq_true h2
          refine W.eq (g2 := F0 m pc la ((.int (iZ y1)) :: (.int (iZ x1)) :: st.map (aC g))) rfl ?_
          refine lv_icmp_ge (tgt := t) hx hb hd ht (fun q => ?_) (fun q => ?_)
          · exact hK _ _ _ _ _ (h3 ((iZ_le q2 q1).mp q)) (aLv_tl (aLv_tl hs)) hl hbd hlen H locs la hR hS hL
          · exact hK _ _ _ _ _ (h4 (Int.not_le.mp fun w => q ((iZ_le q2 q1).mpr w))) (aLv_tl (aLv_tl hs)) hl hbd hlen H locs la hR hS hL
        · exact False.elim h
        · exact False.elim h
        · exact False.elim h
    · exact False.elim h
    · exact False.elim h
    · exact False.elim h

theorem sk_if_gt {l : Launch} {g : aG} {f : aFr} {y o : Nat} {Q : Option aV → aSt → aM → Prop} {X : Nat → aSt → aM → Prop} {p : Program} {e : Env} {R : Room} {s : State} {m : MethodId} {args : Array Value} {below : List Frame} {meth : Method} {c : Code} (hF : aFrm l g f y o p e R s m args below meth c) {pc n t a b : Nat} {sw : List (Int × Nat)} {f9 : Int} (hI : aOk y o (aMt y).2.1 pc (.ifCond .gt f9, n, t, a, b, sw) = true) {k : aK} {z : aM} {ls : List (Option aV)} {st : List aV} {K : aK → aM → Nat → List (Option aV) → List aV → Prop} (h : stp l g f Q X pc (.ifCond .gt f9, n, t, a, b, sw) k z ls st K) (hK : ∀ k z pc ls st, K k z pc ls st → aBs l g f Q X p e R s m args below meth c k z pc ls st) : aBs l g f Q X p e R s m args below meth c k z pc ls st := by
  obtain ⟨⟨hx, hst, hb, hml, hown, hlk, hrt⟩, ⟨hKN, hbs, hold⟩, ⟨hex, hnm, hrk, hho, hhc⟩, hr1, hr2, hr3, hr4, hr5⟩ := hF
  obtain ⟨hd, rfl, h2⟩ := aOk_d hI (by first | decide | (intro q; cases q))
  rcases st with _ | ⟨x1, st⟩
  · exact False.elim h
  · rcases x1 with x1 | x1 | x1 | x1
    · obtain ⟨h1, h3, h4⟩ := h
      have q1 := h1
      have q2 : aIR 0 := ⟨by decide, by decide⟩
      intro hs hl hbd hlen H locs la hR hS hL
      have ht := of_decide_eq_true h2
      refine W.eq (g2 := F0 m pc la ((.int (iZ x1)) :: st.map (aC g))) rfl ?_
      refine lv_if_gt (tgt := t) hx hb hd ht (fun q => ?_) (fun q => ?_)
      all_goals rw [← iZ_0] at q
      · exact hK _ _ _ _ _ (h3 ((iZ_lt q2 q1).mp q)) (aLv_tl hs) hl hbd hlen H locs la hR hS hL
      · exact hK _ _ _ _ _ (h4 (Int.not_lt.mp fun w => q ((iZ_lt q2 q1).mpr w))) (aLv_tl hs) hl hbd hlen H locs la hR hS hL
    · exact False.elim h
    · exact False.elim h
    · exact False.elim h

theorem sk_icmp_gt {l : Launch} {g : aG} {f : aFr} {y o : Nat} {Q : Option aV → aSt → aM → Prop} {X : Nat → aSt → aM → Prop} {p : Program} {e : Env} {R : Room} {s : State} {m : MethodId} {args : Array Value} {below : List Frame} {meth : Method} {c : Code} (hF : aFrm l g f y o p e R s m args below meth c) {pc n t a b : Nat} {sw : List (Int × Nat)} {f9 : Int} (hI : aOk y o (aMt y).2.1 pc (.if_icmp .gt f9, n, t, a, b, sw) = true) {k : aK} {z : aM} {ls : List (Option aV)} {st : List aV} {K : aK → aM → Nat → List (Option aV) → List aV → Prop} (h : stp l g f Q X pc (.if_icmp .gt f9, n, t, a, b, sw) k z ls st K) (hK : ∀ k z pc ls st, K k z pc ls st → aBs l g f Q X p e R s m args below meth c k z pc ls st) : aBs l g f Q X p e R s m args below meth c k z pc ls st := by
  obtain ⟨⟨hx, hst, hb, hml, hown, hlk, hrt⟩, ⟨hKN, hbs, hold⟩, ⟨hex, hnm, hrk, hho, hhc⟩, hr1, hr2, hr3, hr4, hr5⟩ := hF
  obtain ⟨hd, rfl, h2⟩ := aOk_d hI (by first | decide | (intro q; cases q))
  rcases st with _ | ⟨y1, st⟩
  · exact False.elim h
  · rcases y1 with y1 | y1 | y1 | y1
    · rcases st with _ | ⟨x1, st⟩
      · exact False.elim h
      · rcases x1 with x1 | x1 | x1 | x1
        · obtain ⟨h1, h3, h4⟩ := h
          obtain ⟨q1, q2⟩ := h1
          intro hs hl hbd hlen H locs la hR hS hL
          have ht := of_decide_eq_true h2
          refine W.eq (g2 := F0 m pc la ((.int (iZ y1)) :: (.int (iZ x1)) :: st.map (aC g))) rfl ?_
          refine lv_icmp_gt (tgt := t) hx hb hd ht (fun q => ?_) (fun q => ?_)
          · exact hK _ _ _ _ _ (h3 ((iZ_lt q2 q1).mp q)) (aLv_tl (aLv_tl hs)) hl hbd hlen H locs la hR hS hL
          · exact hK _ _ _ _ _ (h4 (Int.not_lt.mp fun w => q ((iZ_lt q2 q1).mpr w))) (aLv_tl (aLv_tl hs)) hl hbd hlen H locs la hR hS hL
        · exact False.elim h
        · exact False.elim h
        · exact False.elim h
    · exact False.elim h
    · exact False.elim h
    · exact False.elim h

theorem sk_if_le {l : Launch} {g : aG} {f : aFr} {y o : Nat} {Q : Option aV → aSt → aM → Prop} {X : Nat → aSt → aM → Prop} {p : Program} {e : Env} {R : Room} {s : State} {m : MethodId} {args : Array Value} {below : List Frame} {meth : Method} {c : Code} (hF : aFrm l g f y o p e R s m args below meth c) {pc n t a b : Nat} {sw : List (Int × Nat)} {f9 : Int} (hI : aOk y o (aMt y).2.1 pc (.ifCond .le f9, n, t, a, b, sw) = true) {k : aK} {z : aM} {ls : List (Option aV)} {st : List aV} {K : aK → aM → Nat → List (Option aV) → List aV → Prop} (h : stp l g f Q X pc (.ifCond .le f9, n, t, a, b, sw) k z ls st K) (hK : ∀ k z pc ls st, K k z pc ls st → aBs l g f Q X p e R s m args below meth c k z pc ls st) : aBs l g f Q X p e R s m args below meth c k z pc ls st := by
  obtain ⟨⟨hx, hst, hb, hml, hown, hlk, hrt⟩, ⟨hKN, hbs, hold⟩, ⟨hex, hnm, hrk, hho, hhc⟩, hr1, hr2, hr3, hr4, hr5⟩ := hF
  obtain ⟨hd, rfl, h2⟩ := aOk_d hI (by first | decide | (intro q; cases q))
  rcases st with _ | ⟨x1, st⟩
  · exact False.elim h
  · rcases x1 with x1 | x1 | x1 | x1
    · obtain ⟨h1, h3, h4⟩ := h
      have q1 := h1
      have q2 : aIR 0 := ⟨by decide, by decide⟩
      intro hs hl hbd hlen H locs la hR hS hL
      have ht := of_decide_eq_true h2
      refine W.eq (g2 := F0 m pc la ((.int (iZ x1)) :: st.map (aC g))) rfl ?_
      refine lv_if_le (tgt := t) hx hb hd ht (fun q => ?_) (fun q => ?_)
      all_goals rw [← iZ_0] at q
      · exact hK _ _ _ _ _ (h3 ((iZ_le q1 q2).mp q)) (aLv_tl hs) hl hbd hlen H locs la hR hS hL
      · exact hK _ _ _ _ _ (h4 (Int.not_le.mp fun w => q ((iZ_le q1 q2).mpr w))) (aLv_tl hs) hl hbd hlen H locs la hR hS hL
    · exact False.elim h
    · exact False.elim h
    · exact False.elim h

theorem sk_icmp_le {l : Launch} {g : aG} {f : aFr} {y o : Nat} {Q : Option aV → aSt → aM → Prop} {X : Nat → aSt → aM → Prop} {p : Program} {e : Env} {R : Room} {s : State} {m : MethodId} {args : Array Value} {below : List Frame} {meth : Method} {c : Code} (hF : aFrm l g f y o p e R s m args below meth c) {pc n t a b : Nat} {sw : List (Int × Nat)} {f9 : Int} (hI : aOk y o (aMt y).2.1 pc (.if_icmp .le f9, n, t, a, b, sw) = true) {k : aK} {z : aM} {ls : List (Option aV)} {st : List aV} {K : aK → aM → Nat → List (Option aV) → List aV → Prop} (h : stp l g f Q X pc (.if_icmp .le f9, n, t, a, b, sw) k z ls st K) (hK : ∀ k z pc ls st, K k z pc ls st → aBs l g f Q X p e R s m args below meth c k z pc ls st) : aBs l g f Q X p e R s m args below meth c k z pc ls st := by
  obtain ⟨⟨hx, hst, hb, hml, hown, hlk, hrt⟩, ⟨hKN, hbs, hold⟩, ⟨hex, hnm, hrk, hho, hhc⟩, hr1, hr2, hr3, hr4, hr5⟩ := hF
  obtain ⟨hd, rfl, h2⟩ := aOk_d hI (by first | decide | (intro q; cases q))
  rcases st with _ | ⟨y1, st⟩
  · exact False.elim h
  · rcases y1 with y1 | y1 | y1 | y1
    · rcases st with _ | ⟨x1, st⟩
      · exact False.elim h
      · rcases x1 with x1 | x1 | x1 | x1
        · obtain ⟨h1, h3, h4⟩ := h
          obtain ⟨q1, q2⟩ := h1
          intro hs hl hbd hlen H locs la hR hS hL
          have ht := of_decide_eq_true h2
          refine W.eq (g2 := F0 m pc la ((.int (iZ y1)) :: (.int (iZ x1)) :: st.map (aC g))) rfl ?_
          refine lv_icmp_le (tgt := t) hx hb hd ht (fun q => ?_) (fun q => ?_)
          · exact hK _ _ _ _ _ (h3 ((iZ_le q1 q2).mp q)) (aLv_tl (aLv_tl hs)) hl hbd hlen H locs la hR hS hL
          · exact hK _ _ _ _ _ (h4 (Int.not_le.mp fun w => q ((iZ_le q1 q2).mpr w))) (aLv_tl (aLv_tl hs)) hl hbd hlen H locs la hR hS hL
        · exact False.elim h
        · exact False.elim h
        · exact False.elim h
    · exact False.elim h
    · exact False.elim h
    · exact False.elim h

theorem sk_goto {l : Launch} {g : aG} {f : aFr} {y o : Nat} {Q : Option aV → aSt → aM → Prop} {X : Nat → aSt → aM → Prop} {p : Program} {e : Env} {R : Room} {s : State} {m : MethodId} {args : Array Value} {below : List Frame} {meth : Method} {c : Code} (hF : aFrm l g f y o p e R s m args below meth c) {pc n t a b : Nat} {sw : List (Int × Nat)} {f9 : Int} (hI : aOk y o (aMt y).2.1 pc (.goto f9, n, t, a, b, sw) = true) {k : aK} {z : aM} {ls : List (Option aV)} {st : List aV} {K : aK → aM → Nat → List (Option aV) → List aV → Prop} (h : stp l g f Q X pc (.goto f9, n, t, a, b, sw) k z ls st K) (hK : ∀ k z pc ls st, K k z pc ls st → aBs l g f Q X p e R s m args below meth c k z pc ls st) : aBs l g f Q X p e R s m args below meth c k z pc ls st := by
  obtain ⟨⟨hx, hst, hb, hml, hown, hlk, hrt⟩, ⟨hKN, hbs, hold⟩, ⟨hex, hnm, hrk, hho, hhc⟩, hr1, hr2, hr3, hr4, hr5⟩ := hF
  obtain ⟨hd, rfl, h2⟩ := aOk_d hI (by first | decide | (intro q; cases q))
  have h9 : K k z t ls st := h
  intro hs hl hbd hlen H locs la hR hS hL
  refine lv_goto (tgt := t) hx hb hd (of_decide_eq_true h2) ?_
  exact hK _ _ _ _ _ h9 hs hl hbd hlen H locs la hR hS hL

theorem sk_pop {l : Launch} {g : aG} {f : aFr} {y o : Nat} {Q : Option aV → aSt → aM → Prop} {X : Nat → aSt → aM → Prop} {p : Program} {e : Env} {R : Room} {s : State} {m : MethodId} {args : Array Value} {below : List Frame} {meth : Method} {c : Code} (hF : aFrm l g f y o p e R s m args below meth c) {pc n t a b : Nat} {sw : List (Int × Nat)}  (hI : aOk y o (aMt y).2.1 pc (.pop, n, t, a, b, sw) = true) {k : aK} {z : aM} {ls : List (Option aV)} {st : List aV} {K : aK → aM → Nat → List (Option aV) → List aV → Prop} (h : stp l g f Q X pc (.pop, n, t, a, b, sw) k z ls st K) (hK : ∀ k z pc ls st, K k z pc ls st → aBs l g f Q X p e R s m args below meth c k z pc ls st) : aBs l g f Q X p e R s m args below meth c k z pc ls st := by
  obtain ⟨⟨hx, hst, hb, hml, hown, hlk, hrt⟩, ⟨hKN, hbs, hold⟩, ⟨hex, hnm, hrk, hho, hhc⟩, hr1, hr2, hr3, hr4, hr5⟩ := hF
  obtain ⟨hd, rfl, h2⟩ := aOk_d hI (by first | decide | (intro q; cases q))
  rcases st with _ | ⟨v, st⟩
  · exact False.elim h
  · have h0 := h
    unfold stp at h0
    simp only at h0
    rcases hw : aW2 v with _ | _
    · rw [hw] at h0
      intro hs hl hbd hlen H locs la hR hS hL
      refine W.eq (g2 := F0 m pc la (aC g v :: st.map (aC g))) rfl ?_
      refine lv_pop hx hb hd (by rw [aC_cat, hw]; rfl) ?_
      exact hK _ _ _ _ _ h0 (aLv_tl hs) hl hbd hlen H locs la hR hS hL
    · rw [hw] at h0; exact False.elim h0

theorem sk_dup {l : Launch} {g : aG} {f : aFr} {y o : Nat} {Q : Option aV → aSt → aM → Prop} {X : Nat → aSt → aM → Prop} {p : Program} {e : Env} {R : Room} {s : State} {m : MethodId} {args : Array Value} {below : List Frame} {meth : Method} {c : Code} (hF : aFrm l g f y o p e R s m args below meth c) {pc n t a b : Nat} {sw : List (Int × Nat)}  (hI : aOk y o (aMt y).2.1 pc (.dup, n, t, a, b, sw) = true) {k : aK} {z : aM} {ls : List (Option aV)} {st : List aV} {K : aK → aM → Nat → List (Option aV) → List aV → Prop} (h : stp l g f Q X pc (.dup, n, t, a, b, sw) k z ls st K) (hK : ∀ k z pc ls st, K k z pc ls st → aBs l g f Q X p e R s m args below meth c k z pc ls st) : aBs l g f Q X p e R s m args below meth c k z pc ls st := by
  obtain ⟨⟨hx, hst, hb, hml, hown, hlk, hrt⟩, ⟨hKN, hbs, hold⟩, ⟨hex, hnm, hrk, hho, hhc⟩, hr1, hr2, hr3, hr4, hr5⟩ := hF
  obtain ⟨hd, rfl, h2⟩ := aOk_d hI (by first | decide | (intro q; cases q))
  rcases st with _ | ⟨v, st⟩
  · exact False.elim h
  · have h0 := h
    unfold stp at h0
    simp only at h0
    rcases hw : aW2 v with _ | _
    · rw [hw] at h0
      intro hs hl hbd hlen H locs la hR hS hL
      refine W.eq (g2 := F0 m pc la (aC g v :: st.map (aC g))) rfl ?_
      refine lv_dup hx hb hd (by rw [aC_cat, hw]; rfl) ?_
      exact hK _ _ _ _ _ h0 (aLv_c (hs _ List.mem_cons_self) hs) hl hbd hlen H locs la hR hS hL
    · rw [hw] at h0; exact False.elim h0

theorem sk_dup2 {l : Launch} {g : aG} {f : aFr} {y o : Nat} {Q : Option aV → aSt → aM → Prop} {X : Nat → aSt → aM → Prop} {p : Program} {e : Env} {R : Room} {s : State} {m : MethodId} {args : Array Value} {below : List Frame} {meth : Method} {c : Code} (hF : aFrm l g f y o p e R s m args below meth c) {pc n t a b : Nat} {sw : List (Int × Nat)}  (hI : aOk y o (aMt y).2.1 pc (.dup2, n, t, a, b, sw) = true) {k : aK} {z : aM} {ls : List (Option aV)} {st : List aV} {K : aK → aM → Nat → List (Option aV) → List aV → Prop} (h : stp l g f Q X pc (.dup2, n, t, a, b, sw) k z ls st K) (hK : ∀ k z pc ls st, K k z pc ls st → aBs l g f Q X p e R s m args below meth c k z pc ls st) : aBs l g f Q X p e R s m args below meth c k z pc ls st := by
  obtain ⟨⟨hx, hst, hb, hml, hown, hlk, hrt⟩, ⟨hKN, hbs, hold⟩, ⟨hex, hnm, hrk, hho, hhc⟩, hr1, hr2, hr3, hr4, hr5⟩ := hF
  obtain ⟨hd, rfl, h2⟩ := aOk_d hI (by first | decide | (intro q; cases q))
  rcases st with _ | ⟨v, st⟩
  · exact False.elim h
  · rcases st with _ | ⟨w, st⟩
    · exact False.elim h
    · have h0 := h
      unfold stp at h0
      simp only at h0
      rcases hv : aW2 v with _ | _
      · rcases hw : aW2 w with _ | _
        · rw [hv, hw] at h0
          intro hs hl hbd hlen H locs la hR hS hL
          refine W.eq (g2 := F0 m pc la (aC g v :: aC g w :: st.map (aC g))) rfl ?_
          refine lv_dup2_11 hx hb hd (by rw [aC_cat, hv]; rfl) (by rw [aC_cat, hw]; rfl) ?_
          exact hK _ _ _ _ _ h0 (aLv_c (hs _ List.mem_cons_self) (aLv_c (hs _ (List.mem_cons_of_mem _ List.mem_cons_self)) hs)) hl hbd hlen H locs la hR hS hL
        · rw [hv, hw] at h0; exact False.elim h0
      · rw [hv] at h0; exact False.elim h0

theorem sk_lconst {l : Launch} {g : aG} {f : aFr} {y o : Nat} {Q : Option aV → aSt → aM → Prop} {X : Nat → aSt → aM → Prop} {p : Program} {e : Env} {R : Room} {s : State} {m : MethodId} {args : Array Value} {below : List Frame} {meth : Method} {c : Code} (hF : aFrm l g f y o p e R s m args below meth c) {pc n t a b : Nat} {sw : List (Int × Nat)} {i9 : Fin 2} (hI : aOk y o (aMt y).2.1 pc (.lconst i9, n, t, a, b, sw) = true) {k : aK} {z : aM} {ls : List (Option aV)} {st : List aV} {K : aK → aM → Nat → List (Option aV) → List aV → Prop} (h : stp l g f Q X pc (.lconst i9, n, t, a, b, sw) k z ls st K) (hK : ∀ k z pc ls st, K k z pc ls st → aBs l g f Q X p e R s m args below meth c k z pc ls st) : aBs l g f Q X p e R s m args below meth c k z pc ls st := by
  obtain ⟨⟨hx, hst, hb, hml, hown, hlk, hrt⟩, ⟨hKN, hbs, hold⟩, ⟨hex, hnm, hrk, hho, hhc⟩, hr1, hr2, hr3, hr4, hr5⟩ := hF
  obtain ⟨hd, rfl, h2⟩ := aOk_d hI (by first | decide | (intro q; cases q))
  have key : ∀ w : Int, Int64.ofNat (i9 : Nat) = lZ w → K k z (pc + 1) ls (.inr (.inl w) :: st) → aBs l g f Q X p e R s m args below meth c k z pc ls st := by
    intro w hw h9 hs hl hbd hlen H locs la hR hS hL
    refine lv_lconst hx hb hd hw ?_
    exact hK _ _ _ _ _ h9 (aLv_c (w := .inr (.inl w)) trivial hs) hl hbd hlen H locs la hR hS hL
  match i9, h with
  | 0, h => exact key 0 rfl h
  | 1, h => exact key 1 rfl h

theorem sk_fconst {l : Launch} {g : aG} {f : aFr} {y o : Nat} {Q : Option aV → aSt → aM → Prop} {X : Nat → aSt → aM → Prop} {p : Program} {e : Env} {R : Room} {s : State} {m : MethodId} {args : Array Value} {below : List Frame} {meth : Method} {c : Code} (hF : aFrm l g f y o p e R s m args below meth c) {pc n t a b : Nat} {sw : List (Int × Nat)} {i9 : Fin 3} (hI : aOk y o (aMt y).2.1 pc (.fconst i9, n, t, a, b, sw) = true) {k : aK} {z : aM} {ls : List (Option aV)} {st : List aV} {K : aK → aM → Nat → List (Option aV) → List aV → Prop} (h : stp l g f Q X pc (.fconst i9, n, t, a, b, sw) k z ls st K) (hK : ∀ k z pc ls st, K k z pc ls st → aBs l g f Q X p e R s m args below meth c k z pc ls st) : aBs l g f Q X p e R s m args below meth c k z pc ls st := by
  obtain ⟨⟨hx, hst, hb, hml, hown, hlk, hrt⟩, ⟨hKN, hbs, hold⟩, ⟨hex, hnm, hrk, hho, hhc⟩, hr1, hr2, hr3, hr4, hr5⟩ := hF
  obtain ⟨hd, rfl, h2⟩ := aOk_d hI (by first | decide | (intro q; cases q))
  match i9, hd, h with
  | 0, hd, h =>
    have h9 : K k z (pc + 1) ls (.inr (.inr (.inr (.float FP.fconst0))) :: st) := h
    intro hs hl hbd hlen H locs la hR hS hL
    refine lv_fconst0 hx hb hd ?_
    exact hK _ _ _ _ _ h9 (aLv_c (w := .inr (.inr (.inr (.float FP.fconst0)))) trivial hs) hl hbd hlen H locs la hR hS hL
  | 1, hd, h => exact False.elim h
  | 2, hd, h => exact False.elim h

theorem sk_dconst {l : Launch} {g : aG} {f : aFr} {y o : Nat} {Q : Option aV → aSt → aM → Prop} {X : Nat → aSt → aM → Prop} {p : Program} {e : Env} {R : Room} {s : State} {m : MethodId} {args : Array Value} {below : List Frame} {meth : Method} {c : Code} (hF : aFrm l g f y o p e R s m args below meth c) {pc n t a b : Nat} {sw : List (Int × Nat)} {i9 : Fin 2} (hI : aOk y o (aMt y).2.1 pc (.dconst i9, n, t, a, b, sw) = true) {k : aK} {z : aM} {ls : List (Option aV)} {st : List aV} {K : aK → aM → Nat → List (Option aV) → List aV → Prop} (h : stp l g f Q X pc (.dconst i9, n, t, a, b, sw) k z ls st K) (hK : ∀ k z pc ls st, K k z pc ls st → aBs l g f Q X p e R s m args below meth c k z pc ls st) : aBs l g f Q X p e R s m args below meth c k z pc ls st := by
  obtain ⟨⟨hx, hst, hb, hml, hown, hlk, hrt⟩, ⟨hKN, hbs, hold⟩, ⟨hex, hnm, hrk, hho, hhc⟩, hr1, hr2, hr3, hr4, hr5⟩ := hF
  obtain ⟨hd, rfl, h2⟩ := aOk_d hI (by first | decide | (intro q; cases q))
  match i9, hd, h with
  | 0, hd, h =>
    have h9 : K k z (pc + 1) ls (.inr (.inr (.inr (.double FP.dconst0))) :: st) := h
    intro hs hl hbd hlen H locs la hR hS hL
    refine lv_dconst0 hx hb hd ?_
    exact hK _ _ _ _ _ h9 (aLv_c (w := .inr (.inr (.inr (.double FP.dconst0)))) trivial hs) hl hbd hlen H locs la hR hS hL
  | 1, hd, h => exact False.elim h

theorem sk_iinc {l : Launch} {g : aG} {f : aFr} {y o : Nat} {Q : Option aV → aSt → aM → Prop} {X : Nat → aSt → aM → Prop} {p : Program} {e : Env} {R : Room} {s : State} {m : MethodId} {args : Array Value} {below : List Frame} {meth : Method} {c : Code} (hF : aFrm l g f y o p e R s m args below meth c) {pc n t a b : Nat} {sw : List (Int × Nat)} {i9 : Nat} {c9 : Int} (hI : aOk y o (aMt y).2.1 pc (.iinc i9 c9, n, t, a, b, sw) = true) {k : aK} {z : aM} {ls : List (Option aV)} {st : List aV} {K : aK → aM → Nat → List (Option aV) → List aV → Prop} (h : stp l g f Q X pc (.iinc i9 c9, n, t, a, b, sw) k z ls st K) (hK : ∀ k z pc ls st, K k z pc ls st → aBs l g f Q X p e R s m args below meth c k z pc ls st) : aBs l g f Q X p e R s m args below meth c k z pc ls st := by
  obtain ⟨⟨hx, hst, hb, hml, hown, hlk, hrt⟩, ⟨hKN, hbs, hold⟩, ⟨hex, hnm, hrk, hho, hhc⟩, hr1, hr2, hr3, hr4, hr5⟩ := hF
  obtain ⟨hd, rfl, h2⟩ := aOk_d hI (by first | decide | (intro q; cases q))
  have h0 := h
  unfold stp at h0
  simp only at h0
  rcases hg : aGet ls i9 with _ | v
  · rw [hg] at h0; exact False.elim h0
  · rw [hg] at h0
    rcases v with v | v
    · simp only at h0
      rcases hq : aSet1 ls i9 (.inl (v + c9)) with _ | l1
      · rw [hq] at h0; exact False.elim h0
      · rw [hq] at h0
        have h9 := aFo_eq l1 h0
        intro hs hl hbd hlen H locs la hR hS hL
        have hsp := aSet1_s ls _ _ _ hq
        have hi := aGet_at _ _ _ hg
        have hm := aPr_in g ls 0 i9 _ hi
        rw [Nat.zero_add] at hm
        obtain ⟨j, hj⟩ := List.getElem?_of_mem hm
        refine lv_iinc (k := j) (x := iZ v) (v := iZ (v + c9)) hx hb hd hL.has hj (iZ_add v c9) (by have := hsp.2.1; rw [hlen] at this; exact this) rfl (fun la2 hh => ?_)
        exact hK _ _ _ _ _ h9 hs (aLv_s1 (v := .inl (v + c9)) hl trivial hq) hbd (hsp.1.trans hlen) H locs la2 hR hS (aLs.set1 hq hh)
    · exact False.elim h0

theorem sk_ldc2_w {l : Launch} {g : aG} {f : aFr} {y o : Nat} {Q : Option aV → aSt → aM → Prop} {X : Nat → aSt → aM → Prop} {p : Program} {e : Env} {R : Room} {s : State} {m : MethodId} {args : Array Value} {below : List Frame} {meth : Method} {c : Code} (hF : aFrm l g f y o p e R s m args below meth c) {pc n t a b : Nat} {sw : List (Int × Nat)} {i9 : Nat} (hI : aOk y o (aMt y).2.1 pc (.ldc2_w i9, n, t, a, b, sw) = true) {k : aK} {z : aM} {ls : List (Option aV)} {st : List aV} {K : aK → aM → Nat → List (Option aV) → List aV → Prop} (h : stp l g f Q X pc (.ldc2_w i9, n, t, a, b, sw) k z ls st K) (hK : ∀ k z pc ls st, K k z pc ls st → aBs l g f Q X p e R s m args below meth c k z pc ls st) : aBs l g f Q X p e R s m args below meth c k z pc ls st := by
  obtain ⟨⟨hx, hst, hb, hml, hown, hlk, hrt⟩, ⟨hKN, hbs, hold⟩, ⟨hex, hnm, hrk, hho, hhc⟩, hr1, hr2, hr3, hr4, hr5⟩ := hF
  obtain ⟨hd, rfl, h2⟩ := aOk_d hI (by first | decide | (intro q; cases q))
  match sw, h, h2 with
  | [], h, h2 => exact False.elim h
  | (v, w9) :: sw, h, h2 =>
    have h9 : K k z (pc + 3) ls (.inr (.inl v) :: st) := h
    intro hs hl hbd hlen H locs la hR hS hL
    have hq := List.all_eq_true.mp aLcs_ok _ (of_decide_eq_true h2)
    simp only [aIn, Bool.and_eq_true, decide_eq_true_eq] at hq
    have hw := hKN.1 _ hq.1 hq.2
    refine lv_ldc2 (own := aRn o) (v := lZ v) hx hb hown (va_tabs rfl rfl hw) hd ?_
    exact hK _ _ _ _ _ h9 (aLv_c (w := .inr (.inl v)) trivial hs) hl hbd hlen H locs la hR hS hL

theorem sk_ldc {l : Launch} {g : aG} {f : aFr} {y o : Nat} {Q : Option aV → aSt → aM → Prop} {X : Nat → aSt → aM → Prop} {p : Program} {e : Env} {R : Room} {s : State} {m : MethodId} {args : Array Value} {below : List Frame} {meth : Method} {c : Code} (hF : aFrm l g f y o p e R s m args below meth c) {pc n t a b : Nat} {sw : List (Int × Nat)} {i9 : Nat} (hI : aOk y o (aMt y).2.1 pc (.ldc i9, n, t, a, b, sw) = true) {k : aK} {z : aM} {ls : List (Option aV)} {st : List aV} {K : aK → aM → Nat → List (Option aV) → List aV → Prop} (h : stp l g f Q X pc (.ldc i9, n, t, a, b, sw) k z ls st K) (hK : ∀ k z pc ls st, K k z pc ls st → aBs l g f Q X p e R s m args below meth c k z pc ls st) : aBs l g f Q X p e R s m args below meth c k z pc ls st := by
  obtain ⟨⟨hx, hst, hb, hml, hown, hlk, hrt⟩, ⟨hKN, hbs, hold⟩, ⟨hex, hnm, hrk, hho, hhc⟩, hr1, hr2, hr3, hr4, hr5⟩ := hF
  obtain ⟨hd, rfl, h2⟩ := aOk_d hI (by first | decide | (intro q; cases q))
  match sw, h, h2 with
  | [], h, h2 => exact False.elim h
  | (v, w9) :: sw, h, h2 =>
    have h9 : K k z (pc + 2) ls (.inr (.inr (.inl (30, v, 0))) :: st) := h
    intro hs hl hbd hlen H locs la hR hS hL
    simp only [aOk2, Bool.and_eq_true, decide_eq_true_eq] at h2
    obtain ⟨ho, h3, h4, h5⟩ := h2
    rcases hq : aPts[v.toNat]? with _ | q
    · rw [hq] at h3; cases h3
    · rw [hq] at h3
      have h6 : q.1 = i9 := Option.some.inj h3
      have hr := hKN.2.2.2.2.2.1 _ _ hq
      rw [h6] at hr
      have hown' : s.vm.findClass RX3 = some m.cls := by rw [ho] at hown; exact hown
      refine va_ldcS hx hb hown' hr hd ?_
      exact hK _ _ _ _ _ h9 (aLv_c (w := .inr (.inr (.inl (30, v, 0)))) (Or.inr (Or.inl ⟨rfl, by show v.toNat < 9; omega⟩)) hs) hl hbd hlen H locs la hR hS hL

