/-! THE CLASS: programs parsed and performed (printed by wip/whole/cls10.py) -/
def cmG (fk fa : Int → Int) (cm : Int → Int → Int) (m : Int) : Prop := ∀ j, 0 ≤ j → j < m → fk j = cm j 0 ∧ ∀ i, 1 ≤ i → i ≤ nAr.getD (cm j 0).toNat 0 → fa (5 * j + (i - 1)) = cm j i
theorem nAr_5 (v : Int) : nAr.getD v.toNat 0 ≤ 5 := by
  have key : ∀ k : Nat, k < 9 → nAr.getD k 0 ≤ 5 := by decide
  by_cases hv : v.toNat < 9
  · exact key _ hv
  · rw [List.getD_eq_getElem?_getD, List.getElem?_eq_none (by show nAr.length ≤ v.toNat; have : nAr.length = 9 := rfl; omega)]
    decide
theorem cmG_s {fk fa fa' : Int → Int} {cm : Int → Int → Int} {m b : Int} {as : List Int} (h : cmG fk fa cm m) (m0 : 0 ≤ m) (ha : (as.length : Int) = nAr.getD b.toNat 0) (hf : ∀ j, j < 5 * m → fa' j = fa j) (hv : ∀ i : Nat, i < as.length → fa' (5 * m + (i : Int)) = as.getD i 0) : cmG (ud fk m b) fa' (cmI cm m b as) (m + 1) := by
  intro j j0 j1
  by_cases e : j = m
  · subst e
    have e0 : cmI cm j b as j = fun i => if i = 0 then b else as.getD (i - 1).toNat 0 := by unfold cmI; rw [if_pos rfl]
    rw [e0, ud_at]
    refine ⟨rfl, fun i i0 i1 => ?_⟩
    have i2 : i ≤ nAr.getD b.toNat 0 := i1
    show _ = (if i = 0 then b else as.getD (i - 1).toNat 0)
    rw [if_neg (by omega)]
    have := hv (i - 1).toNat (by omega)
    rw [show ((i - 1).toNat : Int) = i - 1 by omega] at this
    exact this
  · have e0 : cmI cm m b as j = cm j := by unfold cmI; rw [if_neg e]
    rw [e0, ud_ne e]
    have q := h j j0 (by omega)
    refine ⟨q.1, fun i i0 i1 => ?_⟩
    have := nAr_5 (cm j 0)
    rw [hf _ (by omega)]
    exact q.2 i i0 i1
theorem exC_v {c : Int → Int} {a : Int → Int} (h : Inv a) (e : (exC c a).1 = 0) : 0 ≤ (exC c a).2.1 ∧ (exC c a).2.1 ≤ 1000 := by
  have cc := h.1.1.1
  have ct := h.1.1.2.1
  unfold exC at e ⊢
  split
  · next q =>
    rw [if_pos q] at e
    unfold cStart at e ⊢
    (repeat' split at e) <;> first | (cases e; done) | skip
    rw [if_pos (by assumption), if_neg (by assumption)]
    show 0 ≤ a 0 ∧ a 0 ≤ 1000
    omega
  · next q0 =>
    rw [if_neg q0] at e
    split
    · next q =>
      rw [if_pos q] at e
      unfold cLeg at e ⊢
      (repeat' split at e) <;> first | (cases e; done) | skip
      rw [if_pos (by assumption), if_neg (by assumption)]
      show 0 ≤ a 0 ∧ a 0 ≤ 1000
      omega
    · next q1 =>
      rw [if_neg q1] at e
      split
      · next q =>
        rw [if_pos q] at e
        unfold cGate at e ⊢
        (repeat' split at e) <;> first | (cases e; done) | skip
        rw [if_pos (by assumption), if_pos (by assumption), if_neg (by assumption)]
        show 0 ≤ a 1 ∧ a 1 ≤ 1000
        omega
      · next q2 =>
        rw [if_neg q2] at e
        split
        · next q =>
          rw [if_pos q] at e
          unfold cSet at e ⊢
          (repeat' split at e) <;> first | (cases e; done) | skip
          rw [if_pos (by assumption), if_neg (by assumption)]
          show 0 ≤ a 6 ∧ a 6 ≤ 1000
          omega
        · next q3 =>
          rw [if_neg q3] at e
          split
          · next q =>
            rw [if_pos q] at e
            unfold cSet at e ⊢
            (repeat' split at e) <;> first | (cases e; done) | skip
            rw [if_pos (by assumption), if_neg (by assumption)]
            show 0 ≤ a 5 ∧ a 5 ≤ 1000
            omega
          · next q4 =>
            rw [if_neg q4] at e
            split
            · next q =>
              rw [if_pos q] at e
              unfold cRun at e ⊢
              (repeat' split at e) <;> first | (cases e; done) | skip
              rw [if_neg (by assumption)]
              show 0 ≤ a 2 ∧ a 2 ≤ 1000
              omega
            · next q5 =>
              rw [if_neg q5] at e
              split
              · next q =>
                rw [if_pos q] at e
                have := (cWalk_I (x := c 1) (y := c 2) (s := c 3) h).2 e
                omega
              · next q6 =>
                rw [if_neg q6] at e
                split
                · next q =>
                  rw [if_pos q] at e
                  unfold cFault at e ⊢
                  (repeat' split at e) <;> first | (cases e; done) | skip
                  next hp n7 =>
                  rw [if_pos hp, if_neg n7]
                  have gg := h.1.go n7
                  have := sLo_B h.1 n7 (leg := a 8) (p := c 1) gg.2.1.1 gg.2.1.2 (by omega)
                  show 0 ≤ sLo a (a 8) (c 1) ∧ sLo a (a 8) (c 1) ≤ 1000
                  omega
                · next q =>
                  rw [if_neg q] at e
                  unfold cRetire at e ⊢
                  (repeat' split at e) <;> first | (cases e; done) | skip
                  next n7 =>
                  rw [if_neg n7]
                  have := sRest_I (w := 4) h.1 n7 (by omega) (by omega)
                  show 0 ≤ (sRest 4 a).1 ∧ (sRest 4 a).1 ≤ 1000
                  omega
section K10
variable {l : Launch} {g : aG} {d : Nat} {z : aM} {fk fa : Int → Int} {p : Int}
/-- a command's reading: place and wrong -/
def rdW (t : Int → Int) (n p : Int) : Int × Int := if lik t n p (bw t n p) < wL (bw t n p) then (p + lik t n p (bw t n p), 1) else (ags t n (bw t n p) (p + lik t n p (bw t n p))).2
def pcQ (z : aM) (fk fa : Int → Int) (m b : Int) (u : List Int) (W : Int × Int) : Option aV → aM → Prop := fun r z' => (W.2 = 1 → r = some (.inl 0) ∧ ∃ fa', z' = pmem z fk fa' W.1 ∧ ∀ j, j < 5 * m → fa' j = fa j) ∧ (W.2 = 0 → r = some (.inl 1) ∧ ∃ fa', z' = pmem z (ud fk m b) fa' W.1 ∧ (∀ j, j < 5 * m → fa' j = fa j) ∧ ∀ i : Nat, i < u.length → fa' (5 * m + (i : Int)) = u.getD i 0)
theorem cK_parseCommand {r0 m : Int} (hd : 7 ≤ d) (hz : pOk z) (p0 : 0 ≤ p) (p1 : p ≤ z (12, 0, 0) 1) (hm : z (12, 0, 0) 2 = m) (m0 : 0 ≤ m) (m1 : m ≤ 15) : aM1 l g nX3_parseCommand d [.inr (.inr (.inl (12, 0, 0))), .inl p] (pmem z fk fa r0) (pcQ z fk fa m (bw (z (13, 0, 0)) (z (12, 0, 0) 1) p) (ags (z (13, 0, 0)) (z (12, 0, 0) 1) (bw (z (13, 0, 0)) (z (12, 0, 0) 1) p) (p + lik (z (13, 0, 0)) (z (12, 0, 0) 1) p (bw (z (13, 0, 0)) (z (12, 0, 0) 1) p))).1 (rdW (z (13, 0, 0)) (z (12, 0, 0) 1) p)) := by
  have n0 := hz.1
  have hmt := fun (k : Int) (k0 : 0 ≤ k) (k1 : k < 9) (f : Int → Int) (r : Int) => cK_matches (l := l) (g := g) (d := d - 1) (fk := fk) (fa := f) (r0 := r) (pos := p) (by omega) hz k0 k1 p0 p1 hm m0 m1
  obtain ⟨t, et⟩ : ∃ t, t = (z (13, 0, 0)) := ⟨_, rfl⟩
  obtain ⟨n, en⟩ : ∃ n, n = (z (12, 0, 0) 1) := ⟨_, rfl⟩
  rw [← et, ← en] at hmt ⊢
  rw [← en] at p1 n0
  have bb := bw_B t n p
  have mx := fun (j : Int) (j0 : 0 ≤ j) (j1 : j < 9) => bw_mx (t := t) (n := n) (p := p) j0 j1
  have uq := fun (j : Int) (j0 : 0 ≤ j) (j1 : j < 9) => lik_u (t := t) (n := n) (p := p) j0 j1 bb.1 bb.2
  have lb := lik_B (t := t) (n := n) (p := p) bb.1 bb.2
  have ln := lik_n (t := t) (n := n) (p := p) (b := bw t n p) p1
  have wb := wL_B bb.1 bb.2
  have hpl := xA_pl (t := t) (n := n) (p := p) bb.1 bb.2
  have ab := xA_B (t := t) (n := n) (gks.getD (bw t n p).toNat []) (p + lik t n p (bw t n p)) 0 ln (Or.inl rfl)
  obtain ⟨W, eW⟩ : ∃ W, W = rdW t n p := ⟨_, rfl⟩
  obtain ⟨b, eb⟩ : ∃ b, b = bw t n p := ⟨_, rfl⟩
  obtain ⟨u, eu⟩ : ∃ u, u = ags t n b (p + lik t n p b) := ⟨_, rfl⟩
  have W2 : W.2 = 0 ∨ W.2 = 1 := by
    rw [eW]; unfold rdW
    split
    · exact Or.inr rfl
    · exact ab.2.1
  have W1 : p + lik t n p (bw t n p) ≤ W.1 ∧ W.1 ≤ n := by
    rw [eW]; unfold rdW
    split
    · exact ⟨Int.le_refl _, ln⟩
    · exact ab.1
  have Rb : (xA t n (plk b) p 0).2 = W := by
    rw [eW]; unfold rdW
    rw [← eb] at hpl ⊢
    split
    · next q => exact hpl.1 q
    · next q => rw [hpl.2 q]
  have Rb0 : W.2 = 0 → xA t n (plk b) p 0 = u := by
    intro h0
    rw [eu]
    rw [← eb] at hpl
    refine hpl.2 (fun q => ?_)
    have := Rb
    rw [hpl.1 q] at this
    rw [← this] at h0
    cases h0
  have Rj : ∀ j, 0 ≤ j → j < 9 → j ≠ b → (xA t n (plk j) p 0).2 = (p + lik t n p j, 1) ∧ p + lik t n p j ≤ W.1 := by
    intro j j0 j1 hj
    have wj := wL_B j0 j1
    have mj := mx j j0 j1
    have lj := lik_B (t := t) (n := n) (p := p) j0 j1
    have hlt : lik t n p j < wL j := by
      refine Classical.byContradiction (fun q => hj ?_)
      rw [eb]
      exact uq j j0 j1 (by omega) (by omega)
    exact ⟨(xA_pl j0 j1).1 hlt, by omega⟩
  rw [← eW, ← eb, ← eu]
  rw [← eb] at bb lb W1
  clear hpl ab mx uq eW
  refine aM1_of kX3_parseCommand rfl (fun B hB => ?_)
  have loop : ∀ (c : Nat) (j far r : Int) (f : Int → Int), j + (c : Int) = 9 → 0 ≤ j → p ≤ far → far ≤ W.1 → (b < j → far = W.1 ∧ W.2 = 1) → (∀ i, i < 5 * m → f i = fa i) → B (none, 0, 0) (pmem z fk f r) 4 [some (.inr (.inr (.inl (12, 0, 0)))), some (.inl p), some (.inl far), some (.inl j)] [] := by
    intro c
    induction c with
    | zero =>
      intro j far r f hj j0 f0 f1 hb hf
      have ej : j = 9 := by omega
      subst ej
      obtain ⟨e1, e2⟩ := hb (by omega)
      have fin : pcQ z fk fa m b u.1 W (some (.inl 0)) (aWr (pmem z fk f r) (12, 0, 0) 5 far) := ⟨fun _ => ⟨rfl, f, by rw [pm_w5, e1], hf⟩, fun w => by omega⟩
      refine hB [] 1000 _ _ _ _ _ ?_
      repeat' (first | exact ⟨rfl, fin⟩ | refine And.intro ?_ ?_ | (intro hh; first | exact absurd hh (by decide) | exact absurd rfl hh | (exfalso; omega) | skip) | fail)
      all_goals first | omega | (exact rfl) | (exact Or.inl rfl) | (exact Or.inr rfl)
    | succ c ih =>
      intro j far r f hj j0 f0 f1 hb hf
      have mt := hmt j j0 (by omega) f r
      have pt := cK_patternOf (l := l) (g := g) (d := d - 1) (z := pmem z fk f r) (k := j) j0 (by omega)
      obtain ⟨R, eR⟩ : ∃ R, R = xA t n (plk j) p 0 := ⟨_, rfl⟩
      rw [← eR] at mt
      have fail_ : ∀ (f' : Int → Int) (q : Int), p ≤ q → q ≤ W.1 → (b < j + 1 → max far q = W.1 ∧ W.2 = 1) → (∀ i, i < 5 * m → f' i = f i) → B (none, 0, 0) (pmem z fk f' q) 34 [some (.inr (.inr (.inl (12, 0, 0)))), some (.inl p), some (.inl far), some (.inl j)] [] := by
        intro f' q q0 q1 hb' hf'
        have k5 := pm_5 z fk f' q
        have nx := ih (j + 1) (max far q) q f' (by omega) (by omega) (by omega) (by omega) hb' (fun i hi => (hf' i hi).trans (hf i hi))
        rw [← k5] at nx
        have nx2 : B (none, 0, 0) (pmem z fk f' q) 4 [some (.inr (.inr (.inl (12, 0, 0)))), some (.inl p), some (.inl (max far (pmem z fk f' q (12, 0, 0) 5))), some (.inl (j + 1))] [] := by
          rw [k5] at nx ⊢
          exact nx
        refine hB [4] 1000 _ _ _ _ _ ?_
        repeat' (first | exact nx2 | refine And.intro ?_ ?_ | (intro hh; first | exact absurd hh (by decide) | exact absurd rfl hh | (exfalso; omega) | skip) | fail)
        all_goals first | omega | (exact rfl)
      by_cases hbj : j = b
      · have eRW : R.2 = W := by rw [eR, hbj]; exact Rb
        rcases W2 with w0 | w1
        · have eu' : R = u := by rw [eR, hbj]; exact Rb0 w0
          have ok : ∀ z', z' = pmem z fk (udl f (5 * m) R.1) R.2.1 → B (none, 0, 0) z' 22 [some (.inr (.inr (.inl (12, 0, 0)))), some (.inl p), some (.inl far), some (.inl j)] [] := by
            intro z' ez'
            have k2 : z' (12, 0, 0) 2 = m := by rw [ez', pm_o _ _ _ _ (by decide), hm]
            have fin : pcQ z fk fa m b u.1 W (some (.inl 1)) (aWr z' (14, 0, 0) (z' (12, 0, 0) 2) j) := by
              refine ⟨fun w => by omega, fun _ => ⟨rfl, udl f (5 * m) R.1, by rw [k2, ez', pm_w14, hbj, eRW], fun i hi => by rw [udl_lt _ _ _ _ hi]; exact hf i hi, fun i hi => by rw [← eu'] at hi ⊢; exact udl_at _ _ _ i hi⟩⟩
            refine hB [] 1000 _ _ _ _ _ ?_
            repeat' (first | exact ⟨rfl, fin⟩ | refine And.intro ?_ ?_ | (intro hh; first | exact absurd hh (by decide) | exact absurd rfl hh | (exfalso; omega) | skip) | fail)
            all_goals first | omega | (exact rfl) | (exact Or.inl rfl) | (exact Or.inr rfl)
          refine hB [22, 34] 1000 _ _ _ _ _ ?_
          refine And.intro ⟨⟨by omega, by omega⟩, ⟨by decide, by decide⟩⟩ (And.intro (fun hh => by exfalso; omega) (fun _ => ?_))
          refine And.intro ⟨⟨rfl, rfl⟩, by omega⟩ (Or.inl (uEp pt ?_))
          refine And.intro ⟨⟨rfl, rfl⟩, by omega⟩ (Or.inl (uA mt ?_))
          intro r' z' hq
          obtain ⟨rfl, ez'⟩ := hq.1 (by rw [eRW]; exact w0)
          have := ok z' ez'
          refine And.intro ?_ ?_
          · exact ⟨by decide, by decide⟩
          refine And.intro ?_ ?_
          · intro hh; exact absurd hh (by decide)
          · intro hh; exact this
        · refine hB [22, 34] 1000 _ _ _ _ _ ?_
          refine And.intro ⟨⟨by omega, by omega⟩, ⟨by decide, by decide⟩⟩ (And.intro (fun hh => by exfalso; omega) (fun _ => ?_))
          refine And.intro ⟨⟨rfl, rfl⟩, by omega⟩ (Or.inl (uEp pt ?_))
          refine And.intro ⟨⟨rfl, rfl⟩, by omega⟩ (Or.inl (uA mt ?_))
          intro r' z' hq
          obtain ⟨rfl, f', ez', hf'⟩ := hq.2 (by rw [eRW]; exact w1)
          have := fail_ f' R.2.1 (by rw [eRW]; omega) (by rw [eRW]; omega) (fun _ => ⟨by rw [eRW]; omega, w1⟩) hf'
          rw [← ez'] at this
          refine And.intro ?_ ?_
          · exact ⟨by decide, by decide⟩
          refine And.intro ?_ ?_
          · intro hh; exact this
          · intro hh; exact absurd rfl hh
      · obtain ⟨r1, r2⟩ := Rj j j0 (by omega) hbj
        have lj := lik_B (t := t) (n := n) (p := p) j0 (show j < 9 by omega)
        rw [← eR] at r1
        refine hB [22, 34] 1000 _ _ _ _ _ ?_
        refine And.intro ⟨⟨by omega, by omega⟩, ⟨by decide, by decide⟩⟩ (And.intro (fun hh => by exfalso; omega) (fun _ => ?_))
        refine And.intro ⟨⟨rfl, rfl⟩, by omega⟩ (Or.inl (uEp pt ?_))
        refine And.intro ⟨⟨rfl, rfl⟩, by omega⟩ (Or.inl (uA mt ?_))
        intro r' z' hq
        obtain ⟨rfl, f', ez', hf'⟩ := hq.2 (by rw [r1])
        rw [r1] at ez'
        have := fail_ f' (p + lik t n p j) (by omega) r2 (fun h => by have := hb (by omega); exact ⟨by omega, this.2⟩) hf'
        rw [← ez'] at this
        refine And.intro ?_ ?_
        · exact ⟨by decide, by decide⟩
        refine And.intro ?_ ?_
        · intro hh; exact this
        · intro hh; exact absurd rfl hh
  have st := loop 9 0 p r0 fa (by decide) (by decide) (Int.le_refl p) (by omega) (fun h => by omega) (fun i _ => rfl)
  refine hB [4] 1000 _ _ _ _ _ ?_
  repeat' (first | exact st | refine And.intro ?_ ?_ | fail)
  all_goals first | omega | (exact rfl)
end K10
