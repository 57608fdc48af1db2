/-! THE CLASS: the trial's line (printed by wip/whole/cls17.py) -/
section K17
variable {l : Launch} {g : aG} {d : Nat} {z : aM} {A : aAb} {a : Int → Int}
theorem cK_lclear : aE0 l g nX2_clear d [.inr (.inr (.inl (10, 0, 0)))] z (aWr z (10, 0, 0) 1 0) := by
  refine aM1_of kX2_clear rfl (fun B hB => ?_)
  refine hB [] 1000 _ _ _ _ _ ?_
  repeat' (first | refine And.intro ?_ ?_ | fail)
  all_goals first | omega | (exact rfl)
theorem cL.s {y : aM} {L : aLine} (h : cL z y L) : ∀ {s : Int} {a : Int → Int}, Sim z s a → Sim y s a := fun w => w.o (fun q q0 q1 => h.2 q (pne (by show q.1 ≠ 10; omega)) (pne (by show q.1 ≠ 11; omega)))
theorem RelC.ln {y : aM} {L : aLine} (h : RelC z A) (hl : cL z y L) : RelC y (A.1, A.2.1, A.2.2.1, A.2.2.2.1, A.2.2.2.2.1, L) := by
  have e := hl.2
  obtain ⟨⟨h1, h2, h3⟩, ⟨h4, h5, h6⟩, ⟨h7, h8⟩, ⟨h9, h10⟩, h11, h12⟩ := h
  have es : ∀ c i, slot y c i = slot z c i := fun c i => by unfold slot; rw [e (7, 0, 0) (by decide) (by decide)]
  unfold RelC
  rw [e (0, 0, 0) (by decide) (by decide), e (7, 0, 0) (by decide) (by decide), e (12, 0, 0) (by decide) (by decide), e (13, 0, 0) (by decide) (by decide)]
  refine ⟨⟨hl.s h1, h2, fun w => hl.s (h3 w)⟩, ⟨h4, h5, fun i i0 i1 => ?_⟩, ⟨h7, h8⟩, ⟨h9, h10⟩, hl.1.1, hl.1.2⟩
  rw [es]
  exact hl.s (h6 i i0 i1)
theorem cL.fC {y : aM} {L : aLine} (h : cL z y L) : fC z y := fun q hq => h.2 q (pne (by show q.1 ≠ 10; omega)) (pne (by show q.1 ≠ 11; omega))
theorem cL_0 : cL z (aWr z (10, 0, 0) 1 0) ln0 := ⟨⟨aWr_k _ _ _ _, fun k k0 k1 => by have k2 : k < (0 : Int) := k1; omega⟩, fun q q1 q2 => aWr_ne2 q1⟩
theorem cT_writeRun {r : Int} (hr : aIR r) (hL : 0 < wM A 2 → 0 < wM A 0) (hd : 10 ≤ d) (hR : RelC z A) (hI : InvW A) : cOp [2] l g nX6_writeRun d [.inr (.inr (.inl (0, 0, 0))), .inl r] z (qWrite r A) := by
  have cc := hI.1.1.1.1.1
  have ct := hI.1.1.1.1.2.1
  have e4 : z (2, 0, 0) 4 = wM A 0 := hR.1.1.1.1.2.2.1
  have e8 : z (2, 0, 0) 8 = wM A 1 := hR.1.1.1.1.2.2.2
  have e2 : z (2, 0, 0) 2 = wM A 5 := hR.1.1.1.1.2.1.1
  have e3 : z (2, 0, 0) 3 = wM A 6 := hR.1.1.1.1.2.1.2
  have n2 : z (1, 0, 0) 2 = wM A 2 := hR.1.1.2.2.1.1
  have n3 : z (1, 0, 0) 3 = (if wM A 7 = -1 then 0 else 1) := hR.1.1.2.2.1.2
  have n9 : -1 ≤ wM A 7 ∧ wM A 7 < 8 := by rcases hI.1.1.1.2.1 with q | q <;> omega
  have lr := hr
  unfold aIR at lr
  unfold qWrite
  by_cases hc : isN (wM A) r
  · rw [if_pos hc]
    have hc1 := hc.1
    have hc2 := hc.2
    have h0 := hL (by omega)
    obtain ⟨P, eP⟩ : ∃ P, P = lnRun (wM A) r := ⟨_, rfl⟩
    rw [← eP]
    refine q0_C ?_
    refine aM1_of kX6_writeRun rfl (fun B hB => ?_)
    have rF : ∀ y : aM, Sim y 0 (wM A) → y (5, 0, r) 2 = wM A 0 ∧ y (5, 0, r) 1 = wM A (59 + 13 * r) := fun y s => ⟨(s.2.1 r hc.1 hc.2).1.2.1, (s.2.1 r hc.1 hc.2).1.1.2⟩
    have l127 : ∀ (y : aM) (k : Int), cL z y P → B (none, 0, 0) y 127 [some (.inr (.inr (.inl (0, 0, 0)))), some (.inl r), some (.inr (.inr (.inl (5, 0, r)))), some (.inl k)] [] := by
      intro y k hy
      have fin : (some (.inl (y (10, 0, 0) 1)) : Option aV) = some (.inl P.1) ∧ RelC y (A.1, A.2.1, A.2.2.1, A.2.2.2.1, A.2.2.2.2.1, P) ∧ fC z y := ⟨by rw [hy.1.1], hR.ln hy, hy.fC⟩
      refine hB [] 1000 _ _ _ _ _ ?_
      repeat' (first | exact ⟨rfl, fin⟩ | refine And.intro ?_ ?_ | (intro hh; first | exact absurd hh (by decide) | exact absurd rfl hh | (exfalso; omega) | skip) | fail)
      all_goals first | omega | (exact rfl)
    have l88 : ∀ (y : aM) (k : Int) (L : aLine), cL z y L → 0 ≤ L.1 → L.1 ≤ 60 → (if wM A 7 = r then lp L 42 else if wM A (59 + 13 * r) = 1 then lp L 33 else L) = P → B (none, 0, 0) y 88 [some (.inr (.inr (.inl (0, 0, 0)))), some (.inl r), some (.inr (.inr (.inl (5, 0, r)))), some (.inl k)] [] := by
      intro y k L hy b0 b1 e
      have sy := hy.s hR.1.1
      have rf := rF y sy
      have gon := cK_isGoingOn (l := l) (g := g) (d := d - 1) sy hI.1.1.1 hc.1 hc.2
      have p42 := cK_put (l := l) (g := g) (d := d - 1) (c := 42) hy b0 (by omega) (by decide) (by decide)
      have p33 := cK_put (l := l) (g := g) (d := d - 1) (c := 33) hy b0 (by omega) (by decide) (by decide)
      have ok := (hI.1.1.1.2.2.1 r hc.1 hc.2).1.1
      refine hB [127] 1000 _ _ _ _ _ ?_
      by_cases w7 : wM A 7 = r
      · rw [if_pos w7] at e
        rw [e] at p42
        repeat' (first | (intro z1 hz1; exact l127 z1 k hz1) | refine And.intro ?_ ?_ | (intro hh; first | exact absurd hh (by decide) | exact absurd rfl hh | (exfalso; omega) | skip) | refine Or.inl (uB gon ?_ ?_) | refine Or.inl (uV p42 ?_) | fail)
        all_goals first | omega | (exact rfl) | (exfalso; contradiction)
      · rw [if_neg w7] at e
        by_cases w1 : wM A (59 + 13 * r) = 1
        · rw [if_pos w1] at e
          rw [e] at p33
          repeat' (first | (intro z1 hz1; exact l127 z1 k hz1) | refine And.intro ?_ ?_ | (intro hh; first | exact absurd hh (by decide) | exact absurd rfl hh | (exfalso; omega) | skip) | refine Or.inl (uB gon ?_ ?_) | refine Or.inl (uV p33 ?_) | fail)
          all_goals first | omega | (exact rfl) | (exfalso; contradiction)
        · rw [if_neg w1] at e
          rw [e] at hy
          have fin := l127 y k hy
          repeat' (first | exact fin | refine And.intro ?_ ?_ | (intro hh; first | exact absurd hh (by decide) | exact absurd rfl hh | (exfalso; omega) | skip) | refine Or.inl (uB gon ?_ ?_) | fail)
          all_goals first | omega | (exact rfl) | (exfalso; contradiction)
    have l77 : ∀ (y : aM) (k : Int) (L : aLine), cL z y (lp L 61) → 0 ≤ L.1 → L.1 ≤ 50 → lnE (wM A) r L = P → B (none, 0, 0) y 77 [some (.inr (.inr (.inl (0, 0, 0)))), some (.inl r), some (.inr (.inr (.inl (5, 0, r)))), some (.inl k)] [] := by
      intro y k L hy b0 b1 e
      have sy := hy.s hR.1.1
      have sb := sSum_B hI.1.1.1 hc.1 hc.2
      have sc := cK_score (l := l) (g := g) (d := d - 1) sy hI.1.1.1 hc.1 hc.2
      have pn := cK_putNumber (l := l) (g := g) (d := d - 1) (v := sSum (wM A) r) (by omega) hy (by rw [lp_n]; omega) (by rw [lp_n]; omega) sb.1 (by omega)
      have wn := wrN_n (v := sSum (wM A) r) (lp L 61)
      rw [lp_n] at wn
      refine hB [88] 1000 _ _ _ _ _ ?_
      repeat' (first | (intro z1 hz1; exact l88 z1 k _ hz1 (by omega) (by omega) e) | refine And.intro ?_ ?_ | (intro hh; first | exact absurd hh (by decide) | exact absurd rfl hh | (exfalso; omega) | skip) | refine Or.inl (uE sc ?_) | refine Or.inl (uV pn ?_) | fail)
      all_goals first | omega | (exact rfl)
    have l68 : ∀ (y : aM) (k : Int) (L : aLine), cL z y L → 0 ≤ L.1 → L.1 ≤ 50 → lnE (wM A) r L = P → B (none, 0, 0) y 68 [some (.inr (.inr (.inl (0, 0, 0)))), some (.inl r), some (.inr (.inr (.inl (5, 0, r)))), some (.inl k)] [] := by
      intro y k L hy b0 b1 e
      have p61 := cK_put (l := l) (g := g) (d := d - 1) (c := 61) hy b0 (by omega) (by decide) (by decide)
      refine hB [77] 1000 _ _ _ _ _ ?_
      repeat' (first | (intro z1 hz1; exact l77 z1 k L hz1 b0 b1 e) | refine And.intro ?_ ?_ | (intro hh; first | exact absurd hh (by decide) | exact absurd rfl hh | (exfalso; omega) | skip) | refine Or.inl (uV p61 ?_) | fail)
      all_goals first | omega | (exact rfl)
    have loop : ∀ (n : Nat) (k : Int) (y : aM) (L : aLine), 0 ≤ k → k + (n : Int) = wM A 0 → cL z y L → 0 ≤ L.1 → L.1 ≤ 3 + 4 * k → lnE (wM A) r (lnP (wM A) r n k (if k = 0 then lp L 58 else L)) = P → B (none, 0, 0) y 23 [some (.inr (.inr (.inl (0, 0, 0)))), some (.inl r), some (.inr (.inr (.inl (5, 0, r)))), some (.inl k)] [] := by
      intro n
      induction n with
      | zero =>
        intro k y L k0 k1 hy b0 b1 e
        rw [if_neg (by omega)] at e
        have nx := l68 y k L hy b0 (by omega) e
        have rf := rF y (hy.s hR.1.1)
        refine hB [68] 1000 _ _ _ _ _ ?_
        repeat' (first | exact nx | refine And.intro ?_ ?_ | (intro hh; first | exact absurd hh (by decide) | exact absurd rfl hh | (exfalso; omega) | skip) | fail)
        all_goals first | omega | (exact rfl)
      | succ n ih =>
        intro k y L k0 k1 hy b0 b1 e
        have sy := hy.s hR.1.1
        have rf := rF y sy
        have pt := hI.1.1.1.pts hc.1 hc.2 k0 (by omega)
        have l49 : ∀ y1, cL z y1 (lp L (if k = 0 then 58 else 43)) → B (none, 0, 0) y1 49 [some (.inr (.inr (.inl (0, 0, 0)))), some (.inl r), some (.inr (.inr (.inl (5, 0, r)))), some (.inl k)] [] := by
          intro y1 hy1
          have sy1 := hy1.s hR.1.1
          have ev := (sy1.2.1 r hc.1 hc.2).2.2 k k0 (by omega)
          have pn := cK_putNumber (l := l) (g := g) (d := d - 1) (v := y1 (6, 0, r) k) (by omega) hy1 (by rw [lp_n]; omega) (by rw [lp_n]; omega) (by rw [ev]; exact pt.1) (by rw [ev]; omega)
          have wn := wrN_n (v := y1 (6, 0, r) k) (lp L (if k = 0 then 58 else 43))
          rw [lp_n] at wn
          have eq : lnE (wM A) r (lnP (wM A) r n (k + 1) (if k + 1 = 0 then lp (wrN (y1 (6, 0, r) k) (lp L (if k = 0 then 58 else 43))) 58 else wrN (y1 (6, 0, r) k) (lp L (if k = 0 then 58 else 43)))) = P := by
            rw [← e, if_neg (by omega), ev]
            show _ = lnE (wM A) r (lnP (wM A) r n (k + 1) (wrN (wM A (59 + 13 * r + 7 + k)) (if 0 < k then lp (if k = 0 then lp L 58 else L) 43 else (if k = 0 then lp L 58 else L))))
            by_cases w : k = 0
            · rw [if_pos w, if_neg (by omega), if_pos w]
            · rw [if_neg w, if_pos (by omega), if_neg w]
          refine hB [23] 1000 _ _ _ _ _ ?_
          repeat' (first | (intro z1 hz1; refine And.intro ?_ (ih (k + 1) z1 _ (by omega) (by omega) hz1 (by omega) (by omega) eq)) | (intro z1 hz1; exact ih (k + 1) z1 _ (by omega) (by omega) hz1 (by omega) (by omega) eq) | refine And.intro ?_ ?_ | (intro hh; first | exact absurd hh (by decide) | exact absurd rfl hh | (exfalso; omega) | skip) | refine Or.inl (uV pn ?_) | fail)
          all_goals first | omega | (exact rfl)
        by_cases w : k = 0
        · have ps := cK_put (l := l) (g := g) (d := d - 1) (c := 58) hy b0 (by omega) (by decide) (by decide)
          rw [if_pos w] at l49
          refine hB [49] 1000 _ _ _ _ _ ?_
          repeat' (first | (intro z1 hz1; exact l49 z1 hz1) | refine And.intro ?_ ?_ | (intro hh; first | exact absurd hh (by decide) | exact absurd rfl hh | (exfalso; omega) | skip) | refine Or.inl (uV ps ?_) | fail)
          all_goals first | omega | (exact rfl)
        · have ps := cK_put (l := l) (g := g) (d := d - 1) (c := 43) hy b0 (by omega) (by decide) (by decide)
          rw [if_neg w] at l49
          refine hB [49] 1000 _ _ _ _ _ ?_
          repeat' (first | (intro z1 hz1; exact l49 z1 hz1) | refine And.intro ?_ ?_ | (intro hh; first | exact absurd hh (by decide) | exact absurd rfl hh | (exfalso; omega) | skip) | refine Or.inl (uV ps ?_) | fail)
          all_goals first | omega | (exact rfl)
    have pr := cK_putNumber (l := l) (g := g) (d := d - 1) (v := r) (by omega) (cL_0 (z := z)) (Int.le_refl 0) (by show (0 : Int) ≤ 61; decide) hc.1 (by omega)
    have wn := wrN_n (v := r) ln0
    have e0 : ln0.1 = 0 := rfl
    refine hB [23] 1000 _ _ _ _ _ ?_
    repeat' (first | (intro z1 hz1; exact loop (wM A 0).toNat 0 z1 _ (by omega) (by omega) hz1 (by omega) (by omega) eP.symm) | refine And.intro ?_ ?_ | (intro hh; first | exact absurd hh (by decide) | exact absurd rfl hh | (exfalso; omega) | skip) | refine Or.inl (uEp (cK_runNumbered hr (by omega) hR hI hc) ?_) | refine Or.inl (uE0 cK_lclear ?_) | refine Or.inl (uV pr ?_) | fail)
    all_goals first | omega | (exact rfl)
  · rw [if_neg hc]
    refine q1_C (by decide) ?_
    refine aMX_of kX6_writeRun rfl (fun B hB => ?_)
    refine hB [] 1000 _ _ _ _ _ ?_
    repeat' (first | exact hR | exact fC.rf _ | exact (Or.inr (Or.inl ⟨⟨Nat.le_refl _, Nat.le_refl _⟩, uX (cK_runNumberedX hr (by omega) hR hI hc) (fun x z' q => ⟨rfl, by rw [q.1]; rfl, by rw [q.2]; exact hR, by rw [q.2]; exact fC.rf _⟩)⟩)) | refine And.intro ?_ ?_ | (intro hh; first | exact absurd hh (by decide) | exact absurd rfl hh | (exfalso; omega) | skip) | fail)
    all_goals first | omega | (exact rfl) | (exact hR) | (exact fC.rf _) | (exact Nat.le_refl _) | (exact Or.inl rfl) | (exact Or.inr rfl)
theorem cT_writeRanking (hd : 10 ≤ d) (hR : RelC z A) (hI : InvW A) : cOp [] l g nX6_writeRanking d [.inr (.inr (.inl (0, 0, 0)))] z (qWriteR A) := by
  have cc := hI.1.1.1.1.1
  have ct := hI.1.1.1.1.2.1
  have e4 : z (2, 0, 0) 4 = wM A 0 := hR.1.1.1.1.2.2.1
  have e8 : z (2, 0, 0) 8 = wM A 1 := hR.1.1.1.1.2.2.2
  have e2 : z (2, 0, 0) 2 = wM A 5 := hR.1.1.1.1.2.1.1
  have e3 : z (2, 0, 0) 3 = wM A 6 := hR.1.1.1.1.2.1.2
  have n2 : z (1, 0, 0) 2 = wM A 2 := hR.1.1.2.2.1.1
  have n3 : z (1, 0, 0) 3 = (if wM A 7 = -1 then 0 else 1) := hR.1.1.2.2.1.2
  have n9 : -1 ≤ wM A 7 ∧ wM A 7 < 8 := by rcases hI.1.1.1.2.1 with q | q <;> omega
  unfold qWriteR
  obtain ⟨P, eP⟩ : ∃ P, P = lnRank (wM A) := ⟨_, rfl⟩
  rw [← eP]
  refine q0_C ?_
  have hl0 := cL_0 (z := z)
  have so := cK_sortRuns (l := l) (g := g) (d := d - 1) (by omega) (hl0.s hR.1.1) hI.1.1.1
  have gd := sSo_g (a := wM A) (by omega) (aWr z (10, 0, 0) 1 0 (9, 0, 0))
  obtain ⟨f, ef⟩ : ∃ f, f = sSo (wM A) (wM A 2).toNat (aWr z (10, 0, 0) 1 0 (9, 0, 0)) 0 := ⟨_, rfl⟩
  rw [← ef] at so gd
  have hR0 : RelC (pS z (9, 0, 0) f) A := hR.ra
  have hF0 : fC z (pS z (9, 0, 0) f) := fC.ra
  have h90 : pS z (9, 0, 0) f (9, 0, 0) = f := pS_at _ _ _
  have hl1 : cL (pS z (9, 0, 0) f) (pS (aWr z (10, 0, 0) 1 0) (9, 0, 0) f) ln0 := by
    refine ⟨⟨by rw [pS_ne (by decide), aWr_k]; rfl, fun k k0 k1 => by have k2 : k < (0 : Int) := k1; omega⟩, fun q q1 q2 => ?_⟩
    by_cases w : q = (9, 0, 0)
    · rw [w, pS_at, pS_at]
    · rw [pS_ne w, pS_ne w, aWr_ne2 q1]
  obtain ⟨z0, ez0⟩ : ∃ z0, z0 = pS z (9, 0, 0) f := ⟨_, rfl⟩
  rw [← ez0] at hR0 hF0 h90 hl1
  refine aM1_of kX6_writeRanking rfl (fun B hB => ?_)
  have loop : ∀ (n : Nat) (k : Int) (y : aM) (L : aLine) (x : Option aV), (x = none ∨ ∃ v : Int, x = some (.inl v)) → 0 ≤ k → k + (n : Int) = wM A 2 → cL z0 y L → 0 ≤ L.1 → L.1 ≤ 6 * k → lnK (wM A) n k L = P → B (none, 0, 0) y 20 [some (.inr (.inr (.inl (0, 0, 0)))), some (.inl k), x] [] := by
    intro n
    induction n with
    | zero =>
      intro k y L x hx k0 k1 hy b0 b1 e
      have e' : L = P := e
      have m2 : y (1, 0, 0) 2 = wM A 2 := (hy.s hR0.1.1).2.2.1.1
      have fin : (some (.inl (y (10, 0, 0) 1)) : Option aV) = some (.inl P.1) ∧ RelC y (A.1, A.2.1, A.2.2.1, A.2.2.2.1, A.2.2.2.2.1, P) ∧ fC z y := by
        rw [← e']
        exact ⟨by rw [hy.1.1], hR0.ln hy, hF0.tr hy.fC⟩
      rcases hx with rfl | ⟨v, rfl⟩
      all_goals (
        refine hB [] 1000 _ _ _ _ _ ?_
        repeat' (first | exact ⟨rfl, fin⟩ | refine And.intro ?_ ?_ | (intro hh; first | exact absurd hh (by decide) | exact absurd rfl hh | (exfalso; omega) | skip) | fail)
        all_goals first | omega | (exact rfl))
    | succ n ih =>
      intro k y L x hx k0 k1 hy b0 b1 e
      have sy := hy.s hR0.1.1
      have m2 : y (1, 0, 0) 2 = wM A 2 := sy.2.2.1.1
      have y9 : y (9, 0, 0) k = sRanked (wM A) k := by rw [hy.2 (9, 0, 0) (by decide) (by decide), h90]; exact (sGd_ranked gd k0 (by omega)).symm
      have rb := sRanked_0 (a := wM A) (j := k) k0 (by omega)
      obtain ⟨w, ew⟩ : ∃ w, w = sRanked (wM A) k := ⟨_, rfl⟩
      rw [← ew] at y9 rb
      have e' : lnK (wM A) n (k + 1) (wrN (sSum (wM A) w) (lp (wrN w (if 0 < k then lp L 32 else L)) 61)) = P := by rw [ew]; exact e
      have sb := sSum_B hI.1.1.1 rb.1 rb.2
      have l51 : ∀ (y1 : aM) (L1 : aLine), cL z0 y1 L1 → 0 ≤ L1.1 → L1.1 ≤ 6 * k + 1 → L1 = (if 0 < k then lp L 32 else L) → B (none, 0, 0) y1 51 [some (.inr (.inr (.inl (0, 0, 0)))), some (.inl k), some (.inl w)] [] := by
        intro y1 L1 hy1 c0 c1 e1
        rw [← e1] at e'
        have p1 := cK_putNumber (l := l) (g := g) (d := d - 1) (v := w) (by omega) hy1 c0 (by omega) rb.1 (by omega)
        have w1 := wrN_1 (v := w) L1 (by omega)
        have l59 : ∀ y2, cL z0 y2 (wrN w L1) → B (none, 0, 0) y2 59 [some (.inr (.inr (.inl (0, 0, 0)))), some (.inl k), some (.inl w)] [] := by
          intro y2 hy2
          have p2 := cK_put (l := l) (g := g) (d := d - 1) (c := 61) hy2 (by omega) (by omega) (by decide) (by decide)
          have l68 : ∀ y3, cL z0 y3 (lp (wrN w L1) 61) → B (none, 0, 0) y3 68 [some (.inr (.inr (.inl (0, 0, 0)))), some (.inl k), some (.inl w)] [] := by
            intro y3 hy3
            have sc := cK_score (l := l) (g := g) (d := d - 1) (hy3.s hR0.1.1) hI.1.1.1 rb.1 rb.2
            have p3 := cK_putNumber (l := l) (g := g) (d := d - 1) (v := sSum (wM A) w) (by omega) hy3 (by rw [lp_n]; omega) (by rw [lp_n]; omega) sb.1 (by omega)
            have w3 := wrN_n (v := sSum (wM A) w) (lp (wrN w L1) 61)
            rw [lp_n] at w3
            refine hB [20] 1000 _ _ _ _ _ ?_
            repeat' (first | (intro z1 hz1; refine And.intro ?_ (ih (k + 1) z1 _ _ (Or.inr ⟨w, rfl⟩) (by omega) (by omega) hz1 (by omega) (by omega) e')) | (intro z1 hz1; exact ih (k + 1) z1 _ _ (Or.inr ⟨w, rfl⟩) (by omega) (by omega) hz1 (by omega) (by omega) e') | refine And.intro ?_ ?_ | (intro hh; first | exact absurd hh (by decide) | exact absurd rfl hh | (exfalso; omega) | skip) | refine Or.inl (uE sc ?_) | refine Or.inl (uV p3 ?_) | fail)
            all_goals first | omega | (exact rfl)
          refine hB [68] 1000 _ _ _ _ _ ?_
          repeat' (first | (intro z1 hz1; exact l68 z1 hz1) | refine And.intro ?_ ?_ | (intro hh; first | exact absurd hh (by decide) | exact absurd rfl hh | (exfalso; omega) | skip) | refine Or.inl (uV p2 ?_) | fail)
          all_goals first | omega | (exact rfl)
        refine hB [59] 1000 _ _ _ _ _ ?_
        repeat' (first | (intro z1 hz1; exact l59 z1 hz1) | refine And.intro ?_ ?_ | (intro hh; first | exact absurd hh (by decide) | exact absurd rfl hh | (exfalso; omega) | skip) | refine Or.inl (uV p1 ?_) | fail)
        all_goals first | omega | (exact rfl)
      have l38 : B (none, 0, 0) y 38 [some (.inr (.inr (.inl (0, 0, 0)))), some (.inl k), some (.inl w)] [] := by
        by_cases kp : 0 < k
        · have ps := cK_put (l := l) (g := g) (d := d - 1) (c := 32) hy b0 (by omega) (by decide) (by decide)
          refine hB [51] 1000 _ _ _ _ _ ?_
          repeat' (first | (intro z1 hz1; exact l51 z1 _ hz1 (by rw [lp_n]; omega) (by rw [lp_n]; omega) (if_pos kp).symm) | refine And.intro ?_ ?_ | (intro hh; first | exact absurd hh (by decide) | exact absurd rfl hh | (exfalso; omega) | skip) | refine Or.inl (uV ps ?_) | fail)
          all_goals first | omega | (exact rfl)
        · have nx := l51 y L hy b0 (by omega) (if_neg kp).symm
          refine hB [51] 1000 _ _ _ _ _ ?_
          repeat' (first | exact nx | refine And.intro ?_ ?_ | (intro hh; first | exact absurd hh (by decide) | exact absurd rfl hh | (exfalso; omega) | skip) | fail)
          all_goals first | omega | (exact rfl)
      rw [← y9] at l38
      rcases hx with rfl | ⟨v, rfl⟩
      all_goals (
        refine hB [38] 1000 _ _ _ _ _ ?_
        repeat' (first | exact l38 | refine And.intro ?_ ?_ | (intro hh; first | exact absurd hh (by decide) | exact absurd rfl hh | (exfalso; omega) | skip) | fail)
        all_goals first | omega | (exact rfl))
  have st := loop (wM A 2).toNat 0 _ _ none (Or.inl rfl) (by omega) (by omega) hl1 (Int.le_refl 0) (Int.le_refl 0) eP.symm
  refine hB [20] 1000 _ _ _ _ _ ?_
  repeat' (first | exact st | refine And.intro ?_ ?_ | (intro hh; first | exact absurd hh (by decide) | exact absurd rfl hh | (exfalso; omega) | skip) | refine Or.inl (uE0 cK_lclear ?_) | refine Or.inl (uE0 so ?_) | fail)
  all_goals first | omega | (exact rfl)

end K17
