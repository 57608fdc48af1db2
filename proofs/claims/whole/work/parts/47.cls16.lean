/-! THE CLASS: the trial's ranks, means, undo, snapshots (printed by wip/whole/cls16.py) -/
def cOpD (E : List Nat) (l : Launch) (g : aG) (y d : Nat) (as : List aV) (z : aM) (R : Int × UInt64 × aAb) : Prop := (R.1 = 0 → aM1 l g y d as z (fun r z' => r = some (.inr (.inr (.inr (.double R.2.1)))) ∧ RelC z' R.2.2 ∧ fC z z')) ∧ (R.1 ≠ 0 → aMX l g y d as z (fun x z' => x = E.getD (R.1 - 1).toNat 0 ∧ RelC z' R.2.2 ∧ fC z z'))
def cOpF (E : List Nat) (l : Launch) (g : aG) (y d : Nat) (as : List aV) (z : aM) (R : Int × UInt32 × aAb) : Prop := (R.1 = 0 → aM1 l g y d as z (fun r z' => r = some (.inr (.inr (.inr (.float R.2.1)))) ∧ RelC z' R.2.2 ∧ fC z z')) ∧ (R.1 ≠ 0 → aMX l g y d as z (fun x z' => x = E.getD (R.1 - 1).toNat 0 ∧ RelC z' R.2.2 ∧ fC z z'))
section K16
variable {l : Launch} {g : aG} {d : Nat} {z : aM} {A : aAb} {a : Int → Int}
theorem cT_runAt {k : Int} (hk : aIR k) (hd : 10 ≤ d) (hR : RelC z A) (hI : InvW A) : cOp [3] l g nX6_runAt d [.inr (.inr (.inl (0, 0, 0))), .inl k] z (qRunAt k A) := by
  have cc := hI.1.1.1.1.1
  have ct := hI.1.1.1.1.2.1
  have e4 : z (2, 0, 0) 4 = wM A 0 := hR.1.1.1.1.2.2.1
  have e8 : z (2, 0, 0) 8 = wM A 1 := hR.1.1.1.1.2.2.2
  have e2 : z (2, 0, 0) 2 = wM A 5 := hR.1.1.1.1.2.1.1
  have e3 : z (2, 0, 0) 3 = wM A 6 := hR.1.1.1.1.2.1.2
  have n2 : z (1, 0, 0) 2 = wM A 2 := hR.1.1.2.2.1.1
  have n3 : z (1, 0, 0) 3 = (if wM A 7 = -1 then 0 else 1) := hR.1.1.2.2.1.2
  have n9 : -1 ≤ wM A 7 ∧ wM A 7 < 8 := by rcases hI.1.1.1.2.1 with q | q <;> omega
  have lk := hk
  unfold aIR at lk
  unfold qRunAt
  by_cases hc : 0 ≤ k ∧ k < wM A 2
  · have s0 := sRanked_0 (a := wM A) hc.1 hc.2
    rw [if_neg (by omega)]
    have so := cK_sortRuns (l := l) (g := g) (d := d - 1) (by omega) hR.1.1 hI.1.1.1
    obtain ⟨f, ef⟩ : ∃ f, f = sSo (wM A) (wM A 2).toNat (z (9, 0, 0)) 0 := ⟨_, rfl⟩
    have gd := sSo_g (a := wM A) (by omega) (z (9, 0, 0))
    rw [← ef] at so gd
    have er : f k = sRanked (wM A) k := (sGd_ranked gd hc.1 hc.2).symm
    have fin : (some (.inl (pS z (9, 0, 0) f (9, 0, 0) k)) : Option aV) = some (.inl (sRanked (wM A) k)) ∧ RelC (pS z (9, 0, 0) f) A ∧ fC z (pS z (9, 0, 0) f) := ⟨by rw [pS_at, er], hR.ra, fC.ra⟩
    refine q0_C ?_
    refine aM1_of kX6_runAt rfl (fun B hB => ?_)
    refine hB [] 1000 _ _ _ _ _ ?_
    repeat' (first | exact ⟨rfl, fin⟩ | refine And.intro ?_ ?_ | (intro hh; first | exact absurd hh (by decide) | exact absurd rfl hh | (exfalso; omega) | skip) | refine Or.inl (uE0 so ?_) | fail)
    all_goals first | omega | (exact rfl) | (exact hR) | (exact fC.rf _) | (exact Nat.le_refl _) | (exact Or.inl rfl) | (exact Or.inr rfl)
  · rw [if_pos (sRanked_n (by omega) hc)]
    refine q1_C (by decide) ?_
    refine aMX_of kX6_runAt rfl (fun B hB => ?_)
    refine hB [] 1000 _ _ _ _ _ ?_
    repeat' (first | exact hR | exact fC.rf _ | refine And.intro ?_ ?_ | (intro hh; first | exact absurd hh (by decide) | exact absurd rfl hh | (exfalso; omega) | skip) | fail)
    all_goals first | omega | (exact rfl) | (exact hR) | (exact fC.rf _) | (exact Nat.le_refl _) | (exact Or.inl rfl) | (exact Or.inr rfl)
theorem cT_isConsistent (hd : 10 ≤ d) (hR : RelC z A) (hI : InvW A) : cOp [] l g nX6_isConsistent d [.inr (.inr (.inl (0, 0, 0)))] z (0, 1, A) := by
  have cc := hI.1.1.1.1.1
  have ct := hI.1.1.1.1.2.1
  have e4 : z (2, 0, 0) 4 = wM A 0 := hR.1.1.1.1.2.2.1
  have e8 : z (2, 0, 0) 8 = wM A 1 := hR.1.1.1.1.2.2.2
  have e2 : z (2, 0, 0) 2 = wM A 5 := hR.1.1.1.1.2.1.1
  have e3 : z (2, 0, 0) 3 = wM A 6 := hR.1.1.1.1.2.1.2
  have n2 : z (1, 0, 0) 2 = wM A 2 := hR.1.1.2.2.1.1
  have n3 : z (1, 0, 0) 3 = (if wM A 7 = -1 then 0 else 1) := hR.1.1.2.2.1.2
  have n9 : -1 ≤ wM A 7 ∧ wM A 7 < 8 := by rcases hI.1.1.1.2.1 with q | q <;> omega
  have so := cK_sortRuns (l := l) (g := g) (d := d - 1) (by omega) hR.1.1 hI.1.1.1
  obtain ⟨f, ef⟩ : ∃ f, f = sSo (wM A) (wM A 2).toNat (z (9, 0, 0)) 0 := ⟨_, rfl⟩
  have gd := sSo_g (a := wM A) (by omega) (z (9, 0, 0))
  rw [← ef] at so gd
  obtain ⟨y, ey⟩ : ∃ y, y = pS z (9, 0, 0) f := ⟨_, rfl⟩
  have gy : y (9, 0, 0) = f := by rw [ey, pS_at]
  have hRy : RelC y A := by rw [ey]; exact hR.ra
  have hFy : fC z y := by rw [ey]; exact fC.ra
  rw [← ey] at so
  have m2 : y (1, 0, 0) 2 = wM A 2 := hRy.1.1.2.2.1.1
  refine q0_C ?_
  refine aM1_of kX6_isConsistent rfl (fun B hB => ?_)
  have fin : (some (.inl 1) : Option aV) = some (.inl 1) ∧ RelC y A ∧ fC z y := ⟨rfl, hRy, hFy⟩
  have loop : ∀ (n : Nat) (k : Int), 0 ≤ k → k + (n : Int) = wM A 2 → B (none, 0, 0) y 13 [some (.inr (.inr (.inl (0, 0, 0)))), some (.inl k)] [] := by
    intro n
    induction n with
    | zero =>
      intro k k0 k1
      refine hB [] 1000 _ _ _ _ _ ?_
      repeat' (first | exact ⟨rfl, fin⟩ | refine And.intro ?_ ?_ | (intro hh; first | exact absurd hh (by decide) | exact absurd rfl hh | (exfalso; omega) | skip) | fail)
      all_goals first | omega | (exact rfl) | (exact hR) | (exact fC.rf _) | (exact Nat.le_refl _) | (exact Or.inl rfl) | (exact Or.inr rfl)
    | succ n ih =>
      intro k k0 k1
      have es : sRank (wM A) (y (9, 0, 0) k) = k := by rw [gy]; exact sGd_rank gd k0 (by omega)
      have rb : 0 ≤ y (9, 0, 0) k ∧ y (9, 0, 0) k < wM A 2 := by
        have := gd.1 k k0 (by omega)
        rw [gy]
        omega
      have cb := cK_countRunsBefore (l := l) (g := g) (d := d - 1) (by omega) hRy.1.1 hI.1.1.1 rb.1 rb.2
      rw [es] at cb
      have iz := cK_isSound (l := l) (g := g) (d := d - 1) (by omega) hRy.1.1 hI.1.1 (r := k) k0 (by omega)
      have nx := ih (k + 1) (by omega) (by omega)
      refine hB [13] 1000 _ _ _ _ _ ?_
      repeat' (first | exact nx | refine And.intro ?_ ?_ | (intro hh; first | exact absurd hh (by decide) | exact absurd rfl hh | (exfalso; omega) | skip) | refine Or.inl (uE cb ?_) | refine Or.inl (uE iz ?_) | fail)
      all_goals first | omega | (exact rfl) | (exact hR) | (exact fC.rf _) | (exact Nat.le_refl _) | (exact Or.inl rfl) | (exact Or.inr rfl)
  have st := loop (wM A 2).toNat 0 (by omega) (by omega)
  refine hB [13] 1000 _ _ _ _ _ ?_
  repeat' (first | exact st | refine And.intro ?_ ?_ | (intro hh; first | exact absurd hh (by decide) | exact absurd rfl hh | (exfalso; omega) | skip) | refine Or.inl (uE0 so ?_) | fail)
  all_goals first | omega | (exact rfl) | (exact hR) | (exact fC.rf _) | (exact Nat.le_refl _) | (exact Or.inl rfl) | (exact Or.inr rfl)
theorem cT_meanScore (hd : 10 ≤ d) (hR : RelC z A) (hI : InvW A) : cOpD [4] l g nX6_meanScore d [.inr (.inr (.inl (0, 0, 0)))] z (qMean A) := by
  have cc := hI.1.1.1.1.1
  have ct := hI.1.1.1.1.2.1
  have e4 : z (2, 0, 0) 4 = wM A 0 := hR.1.1.1.1.2.2.1
  have e8 : z (2, 0, 0) 8 = wM A 1 := hR.1.1.1.1.2.2.2
  have e2 : z (2, 0, 0) 2 = wM A 5 := hR.1.1.1.1.2.1.1
  have e3 : z (2, 0, 0) 3 = wM A 6 := hR.1.1.1.1.2.1.2
  have n2 : z (1, 0, 0) 2 = wM A 2 := hR.1.1.2.2.1.1
  have n3 : z (1, 0, 0) 3 = (if wM A 7 = -1 then 0 else 1) := hR.1.1.2.2.1.2
  have n9 : -1 ≤ wM A 7 ∧ wM A 7 < 8 := by rcases hI.1.1.1.2.1 with q | q <;> omega
  unfold cOpD
  by_cases hc : wM A 2 = 0
  · have hq : qMean A = (1, FP.dconst0, A) := if_pos hc
    rw [hq]
    refine ⟨fun n => absurd n (by show ¬ ((1 : Int) = 0); decide), fun _ => ?_⟩
    refine aMX_of kX6_meanScore rfl (fun B hB => ?_)
    refine hB [] 1000 _ _ _ _ _ ?_
    repeat' (first | exact hR | exact fC.rf _ | refine And.intro ?_ ?_ | (intro hh; first | exact absurd hh (by decide) | exact absurd rfl hh | (exfalso; omega) | skip) | fail)
    all_goals first | omega | (exact rfl) | (exact hR) | (exact fC.rf _) | (exact Nat.le_refl _) | (exact Or.inl rfl) | (exact Or.inr rfl)
  · have hq : qMean A = (0, dMean (sSums (wM A)) (wM A 2), A) := if_neg hc
    rw [hq]
    refine ⟨fun _ => ?_, fun n => absurd rfl n⟩
    have bs := sSums_B hI.1.1.1
    have ok := dMean_ok bs.1 bs.2 (c := wM A 2) (by omega) (by omega)
    have ss := cK_sumOfScores (l := l) (g := g) (d := d - 1) (by omega) hR.1.1 hI.1.1.1
    have ok1 : vf_n64 (FP.ddiv (FP.i2d (iZ (sSums (wM A)))) (FP.i2d (iZ (z (1, 0, 0) 2)))) := by rw [n2]; exact ok.1
    have fin : (some (.inr (.inr (.inr (.double (FP.ddiv (FP.i2d (iZ (sSums (wM A)))) (FP.i2d (iZ (z (1, 0, 0) 2)))))))) : Option aV) = some (.inr (.inr (.inr (.double (dMean (sSums (wM A)) (wM A 2)))))) ∧ RelC z A ∧ fC z z := ⟨by rw [n2]; rfl, hR, fC.rf _⟩
    refine aM1_of kX6_meanScore rfl (fun B hB => ?_)
    refine hB [] 1000 _ _ _ _ _ ?_
    repeat' (first | exact ⟨rfl, fin⟩ | exact ok1 | refine And.intro ?_ ?_ | (intro hh; first | exact absurd hh (by decide) | exact absurd rfl hh | (exfalso; omega) | skip) | refine Or.inl (uE ss ?_) | fail)
    all_goals first | omega | (exact rfl) | (exact hR) | (exact fC.rf _) | (exact Nat.le_refl _) | (exact Or.inl rfl) | (exact Or.inr rfl)
theorem cT_passRate {k : Int} (hk : aIR k) (hd : 10 ≤ d) (hR : RelC z A) (hI : InvW A) : cOpF [2, 4] l g nX6_passRate d [.inr (.inr (.inl (0, 0, 0))), .inl k] z (qRate k A) := by
  have cc := hI.1.1.1.1.1
  have ct := hI.1.1.1.1.2.1
  have e4 : z (2, 0, 0) 4 = wM A 0 := hR.1.1.1.1.2.2.1
  have e8 : z (2, 0, 0) 8 = wM A 1 := hR.1.1.1.1.2.2.2
  have e2 : z (2, 0, 0) 2 = wM A 5 := hR.1.1.1.1.2.1.1
  have e3 : z (2, 0, 0) 3 = wM A 6 := hR.1.1.1.1.2.1.2
  have n2 : z (1, 0, 0) 2 = wM A 2 := hR.1.1.2.2.1.1
  have n3 : z (1, 0, 0) 3 = (if wM A 7 = -1 then 0 else 1) := hR.1.1.2.2.1.2
  have n9 : -1 ≤ wM A 7 ∧ wM A 7 < 8 := by rcases hI.1.1.1.2.1 with q | q <;> omega
  unfold cOpF
  by_cases hg : isG (wM A) k
  · by_cases hc : wM A 2 = 0
    · have hq : qRate k A = (2, FP.fconst0, A) := (if_pos hg).trans (if_pos hc)
      rw [hq]
      refine ⟨fun n => absurd n (by show ¬ ((2 : Int) = 0); decide), fun _ => ?_⟩
      refine aMX_of kX6_passRate rfl (fun B hB => ?_)
      refine hB [] 1000 _ _ _ _ _ ?_
      repeat' (first | exact hR | exact fC.rf _ | refine And.intro ?_ ?_ | (intro hh; first | exact absurd hh (by decide) | exact absurd rfl hh | (exfalso; omega) | skip) | refine Or.inl (uE0 (cK_requireGate hk (by omega) hR hI hg) ?_) | fail)
      all_goals first | omega | (exact rfl) | (exact hR) | (exact fC.rf _) | (exact Nat.le_refl _) | (exact Or.inl rfl) | (exact Or.inr rfl)
    · have hq : qRate k A = (0, fRate (sThr (wM A) k (wM A 2).toNat 0 0) (wM A 2), A) := (if_pos hg).trans (if_neg hc)
      rw [hq]
      refine ⟨fun _ => ?_, fun n => absurd rfl n⟩
      have bs := sThr_B (a := wM A) (k := k) (wM A 2).toNat 0 0
      have ok := fRate_ok (s := sThr (wM A) k (wM A 2).toNat 0 0) (c := wM A 2) (by omega) (by omega) (by omega) (by omega)
      have hg1 := hg.1
      have hg2 := hg.2
      have ss := cK_countRunsThrough (l := l) (g := g) (d := d - 1) (k := k) (by omega) hR.1.1 hI.1.1.1 hg.1 (by omega)
      have ok1 : vf_n32 (FP.fdiv (FP.i2f (iZ (sThr (wM A) k (wM A 2).toNat 0 0))) (FP.i2f (iZ (z (1, 0, 0) 2)))) := by rw [n2]; exact ok.1
      have fin : (some (.inr (.inr (.inr (.float (FP.fdiv (FP.i2f (iZ (sThr (wM A) k (wM A 2).toNat 0 0))) (FP.i2f (iZ (z (1, 0, 0) 2)))))))) : Option aV) = some (.inr (.inr (.inr (.float (fRate (sThr (wM A) k (wM A 2).toNat 0 0) (wM A 2)))))) ∧ RelC z A ∧ fC z z := ⟨by rw [n2]; rfl, hR, fC.rf _⟩
      refine aM1_of kX6_passRate rfl (fun B hB => ?_)
      refine hB [] 1000 _ _ _ _ _ ?_
      repeat' (first | exact ⟨rfl, fin⟩ | exact ok1 | refine And.intro ?_ ?_ | (intro hh; first | exact absurd hh (by decide) | exact absurd rfl hh | (exfalso; omega) | skip) | refine Or.inl (uE0 (cK_requireGate hk (by omega) hR hI hg) ?_) | refine Or.inl (uE ss ?_) | fail)
      all_goals first | omega | (exact rfl) | (exact hR) | (exact fC.rf _) | (exact Nat.le_refl _) | (exact Or.inl rfl) | (exact Or.inr rfl)
  · have hq : qRate k A = (1, FP.fconst0, A) := if_neg hg
    rw [hq]
    refine ⟨fun n => absurd n (by show ¬ ((1 : Int) = 0); decide), fun _ => ?_⟩
    refine aMX_of kX6_passRate rfl (fun B hB => ?_)
    refine hB [] 1000 _ _ _ _ _ ?_
    repeat' (first | exact hR | exact fC.rf _ | exact (Or.inr (Or.inl ⟨⟨Nat.le_refl _, Nat.le_refl _⟩, uX (cK_requireGateX hk (by omega) hR hI hg) (fun x z' q => ⟨rfl, by rw [q.1]; rfl, by rw [q.2]; exact hR, by rw [q.2]; exact fC.rf _⟩)⟩)) | refine And.intro ?_ ?_ | (intro hh; first | exact absurd hh (by decide) | exact absurd rfl hh | (exfalso; omega) | skip) | fail)
    all_goals first | omega | (exact rfl) | (exact hR) | (exact fC.rf _) | (exact Nat.le_refl _) | (exact Or.inl rfl) | (exact Or.inr rfl)
/-- a state is taken off the ring -/
theorem RelC.po {y : aM} (h : RelC z A) (hc : 1 ≤ wC A) (y1 : y (7, 0, 0) 1 = (z (7, 0, 0) 1 + 7) % 8) (y2 : y (7, 0, 0) 2 = wC A - 1) (e : ∀ q : aP, q ≠ (7, 0, 0) → y q = z q) : RelC y (A.1, A.2.1, (wC A - 1, wH A), A.2.2.2) := by
  obtain ⟨⟨h1, h2, h3⟩, ⟨h4, h5, h6⟩, ⟨h7, h8⟩, ⟨h9, h10⟩, h11, h12⟩ := h
  have yS : ∀ {s : Int} {a : Int → Int}, Sim z s a → Sim y s a := fun h => h.o (fun q q0 q1 => e q (pne (by show q.1 ≠ 7; omega)))
  unfold RelC
  rw [e (0, 0, 0) (by decide), e (12, 0, 0) (by decide), e (13, 0, 0) (by decide), e (10, 0, 0) (by decide), e (11, 0, 0) (by decide), y1, y2]
  refine ⟨⟨yS h1, h2, fun w => yS (h3 w)⟩, ⟨rfl, by omega, fun i i0 i1 => ?_⟩, ⟨h7, h8⟩, ⟨h9, h10⟩, h11, h12⟩
  have i1' : i < wC A - 1 := i1
  have k := h6 i i0 (by omega)
  have es : slot y (wC A - 1) i = slot z (wC A) i := by unfold slot; rw [y1]; omega
  show Sim y (slot y (wC A - 1) i) (wH A i)
  rw [es]
  exact yS k
theorem cK_popInto (hd : 3 ≤ d) (h : RelC z A) (hI : InvW A) (hc : 1 ≤ wC A) : aM1 l g nX1_popInto d [.inr (.inr (.inl (7, 0, 0))), .inr (.inr (.inl (1, 0, 0)))] z (aRv0 (fun z' => (RelC z' (wH A (wC A - 1), A.2.1, (wC A - 1, wH A), A.2.2.2) ∧ z' (7, 0, 0) 2 = wC A - 1) ∧ fC z z')) := by
  have cc := hI.2.1.1
  have nn := h.2.1.2.1
  have e2 := h.2.1.1
  refine aM1_of kX1_popInto rfl (fun B hB => ?_)
  have l26 : ∀ y : aM, y = aWr (aWr z (7, 0, 0) 1 ((z (7, 0, 0) 1 + 8 - 1) % 8)) (7, 0, 0) 2 (aWr z (7, 0, 0) 1 ((z (7, 0, 0) 1 + 8 - 1) % 8) (7, 0, 0) 2 - 1) → B (none, 0, 0) y 26 [some (.inr (.inr (.inl (7, 0, 0)))), some (.inr (.inr (.inl (1, 0, 0))))] [] := by
    intro y ey
    have y2 : y (7, 0, 0) 2 = wC A - 1 := by rw [ey, aWr_k, aWr_j (by decide), e2]
    have y1 : y (7, 0, 0) 1 = (z (7, 0, 0) 1 + 7) % 8 := by rw [ey, aWr_j (by decide), aWr_k]; omega
    have e : ∀ q : aP, q ≠ (7, 0, 0) → y q = z q := fun q hq => by rw [ey, aWr_ne2 hq, aWr_ne2 hq]
    have hRy := h.po hc y1 y2 e
    have hs : Sim y (3 + y (7, 0, 0) 1) (wH A (wC A - 1)) := by
      have k := h.2.1.2.2 (wC A - 1) (by omega) (by omega)
      have es : slot z (wC A) (wC A - 1) = 3 + y (7, 0, 0) 1 := by unfold slot; rw [y1]; omega
      rw [es] at k
      exact k.o (fun q q0 q1 => e q (pne (by show q.1 ≠ 7; omega)))
    have fy : fC z y := fun q hq => e q (pne (by show q.1 ≠ 7; omega))
    have cp := cK_scopy (l := l) (g := g) (d := d - 1) (z := y) (s := 0) (t := 3 + y (7, 0, 0) 1) (by omega) (by omega) hs (hI.2.1.2 (wC A - 1) (by omega) (by omega)).1
    refine hB [] 1000 _ _ _ _ _ ?_
    repeat' (first | (intro z2 hz2; refine ⟨rfl, rfl, ?_⟩; exact ⟨⟨hRy.nw hz2.2 hz2.1, by rw [hz2.2.n 7 (by decide), y2]⟩, fy.tr hz2.2.fC⟩) | refine And.intro ?_ ?_ | (intro hh; first | exact absurd hh (by decide) | exact absurd rfl hh | (exfalso; omega) | skip) | refine Or.inl (uV cp ?_) | fail)
    all_goals first | omega | (exact rfl)
  have l26' := l26 _ rfl
  have g2 : aWr z (7, 0, 0) 1 ((z (7, 0, 0) 1 + 8 - 1) % 8) (7, 0, 0) 2 = wC A := by rw [aWr_j (by decide), e2]
  refine hB [26] 1000 _ _ _ _ _ ?_
  repeat' (first | exact l26' | refine And.intro ?_ ?_ | (intro hh; first | exact absurd hh (by decide) | exact absurd rfl hh | (exfalso; omega) | skip) | fail)
  all_goals first | omega | (exact rfl)
theorem cT_undo (hd : 10 ≤ d) (hR : RelC z A) (hI : InvW A) : cOp [1] l g nX6_undo d [.inr (.inr (.inl (0, 0, 0)))] z (qUndo A) := by
  have cc := hI.2.1.1
  have e2 := hR.2.1.1
  unfold qUndo
  by_cases hc : wC A = 0
  · rw [if_pos hc]
    refine q1_C (by decide) ?_
    refine aMX_of kX6_undo rfl (fun B hB => ?_)
    refine hB [] 1000 _ _ _ _ _ ?_
    repeat' (first | exact hR | exact fC.rf _ | refine And.intro ?_ ?_ | (intro hh; first | exact absurd hh (by decide) | exact absurd rfl hh | (exfalso; omega) | skip) | fail)
    all_goals first | omega | (exact rfl) | (exact hR) | (exact fC.rf _) | (exact Nat.le_refl _) | (exact Or.inl rfl) | (exact Or.inr rfl)
  · rw [if_neg hc]
    have po := cK_popInto (l := l) (g := g) (d := d - 1) (by omega) hR hI (by omega)
    refine q0_C ?_
    refine aM1_of kX6_undo rfl (fun B hB => ?_)
    refine hB [] 1000 _ _ _ _ _ ?_
    repeat' (first | (intro z2 hz2; exact ⟨rfl, by rw [hz2.1.2], hz2.1.1, hz2.2⟩) | refine And.intro ?_ ?_ | (intro hh; first | exact absurd hh (by decide) | exact absurd rfl hh | (exfalso; omega) | skip) | refine Or.inl (uV po ?_) | fail)
    all_goals first | omega | (exact rfl) | (exact hR) | (exact fC.rf _) | (exact Nat.le_refl _) | (exact Or.inl rfl) | (exact Or.inr rfl)
theorem cT_save (hd : 10 ≤ d) (hR : RelC z A) (hI : InvW A) : cOp [] l g nX6_save d [.inr (.inr (.inl (0, 0, 0)))] z (qSave A) := by
  have cp := cK_scopy (l := l) (g := g) (d := d - 1) (z := z) (s := 2) (t := 0) (by decide) (by omega) hR.1.1 hI.1.1.1
  unfold qSave
  refine q0_C ?_
  refine aM1_of kX6_save rfl (fun B hB => ?_)
  have fin : ∀ z1, Sim z1 2 (wM A) ∧ fS 2 z z1 → (some (.inl (aWr z1 (0, 0, 0) 3 1 (1, 0, 0) 2)) : Option aV) = some (.inl (wM A 2)) ∧ RelC (aWr z1 (0, 0, 0) 3 1) (wM A, ((1 : Int), wM A), A.2.2) ∧ fC z (aWr z1 (0, 0, 0) 3 1) := by
    intro z1 hz1
    obtain ⟨s1, hf⟩ := hz1
    have e : ∀ q : aP, q ≠ (0, 0, 0) → aWr z1 (0, 0, 0) 3 1 q = z1 q := fun q hq => aWr_ne2 hq
    have yS : ∀ {s : Int} {a : Int → Int}, Sim z1 s a → Sim (aWr z1 (0, 0, 0) 3 1) s a := fun h => h.o (fun q q0 q1 => e q (pne (by show q.1 ≠ 0; omega)))
    obtain ⟨⟨h1, h2, h3⟩, ⟨h4, h5, h6⟩, ⟨h7, h8⟩, ⟨h9, h10⟩, h11, h12⟩ := hR
    have s0 := yS (h1.fr (by decide) hf)
    have es : ∀ c i, slot (aWr z1 (0, 0, 0) 3 1) c i = slot z c i := fun c i => by unfold slot; rw [e (7, 0, 0) (by decide), hf.n 7 (by decide)]
    refine ⟨by rw [s0.2.2.1.1], ?_, (hf.fC).wr (by decide)⟩
    unfold RelC
    rw [e (7, 0, 0) (by decide), e (12, 0, 0) (by decide), e (13, 0, 0) (by decide), e (10, 0, 0) (by decide), e (11, 0, 0) (by decide), aWr_k, aWr_j (by decide), aWr_j (by decide), hf.n 0 (by decide), hf.n 7 (by decide), hf.n 12 (by decide), hf.n 13 (by decide), hf.n 10 (by decide), hf.n 11 (by decide)]
    refine ⟨⟨s0, rfl, fun w => yS s1⟩, ⟨h4, h5, fun i i0 i1 => ?_⟩, ⟨h7, h8⟩, ⟨h9, h10⟩, h11, h12⟩
    rw [es]
    exact yS ((h6 i i0 i1).fr (by have := slot_B z (wC A) i; omega) hf)
  refine hB [] 1000 _ _ _ _ _ ?_
  repeat' (first | (intro z1 hz1; exact ⟨rfl, fin z1 hz1⟩) | (intro z1 hz1; refine And.intro ?_ ⟨rfl, fin z1 hz1⟩) | refine And.intro ?_ ?_ | (intro hh; first | exact absurd hh (by decide) | exact absurd rfl hh | (exfalso; omega) | skip) | refine Or.inl (uV cp ?_) | fail)
  all_goals first | omega | (exact rfl) | (exact hR) | (exact fC.rf _) | (exact Nat.le_refl _) | (exact Or.inl rfl) | (exact Or.inr rfl)
theorem cK_hclear : aE0 l g nX1_clear d [.inr (.inr (.inl (7, 0, 0)))] z (aWr z (7, 0, 0) 2 0) := by
  refine aM1_of kX1_clear rfl (fun B hB => ?_)
  refine hB [] 1000 _ _ _ _ _ ?_
  repeat' (first | refine And.intro ?_ ?_ | fail)
  all_goals first | omega | (exact rfl)
theorem cT_restore (hd : 10 ≤ d) (hR : RelC z A) (hI : InvW A) : cOp [1] l g nX6_restore d [.inr (.inr (.inl (0, 0, 0)))] z (qRestore A) := by
  have e3 := hR.1.2.1
  have sv := hI.1.2.2.1
  unfold qRestore
  by_cases hc : wSv A = 0
  · rw [if_pos hc]
    refine q1_C (by decide) ?_
    refine aMX_of kX6_restore rfl (fun B hB => ?_)
    refine hB [] 1000 _ _ _ _ _ ?_
    repeat' (first | exact hR | exact fC.rf _ | refine And.intro ?_ ?_ | (intro hh; first | exact absurd hh (by decide) | exact absurd rfl hh | (exfalso; omega) | skip) | fail)
    all_goals first | omega | (exact rfl) | (exact hR) | (exact fC.rf _) | (exact Nat.le_refl _) | (exact Or.inl rfl) | (exact Or.inr rfl)
  · rw [if_neg hc]
    have s1 : wSv A = 1 := by omega
    have cp := cK_scopy (l := l) (g := g) (d := d - 1) (z := z) (s := 0) (t := 2) (by decide) (by omega) (hR.1.2.2 s1) (hI.1.2.2.2 s1).1
    refine q0_C ?_
    refine aM1_of kX6_restore rfl (fun B hB => ?_)
    have fin : ∀ z1, Sim z1 0 (wS A) ∧ fS 0 z z1 → (some (.inl (aWr z1 (7, 0, 0) 2 0 (1, 0, 0) 2)) : Option aV) = some (.inl (wS A 2)) ∧ RelC (aWr z1 (7, 0, 0) 2 0) (wS A, A.2.1, ((0 : Int), wH A), A.2.2.2) ∧ fC z (aWr z1 (7, 0, 0) 2 0) := by
      intro z1 hz1
      obtain ⟨⟨h1, h2, h3⟩, ⟨h4, h5, h6⟩, ⟨h7, h8⟩, ⟨h9, h10⟩, h11, h12⟩ := hR.nw hz1.2 hz1.1
      have e : ∀ q : aP, q ≠ (7, 0, 0) → aWr z1 (7, 0, 0) 2 0 q = z1 q := fun q hq => aWr_ne2 hq
      have yS : ∀ {s : Int} {a : Int → Int}, Sim z1 s a → Sim (aWr z1 (7, 0, 0) 2 0) s a := fun h => h.o (fun q q0 q1 => e q (pne (by show q.1 ≠ 7; omega)))
      have s0 := yS h1
      refine ⟨by rw [s0.2.2.1.1], ?_, (hz1.2.fC).wr (by decide)⟩
      unfold RelC
      rw [e (0, 0, 0) (by decide), e (12, 0, 0) (by decide), e (13, 0, 0) (by decide), e (10, 0, 0) (by decide), e (11, 0, 0) (by decide), aWr_k, aWr_j (by decide)]
      exact ⟨⟨s0, h2, fun w => yS (h3 w)⟩, ⟨rfl, h5, fun i i0 i1 => by have i2 : i < (0 : Int) := i1; omega⟩, ⟨h7, h8⟩, ⟨h9, h10⟩, h11, h12⟩
    refine hB [] 1000 _ _ _ _ _ ?_
    repeat' (first | (intro z1 hz1; exact Or.inl (uE0 cK_hclear ⟨rfl, fin z1 hz1⟩)) | (intro z1 hz1; refine And.intro ?_ (Or.inl (uE0 cK_hclear ⟨rfl, fin z1 hz1⟩))) | refine And.intro ?_ ?_ | (intro hh; first | exact absurd hh (by decide) | exact absurd rfl hh | (exfalso; omega) | skip) | refine Or.inl (uV cp ?_) | fail)
    all_goals first | omega | (exact rfl) | (exact hR) | (exact fC.rf _) | (exact Nat.le_refl _) | (exact Or.inl rfl) | (exact Or.inr rfl)
theorem cT_charAt {k : Int} (hk : aIR k) (hd : 10 ≤ d) (hR : RelC z A) (hI : InvW A) : cOp [2] l g nX6_charAt d [.inr (.inr (.inl (0, 0, 0))), .inl k] z (qChar k A) := by
  have lk := hk
  unfold aIR at lk
  have cc := hI.2.2.2.2.1
  have e1 := hR.2.2.2.2.1
  unfold qChar
  by_cases hc : 0 ≤ k ∧ k < wLn A
  · rw [if_pos hc]
    have eV := hR.2.2.2.2.2 k hc.1 hc.2
    have wb := hI.2.2.2.2.2 k hc.1 hc.2
    refine q0_C ?_
    refine aM1_of kX6_charAt rfl (fun B hB => ?_)
    refine hB [] 1000 _ _ _ _ _ ?_
    repeat' (first | exact hR | exact fC.rf _ | refine And.intro ?_ ?_ | (intro hh; first | exact absurd hh (by decide) | exact absurd rfl hh | (exfalso; omega) | skip) | fail)
    all_goals first | omega | (exact rfl) | (exact hR) | (exact fC.rf _) | (exact Nat.le_refl _) | (exact Or.inl rfl) | (exact Or.inr rfl) | (rw [eV])
  · rw [if_neg hc]
    refine q1_C (by decide) ?_
    refine aMX_of kX6_charAt rfl (fun B hB => ?_)
    refine hB [] 1000 _ _ _ _ _ ?_
    repeat' (first | exact hR | exact fC.rf _ | refine And.intro ?_ ?_ | (intro hh; first | exact absurd hh (by decide) | exact absurd rfl hh | (exfalso; omega) | skip) | fail)
    all_goals first | omega | (exact rfl) | (exact hR) | (exact fC.rf _) | (exact Nat.le_refl _) | (exact Or.inl rfl) | (exact Or.inr rfl)
theorem cK_append {c : Int} (n0 : 0 ≤ z (12, 0, 0) 1) (n1 : z (12, 0, 0) 1 < 60) (c0 : 0 ≤ c) (c1 : c < 65536) : aE0 l g nX3_append d [.inr (.inr (.inl (12, 0, 0))), .inl c] z (aWr (aWr z (13, 0, 0) (z (12, 0, 0) 1) c) (12, 0, 0) 1 (z (12, 0, 0) 1 + 1)) := by
  have cm : c % 65536 = c := by omega
  have g1 : aWr z (13, 0, 0) (z (12, 0, 0) 1) (c % 65536) (12, 0, 0) 1 = z (12, 0, 0) 1 := by rw [aWr_ne2 (by decide)]
  have fin : aWr (aWr z (13, 0, 0) (z (12, 0, 0) 1) (c % 65536)) (12, 0, 0) 1 (aWr z (13, 0, 0) (z (12, 0, 0) 1) (c % 65536) (12, 0, 0) 1 + 1) = aWr (aWr z (13, 0, 0) (z (12, 0, 0) 1) c) (12, 0, 0) 1 (z (12, 0, 0) 1 + 1) := by rw [g1, cm]
  refine aM1_of kX3_append rfl (fun B hB => ?_)
  refine hB [] 1000 _ _ _ _ _ ?_
  repeat' (first | exact ⟨rfl, rfl, fin⟩ | refine And.intro ?_ ?_ | (intro hh; first | exact absurd hh (by decide) | exact absurd rfl hh | (exfalso; omega) | skip) | fail)
  all_goals first | omega | (exact rfl)
theorem cT_type {k : Int} (k0 : 0 ≤ k) (k1 : k < 65536) (hd : 10 ≤ d) (hR : RelC z A) (hI : InvW A) : cOp [1] l g nX6_type d [.inr (.inr (.inl (0, 0, 0))), .inl k] z (qType k A) := by
  have cc := hI.2.2.2.1.1
  have e1 := hR.2.2.2.1.1
  unfold qType
  by_cases hc : wPn A = 60
  · rw [if_pos hc]
    refine q1_C (by decide) ?_
    refine aMX_of kX6_type rfl (fun B hB => ?_)
    refine hB [] 1000 _ _ _ _ _ ?_
    repeat' (first | exact hR | exact fC.rf _ | refine And.intro ?_ ?_ | (intro hh; first | exact absurd hh (by decide) | exact absurd rfl hh | (exfalso; omega) | skip) | fail)
    all_goals first | omega | (exact rfl) | (exact hR) | (exact fC.rf _) | (exact Nat.le_refl _) | (exact Or.inl rfl) | (exact Or.inr rfl)
  · rw [if_neg hc]
    have ap := cK_append (l := l) (g := g) (d := d - 1) (z := z) (c := k) (by omega) (by omega) k0 k1
    obtain ⟨y, ey⟩ : ∃ y, y = aWr (aWr z (13, 0, 0) (z (12, 0, 0) 1) k) (12, 0, 0) 1 (z (12, 0, 0) 1 + 1) := ⟨_, rfl⟩
    rw [← ey] at ap
    have e : ∀ q : aP, q ≠ (12, 0, 0) → q ≠ (13, 0, 0) → y q = z q := fun q q1 q2 => by rw [ey, aWr_ne2 q1, aWr_ne2 q2]
    have y1 : y (12, 0, 0) 1 = wPn A + 1 := by rw [ey, aWr_k, e1]
    have y13 : y (13, 0, 0) = ud (z (13, 0, 0)) (wPn A) k := by rw [ey, aWr_ne2 (by decide), aWr_pS, pS_at, e1]
    have yS : ∀ {s : Int} {a : Int → Int}, Sim z s a → Sim y s a := fun h => h.o (fun q q0 q1 => e q (pne (by show q.1 ≠ 12; omega)) (pne (by show q.1 ≠ 13; omega)))
    have fin : (some (.inl (y (12, 0, 0) 1)) : Option aV) = some (.inl (wPn A + 1)) ∧ RelC y (A.1, A.2.1, A.2.2.1, A.2.2.2.1, (wPn A + 1, ud (wPt A) (wPn A) k), A.2.2.2.2.2) ∧ fC z y := by
      obtain ⟨⟨h1, h2, h3⟩, ⟨h4, h5, h6⟩, ⟨h7, h8⟩, ⟨h9, h10⟩, h11, h12⟩ := hR
      have es : ∀ c i, slot y c i = slot z c i := fun c i => by unfold slot; rw [e (7, 0, 0) (by decide) (by decide)]
      refine ⟨by rw [y1], ?_, fun q hq => e q (pne (by show q.1 ≠ 12; omega)) (pne (by show q.1 ≠ 13; omega))⟩
      unfold RelC
      rw [e (0, 0, 0) (by decide) (by decide), e (7, 0, 0) (by decide) (by decide), e (10, 0, 0) (by decide) (by decide), e (11, 0, 0) (by decide) (by decide), y1, y13]
      refine ⟨⟨yS h1, h2, fun w => yS (h3 w)⟩, ⟨h4, h5, fun i i0 i1 => ?_⟩, ⟨h7, h8⟩, ⟨rfl, fun j j0 j1 => ?_⟩, h11, h12⟩
      · rw [es]
        exact yS (h6 i i0 i1)
      · have j2 : j < wPn A + 1 := j1
        show ud (z (13, 0, 0)) (wPn A) k j = ud (wPt A) (wPn A) k j
        by_cases w : j = wPn A
        · rw [w, ud_at, ud_at]
        · rw [ud_ne w, ud_ne w]
          exact h10 j j0 (by omega)
    refine q0_C ?_
    refine aM1_of kX6_type rfl (fun B hB => ?_)
    refine hB [] 1000 _ _ _ _ _ ?_
    repeat' (first | exact ⟨rfl, fin⟩ | refine And.intro ?_ ?_ | (intro hh; first | exact absurd hh (by decide) | exact absurd rfl hh | (exfalso; omega) | skip) | refine Or.inl (uE0 ap ?_) | fail)
    all_goals first | omega | (exact rfl) | (exact hR) | (exact fC.rf _) | (exact Nat.le_refl _) | (exact Or.inl rfl) | (exact Or.inr rfl)

end K16
