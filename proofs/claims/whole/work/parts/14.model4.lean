/-! THE MODEL'S METHODS: gates, legs done, far points (printed by wip/whole/model4.py) -/
theorem sGa_1 {a : Int → Int} {x y k bits : Int} {n : Nat} (h1 : sOpen a k) (h2 : sMe a (a 9) (a 10) x y k) : sGa a x y (n + 1) k bits = sGa a x y n (k + 1) (orI bits (1 * 2 ^ k.toNat)) := by
  show (if sOpen a k then (if sMe a (a 9) (a 10) x y k then sGa a x y n (k + 1) (orI bits (1 * 2 ^ k.toNat)) else bits) else sGa a x y n (k + 1) bits) = _
  rw [if_pos h1, if_pos h2]
theorem sGa_2 {a : Int → Int} {x y k bits : Int} {n : Nat} (h1 : sOpen a k) (h2 : ¬ sMe a (a 9) (a 10) x y k) : sGa a x y (n + 1) k bits = bits := by
  show (if sOpen a k then (if sMe a (a 9) (a 10) x y k then sGa a x y n (k + 1) (orI bits (1 * 2 ^ k.toNat)) else bits) else sGa a x y n (k + 1) bits) = _
  rw [if_pos h1, if_neg h2]
theorem sGa_3 {a : Int → Int} {x y k bits : Int} {n : Nat} (h1 : ¬ sOpen a k) : sGa a x y (n + 1) k bits = sGa a x y n (k + 1) bits := by
  show (if sOpen a k then (if sMe a (a 9) (a 10) x y k then sGa a x y n (k + 1) (orI bits (1 * 2 ^ k.toNat)) else bits) else sGa a x y n (k + 1) bits) = _
  rw [if_neg h1]
theorem sCm_1 {a : Int → Int} {k acc : Int} {n : Nat} (h1 : sOpen a k) : sCm (n + 1) a k acc = sCm n (sLoA a (a 8) 5 3) (k + 1) (acc + sLo a (a 8) 5) := by
  show (if sOpen a k then sCm n (sLoA a (a 8) 5 3) (k + 1) (acc + sLo a (a 8) 5) else sCm n a (k + 1) (acc + 0)) = _
  rw [if_pos h1]
theorem sCm_2 {a : Int → Int} {k acc : Int} {n : Nat} (h1 : ¬ sOpen a k) : sCm (n + 1) a k acc = sCm n a (k + 1) (acc + 0) := by
  show (if sOpen a k then sCm n (sLoA a (a 8) 5 3) (k + 1) (acc + sLo a (a 8) 5) else sCm n a (k + 1) (acc + 0)) = _
  rw [if_neg h1]
theorem or0 {x : Int} (h : 0 ≤ x ∧ x < 64) : (iZ x ||| iZ 0).toInt = x := by
  have key : ∀ x : Nat, x < 64 → (iZ (x : Int) ||| iZ 0).toInt = (x : Int) := by decide +kernel
  have := key x.toNat (by omega)
  rw [Int.toNat_of_nonneg h.1] at this
  exact this
theorem sBeg_B {v : Int} (h0 : 0 ≤ v) (h1 : v < 6) : 3 ≤ sBeg v ∧ sBeg v ≤ 23 := by
  unfold sBeg
  split <;> omega
theorem InvC.beg {a : Int → Int} (h : InvC a) {leg : Int} (l0 : 0 ≤ leg) (l1 : leg < a 0) : sPt (a (sBeg leg)) (a (sBeg leg + 1)) := by
  unfold sBeg
  split
  · exact h.2.1.1
  · exact (h.2.2.1 (leg - 1) (by omega) (by omega)).1
section M4
variable {l : Launch} {g : aG} {d : Nat} {z : aM}
theorem cM_gatesTo {x y : Int} (hd : 4 ≤ d) (h : Inv0 (z (17, 0, 0))) (n7 : z (17, 0, 0) 7 ≠ -1) (hp : sPt x y) : aE1 l g nX7_gatesTo d [.inr (.inr (.inl (16, 0, 0))), .inl x, .inl y] z (sGT (z (17, 0, 0)) x y) z := by
  refine aM1_of kX7_gatesTo rfl (fun B hB => ?_)
  have gg := h.go n7
  have cc := h.1.1
  have out : ∀ bits k : Int, bits = sGT (z (17, 0, 0)) x y → 0 ≤ k → k ≤ 6 → B (none, 0, 0) z 8 [some (.inr (.inr (.inl (16, 0, 0)))), some (.inl x), some (.inl y), some (.inl bits), some (.inl 0), some (.inl k)] [] := by
    intro bits k he k0 k1
    refine hB [] 1000 _ _ _ _ _ ?_
    repeat' (first | refine And.intro ?_ ?_ | (intro hh; first | exact absurd hh (by decide) | exact absurd rfl hh | skip) | fail)
    all_goals first | omega | (exact rfl) | (exact sI he)
  have loop : ∀ (n : Nat) (k bits : Int), k + (n : Int) = z (17, 0, 0) 1 → 0 ≤ k → 0 ≤ bits ∧ bits < 64 → sGa (z (17, 0, 0)) x y n k bits = sGT (z (17, 0, 0)) x y → B (none, 0, 0) z 8 [some (.inr (.inr (.inl (16, 0, 0)))), some (.inl x), some (.inl y), some (.inl bits), some (.inl 1), some (.inl k)] [] := by
    intro n
    induction n with
    | zero =>
      intro k bits hk k0 hb he
      refine hB [] 1000 _ _ _ _ _ ?_
      have hq1 : sPt (0 : Int) 0 := by omega
      repeat' (first | refine And.intro ?_ ?_ | (intro hh; first | exact absurd hh (by decide) | exact absurd rfl hh | (exfalso; omega) | skip) | fail)
      all_goals first | omega | (exact rfl) | (exact sI he)
    | succ n ih =>
      intro k bits hk k0 hb he
      have p2 := p2B (k := k) k0 (by omega)
      have hob := orI_B (x := bits) (y := 1 * 2 ^ k.toNat) hb (by omega)
      have hg := h.1.2.2.2 k k0 (by omega)
      have hq1 := hg.2.1
      have hq2 := hg.2.2
      have hg1 := hg.1
      refine hB [8] 1000 _ _ _ _ _ ?_
      repeat' (first | refine And.intro ?_ ?_ | (intro hh; first | exact absurd hh (by decide) | exact absurd rfl hh | skip) | refine Or.inl (uE cM_gateAt ?_) | refine Or.inl (uB (cM_isPassed ?_ h n7 ?_ ?_) ?_ ?_) | refine Or.inl (uB (cM_meets ?_ gg.2.2 hp ?_ ?_ hq1 hq2) ?_ ?_) | fail)
      all_goals first | omega | (exact rfl) | skip
      all_goals first | refine ih _ _ ?_ ?_ ?_ ?_ | refine out _ _ ?_ ?_ ?_ | fail "left"
      all_goals first | omega | (exact hob) | (exact hb) | (rw [← he, sGa_1 ⟨by assumption, by assumption⟩ (by assumption)]; rfl) | (rw [← he, sGa_2 ⟨by assumption, by assumption⟩ (by assumption)]; exact or0 hb) | (rw [← he, sGa_3 (fun q => by first | exact absurd q.1 (by assumption) | exact q.2 (by assumption))]) | fail "left2"
  refine hB [8] 1000 _ _ _ _ _ ?_
  exact loop (z (17, 0, 0) 1).toNat 0 0 (by omega) (by omega) (by omega) rfl

theorem cM_completesLeg (hd : 2 ≤ d) (h : Inv0 (z (17, 0, 0))) (n7 : z (17, 0, 0) 7 ≠ -1) : aE1 l g nX7_completesLeg d [.inr (.inr (.inl (16, 0, 0)))] z (sCL (z (17, 0, 0))).1 (pS z (17, 0, 0) (sCL (z (17, 0, 0))).2) := by
  refine aM1_of kX7_completesLeg rfl (fun B hB => ?_)
  have loop : ∀ (n : Nat) (z1 : aM) (k acc : Int), Inv0 (z1 (17, 0, 0)) → z1 (17, 0, 0) 7 ≠ -1 → 0 ≤ k → k + (n : Int) = z1 (17, 0, 0) 1 → (sCm n (z1 (17, 0, 0)) k acc).1 = (sCL (z (17, 0, 0))).1 → pS z1 (17, 0, 0) (sNx (sCm n (z1 (17, 0, 0)) k acc).2) = pS z (17, 0, 0) (sCL (z (17, 0, 0))).2 → B (none, 0, 0) z1 4 [some (.inr (.inr (.inl (16, 0, 0)))), some (.inl acc), some (.inl k)] [] := by
    intro n
    induction n with
    | zero =>
      intro z1 k acc h n7 k0 k1 e1 e2
      have gg := h.go n7
      have cc := h.1.1
      have e3 : pS z1 (17, 0, 0) (sNx (z1 (17, 0, 0))) = pS z (17, 0, 0) (sCL (z (17, 0, 0))).2 := e2
      refine hB [] 1000 _ _ _ _ _ ?_
      repeat' (first | refine And.intro ?_ ?_ | (intro hh; first | exact absurd hh (by decide) | exact absurd rfl hh | (exfalso; omega) | skip) | refine Or.inl (uE cM_gateAt ?_) | refine Or.inl (uE cM_runAtPlace ?_) | refine Or.inl (uB (cM_isPassed ?_ h n7 ?_ ?_) ?_ ?_) | refine Or.inl (uE (cM_loses ?_ h n7 ?_ ?_ ?_ ?_ ?_ ?_) ?_) | refine Or.inl (uE0 cM_endsRun ?_) | fail)
      all_goals first | omega | (exact rfl) | (exact sI e1) | skip
      all_goals first | (rw [← e3]; unfold sNx; rw [if_pos (by assumption)]; simp only [aWr_pS, pS_at, pS_pS]; done) | (rw [← e3]; unfold sNx; rw [if_neg (by assumption)]; simp only [aWr_pS, pS_at, pS_pS]; done) | fail "left"
    | succ n ih =>
      intro z1 k acc h n7 k0 k1 e1 e2
      have gg := h.go n7
      have cc := h.1.1
      have hg := (h.1.2.2.2 k k0 (by omega)).1
      have g0 := sLoA_g h n7 (leg := z1 (17, 0, 0) 8) (p := 5) (w := 3) gg.2.1.1 (by omega)
      refine hB [4] 1000 _ _ _ _ _ ?_
      repeat' (first | refine And.intro ?_ ?_ | (intro hh; first | exact absurd hh (by decide) | exact absurd rfl hh | skip) | refine Or.inl (uE cM_gateAt ?_) | refine Or.inl (uE cM_runAtPlace ?_) | refine Or.inl (uB (cM_isPassed ?_ h n7 ?_ ?_) ?_ ?_) | refine Or.inl (uE (cM_loses ?_ h n7 ?_ ?_ ?_ ?_ ?_ ?_) ?_) | refine Or.inl (uE0 cM_endsRun ?_) | fail)
      all_goals first | omega | (exact rfl) | refine ih _ _ _ ?_ ?_ ?_ ?_ ?_ ?_
      all_goals first | omega | (exact h) | (exact n7) | (rw [pS_at]; exact h.lo n7 gg.2.1.1 gg.2.1.2 (by omega) (by omega) (by omega)) | (rw [pS_at, g0 7 (by omega)]; exact n7) | (rw [pS_at, g0 1 (by omega)]; omega) | skip
      all_goals first | (rw [pS_at, ← e1, sCm_1 ⟨by assumption, by assumption⟩]; done) | (rw [pS_at, pS_pS, ← e2, sCm_1 ⟨by assumption, by assumption⟩]; done) | (rw [← e1, sCm_2 (fun q => by first | exact absurd q.1 (by assumption) | exact q.2 (by assumption))]; done) | (rw [← e2, sCm_2 (fun q => by first | exact absurd q.1 (by assumption) | exact q.2 (by assumption))]; done) | fail "left"
  have cc := h.1.1
  refine hB [4] 1000 _ _ _ _ _ ?_
  exact loop (z (17, 0, 0) 1).toNat z _ _ h n7 (by omega) (by omega) rfl rfl

set_option maxHeartbeats 4000000 in
theorem cM_isFar {x y : Int} (hd : 2 ≤ d) (h : Inv0 (z (17, 0, 0))) (n7 : z (17, 0, 0) 7 ≠ -1) (hp : sPt x y) : aEb l g nX7_isFar d [.inr (.inr (.inl (16, 0, 0))), .inl x, .inl y] z (sFar (z (17, 0, 0)) x y) := by
  have gg := h.go n7
  have cc := h.1.1
  have ct := h.1.2.1.2.1
  have bb := sBeg_B gg.2.1.1 (by omega)
  have pb := h.1.beg gg.2.1.1 gg.2.1.2
  have pe := (h.1.2.2.1 _ gg.2.1.1 gg.2.1.2).1
  have q1 := mulB (x := (z (17, 0, 0) (11 + 3 * z (17, 0, 0) 8) - z (17, 0, 0) (sBeg (z (17, 0, 0) 8)))) (y := (x - z (17, 0, 0) (sBeg (z (17, 0, 0) 8)))) (A := 99) (B := 99) (by omega) (by omega) (by omega) (by omega)
  have q2 := mulB (x := (z (17, 0, 0) (11 + 3 * z (17, 0, 0) 8 + 1) - z (17, 0, 0) (sBeg (z (17, 0, 0) 8) + 1))) (y := (y - z (17, 0, 0) (sBeg (z (17, 0, 0) 8) + 1))) (A := 99) (B := 99) (by omega) (by omega) (by omega) (by omega)
  have q3 := sqB (x := (z (17, 0, 0) (11 + 3 * z (17, 0, 0) 8) - z (17, 0, 0) (sBeg (z (17, 0, 0) 8)))) (A := 99) (by omega) (by omega)
  have q4 := sqB (x := (z (17, 0, 0) (11 + 3 * z (17, 0, 0) 8 + 1) - z (17, 0, 0) (sBeg (z (17, 0, 0) 8) + 1))) (A := 99) (by omega) (by omega)
  have q5 := sqB (x := (x - z (17, 0, 0) (sBeg (z (17, 0, 0) 8)))) (A := 99) (by omega) (by omega)
  have q6 := sqB (x := (y - z (17, 0, 0) (sBeg (z (17, 0, 0) 8) + 1))) (A := 99) (by omega) (by omega)
  have q7 := sqB (x := (x - z (17, 0, 0) (11 + 3 * z (17, 0, 0) 8))) (A := 99) (by omega) (by omega)
  have q8 := sqB (x := (y - z (17, 0, 0) (11 + 3 * z (17, 0, 0) 8 + 1))) (A := 99) (by omega) (by omega)
  have q9 := sqB (x := z (17, 0, 0) 5) (A := 20) (by omega) (by omega)
  have q10 := mulB (x := (z (17, 0, 0) (11 + 3 * z (17, 0, 0) 8) - z (17, 0, 0) (sBeg (z (17, 0, 0) 8)))) (y := (y - z (17, 0, 0) (sBeg (z (17, 0, 0) 8) + 1))) (A := 99) (B := 99) (by omega) (by omega) (by omega) (by omega)
  have q11 := mulB (x := (z (17, 0, 0) (11 + 3 * z (17, 0, 0) 8 + 1) - z (17, 0, 0) (sBeg (z (17, 0, 0) 8) + 1))) (y := (x - z (17, 0, 0) (sBeg (z (17, 0, 0) 8)))) (A := 99) (B := 99) (by omega) (by omega) (by omega) (by omega)
  have q12 := sqB (x := ((z (17, 0, 0) (11 + 3 * z (17, 0, 0) 8) - z (17, 0, 0) (sBeg (z (17, 0, 0) 8))) * (y - z (17, 0, 0) (sBeg (z (17, 0, 0) 8) + 1)) - (z (17, 0, 0) (11 + 3 * z (17, 0, 0) 8 + 1) - z (17, 0, 0) (sBeg (z (17, 0, 0) 8) + 1)) * (x - z (17, 0, 0) (sBeg (z (17, 0, 0) 8))))) (A := 19602) (by omega) (by omega)
  have q13 := mulB (x := (z (17, 0, 0) 5 * z (17, 0, 0) 5)) (y := ((z (17, 0, 0) (11 + 3 * z (17, 0, 0) 8) - z (17, 0, 0) (sBeg (z (17, 0, 0) 8))) * (z (17, 0, 0) (11 + 3 * z (17, 0, 0) 8) - z (17, 0, 0) (sBeg (z (17, 0, 0) 8))) + (z (17, 0, 0) (11 + 3 * z (17, 0, 0) 8 + 1) - z (17, 0, 0) (sBeg (z (17, 0, 0) 8) + 1)) * (z (17, 0, 0) (11 + 3 * z (17, 0, 0) 8 + 1) - z (17, 0, 0) (sBeg (z (17, 0, 0) 8) + 1)))) (A := 400) (B := 19602) (by omega) (by omega) (by omega) (by omega)
  have c1 := aCmp_s (((z (17, 0, 0) (11 + 3 * z (17, 0, 0) 8) - z (17, 0, 0) (sBeg (z (17, 0, 0) 8))) * (y - z (17, 0, 0) (sBeg (z (17, 0, 0) 8) + 1)) - (z (17, 0, 0) (11 + 3 * z (17, 0, 0) 8 + 1) - z (17, 0, 0) (sBeg (z (17, 0, 0) 8) + 1)) * (x - z (17, 0, 0) (sBeg (z (17, 0, 0) 8)))) * ((z (17, 0, 0) (11 + 3 * z (17, 0, 0) 8) - z (17, 0, 0) (sBeg (z (17, 0, 0) 8))) * (y - z (17, 0, 0) (sBeg (z (17, 0, 0) 8) + 1)) - (z (17, 0, 0) (11 + 3 * z (17, 0, 0) 8 + 1) - z (17, 0, 0) (sBeg (z (17, 0, 0) 8) + 1)) * (x - z (17, 0, 0) (sBeg (z (17, 0, 0) 8))))) ((z (17, 0, 0) 5 * z (17, 0, 0) 5) * ((z (17, 0, 0) (11 + 3 * z (17, 0, 0) 8) - z (17, 0, 0) (sBeg (z (17, 0, 0) 8))) * (z (17, 0, 0) (11 + 3 * z (17, 0, 0) 8) - z (17, 0, 0) (sBeg (z (17, 0, 0) 8))) + (z (17, 0, 0) (11 + 3 * z (17, 0, 0) 8 + 1) - z (17, 0, 0) (sBeg (z (17, 0, 0) 8) + 1)) * (z (17, 0, 0) (11 + 3 * z (17, 0, 0) 8 + 1) - z (17, 0, 0) (sBeg (z (17, 0, 0) 8) + 1))))
  unfold sFar sFq sCr
  refine aM1_of kX7_isFar rfl (fun B hB => ?_)
  refine hB [] 1000 _ _ _ _ _ ?_
  repeat' (first | refine And.intro ?_ ?_ | (intro hh; first | exact absurd hh (by decide) | exact absurd rfl hh | skip) | refine Or.inl (uE (cM_beginOf ?_ ?_) ?_) | refine Or.inl (uE cM_legAt ?_) | refine Or.inl (uE cM_squareOf ?_) | fail)
  all_goals first | omega | exact rfl | exact Or.inl rfl | exact Or.inr rfl | exact sI (by omega) | exact Or.inl ⟨rfl, by omega⟩ | exact Or.inr ⟨rfl, by omega⟩ | (exact Or.inl ⟨rfl, Or.inl ⟨by omega, by omega⟩⟩) | (exact Or.inl ⟨rfl, Or.inr (Or.inl ⟨by omega, by omega⟩)⟩) | (exact Or.inl ⟨rfl, Or.inr (Or.inr ⟨by omega, by omega⟩)⟩) | (refine Or.inr ⟨rfl, ?_⟩; rintro (q | q | q) <;> omega) | fail "left"

end M4
