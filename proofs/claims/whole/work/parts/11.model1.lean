/-! THE MODEL'S METHODS: numbers and points (printed by wip/whole/model1.py) -/
theorem sI {e v : Int} (h : e = v) : (some (.inl e) : Option aV) = some (.inl v) := by rw [h]
section M1
variable {l : Launch} {g : aG} {d : Nat} {z : aM}
theorem cM_in {v lo hi : Int} (hv : aIR v) (h1 : aIR lo) (h2 : aIR hi) : aEb l g nX7_in d [.inr (.inl v), .inr (.inl lo), .inr (.inl hi)] z (lo ≤ v ∧ v ≤ hi) := by
  unfold aIR at *
  have c1 := aCmp_s v lo
  have c2 := aCmp_s v hi
  refine aM1_of kX7_in rfl (fun B hB => ?_)
  refine hB [] 1000 _ _ _ _ _ ?_
  repeat' (first | refine And.intro ?_ ?_ | (intro hh; first | exact absurd hh (by decide) | exact absurd rfl hh | skip) | fail)
  all_goals first | omega | exact rfl | exact Or.inl rfl | exact Or.inr rfl | exact sI (by omega) | exact Or.inl ⟨rfl, by omega⟩ | exact Or.inr ⟨rfl, by omega⟩ | fail "left"

theorem cM_isPoint {x y : Int} (hd : 1 ≤ d) (hx : aIR x) (hy : aIR y) : aEb l g nX7_isPoint d [.inl x, .inl y] z (sPt x y) := by
  unfold aIR sPt at *
  refine aM1_of kX7_isPoint rfl (fun B hB => ?_)
  refine hB [] 1000 _ _ _ _ _ ?_
  repeat' (first | refine And.intro ?_ ?_ | (intro hh; first | exact absurd hh (by decide) | exact absurd rfl hh | skip) | refine Or.inl (uB (cM_in ?_ ?_ ?_) ?_ ?_) | fail)
  all_goals first | omega | exact rfl | exact Or.inl rfl | exact Or.inr rfl | exact sI (by omega) | exact Or.inl ⟨rfl, by omega⟩ | exact Or.inr ⟨rfl, by omega⟩ | fail "left"

theorem cM_squareOf {x y : Int} : aE1 l g nX7_squareOf d [.inl x, .inl y] z (x * x + y * y) z := by
  refine aM1_of kX7_squareOf rfl (fun B hB => ?_)
  refine hB [] 1000 _ _ _ _ _ ?_
  repeat' (first | refine And.intro ?_ ?_ | (intro hh; first | exact absurd hh (by decide) | exact absurd rfl hh | skip) | fail)
  all_goals first | omega | exact rfl | exact Or.inl rfl | exact Or.inr rfl | exact sI (by omega) | exact Or.inl ⟨rfl, by omega⟩ | exact Or.inr ⟨rfl, by omega⟩ | fail "left"

theorem cM_legAt {x : Int} : aE1 l g nX7_legAt d [.inl x] z (11 + 3 * x) z := by
  refine aM1_of kX7_legAt rfl (fun B hB => ?_)
  refine hB [] 1000 _ _ _ _ _ ?_
  repeat' (first | refine And.intro ?_ ?_ | (intro hh; first | exact absurd hh (by decide) | exact absurd rfl hh | skip) | fail)
  all_goals first | omega | exact rfl | exact Or.inl rfl | exact Or.inr rfl | exact sI (by omega) | exact Or.inl ⟨rfl, by omega⟩ | exact Or.inr ⟨rfl, by omega⟩ | fail "left"

theorem cM_gateAt {x : Int} : aE1 l g nX7_gateAt d [.inl x] z (29 + 5 * x) z := by
  refine aM1_of kX7_gateAt rfl (fun B hB => ?_)
  refine hB [] 1000 _ _ _ _ _ ?_
  repeat' (first | refine And.intro ?_ ?_ | (intro hh; first | exact absurd hh (by decide) | exact absurd rfl hh | skip) | fail)
  all_goals first | omega | exact rfl | exact Or.inl rfl | exact Or.inr rfl | exact sI (by omega) | exact Or.inl ⟨rfl, by omega⟩ | exact Or.inr ⟨rfl, by omega⟩ | fail "left"

theorem cM_runAtPlace {x : Int} : aE1 l g nX7_runAtPlace d [.inl x] z (59 + 13 * x) z := by
  refine aM1_of kX7_runAtPlace rfl (fun B hB => ?_)
  refine hB [] 1000 _ _ _ _ _ ?_
  repeat' (first | refine And.intro ?_ ?_ | (intro hh; first | exact absurd hh (by decide) | exact absurd rfl hh | skip) | fail)
  all_goals first | omega | exact rfl | exact Or.inl rfl | exact Or.inr rfl | exact sI (by omega) | exact Or.inl ⟨rfl, by omega⟩ | exact Or.inr ⟨rfl, by omega⟩ | fail "left"

theorem cM_isLeg {x : Int} (hd : 1 ≤ d) (hx : aIR x) (h0 : 0 ≤ z (17, 0, 0) 0) (h1 : z (17, 0, 0) 0 ≤ 6) : aEb l g nX7_isLeg d [.inr (.inr (.inl (16, 0, 0))), .inl x] z (0 ≤ x ∧ x < z (17, 0, 0) 0) := by
  unfold aIR at *
  refine aM1_of kX7_isLeg rfl (fun B hB => ?_)
  refine hB [] 1000 _ _ _ _ _ ?_
  repeat' (first | refine And.intro ?_ ?_ | (intro hh; first | exact absurd hh (by decide) | exact absurd rfl hh | skip) | refine Or.inl (uB (cM_in ?_ ?_ ?_) ?_ ?_) | fail)
  all_goals first | omega | exact rfl | exact Or.inl rfl | exact Or.inr rfl | exact sI (by omega) | exact Or.inl ⟨rfl, by omega⟩ | exact Or.inr ⟨rfl, by omega⟩ | fail "left"

theorem cM_isGate {x : Int} (hd : 1 ≤ d) (hx : aIR x) (h0 : 0 ≤ z (17, 0, 0) 1) (h1 : z (17, 0, 0) 1 ≤ 6) : aEb l g nX7_isGate d [.inr (.inr (.inl (16, 0, 0))), .inl x] z (0 ≤ x ∧ x < z (17, 0, 0) 1) := by
  unfold aIR at *
  refine aM1_of kX7_isGate rfl (fun B hB => ?_)
  refine hB [] 1000 _ _ _ _ _ ?_
  repeat' (first | refine And.intro ?_ ?_ | (intro hh; first | exact absurd hh (by decide) | exact absurd rfl hh | skip) | refine Or.inl (uB (cM_in ?_ ?_ ?_) ?_ ?_) | fail)
  all_goals first | omega | exact rfl | exact Or.inl rfl | exact Or.inr rfl | exact sI (by omega) | exact Or.inl ⟨rfl, by omega⟩ | exact Or.inr ⟨rfl, by omega⟩ | fail "left"

theorem cM_isRun {x : Int} (hd : 1 ≤ d) (hx : aIR x) (h0 : 0 ≤ z (17, 0, 0) 2) (h1 : z (17, 0, 0) 2 ≤ 8) : aEb l g nX7_isRun d [.inr (.inr (.inl (16, 0, 0))), .inl x] z (0 ≤ x ∧ x < z (17, 0, 0) 2) := by
  unfold aIR at *
  refine aM1_of kX7_isRun rfl (fun B hB => ?_)
  refine hB [] 1000 _ _ _ _ _ ?_
  repeat' (first | refine And.intro ?_ ?_ | (intro hh; first | exact absurd hh (by decide) | exact absurd rfl hh | skip) | refine Or.inl (uB (cM_in ?_ ?_ ?_) ?_ ?_) | fail)
  all_goals first | omega | exact rfl | exact Or.inl rfl | exact Or.inr rfl | exact sI (by omega) | exact Or.inl ⟨rfl, by omega⟩ | exact Or.inr ⟨rfl, by omega⟩ | fail "left"

theorem cM_beginOf {x : Int} (hd : 1 ≤ d) (hx : aIR x) : aE1 l g nX7_beginOf d [.inl x] z (sBeg x) z := by
  unfold aIR at *
  refine aM1_of kX7_beginOf rfl (fun B hB => ?_)
  refine hB [] 1000 _ _ _ _ _ ?_
  repeat' (first | refine And.intro ?_ ?_ | (intro hh; first | exact absurd hh (by decide) | exact absurd rfl hh | skip) | refine Or.inl (uE cM_legAt ?_) | fail)
  all_goals first | omega | exact rfl | exact Or.inl rfl | exact Or.inr rfl | exact sI (by omega) | exact Or.inl ⟨rfl, by omega⟩ | exact Or.inr ⟨rfl, by omega⟩ | exact sI (by unfold sBeg; rw [if_neg (by omega)]) | exact sI (by unfold sBeg; rw [if_pos (by omega)]) | fail "left"

theorem sSg_s (v : Int) : (0 < v ∧ sSg v = 1) ∨ (v < 0 ∧ sSg v = -1) ∨ (v = 0 ∧ sSg v = 0) := by
  unfold sSg
  rcases Int.lt_trichotomy v 0 with h | h | h
  · exact Or.inr (Or.inl ⟨h, by rw [if_neg (by omega), if_pos h]⟩)
  · exact Or.inr (Or.inr ⟨h, by rw [if_neg (by omega), if_neg (by omega)]⟩)
  · exact Or.inl ⟨h, if_pos h⟩
theorem sCr_B {ax ay bx b_y cx cy : Int} (h1 : sPt ax ay) (h2 : sPt bx b_y) (h3 : sPt cx cy) : -19602 ≤ sCr ax ay bx b_y cx cy ∧ sCr ax ay bx b_y cx cy ≤ 19602 := by
  unfold sPt at *
  have q1 := mulB (x := bx - ax) (y := cy - ay) (A := 99) (B := 99) (by omega) (by omega) (by omega) (by omega)
  have q2 := mulB (x := b_y - ay) (y := cx - ax) (A := 99) (B := 99) (by omega) (by omega) (by omega) (by omega)
  unfold sCr
  omega
theorem cM_side {ax ay bx b_y cx cy : Int} (h1 : sPt ax ay) (h2 : sPt bx b_y) (h3 : sPt cx cy) : aE1 l g nX7_side d [.inl ax, .inl ay, .inl bx, .inl b_y, .inl cx, .inl cy] z (sSg (sCr ax ay bx b_y cx cy)) z := by
  have q1 := sCr_B h1 h2 h3
  have q2 := sSg_s (sCr ax ay bx b_y cx cy)
  unfold sCr at *
  refine aM1_of kX7_side rfl (fun B hB => ?_)
  refine hB [] 1000 _ _ _ _ _ ?_
  repeat' (first | refine And.intro ?_ ?_ | (intro hh; first | exact absurd hh (by decide) | exact absurd rfl hh | skip) | fail)
  all_goals first | omega | exact rfl | exact Or.inl rfl | exact Or.inr rfl | exact sI (by omega) | exact Or.inl ⟨rfl, by omega⟩ | exact Or.inr ⟨rfl, by omega⟩ | fail "left"

theorem cM_isBetween {v x y : Int} (hd : 1 ≤ d) (h1 : aIR v) (h2 : aIR x) (h3 : aIR y) : aEb l g nX7_isBetween d [.inl v, .inl x, .inl y] z (min x y ≤ v ∧ v ≤ max x y) := by
  unfold aIR at *
  refine aM1_of kX7_isBetween rfl (fun B hB => ?_)
  refine hB [] 1000 _ _ _ _ _ ?_
  repeat' (first | refine And.intro ?_ ?_ | (intro hh; first | exact absurd hh (by decide) | exact absurd rfl hh | skip) | fail)
  all_goals first | omega | exact rfl | exact Or.inl rfl | exact Or.inr rfl | exact sI (by omega) | exact Or.inl ⟨rfl, by omega⟩ | exact Or.inr ⟨rfl, by omega⟩ | fail "left"

theorem cM_isOn {ax ay bx b_y cx cy : Int} (hd : 2 ≤ d) (h1 : sPt ax ay) (h2 : sPt bx b_y) (h3 : sPt cx cy) : aEb l g nX7_isOn d [.inl ax, .inl ay, .inl bx, .inl b_y, .inl cx, .inl cy] z (sOn ax ay bx b_y cx cy) := by
  have q2 := sSg_s (sCr ax ay bx b_y cx cy)
  unfold sOn
  have p1 := h1
  have p2 := h2
  have p3 := h3
  unfold sPt at p1 p2 p3
  refine aM1_of kX7_isOn rfl (fun B hB => ?_)
  refine hB [] 1000 _ _ _ _ _ ?_
  repeat' (first | refine And.intro ?_ ?_ | (intro hh; first | exact absurd hh (by decide) | exact absurd rfl hh | skip) | refine Or.inl (uE (cM_side h1 h2 h3) ?_) | refine Or.inl (uB (cM_isBetween ?_ ?_ ?_ ?_) ?_ ?_) | fail)
  all_goals first | omega | exact rfl | exact Or.inl rfl | exact Or.inr rfl | exact sI (by omega) | exact Or.inl ⟨rfl, by omega⟩ | exact Or.inr ⟨rfl, by omega⟩ | fail "left"

theorem sSg_m (v w : Int) : -1 ≤ sSg v * sSg w ∧ sSg v * sSg w ≤ 1 := by
  have h1 := sSg_s v
  have h2 := sSg_s w
  exact mulB (A := 1) (B := 1) (by omega) (by omega) (by omega) (by omega)
theorem cM_meets {ax ay bx b_y k : Int} (hd : 3 ≤ d) (h1 : sPt ax ay) (h2 : sPt bx b_y) (hk0 : 0 ≤ k) (hk1 : k < 6) (h3 : sPt (z (17, 0, 0) (29 + 5 * k + 1)) (z (17, 0, 0) (29 + 5 * k + 2))) (h4 : sPt (z (17, 0, 0) (29 + 5 * k + 3)) (z (17, 0, 0) (29 + 5 * k + 4))) : aEb l g nX7_meets d [.inr (.inr (.inl (16, 0, 0))), .inl ax, .inl ay, .inl bx, .inl b_y, .inl k] z (sMe (z (17, 0, 0)) ax ay bx b_y k) := by
  refine aM1_of kX7_meets rfl (fun B hB => ?_)
  have m1 := sSg_m (sCr (z (17, 0, 0) (29 + 5 * k + 1)) (z (17, 0, 0) (29 + 5 * k + 2)) (z (17, 0, 0) (29 + 5 * k + 3)) (z (17, 0, 0) (29 + 5 * k + 4)) ax ay) (sCr (z (17, 0, 0) (29 + 5 * k + 1)) (z (17, 0, 0) (29 + 5 * k + 2)) (z (17, 0, 0) (29 + 5 * k + 3)) (z (17, 0, 0) (29 + 5 * k + 4)) bx b_y)
  have m2 := sSg_m (sCr ax ay bx b_y (z (17, 0, 0) (29 + 5 * k + 1)) (z (17, 0, 0) (29 + 5 * k + 2))) (sCr ax ay bx b_y (z (17, 0, 0) (29 + 5 * k + 3)) (z (17, 0, 0) (29 + 5 * k + 4)))
  have p1 := h1
  have p2 := h2
  have p3 := h3
  have p4 := h4
  unfold sPt at p1 p2 p3 p4
  have part2 : ∀ p q : Int, ((p = 1 ∧ sPa (z (17, 0, 0) (29 + 5 * k + 1)) (z (17, 0, 0) (29 + 5 * k + 2)) (z (17, 0, 0) (29 + 5 * k + 3)) (z (17, 0, 0) (29 + 5 * k + 4)) ax ay bx b_y) ∨ (p = 0 ∧ ¬ sPa (z (17, 0, 0) (29 + 5 * k + 1)) (z (17, 0, 0) (29 + 5 * k + 2)) (z (17, 0, 0) (29 + 5 * k + 3)) (z (17, 0, 0) (29 + 5 * k + 4)) ax ay bx b_y)) → ((q = 1 ∧ sPa ax ay bx b_y (z (17, 0, 0) (29 + 5 * k + 1)) (z (17, 0, 0) (29 + 5 * k + 2)) (z (17, 0, 0) (29 + 5 * k + 3)) (z (17, 0, 0) (29 + 5 * k + 4))) ∨ (q = 0 ∧ ¬ sPa ax ay bx b_y (z (17, 0, 0) (29 + 5 * k + 1)) (z (17, 0, 0) (29 + 5 * k + 2)) (z (17, 0, 0) (29 + 5 * k + 3)) (z (17, 0, 0) (29 + 5 * k + 4)))) → B (none, 0, 0) z 124 [some (.inr (.inr (.inl (16, 0, 0)))), some (.inl ax), some (.inl ay), some (.inl bx), some (.inl b_y), some (.inl k), some (.inl (29 + 5 * k)), some (.inl (z (17, 0, 0) (29 + 5 * k + 1))), some (.inl (z (17, 0, 0) (29 + 5 * k + 2))), some (.inl (z (17, 0, 0) (29 + 5 * k + 3))), some (.inl (z (17, 0, 0) (29 + 5 * k + 4))), some (.inl p), some (.inl q), none] [] := by
    intro p q hp hq
    have h192 : ∀ t : Int, ((t = 1 ∧ (sOn (z (17, 0, 0) (29 + 5 * k + 1)) (z (17, 0, 0) (29 + 5 * k + 2)) (z (17, 0, 0) (29 + 5 * k + 3)) (z (17, 0, 0) (29 + 5 * k + 4)) ax ay ∨ (sOn (z (17, 0, 0) (29 + 5 * k + 1)) (z (17, 0, 0) (29 + 5 * k + 2)) (z (17, 0, 0) (29 + 5 * k + 3)) (z (17, 0, 0) (29 + 5 * k + 4)) bx b_y ∨ (sOn ax ay bx b_y (z (17, 0, 0) (29 + 5 * k + 1)) (z (17, 0, 0) (29 + 5 * k + 2)) ∨ sOn ax ay bx b_y (z (17, 0, 0) (29 + 5 * k + 3)) (z (17, 0, 0) (29 + 5 * k + 4)))))) ∨ (t = 0 ∧ ¬ (sOn (z (17, 0, 0) (29 + 5 * k + 1)) (z (17, 0, 0) (29 + 5 * k + 2)) (z (17, 0, 0) (29 + 5 * k + 3)) (z (17, 0, 0) (29 + 5 * k + 4)) ax ay ∨ (sOn (z (17, 0, 0) (29 + 5 * k + 1)) (z (17, 0, 0) (29 + 5 * k + 2)) (z (17, 0, 0) (29 + 5 * k + 3)) (z (17, 0, 0) (29 + 5 * k + 4)) bx b_y ∨ (sOn ax ay bx b_y (z (17, 0, 0) (29 + 5 * k + 1)) (z (17, 0, 0) (29 + 5 * k + 2)) ∨ sOn ax ay bx b_y (z (17, 0, 0) (29 + 5 * k + 3)) (z (17, 0, 0) (29 + 5 * k + 4))))))) → B (none, 0, 0) z 192 [some (.inr (.inr (.inl (16, 0, 0)))), some (.inl ax), some (.inl ay), some (.inl bx), some (.inl b_y), some (.inl k), some (.inl (29 + 5 * k)), some (.inl (z (17, 0, 0) (29 + 5 * k + 1))), some (.inl (z (17, 0, 0) (29 + 5 * k + 2))), some (.inl (z (17, 0, 0) (29 + 5 * k + 3))), some (.inl (z (17, 0, 0) (29 + 5 * k + 4))), some (.inl p), some (.inl q), none] [.inl t] := by
      intro t ht
      refine hB [] 1000 _ _ _ _ _ ?_
      rcases hp with ⟨rfl, hp⟩ | ⟨rfl, hp⟩ <;> rcases hq with ⟨rfl, hq⟩ | ⟨rfl, hq⟩ <;> rcases ht with ⟨rfl, ht⟩ | ⟨rfl, ht⟩
      all_goals (repeat' (first | refine And.intro ?_ ?_ | (intro hh; first | exact absurd hh (by decide) | exact absurd rfl hh | skip) | fail))
      all_goals first | (exact rfl) | (exact Or.inl rfl) | (exact Or.inr rfl) | omega | (exact Or.inl ⟨rfl, Or.inl ⟨hp, hq⟩⟩) | (exact Or.inl ⟨rfl, Or.inr ht⟩) | (exact Or.inr ⟨rfl, fun q9 => q9.elim (fun q8 => hp q8.1) ht⟩) | (exact Or.inr ⟨rfl, fun q9 => q9.elim (fun q8 => hq q8.2) ht⟩) | fail "left"
    refine hB [192] 1000 _ _ _ _ _ ?_
    repeat' (first | refine And.intro ?_ ?_ | (intro hh; first | exact absurd hh (by decide) | exact absurd rfl hh | skip) | refine Or.inl (uB (cM_isOn ?_ h3 h4 h1) ?_ ?_) | refine Or.inl (uB (cM_isOn ?_ h3 h4 h2) ?_ ?_) | refine Or.inl (uB (cM_isOn ?_ h1 h2 h3) ?_ ?_) | refine Or.inl (uB (cM_isOn ?_ h1 h2 h4) ?_ ?_) | fail)
    all_goals first | (exact rfl) | omega | refine h192 _ ?_
    all_goals first | (exact Or.inl ⟨rfl, Or.inl (by assumption)⟩) | (exact Or.inl ⟨rfl, Or.inr (Or.inl (by assumption))⟩) | (exact Or.inl ⟨rfl, Or.inr (Or.inr (Or.inl (by assumption)))⟩) | (exact Or.inl ⟨rfl, Or.inr (Or.inr (Or.inr (by assumption)))⟩) | (refine Or.inr ⟨rfl, ?_⟩; rintro (x | x | x | x) <;> contradiction) | fail "left"
  refine hB [124] 1000 _ _ _ _ _ ?_
  repeat' (first | refine And.intro ?_ ?_ | (intro hh; first | exact absurd hh (by decide) | exact absurd rfl hh | skip) | refine Or.inl (uE cM_gateAt ?_) | refine Or.inl (uE (cM_side h3 h4 h1) ?_) | refine Or.inl (uE (cM_side h3 h4 h2) ?_) | refine Or.inl (uE (cM_side h1 h2 h3) ?_) | refine Or.inl (uE (cM_side h1 h2 h4) ?_) | fail)
  all_goals first | (exact rfl) | omega | refine part2 _ _ ?_ ?_
  all_goals first | (exact Or.inl ⟨rfl, by omega⟩) | (exact Or.inr ⟨rfl, by omega⟩) | fail "left"

end M1
