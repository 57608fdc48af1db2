/-! THE MODEL'S METHODS: runs (printed by wip/whole/model3.py) -/
set_option maxRecDepth 100000 in
theorem orI_B {x y : Int} (h1 : 0 ≤ x ∧ x < 64) (h2 : 0 ≤ y ∧ y < 64) : 0 ≤ orI x y ∧ orI x y < 64 := by
  have key : ∀ x : Nat, x < 64 → ∀ y : Nat, y < 64 → 0 ≤ orI (x : Int) (y : Int) ∧ orI (x : Int) (y : Int) < 64 := by decide +kernel
  have := key x.toNat (by omega) y.toNat (by omega)
  rw [Int.toNat_of_nonneg h1.1, Int.toNat_of_nonneg h2.1] at this
  exact this
theorem p2B {k : Int} (h0 : 0 ≤ k) (h1 : k < 6) : 1 ≤ (2 : Int) ^ k.toNat ∧ (2 : Int) ^ k.toNat ≤ 32 := by
  have key : ∀ k : Nat, k < 6 → 1 ≤ (2 : Int) ^ k ∧ (2 : Int) ^ k ≤ 32 := by decide
  exact key _ (by omega)
theorem sRe_s {w : Int} (w0 : 2 ≤ w) (w1 : w ≤ 5) : ∀ (n : Nat) (a : Int → Int) (leg acc : Int), Inv0 a → a 7 ≠ -1 → 0 ≤ leg → leg + (n : Int) ≤ a 0 → Inv0 (sRe w n a leg acc).2 ∧ (∀ j, j ≤ 58 → (sRe w n a leg acc).2 j = a j) ∧ (acc ≤ (sRe w n a leg acc).1 ∧ (sRe w n a leg acc).1 ≤ acc + 30 * (n : Int))
  | 0, a, leg, acc, h, n7, l0, l1 => ⟨h, fun _ _ => rfl, by show acc ≤ acc ∧ acc ≤ acc + 30 * ((0 : Nat) : Int); omega⟩
  | n + 1, a, leg, acc, h, n7, l0, l1 => by
    have b := sLo_B h n7 (leg := leg) (p := 30) l0 (by omega) (by omega)
    have g := sLoA_g h n7 (leg := leg) (p := 30) (w := w) l0 w0
    have h' := h.lo n7 (leg := leg) (p := 30) (w := w) l0 (by omega) (by omega) w0 w1
    obtain ⟨r1, r2, r3⟩ := sRe_s w0 w1 n (sLoA a leg 30 w) (leg + 1) (acc + sLo a leg 30) h' (by rw [g 7 (by omega)]; exact n7) (by omega) (by rw [g 0 (by omega)]; omega)
    refine ⟨r1, fun j hj => (r2 j hj).trans (g j hj), ?_⟩
    show acc ≤ (sRe w n (sLoA a leg 30 w) (leg + 1) (acc + sLo a leg 30)).1 ∧ (sRe w n (sLoA a leg 30 w) (leg + 1) (acc + sLo a leg 30)).1 ≤ acc + 30 * ((n + 1 : Nat) : Int)
    omega
theorem sCm_s : ∀ (n : Nat) (a : Int → Int) (k acc : Int), Inv0 a → a 7 ≠ -1 → 0 ≤ k → k + (n : Int) ≤ a 1 → Inv0 (sCm n a k acc).2 ∧ (∀ j, j ≤ 58 → (sCm n a k acc).2 j = a j) ∧ (acc ≤ (sCm n a k acc).1 ∧ (sCm n a k acc).1 ≤ acc + 30 * (n : Int))
  | 0, a, k, acc, h, n7, l0, l1 => ⟨h, fun _ _ => rfl, by show acc ≤ acc ∧ acc ≤ acc + 30 * ((0 : Nat) : Int); omega⟩
  | n + 1, a, k, acc, h, n7, l0, l1 => by
    have gg := h.go n7
    have b := sLo_B h n7 (leg := a 8) (p := 5) gg.2.1.1 gg.2.1.2 (by omega)
    have g := sLoA_g h n7 (leg := a 8) (p := 5) (w := 3) gg.2.1.1 (by omega)
    have h' := h.lo n7 (leg := a 8) (p := 5) (w := 3) gg.2.1.1 gg.2.1.2 (by omega) (by omega) (by omega)
    show Inv0 (if sOpen a k then sCm n (sLoA a (a 8) 5 3) (k + 1) (acc + sLo a (a 8) 5) else sCm n a (k + 1) (acc + 0)).2 ∧ (∀ j, j ≤ 58 → (if sOpen a k then sCm n (sLoA a (a 8) 5 3) (k + 1) (acc + sLo a (a 8) 5) else sCm n a (k + 1) (acc + 0)).2 j = a j) ∧ (acc ≤ (if sOpen a k then sCm n (sLoA a (a 8) 5 3) (k + 1) (acc + sLo a (a 8) 5) else sCm n a (k + 1) (acc + 0)).1 ∧ (if sOpen a k then sCm n (sLoA a (a 8) 5 3) (k + 1) (acc + sLo a (a 8) 5) else sCm n a (k + 1) (acc + 0)).1 ≤ acc + 30 * ((n + 1 : Nat) : Int))
    split
    · obtain ⟨r1, r2, r3⟩ := sCm_s n (sLoA a (a 8) 5 3) (k + 1) (acc + sLo a (a 8) 5) h' (by rw [g 7 (by omega)]; exact n7) (by omega) (by rw [g 1 (by omega)]; omega)
      exact ⟨r1, fun j hj => (r2 j hj).trans (g j hj), by omega⟩
    · obtain ⟨r1, r2, r3⟩ := sCm_s n a (k + 1) (acc + 0) h n7 (by omega) (by omega)
      exact ⟨r1, r2, by omega⟩
theorem sGa_B {a : Int → Int} {x y : Int} : ∀ (n : Nat) (k bits : Int), 0 ≤ k → k + (n : Int) ≤ 6 → 0 ≤ bits → bits < 64 → 0 ≤ sGa a x y n k bits ∧ sGa a x y n k bits < 64
  | 0, k, bits, h0, h1, h2, h3 => ⟨h2, h3⟩
  | n + 1, k, bits, h0, h1, h2, h3 => by
    have p2 := p2B (k := k) h0 (by omega)
    have b := orI_B (x := bits) (y := 1 * 2 ^ k.toNat) ⟨h2, h3⟩ (by omega)
    show 0 ≤ (if sOpen a k then (if sMe a (a 9) (a 10) x y k then sGa a x y n (k + 1) (orI bits (1 * 2 ^ k.toNat)) else bits) else sGa a x y n (k + 1) bits) ∧ (if sOpen a k then (if sMe a (a 9) (a 10) x y k then sGa a x y n (k + 1) (orI bits (1 * 2 ^ k.toNat)) else bits) else sGa a x y n (k + 1) bits) < 64
    split
    · split
      · exact sGa_B n (k + 1) _ (by omega) (by omega) b.1 b.2
      · exact ⟨h2, h3⟩
    · exact sGa_B n (k + 1) _ (by omega) (by omega) h2 h3
section M3
variable {l : Launch} {g : aG} {d : Nat} {z : aM}
theorem cM_loses {leg p w : Int} (hd : 1 ≤ d) (h : Inv0 (z (17, 0, 0))) (n7 : z (17, 0, 0) 7 ≠ -1) (l0 : 0 ≤ leg) (l1 : leg < z (17, 0, 0) 0) (p0 : 0 ≤ p) (p1 : p ≤ 30) (w0 : 2 ≤ w) (w1 : w ≤ 5) : aE1 l g nX7_loses d [.inr (.inr (.inl (16, 0, 0))), .inl leg, .inl p, .inl w] z (sLo (z (17, 0, 0)) leg p) (pS z (17, 0, 0) (sLoA (z (17, 0, 0)) leg p w)) := by
  have gg := h.go n7
  have cc := h.1.1
  have pp := h.pts (r := z (17, 0, 0) 7) (by omega) (by omega) l0 l1
  unfold sLoA
  refine aM1_of kX7_loses rfl (fun B hB => ?_)
  refine hB [] 1000 _ _ _ _ _ ?_
  repeat' (first | refine And.intro ?_ ?_ | (intro hh; first | exact absurd hh (by decide) | exact absurd rfl hh | skip) | refine Or.inl (uE cM_runAtPlace ?_) | fail)
  all_goals first | omega | exact rfl | exact Or.inl rfl | exact Or.inr rfl | exact sI (by omega) | exact Or.inl ⟨rfl, by omega⟩ | exact Or.inr ⟨rfl, by omega⟩ | (simp only [aWr_pS, pS_at, pS_pS]; rfl) | fail "left"

theorem cM_losesRest {w : Int} (hd : 2 ≤ d) (h : Inv0 (z (17, 0, 0))) (n7 : z (17, 0, 0) 7 ≠ -1) (w0 : 2 ≤ w) (w1 : w ≤ 5) : aE1 l g nX7_losesRest d [.inr (.inr (.inl (16, 0, 0))), .inl w] z (sRest w (z (17, 0, 0))).1 (pS z (17, 0, 0) (sRest w (z (17, 0, 0))).2) := by
  refine aM1_of kX7_losesRest rfl (fun B hB => ?_)
  have loop : ∀ (n : Nat) (z1 : aM) (leg acc : Int), Inv0 (z1 (17, 0, 0)) → z1 (17, 0, 0) 7 ≠ -1 → 0 ≤ leg → leg + (n : Int) = z1 (17, 0, 0) 0 → (sRe w n (z1 (17, 0, 0)) leg acc).1 = (sRest w (z (17, 0, 0))).1 → pS z1 (17, 0, 0) (sRe w n (z1 (17, 0, 0)) leg acc).2 = pS z (17, 0, 0) (sRest w (z (17, 0, 0))).2 → B (none, 0, 0) z1 10 [some (.inr (.inr (.inl (16, 0, 0)))), some (.inl w), some (.inl acc), some (.inl leg)] [] := by
    intro n
    induction n with
    | zero =>
      intro z1 leg acc h n7 l0 l1 e1 e2
      have cc := h.1.1
      refine hB [10] 1000 _ _ _ _ _ ?_
      repeat' (first | exact h | refine And.intro ?_ ?_ | (intro hh; first | exact absurd hh (by decide) | exact absurd rfl hh | skip) | refine Or.inl (uE (cM_loses ?_ ?_ ?_ ?_ ?_ ?_ ?_ ?_ ?_) ?_) | fail)
      all_goals first | omega | (exact rfl) | (exact h) | (exact sI e1) | (exact (pS_id z1 (17, 0, 0)).symm.trans e2)
    | succ n ih =>
      intro z1 leg acc h n7 l0 l1 e1 e2
      have cc := h.1.1
      have g0 := sLoA_g h n7 (leg := leg) (p := 30) (w := w) l0 w0
      refine hB [10] 1000 _ _ _ _ _ ?_
      repeat' (first | exact h | refine And.intro ?_ ?_ | (intro hh; first | exact absurd hh (by decide) | exact absurd rfl hh | skip) | refine Or.inl (uE (cM_loses ?_ ?_ ?_ ?_ ?_ ?_ ?_ ?_ ?_) ?_) | fail)
      all_goals first | omega | (exact rfl) | (exact h) | skip
      refine ih _ _ _ ?_ ?_ ?_ ?_ ?_ ?_
      · rw [pS_at]; exact h.lo n7 l0 (by omega) (by omega) w0 w1
      · rw [pS_at, g0 7 (by omega)]; exact n7
      · omega
      · rw [pS_at, g0 0 (by omega)]; omega
      · rw [pS_at]; exact e1
      · rw [pS_at, pS_pS]; exact e2
  have gg := h.go n7
  have cc := h.1.1
  refine hB [10] 1000 _ _ _ _ _ ?_
  repeat' (first | refine And.intro ?_ ?_ | fail)
  all_goals first | omega | (exact rfl) | skip
  exact loop (z (17, 0, 0) 0 - z (17, 0, 0) 8).toNat z _ _ h n7 gg.2.1.1 (by omega) rfl rfl

theorem cM_isPassed {k : Int} (hd : 1 ≤ d) (h : Inv0 (z (17, 0, 0))) (n7 : z (17, 0, 0) 7 ≠ -1) (k0 : 0 ≤ k) (k1 : k < 6) : aEb l g nX7_isPassed d [.inr (.inr (.inl (16, 0, 0))), .inl k] z (sBit (z (17, 0, 0) (59 + 13 * z (17, 0, 0) 7 + 6)) k) := by
  have gg := h.go n7
  have cc := h.1.1
  have ok := (h.ok n7).1
  have b3 := Int32.le_toInt (iZ (z (17, 0, 0) (59 + 13 * z (17, 0, 0) 7 + 6) / 2 ^ k.toNat) &&& iZ 1)
  have b4 := Int32.toInt_lt (iZ (z (17, 0, 0) (59 + 13 * z (17, 0, 0) 7 + 6) / 2 ^ k.toNat) &&& iZ 1)
  refine aM1_of kX7_isPassed rfl (fun B hB => ?_)
  refine hB [] 1000 _ _ _ _ _ ?_
  repeat' (first | refine And.intro ?_ ?_ | (intro hh; first | exact absurd hh (by decide) | exact absurd rfl hh | skip) | refine Or.inl (uE cM_runAtPlace ?_) | fail)
  all_goals first | omega | exact rfl | exact Or.inl rfl | exact Or.inr rfl | exact sI (by omega) | exact Or.inl ⟨rfl, by omega⟩ | exact Or.inr ⟨rfl, by omega⟩ | (exact Or.inl ⟨rfl, by assumption⟩) | (exact Or.inr ⟨rfl, by assumption⟩) | fail "left"

theorem cM_endsRun  : aE0 l g nX7_endsRun d [.inr (.inr (.inl (16, 0, 0)))] z (pS z (17, 0, 0) (sEnds (z (17, 0, 0)))) := by
  refine aM1_of kX7_endsRun rfl (fun B hB => ?_)
  refine hB [] 1000 _ _ _ _ _ ?_
  repeat' (first | refine And.intro ?_ ?_ | (intro hh; first | exact absurd hh (by decide) | exact absurd rfl hh | skip) | fail)
  all_goals first | omega | exact rfl | exact Or.inl rfl | exact Or.inr rfl | exact sI (by omega) | exact Or.inl ⟨rfl, by omega⟩ | exact Or.inr ⟨rfl, by omega⟩ | (simp only [aWr_pS, pS_at, pS_pS]; rfl) | fail "left"

end M3
