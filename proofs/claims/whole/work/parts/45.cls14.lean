/-! THE CLASS: the trial's tests and queries (printed by wip/whole/cls14.py) -/
section K14
variable {l : Launch} {g : aG} {d : Nat} {z : aM} {A : aAb} {a : Int → Int}
theorem qR_C {E : List Nat} {y : Nat} {as : List aV} {c : Prop} [Decidable c] {v : Int} (h0 : c → aM1 l g y d as z (fun r z' => r = some (.inl v) ∧ RelC z' A ∧ fC z z')) (h1 : ¬ c → aMX l g y d as z (fun x z' => x = E.getD 0 0 ∧ RelC z' A ∧ fC z z')) : cOp E l g y d as z (qR c v A) := by
  unfold cOp qR
  by_cases e : c
  · rw [if_pos e]; exact ⟨fun _ => h0 e, fun n => absurd rfl n⟩
  · rw [if_neg e]; exact ⟨fun n => absurd n (by show ¬ ((1 : Int) = 0); decide), fun _ => h1 e⟩
theorem q0_C {E : List Nat} {y : Nat} {as : List aV} {v : Int} {A' : aAb} (h0 : aM1 l g y d as z (fun r z' => r = some (.inl v) ∧ RelC z' A' ∧ fC z z')) : cOp E l g y d as z (0, v, A') := ⟨fun _ => h0, fun n => absurd rfl n⟩
theorem q1_C {E : List Nat} {y : Nat} {as : List aV} {v e : Int} (e0 : e ≠ 0) (h0 : aMX l g y d as z (fun x z' => x = E.getD (e - 1).toNat 0 ∧ RelC z' A ∧ fC z z')) : cOp E l g y d as z (e, v, A) := ⟨fun n => absurd n e0, fun _ => h0⟩

theorem cK_requireLeg {k : Int} (hk : aIR k) (hd : 3 ≤ d) (hR : RelC z A) (hI : InvW A) (hc : 0 ≤ k ∧ k < wM A 0) : aE0 l g nX6_requireLeg d [.inr (.inr (.inl (0, 0, 0))), .inl k] z z := by
  have cc := hI.1.1.1.1.1
  have ct := hI.1.1.1.1.2.1
  have e4 : z (2, 0, 0) 4 = wM A 0 := hR.1.1.1.1.2.2.1
  have e8 : z (2, 0, 0) 8 = wM A 1 := hR.1.1.1.1.2.2.2
  have e2 : z (2, 0, 0) 2 = wM A 5 := hR.1.1.1.1.2.1.1
  have e3 : z (2, 0, 0) 3 = wM A 6 := hR.1.1.1.1.2.1.2
  have n2 : z (1, 0, 0) 2 = wM A 2 := hR.1.1.2.2.1.1
  have n3 : z (1, 0, 0) 3 = (if wM A 7 = -1 then 0 else 1) := hR.1.1.2.2.1.2
  have n9 : -1 ≤ wM A 7 ∧ wM A 7 < 8 := by rcases hI.1.1.1.2.1 with q | q <;> omega
  have hl := hk
  unfold aIR at hl
  refine aM1_of kX6_requireLeg rfl (fun B hB => ?_)
  refine hB [] 1000 _ _ _ _ _ ?_
  repeat' (first | exact hR | exact fC.rf _ | refine Or.inl (uB (cK_hasLeg hk (by omega) (by omega)) ?_ ?_) | refine And.intro ?_ ?_ | (intro hh; first | exact absurd hh (by decide) | exact absurd rfl hh | (exfalso; omega) | skip) | fail)
  all_goals first | omega | (exact rfl) | (exact hR) | (exact fC.rf _) | (exact Nat.le_refl _) | (exact Or.inl rfl) | (exact Or.inr rfl)
theorem cK_requireLegX {k : Int} (hk : aIR k) (hd : 8 ≤ d) (hR : RelC z A) (hI : InvW A) (hc : ¬ (0 ≤ k ∧ k < wM A 0)) : aMX l g nX6_requireLeg d [.inr (.inr (.inl (0, 0, 0))), .inl k] z (fun x z' => x = 2 ∧ z' = z) := by
  have cc := hI.1.1.1.1.1
  have ct := hI.1.1.1.1.2.1
  have e4 : z (2, 0, 0) 4 = wM A 0 := hR.1.1.1.1.2.2.1
  have e8 : z (2, 0, 0) 8 = wM A 1 := hR.1.1.1.1.2.2.2
  have e2 : z (2, 0, 0) 2 = wM A 5 := hR.1.1.1.1.2.1.1
  have e3 : z (2, 0, 0) 3 = wM A 6 := hR.1.1.1.1.2.1.2
  have n2 : z (1, 0, 0) 2 = wM A 2 := hR.1.1.2.2.1.1
  have n3 : z (1, 0, 0) 3 = (if wM A 7 = -1 then 0 else 1) := hR.1.1.2.2.1.2
  have n9 : -1 ≤ wM A 7 ∧ wM A 7 < 8 := by rcases hI.1.1.1.2.1 with q | q <;> omega
  have hl := hk
  unfold aIR at hl
  refine aMX_of kX6_requireLeg rfl (fun B hB => ?_)
  refine hB [] 1000 _ _ _ _ _ ?_
  repeat' (first | exact hR | exact fC.rf _ | refine Or.inl (uB (cK_hasLeg hk (by omega) (by omega)) ?_ ?_) | refine And.intro ?_ ?_ | (intro hh; first | exact absurd hh (by decide) | exact absurd rfl hh | (exfalso; omega) | skip) | fail)
  all_goals first | omega | (exact rfl) | (exact hR) | (exact fC.rf _) | (exact Nat.le_refl _) | (exact Or.inl rfl) | (exact Or.inr rfl)
theorem cK_requireGate {k : Int} (hk : aIR k) (hd : 3 ≤ d) (hR : RelC z A) (hI : InvW A) (hc : 0 ≤ k ∧ k < wM A 1) : aE0 l g nX6_requireGate d [.inr (.inr (.inl (0, 0, 0))), .inl k] z z := by
  have cc := hI.1.1.1.1.1
  have ct := hI.1.1.1.1.2.1
  have e4 : z (2, 0, 0) 4 = wM A 0 := hR.1.1.1.1.2.2.1
  have e8 : z (2, 0, 0) 8 = wM A 1 := hR.1.1.1.1.2.2.2
  have e2 : z (2, 0, 0) 2 = wM A 5 := hR.1.1.1.1.2.1.1
  have e3 : z (2, 0, 0) 3 = wM A 6 := hR.1.1.1.1.2.1.2
  have n2 : z (1, 0, 0) 2 = wM A 2 := hR.1.1.2.2.1.1
  have n3 : z (1, 0, 0) 3 = (if wM A 7 = -1 then 0 else 1) := hR.1.1.2.2.1.2
  have n9 : -1 ≤ wM A 7 ∧ wM A 7 < 8 := by rcases hI.1.1.1.2.1 with q | q <;> omega
  have hl := hk
  unfold aIR at hl
  refine aM1_of kX6_requireGate rfl (fun B hB => ?_)
  refine hB [] 1000 _ _ _ _ _ ?_
  repeat' (first | exact hR | exact fC.rf _ | refine And.intro ?_ ?_ | (intro hh; first | exact absurd hh (by decide) | exact absurd rfl hh | (exfalso; omega) | skip) | fail)
  all_goals first | omega | (exact rfl) | (exact hR) | (exact fC.rf _) | (exact Nat.le_refl _) | (exact Or.inl rfl) | (exact Or.inr rfl)
theorem cK_requireGateX {k : Int} (hk : aIR k) (hd : 8 ≤ d) (hR : RelC z A) (hI : InvW A) (hc : ¬ (0 ≤ k ∧ k < wM A 1)) : aMX l g nX6_requireGate d [.inr (.inr (.inl (0, 0, 0))), .inl k] z (fun x z' => x = 2 ∧ z' = z) := by
  have cc := hI.1.1.1.1.1
  have ct := hI.1.1.1.1.2.1
  have e4 : z (2, 0, 0) 4 = wM A 0 := hR.1.1.1.1.2.2.1
  have e8 : z (2, 0, 0) 8 = wM A 1 := hR.1.1.1.1.2.2.2
  have e2 : z (2, 0, 0) 2 = wM A 5 := hR.1.1.1.1.2.1.1
  have e3 : z (2, 0, 0) 3 = wM A 6 := hR.1.1.1.1.2.1.2
  have n2 : z (1, 0, 0) 2 = wM A 2 := hR.1.1.2.2.1.1
  have n3 : z (1, 0, 0) 3 = (if wM A 7 = -1 then 0 else 1) := hR.1.1.2.2.1.2
  have n9 : -1 ≤ wM A 7 ∧ wM A 7 < 8 := by rcases hI.1.1.1.2.1 with q | q <;> omega
  have hl := hk
  unfold aIR at hl
  refine aMX_of kX6_requireGate rfl (fun B hB => ?_)
  refine hB [] 1000 _ _ _ _ _ ?_
  repeat' (first | exact hR | exact fC.rf _ | refine And.intro ?_ ?_ | (intro hh; first | exact absurd hh (by decide) | exact absurd rfl hh | (exfalso; omega) | skip) | fail)
  all_goals first | omega | (exact rfl) | (exact hR) | (exact fC.rf _) | (exact Nat.le_refl _) | (exact Or.inl rfl) | (exact Or.inr rfl)
theorem cK_requireRun {r : Int} (hr : aIR r) (hd : 3 ≤ d) (hR : RelC z A) (hI : InvW A) (hc : 0 ≤ r ∧ r < wM A 2) : aE0 l g nX6_requireRun d [.inr (.inr (.inl (0, 0, 0))), .inl r] z z := by
  have cc := hI.1.1.1.1.1
  have ct := hI.1.1.1.1.2.1
  have e4 : z (2, 0, 0) 4 = wM A 0 := hR.1.1.1.1.2.2.1
  have e8 : z (2, 0, 0) 8 = wM A 1 := hR.1.1.1.1.2.2.2
  have e2 : z (2, 0, 0) 2 = wM A 5 := hR.1.1.1.1.2.1.1
  have e3 : z (2, 0, 0) 3 = wM A 6 := hR.1.1.1.1.2.1.2
  have n2 : z (1, 0, 0) 2 = wM A 2 := hR.1.1.2.2.1.1
  have n3 : z (1, 0, 0) 3 = (if wM A 7 = -1 then 0 else 1) := hR.1.1.2.2.1.2
  have n9 : -1 ≤ wM A 7 ∧ wM A 7 < 8 := by rcases hI.1.1.1.2.1 with q | q <;> omega
  have hl := hr
  unfold aIR at hl
  refine aM1_of kX6_requireRun rfl (fun B hB => ?_)
  refine hB [] 1000 _ _ _ _ _ ?_
  repeat' (first | exact hR | exact fC.rf _ | refine And.intro ?_ ?_ | (intro hh; first | exact absurd hh (by decide) | exact absurd rfl hh | (exfalso; omega) | skip) | fail)
  all_goals first | omega | (exact rfl) | (exact hR) | (exact fC.rf _) | (exact Nat.le_refl _) | (exact Or.inl rfl) | (exact Or.inr rfl)
theorem cK_requireRunX {r : Int} (hr : aIR r) (hd : 8 ≤ d) (hR : RelC z A) (hI : InvW A) (hc : ¬ (0 ≤ r ∧ r < wM A 2)) : aMX l g nX6_requireRun d [.inr (.inr (.inl (0, 0, 0))), .inl r] z (fun x z' => x = 2 ∧ z' = z) := by
  have cc := hI.1.1.1.1.1
  have ct := hI.1.1.1.1.2.1
  have e4 : z (2, 0, 0) 4 = wM A 0 := hR.1.1.1.1.2.2.1
  have e8 : z (2, 0, 0) 8 = wM A 1 := hR.1.1.1.1.2.2.2
  have e2 : z (2, 0, 0) 2 = wM A 5 := hR.1.1.1.1.2.1.1
  have e3 : z (2, 0, 0) 3 = wM A 6 := hR.1.1.1.1.2.1.2
  have n2 : z (1, 0, 0) 2 = wM A 2 := hR.1.1.2.2.1.1
  have n3 : z (1, 0, 0) 3 = (if wM A 7 = -1 then 0 else 1) := hR.1.1.2.2.1.2
  have n9 : -1 ≤ wM A 7 ∧ wM A 7 < 8 := by rcases hI.1.1.1.2.1 with q | q <;> omega
  have hl := hr
  unfold aIR at hl
  refine aMX_of kX6_requireRun rfl (fun B hB => ?_)
  refine hB [] 1000 _ _ _ _ _ ?_
  repeat' (first | exact hR | exact fC.rf _ | refine And.intro ?_ ?_ | (intro hh; first | exact absurd hh (by decide) | exact absurd rfl hh | (exfalso; omega) | skip) | fail)
  all_goals first | omega | (exact rfl) | (exact hR) | (exact fC.rf _) | (exact Nat.le_refl _) | (exact Or.inl rfl) | (exact Or.inr rfl)
theorem cK_runNumbered {r : Int} (hr : aIR r) (hd : 4 ≤ d) (hR : RelC z A) (hI : InvW A) (hc : 0 ≤ r ∧ r < wM A 2) : aEp l g nX6_runNumbered d [.inr (.inr (.inl (0, 0, 0))), .inl r] z (5, 0, r) z := by
  have cc := hI.1.1.1.1.1
  have ct := hI.1.1.1.1.2.1
  have e4 : z (2, 0, 0) 4 = wM A 0 := hR.1.1.1.1.2.2.1
  have e8 : z (2, 0, 0) 8 = wM A 1 := hR.1.1.1.1.2.2.2
  have e2 : z (2, 0, 0) 2 = wM A 5 := hR.1.1.1.1.2.1.1
  have e3 : z (2, 0, 0) 3 = wM A 6 := hR.1.1.1.1.2.1.2
  have n2 : z (1, 0, 0) 2 = wM A 2 := hR.1.1.2.2.1.1
  have n3 : z (1, 0, 0) 3 = (if wM A 7 = -1 then 0 else 1) := hR.1.1.2.2.1.2
  have n9 : -1 ≤ wM A 7 ∧ wM A 7 < 8 := by rcases hI.1.1.1.2.1 with q | q <;> omega
  have hl := hr
  unfold aIR at hl
  refine aM1_of kX6_runNumbered rfl (fun B hB => ?_)
  refine hB [] 1000 _ _ _ _ _ ?_
  repeat' (first | exact hR | exact fC.rf _ | refine Or.inl (uE0 (cK_requireRun hr (by omega) hR hI hc) ?_) | refine And.intro ?_ ?_ | (intro hh; first | exact absurd hh (by decide) | exact absurd rfl hh | (exfalso; omega) | skip) | fail)
  all_goals first | omega | (exact rfl) | (exact hR) | (exact fC.rf _) | (exact Nat.le_refl _) | (exact Or.inl rfl) | (exact Or.inr rfl)
theorem cK_runNumberedX {r : Int} (hr : aIR r) (hd : 9 ≤ d) (hR : RelC z A) (hI : InvW A) (hc : ¬ (0 ≤ r ∧ r < wM A 2)) : aMX l g nX6_runNumbered d [.inr (.inr (.inl (0, 0, 0))), .inl r] z (fun x z' => x = 2 ∧ z' = z) := by
  have cc := hI.1.1.1.1.1
  have ct := hI.1.1.1.1.2.1
  have e4 : z (2, 0, 0) 4 = wM A 0 := hR.1.1.1.1.2.2.1
  have e8 : z (2, 0, 0) 8 = wM A 1 := hR.1.1.1.1.2.2.2
  have e2 : z (2, 0, 0) 2 = wM A 5 := hR.1.1.1.1.2.1.1
  have e3 : z (2, 0, 0) 3 = wM A 6 := hR.1.1.1.1.2.1.2
  have n2 : z (1, 0, 0) 2 = wM A 2 := hR.1.1.2.2.1.1
  have n3 : z (1, 0, 0) 3 = (if wM A 7 = -1 then 0 else 1) := hR.1.1.2.2.1.2
  have n9 : -1 ≤ wM A 7 ∧ wM A 7 < 8 := by rcases hI.1.1.1.2.1 with q | q <;> omega
  have hl := hr
  unfold aIR at hl
  refine aMX_of kX6_runNumbered rfl (fun B hB => ?_)
  refine hB [] 1000 _ _ _ _ _ ?_
  repeat' (first | exact hR | exact fC.rf _ | exact (Or.inr (Or.inl ⟨⟨Nat.le_refl _, Nat.le_refl _⟩, uX (cK_requireRunX hr (by omega) hR hI hc) (fun x z' q => ⟨rfl, q⟩)⟩)) | refine And.intro ?_ ?_ | (intro hh; first | exact absurd hh (by decide) | exact absurd rfl hh | (exfalso; omega) | skip) | fail)
  all_goals first | omega | (exact rfl) | (exact hR) | (exact fC.rf _) | (exact Nat.le_refl _) | (exact Or.inl rfl) | (exact Or.inr rfl)
theorem cK_requireRunning  (hd : 3 ≤ d) (hR : RelC z A) (hI : InvW A) (hc : wM A 7 ≠ -1) : aE0 l g nX6_requireRunning d [.inr (.inr (.inl (0, 0, 0)))] z z := by
  have cc := hI.1.1.1.1.1
  have ct := hI.1.1.1.1.2.1
  have e4 : z (2, 0, 0) 4 = wM A 0 := hR.1.1.1.1.2.2.1
  have e8 : z (2, 0, 0) 8 = wM A 1 := hR.1.1.1.1.2.2.2
  have e2 : z (2, 0, 0) 2 = wM A 5 := hR.1.1.1.1.2.1.1
  have e3 : z (2, 0, 0) 3 = wM A 6 := hR.1.1.1.1.2.1.2
  have n2 : z (1, 0, 0) 2 = wM A 2 := hR.1.1.2.2.1.1
  have n3 : z (1, 0, 0) 3 = (if wM A 7 = -1 then 0 else 1) := hR.1.1.2.2.1.2
  have m3 : (wM A 7 = -1 → z (1, 0, 0) 3 = 0) ∧ (wM A 7 ≠ -1 → z (1, 0, 0) 3 = 1) := ⟨fun w => by rw [n3, if_pos w], fun w => by rw [n3, if_neg w]⟩
  have n9 : -1 ≤ wM A 7 ∧ wM A 7 < 8 := by rcases hI.1.1.1.2.1 with q | q <;> omega
  refine aM1_of kX6_requireRunning rfl (fun B hB => ?_)
  refine hB [] 1000 _ _ _ _ _ ?_
  repeat' (first | exact hR | exact fC.rf _ | refine And.intro ?_ ?_ | (intro hh; first | exact absurd hh (by decide) | exact absurd rfl hh | (exfalso; omega) | skip) | fail)
  all_goals first | omega | (exact rfl) | (exact hR) | (exact fC.rf _) | (exact Nat.le_refl _) | (exact Or.inl rfl) | (exact Or.inr rfl)
theorem cK_requireRunningX  (hd : 8 ≤ d) (hR : RelC z A) (hI : InvW A) (hc : ¬ (wM A 7 ≠ -1)) : aMX l g nX6_requireRunning d [.inr (.inr (.inl (0, 0, 0)))] z (fun x z' => x = 1 ∧ z' = z) := by
  have cc := hI.1.1.1.1.1
  have ct := hI.1.1.1.1.2.1
  have e4 : z (2, 0, 0) 4 = wM A 0 := hR.1.1.1.1.2.2.1
  have e8 : z (2, 0, 0) 8 = wM A 1 := hR.1.1.1.1.2.2.2
  have e2 : z (2, 0, 0) 2 = wM A 5 := hR.1.1.1.1.2.1.1
  have e3 : z (2, 0, 0) 3 = wM A 6 := hR.1.1.1.1.2.1.2
  have n2 : z (1, 0, 0) 2 = wM A 2 := hR.1.1.2.2.1.1
  have n3 : z (1, 0, 0) 3 = (if wM A 7 = -1 then 0 else 1) := hR.1.1.2.2.1.2
  have m3 : (wM A 7 = -1 → z (1, 0, 0) 3 = 0) ∧ (wM A 7 ≠ -1 → z (1, 0, 0) 3 = 1) := ⟨fun w => by rw [n3, if_pos w], fun w => by rw [n3, if_neg w]⟩
  have n9 : -1 ≤ wM A 7 ∧ wM A 7 < 8 := by rcases hI.1.1.1.2.1 with q | q <;> omega
  refine aMX_of kX6_requireRunning rfl (fun B hB => ?_)
  refine hB [] 1000 _ _ _ _ _ ?_
  repeat' (first | exact hR | exact fC.rf _ | refine And.intro ?_ ?_ | (intro hh; first | exact absurd hh (by decide) | exact absurd rfl hh | (exfalso; omega) | skip) | fail)
  all_goals first | omega | (exact rfl) | (exact hR) | (exact fC.rf _) | (exact Nat.le_refl _) | (exact Or.inl rfl) | (exact Or.inr rfl)
theorem cK_requirePoint {x y : Int} (hx : aIR x) (hy : aIR y) (hd : 3 ≤ d) (hc : sPt x y) : aE0 l g nX6_requirePoint d [.inl x, .inl y] z z := by
  have hl := And.intro hx hy
  unfold aIR at hl
  refine aM1_of kX6_requirePoint rfl (fun B hB => ?_)
  refine hB [] 1000 _ _ _ _ _ ?_
  repeat' (first | exact hR | exact fC.rf _ | refine Or.inl (uB (cK_isPoint (by omega) hx hy) ?_ ?_) | refine And.intro ?_ ?_ | (intro hh; first | exact absurd hh (by decide) | exact absurd rfl hh | (exfalso; omega) | skip) | fail)
  all_goals first | omega | (exact rfl) | (exact hR) | (exact fC.rf _) | (exact Nat.le_refl _) | (exact Or.inl rfl) | (exact Or.inr rfl)
theorem cK_requirePointX {x y : Int} (hx : aIR x) (hy : aIR y) (hd : 8 ≤ d) (hc : ¬ (sPt x y)) : aMX l g nX6_requirePoint d [.inl x, .inl y] z (fun x z' => x = 0 ∧ z' = z) := by
  have hl := And.intro hx hy
  unfold aIR at hl
  refine aMX_of kX6_requirePoint rfl (fun B hB => ?_)
  refine hB [] 1000 _ _ _ _ _ ?_
  repeat' (first | exact hR | exact fC.rf _ | refine Or.inl (uB (cK_isPoint (by omega) hx hy) ?_ ?_) | refine And.intro ?_ ?_ | (intro hh; first | exact absurd hh (by decide) | exact absurd rfl hh | (exfalso; omega) | skip) | fail)
  all_goals first | omega | (exact rfl) | (exact hR) | (exact fC.rf _) | (exact Nat.le_refl _) | (exact Or.inl rfl) | (exact Or.inr rfl)

theorem cT_legs (hd : 10 ≤ d) (hR : RelC z A) (hI : InvW A) : cOp [] l g nX6_legs d [.inr (.inr (.inl (0, 0, 0)))] z (0, wM A 0, A) := by
  have cc := hI.1.1.1.1.1
  have ct := hI.1.1.1.1.2.1
  have e4 : z (2, 0, 0) 4 = wM A 0 := hR.1.1.1.1.2.2.1
  have e8 : z (2, 0, 0) 8 = wM A 1 := hR.1.1.1.1.2.2.2
  have e2 : z (2, 0, 0) 2 = wM A 5 := hR.1.1.1.1.2.1.1
  have e3 : z (2, 0, 0) 3 = wM A 6 := hR.1.1.1.1.2.1.2
  have n2 : z (1, 0, 0) 2 = wM A 2 := hR.1.1.2.2.1.1
  have n3 : z (1, 0, 0) 3 = (if wM A 7 = -1 then 0 else 1) := hR.1.1.2.2.1.2
  have n9 : -1 ≤ wM A 7 ∧ wM A 7 < 8 := by rcases hI.1.1.1.2.1 with q | q <;> omega
  refine q0_C ?_
  refine aM1_of kX6_legs rfl (fun B hB => ?_)
  refine hB [] 1000 _ _ _ _ _ ?_
  repeat' (first | exact hR | exact fC.rf _ | refine And.intro ?_ ?_ | (intro hh; first | exact absurd hh (by decide) | exact absurd rfl hh | (exfalso; omega) | skip) | fail)
  all_goals first | omega | (exact rfl) | (exact hR) | (exact fC.rf _) | (exact Nat.le_refl _) | (exact Or.inl rfl) | (exact Or.inr rfl) | (rw [e4])
theorem cT_gates (hd : 10 ≤ d) (hR : RelC z A) (hI : InvW A) : cOp [] l g nX6_gates d [.inr (.inr (.inl (0, 0, 0)))] z (0, wM A 1, A) := by
  have cc := hI.1.1.1.1.1
  have ct := hI.1.1.1.1.2.1
  have e4 : z (2, 0, 0) 4 = wM A 0 := hR.1.1.1.1.2.2.1
  have e8 : z (2, 0, 0) 8 = wM A 1 := hR.1.1.1.1.2.2.2
  have e2 : z (2, 0, 0) 2 = wM A 5 := hR.1.1.1.1.2.1.1
  have e3 : z (2, 0, 0) 3 = wM A 6 := hR.1.1.1.1.2.1.2
  have n2 : z (1, 0, 0) 2 = wM A 2 := hR.1.1.2.2.1.1
  have n3 : z (1, 0, 0) 3 = (if wM A 7 = -1 then 0 else 1) := hR.1.1.2.2.1.2
  have n9 : -1 ≤ wM A 7 ∧ wM A 7 < 8 := by rcases hI.1.1.1.2.1 with q | q <;> omega
  refine q0_C ?_
  refine aM1_of kX6_gates rfl (fun B hB => ?_)
  refine hB [] 1000 _ _ _ _ _ ?_
  repeat' (first | exact hR | exact fC.rf _ | refine And.intro ?_ ?_ | (intro hh; first | exact absurd hh (by decide) | exact absurd rfl hh | (exfalso; omega) | skip) | fail)
  all_goals first | omega | (exact rfl) | (exact hR) | (exact fC.rf _) | (exact Nat.le_refl _) | (exact Or.inl rfl) | (exact Or.inr rfl) | (rw [e8])
theorem cT_tolerance (hd : 10 ≤ d) (hR : RelC z A) (hI : InvW A) : cOp [] l g nX6_tolerance d [.inr (.inr (.inl (0, 0, 0)))] z (0, wM A 5, A) := by
  have cc := hI.1.1.1.1.1
  have ct := hI.1.1.1.1.2.1
  have e4 : z (2, 0, 0) 4 = wM A 0 := hR.1.1.1.1.2.2.1
  have e8 : z (2, 0, 0) 8 = wM A 1 := hR.1.1.1.1.2.2.2
  have e2 : z (2, 0, 0) 2 = wM A 5 := hR.1.1.1.1.2.1.1
  have e3 : z (2, 0, 0) 3 = wM A 6 := hR.1.1.1.1.2.1.2
  have n2 : z (1, 0, 0) 2 = wM A 2 := hR.1.1.2.2.1.1
  have n3 : z (1, 0, 0) 3 = (if wM A 7 = -1 then 0 else 1) := hR.1.1.2.2.1.2
  have n9 : -1 ≤ wM A 7 ∧ wM A 7 < 8 := by rcases hI.1.1.1.2.1 with q | q <;> omega
  refine q0_C ?_
  refine aM1_of kX6_tolerance rfl (fun B hB => ?_)
  refine hB [] 1000 _ _ _ _ _ ?_
  repeat' (first | exact hR | exact fC.rf _ | refine And.intro ?_ ?_ | (intro hh; first | exact absurd hh (by decide) | exact absurd rfl hh | (exfalso; omega) | skip) | fail)
  all_goals first | omega | (exact rfl) | (exact hR) | (exact fC.rf _) | (exact Nat.le_refl _) | (exact Or.inl rfl) | (exact Or.inr rfl) | (rw [e2])
theorem cT_timeLimit (hd : 10 ≤ d) (hR : RelC z A) (hI : InvW A) : cOp [] l g nX6_timeLimit d [.inr (.inr (.inl (0, 0, 0)))] z (0, wM A 6, A) := by
  have cc := hI.1.1.1.1.1
  have ct := hI.1.1.1.1.2.1
  have e4 : z (2, 0, 0) 4 = wM A 0 := hR.1.1.1.1.2.2.1
  have e8 : z (2, 0, 0) 8 = wM A 1 := hR.1.1.1.1.2.2.2
  have e2 : z (2, 0, 0) 2 = wM A 5 := hR.1.1.1.1.2.1.1
  have e3 : z (2, 0, 0) 3 = wM A 6 := hR.1.1.1.1.2.1.2
  have n2 : z (1, 0, 0) 2 = wM A 2 := hR.1.1.2.2.1.1
  have n3 : z (1, 0, 0) 3 = (if wM A 7 = -1 then 0 else 1) := hR.1.1.2.2.1.2
  have n9 : -1 ≤ wM A 7 ∧ wM A 7 < 8 := by rcases hI.1.1.1.2.1 with q | q <;> omega
  refine q0_C ?_
  refine aM1_of kX6_timeLimit rfl (fun B hB => ?_)
  refine hB [] 1000 _ _ _ _ _ ?_
  repeat' (first | exact hR | exact fC.rf _ | refine And.intro ?_ ?_ | (intro hh; first | exact absurd hh (by decide) | exact absurd rfl hh | (exfalso; omega) | skip) | fail)
  all_goals first | omega | (exact rfl) | (exact hR) | (exact fC.rf _) | (exact Nat.le_refl _) | (exact Or.inl rfl) | (exact Or.inr rfl) | (rw [e3])
theorem cT_runs (hd : 10 ≤ d) (hR : RelC z A) (hI : InvW A) : cOp [] l g nX6_runs d [.inr (.inr (.inl (0, 0, 0)))] z (0, wM A 2, A) := by
  have cc := hI.1.1.1.1.1
  have ct := hI.1.1.1.1.2.1
  have e4 : z (2, 0, 0) 4 = wM A 0 := hR.1.1.1.1.2.2.1
  have e8 : z (2, 0, 0) 8 = wM A 1 := hR.1.1.1.1.2.2.2
  have e2 : z (2, 0, 0) 2 = wM A 5 := hR.1.1.1.1.2.1.1
  have e3 : z (2, 0, 0) 3 = wM A 6 := hR.1.1.1.1.2.1.2
  have n2 : z (1, 0, 0) 2 = wM A 2 := hR.1.1.2.2.1.1
  have n3 : z (1, 0, 0) 3 = (if wM A 7 = -1 then 0 else 1) := hR.1.1.2.2.1.2
  have n9 : -1 ≤ wM A 7 ∧ wM A 7 < 8 := by rcases hI.1.1.1.2.1 with q | q <;> omega
  refine q0_C ?_
  refine aM1_of kX6_runs rfl (fun B hB => ?_)
  refine hB [] 1000 _ _ _ _ _ ?_
  repeat' (first | exact hR | exact fC.rf _ | refine And.intro ?_ ?_ | (intro hh; first | exact absurd hh (by decide) | exact absurd rfl hh | (exfalso; omega) | skip) | fail)
  all_goals first | omega | (exact rfl) | (exact hR) | (exact fC.rf _) | (exact Nat.le_refl _) | (exact Or.inl rfl) | (exact Or.inr rfl) | (rw [n2])
theorem cT_isRunning (hd : 10 ≤ d) (hR : RelC z A) (hI : InvW A) : cOp [] l g nX6_isRunning d [.inr (.inr (.inl (0, 0, 0)))] z (0, sB (wM A 7 ≠ -1), A) := by
  have cc := hI.1.1.1.1.1
  have ct := hI.1.1.1.1.2.1
  have e4 : z (2, 0, 0) 4 = wM A 0 := hR.1.1.1.1.2.2.1
  have e8 : z (2, 0, 0) 8 = wM A 1 := hR.1.1.1.1.2.2.2
  have e2 : z (2, 0, 0) 2 = wM A 5 := hR.1.1.1.1.2.1.1
  have e3 : z (2, 0, 0) 3 = wM A 6 := hR.1.1.1.1.2.1.2
  have n2 : z (1, 0, 0) 2 = wM A 2 := hR.1.1.2.2.1.1
  have n3 : z (1, 0, 0) 3 = (if wM A 7 = -1 then 0 else 1) := hR.1.1.2.2.1.2
  have n9 : -1 ≤ wM A 7 ∧ wM A 7 < 8 := by rcases hI.1.1.1.2.1 with q | q <;> omega
  have eV : z (1, 0, 0) 3 = sB (wM A 7 ≠ -1) := by
    rw [n3]
    by_cases w : wM A 7 = -1
    · rw [if_pos w, sB_0 (fun n => n w)]
    · rw [if_neg w, sB_1 w]
  refine q0_C ?_
  refine aM1_of kX6_isRunning rfl (fun B hB => ?_)
  refine hB [] 1000 _ _ _ _ _ ?_
  repeat' (first | exact hR | exact fC.rf _ | refine And.intro ?_ ?_ | (intro hh; first | exact absurd hh (by decide) | exact absurd rfl hh | (exfalso; omega) | skip) | fail)
  all_goals first | omega | (exact rfl) | (exact hR) | (exact fC.rf _) | (exact Nat.le_refl _) | (exact Or.inl rfl) | (exact Or.inr rfl) | (rw [eV])
theorem cT_totalPoints (hd : 10 ≤ d) (hR : RelC z A) (hI : InvW A) : cOp [] l g nX6_totalPoints d [.inr (.inr (.inl (0, 0, 0)))] z (0, sTot (wM A), A) := by
  have cc := hI.1.1.1.1.1
  have ct := hI.1.1.1.1.2.1
  have e4 : z (2, 0, 0) 4 = wM A 0 := hR.1.1.1.1.2.2.1
  have e8 : z (2, 0, 0) 8 = wM A 1 := hR.1.1.1.1.2.2.2
  have e2 : z (2, 0, 0) 2 = wM A 5 := hR.1.1.1.1.2.1.1
  have e3 : z (2, 0, 0) 3 = wM A 6 := hR.1.1.1.1.2.1.2
  have n2 : z (1, 0, 0) 2 = wM A 2 := hR.1.1.2.2.1.1
  have n3 : z (1, 0, 0) 3 = (if wM A 7 = -1 then 0 else 1) := hR.1.1.2.2.1.2
  have n9 : -1 ≤ wM A 7 ∧ wM A 7 < 8 := by rcases hI.1.1.1.2.1 with q | q <;> omega
  have cs := cK_csumA (l := l) (g := g) (d := d - 1) hR.1.1 hI.1.1.1
  refine q0_C ?_
  refine aM1_of kX6_totalPoints rfl (fun B hB => ?_)
  refine hB [] 1000 _ _ _ _ _ ?_
  repeat' (first | exact hR | exact fC.rf _ | refine Or.inl (uE cs ?_) | refine And.intro ?_ ?_ | (intro hh; first | exact absurd hh (by decide) | exact absurd rfl hh | (exfalso; omega) | skip) | fail)
  all_goals first | omega | (exact rfl) | (exact hR) | (exact fC.rf _) | (exact Nat.le_refl _) | (exact Or.inl rfl) | (exact Or.inr rfl)

theorem cT_legPoints {k : Int} (hk : aIR k) (hd : 10 ≤ d) (hR : RelC z A) (hI : InvW A) : cOp [2] l g nX6_legPoints d [.inr (.inr (.inl (0, 0, 0))), .inl k] z (qR (isL (wM A) k) (wM A (11 + 3 * k + 2)) A) := by
  have cc := hI.1.1.1.1.1
  have ct := hI.1.1.1.1.2.1
  have e4 : z (2, 0, 0) 4 = wM A 0 := hR.1.1.1.1.2.2.1
  have e8 : z (2, 0, 0) 8 = wM A 1 := hR.1.1.1.1.2.2.2
  have e2 : z (2, 0, 0) 2 = wM A 5 := hR.1.1.1.1.2.1.1
  have e3 : z (2, 0, 0) 3 = wM A 6 := hR.1.1.1.1.2.1.2
  have n2 : z (1, 0, 0) 2 = wM A 2 := hR.1.1.2.2.1.1
  have n3 : z (1, 0, 0) 3 = (if wM A 7 = -1 then 0 else 1) := hR.1.1.2.2.1.2
  have n9 : -1 ≤ wM A 7 ∧ wM A 7 < 8 := by rcases hI.1.1.1.2.1 with q | q <;> omega
  have lk := hk
  unfold aIR at lk
  refine qR_C (fun hc => ?_) (fun hc => ?_)
  · have hc1 := hc.1
    have hc2 := hc.2
    have eV := (hR.1.1.1.2.1 k hc.1 hc.2).2.2
    refine aM1_of kX6_legPoints rfl (fun B hB => ?_)
    refine hB [] 1000 _ _ _ _ _ ?_
    repeat' (first | exact hR | exact fC.rf _ | refine Or.inl (uE0 (cK_requireLeg hk (by omega) hR hI hc) ?_) | refine And.intro ?_ ?_ | (intro hh; first | exact absurd hh (by decide) | exact absurd rfl hh | (exfalso; omega) | skip) | fail)
    all_goals first | omega | (exact rfl) | (exact hR) | (exact fC.rf _) | (exact Nat.le_refl _) | (exact Or.inl rfl) | (exact Or.inr rfl) | (rw [eV])
  · refine aMX_of kX6_legPoints rfl (fun B hB => ?_)
    refine hB [] 1000 _ _ _ _ _ ?_
    repeat' (first | exact hR | exact fC.rf _ | exact (Or.inr (Or.inl ⟨⟨Nat.le_refl _, Nat.le_refl _⟩, uX (cK_requireLegX hk (by omega) hR hI hc) (fun x z' q => ⟨rfl, by rw [q.1]; rfl, by rw [q.2]; exact hR, by rw [q.2]; exact fC.rf _⟩)⟩)) | refine And.intro ?_ ?_ | (intro hh; first | exact absurd hh (by decide) | exact absurd rfl hh | (exfalso; omega) | skip) | fail)
    all_goals first | omega | (exact rfl) | (exact hR) | (exact fC.rf _) | (exact Nat.le_refl _) | (exact Or.inl rfl) | (exact Or.inr rfl)
theorem cT_legOf {k : Int} (hk : aIR k) (hd : 10 ≤ d) (hR : RelC z A) (hI : InvW A) : cOp [2] l g nX6_legOf d [.inr (.inr (.inl (0, 0, 0))), .inl k] z (qR (isG (wM A) k) (wM A (29 + 5 * k)) A) := by
  have cc := hI.1.1.1.1.1
  have ct := hI.1.1.1.1.2.1
  have e4 : z (2, 0, 0) 4 = wM A 0 := hR.1.1.1.1.2.2.1
  have e8 : z (2, 0, 0) 8 = wM A 1 := hR.1.1.1.1.2.2.2
  have e2 : z (2, 0, 0) 2 = wM A 5 := hR.1.1.1.1.2.1.1
  have e3 : z (2, 0, 0) 3 = wM A 6 := hR.1.1.1.1.2.1.2
  have n2 : z (1, 0, 0) 2 = wM A 2 := hR.1.1.2.2.1.1
  have n3 : z (1, 0, 0) 3 = (if wM A 7 = -1 then 0 else 1) := hR.1.1.2.2.1.2
  have n9 : -1 ≤ wM A 7 ∧ wM A 7 < 8 := by rcases hI.1.1.1.2.1 with q | q <;> omega
  have lk := hk
  unfold aIR at lk
  refine qR_C (fun hc => ?_) (fun hc => ?_)
  · have hc1 := hc.1
    have hc2 := hc.2
    have eV := (hR.1.1.1.2.2 k hc.1 hc.2).1
    refine aM1_of kX6_legOf rfl (fun B hB => ?_)
    refine hB [] 1000 _ _ _ _ _ ?_
    repeat' (first | exact hR | exact fC.rf _ | refine Or.inl (uE0 (cK_requireGate hk (by omega) hR hI hc) ?_) | refine And.intro ?_ ?_ | (intro hh; first | exact absurd hh (by decide) | exact absurd rfl hh | (exfalso; omega) | skip) | fail)
    all_goals first | omega | (exact rfl) | (exact hR) | (exact fC.rf _) | (exact Nat.le_refl _) | (exact Or.inl rfl) | (exact Or.inr rfl) | (rw [eV])
  · refine aMX_of kX6_legOf rfl (fun B hB => ?_)
    refine hB [] 1000 _ _ _ _ _ ?_
    repeat' (first | exact hR | exact fC.rf _ | exact (Or.inr (Or.inl ⟨⟨Nat.le_refl _, Nat.le_refl _⟩, uX (cK_requireGateX hk (by omega) hR hI hc) (fun x z' q => ⟨rfl, by rw [q.1]; rfl, by rw [q.2]; exact hR, by rw [q.2]; exact fC.rf _⟩)⟩)) | refine And.intro ?_ ?_ | (intro hh; first | exact absurd hh (by decide) | exact absurd rfl hh | (exfalso; omega) | skip) | fail)
    all_goals first | omega | (exact rfl) | (exact hR) | (exact fC.rf _) | (exact Nat.le_refl _) | (exact Or.inl rfl) | (exact Or.inr rfl)
theorem cT_time {r : Int} (hr : aIR r) (hd : 10 ≤ d) (hR : RelC z A) (hI : InvW A) : cOp [2] l g nX6_time d [.inr (.inr (.inl (0, 0, 0))), .inl r] z (qR (isN (wM A) r) (wM A (59 + 13 * r + 1)) A) := by
  have cc := hI.1.1.1.1.1
  have ct := hI.1.1.1.1.2.1
  have e4 : z (2, 0, 0) 4 = wM A 0 := hR.1.1.1.1.2.2.1
  have e8 : z (2, 0, 0) 8 = wM A 1 := hR.1.1.1.1.2.2.2
  have e2 : z (2, 0, 0) 2 = wM A 5 := hR.1.1.1.1.2.1.1
  have e3 : z (2, 0, 0) 3 = wM A 6 := hR.1.1.1.1.2.1.2
  have n2 : z (1, 0, 0) 2 = wM A 2 := hR.1.1.2.2.1.1
  have n3 : z (1, 0, 0) 3 = (if wM A 7 = -1 then 0 else 1) := hR.1.1.2.2.1.2
  have n9 : -1 ≤ wM A 7 ∧ wM A 7 < 8 := by rcases hI.1.1.1.2.1 with q | q <;> omega
  have lr := hr
  unfold aIR at lr
  refine qR_C (fun hc => ?_) (fun hc => ?_)
  · have hc1 := hc.1
    have hc2 := hc.2
    have eV := (hR.1.1.2.1 r hc.1 hc.2).1.1.1
    refine aM1_of kX6_time rfl (fun B hB => ?_)
    refine hB [] 1000 _ _ _ _ _ ?_
    repeat' (first | exact hR | exact fC.rf _ | refine Or.inl (uEp (cK_runNumbered hr (by omega) hR hI hc) ?_) | refine And.intro ?_ ?_ | (intro hh; first | exact absurd hh (by decide) | exact absurd rfl hh | (exfalso; omega) | skip) | fail)
    all_goals first | omega | (exact rfl) | (exact hR) | (exact fC.rf _) | (exact Nat.le_refl _) | (exact Or.inl rfl) | (exact Or.inr rfl) | (rw [eV])
  · refine aMX_of kX6_time rfl (fun B hB => ?_)
    refine hB [] 1000 _ _ _ _ _ ?_
    repeat' (first | exact hR | exact fC.rf _ | exact (Or.inr (Or.inl ⟨⟨Nat.le_refl _, Nat.le_refl _⟩, uX (cK_runNumberedX hr (by omega) hR hI hc) (fun x z' q => ⟨rfl, by rw [q.1]; rfl, by rw [q.2]; exact hR, by rw [q.2]; exact fC.rf _⟩)⟩)) | refine And.intro ?_ ?_ | (intro hh; first | exact absurd hh (by decide) | exact absurd rfl hh | (exfalso; omega) | skip) | fail)
    all_goals first | omega | (exact rfl) | (exact hR) | (exact fC.rf _) | (exact Nat.le_refl _) | (exact Or.inl rfl) | (exact Or.inr rfl)
theorem cT_lineLoss {r : Int} (hr : aIR r) (hd : 10 ≤ d) (hR : RelC z A) (hI : InvW A) : cOp [2] l g nX6_lineLoss d [.inr (.inr (.inl (0, 0, 0))), .inl r] z (qR (isN (wM A) r) (wM A (59 + 13 * r + 2)) A) := by
  have cc := hI.1.1.1.1.1
  have ct := hI.1.1.1.1.2.1
  have e4 : z (2, 0, 0) 4 = wM A 0 := hR.1.1.1.1.2.2.1
  have e8 : z (2, 0, 0) 8 = wM A 1 := hR.1.1.1.1.2.2.2
  have e2 : z (2, 0, 0) 2 = wM A 5 := hR.1.1.1.1.2.1.1
  have e3 : z (2, 0, 0) 3 = wM A 6 := hR.1.1.1.1.2.1.2
  have n2 : z (1, 0, 0) 2 = wM A 2 := hR.1.1.2.2.1.1
  have n3 : z (1, 0, 0) 3 = (if wM A 7 = -1 then 0 else 1) := hR.1.1.2.2.1.2
  have n9 : -1 ≤ wM A 7 ∧ wM A 7 < 8 := by rcases hI.1.1.1.2.1 with q | q <;> omega
  have lr := hr
  unfold aIR at lr
  refine qR_C (fun hc => ?_) (fun hc => ?_)
  · have hc1 := hc.1
    have hc2 := hc.2
    have eV := (hR.1.1.2.1 r hc.1 hc.2).2.1.1.1
    refine aM1_of kX6_lineLoss rfl (fun B hB => ?_)
    refine hB [] 1000 _ _ _ _ _ ?_
    repeat' (first | exact hR | exact fC.rf _ | refine Or.inl (uEp (cK_runNumbered hr (by omega) hR hI hc) ?_) | refine And.intro ?_ ?_ | (intro hh; first | exact absurd hh (by decide) | exact absurd rfl hh | (exfalso; omega) | skip) | fail)
    all_goals first | omega | (exact rfl) | (exact hR) | (exact fC.rf _) | (exact Nat.le_refl _) | (exact Or.inl rfl) | (exact Or.inr rfl) | (rw [eV])
  · refine aMX_of kX6_lineLoss rfl (fun B hB => ?_)
    refine hB [] 1000 _ _ _ _ _ ?_
    repeat' (first | exact hR | exact fC.rf _ | exact (Or.inr (Or.inl ⟨⟨Nat.le_refl _, Nat.le_refl _⟩, uX (cK_runNumberedX hr (by omega) hR hI hc) (fun x z' q => ⟨rfl, by rw [q.1]; rfl, by rw [q.2]; exact hR, by rw [q.2]; exact fC.rf _⟩)⟩)) | refine And.intro ?_ ?_ | (intro hh; first | exact absurd hh (by decide) | exact absurd rfl hh | (exfalso; omega) | skip) | fail)
    all_goals first | omega | (exact rfl) | (exact hR) | (exact fC.rf _) | (exact Nat.le_refl _) | (exact Or.inl rfl) | (exact Or.inr rfl)
theorem cT_gateLoss {r : Int} (hr : aIR r) (hd : 10 ≤ d) (hR : RelC z A) (hI : InvW A) : cOp [2] l g nX6_gateLoss d [.inr (.inr (.inl (0, 0, 0))), .inl r] z (qR (isN (wM A) r) (wM A (59 + 13 * r + 3)) A) := by
  have cc := hI.1.1.1.1.1
  have ct := hI.1.1.1.1.2.1
  have e4 : z (2, 0, 0) 4 = wM A 0 := hR.1.1.1.1.2.2.1
  have e8 : z (2, 0, 0) 8 = wM A 1 := hR.1.1.1.1.2.2.2
  have e2 : z (2, 0, 0) 2 = wM A 5 := hR.1.1.1.1.2.1.1
  have e3 : z (2, 0, 0) 3 = wM A 6 := hR.1.1.1.1.2.1.2
  have n2 : z (1, 0, 0) 2 = wM A 2 := hR.1.1.2.2.1.1
  have n3 : z (1, 0, 0) 3 = (if wM A 7 = -1 then 0 else 1) := hR.1.1.2.2.1.2
  have n9 : -1 ≤ wM A 7 ∧ wM A 7 < 8 := by rcases hI.1.1.1.2.1 with q | q <;> omega
  have lr := hr
  unfold aIR at lr
  refine qR_C (fun hc => ?_) (fun hc => ?_)
  · have hc1 := hc.1
    have hc2 := hc.2
    have eV := (hR.1.1.2.1 r hc.1 hc.2).2.1.1.2
    refine aM1_of kX6_gateLoss rfl (fun B hB => ?_)
    refine hB [] 1000 _ _ _ _ _ ?_
    repeat' (first | exact hR | exact fC.rf _ | refine Or.inl (uEp (cK_runNumbered hr (by omega) hR hI hc) ?_) | refine And.intro ?_ ?_ | (intro hh; first | exact absurd hh (by decide) | exact absurd rfl hh | (exfalso; omega) | skip) | fail)
    all_goals first | omega | (exact rfl) | (exact hR) | (exact fC.rf _) | (exact Nat.le_refl _) | (exact Or.inl rfl) | (exact Or.inr rfl) | (rw [eV])
  · refine aMX_of kX6_gateLoss rfl (fun B hB => ?_)
    refine hB [] 1000 _ _ _ _ _ ?_
    repeat' (first | exact hR | exact fC.rf _ | exact (Or.inr (Or.inl ⟨⟨Nat.le_refl _, Nat.le_refl _⟩, uX (cK_runNumberedX hr (by omega) hR hI hc) (fun x z' q => ⟨rfl, by rw [q.1]; rfl, by rw [q.2]; exact hR, by rw [q.2]; exact fC.rf _⟩)⟩)) | refine And.intro ?_ ?_ | (intro hh; first | exact absurd hh (by decide) | exact absurd rfl hh | (exfalso; omega) | skip) | fail)
    all_goals first | omega | (exact rfl) | (exact hR) | (exact fC.rf _) | (exact Nat.le_refl _) | (exact Or.inl rfl) | (exact Or.inr rfl)
theorem cT_faultLoss {r : Int} (hr : aIR r) (hd : 10 ≤ d) (hR : RelC z A) (hI : InvW A) : cOp [2] l g nX6_faultLoss d [.inr (.inr (.inl (0, 0, 0))), .inl r] z (qR (isN (wM A) r) (wM A (59 + 13 * r + 4)) A) := by
  have cc := hI.1.1.1.1.1
  have ct := hI.1.1.1.1.2.1
  have e4 : z (2, 0, 0) 4 = wM A 0 := hR.1.1.1.1.2.2.1
  have e8 : z (2, 0, 0) 8 = wM A 1 := hR.1.1.1.1.2.2.2
  have e2 : z (2, 0, 0) 2 = wM A 5 := hR.1.1.1.1.2.1.1
  have e3 : z (2, 0, 0) 3 = wM A 6 := hR.1.1.1.1.2.1.2
  have n2 : z (1, 0, 0) 2 = wM A 2 := hR.1.1.2.2.1.1
  have n3 : z (1, 0, 0) 3 = (if wM A 7 = -1 then 0 else 1) := hR.1.1.2.2.1.2
  have n9 : -1 ≤ wM A 7 ∧ wM A 7 < 8 := by rcases hI.1.1.1.2.1 with q | q <;> omega
  have lr := hr
  unfold aIR at lr
  refine qR_C (fun hc => ?_) (fun hc => ?_)
  · have hc1 := hc.1
    have hc2 := hc.2
    have eV := (hR.1.1.2.1 r hc.1 hc.2).2.1.2.1
    refine aM1_of kX6_faultLoss rfl (fun B hB => ?_)
    refine hB [] 1000 _ _ _ _ _ ?_
    repeat' (first | exact hR | exact fC.rf _ | refine Or.inl (uEp (cK_runNumbered hr (by omega) hR hI hc) ?_) | refine And.intro ?_ ?_ | (intro hh; first | exact absurd hh (by decide) | exact absurd rfl hh | (exfalso; omega) | skip) | fail)
    all_goals first | omega | (exact rfl) | (exact hR) | (exact fC.rf _) | (exact Nat.le_refl _) | (exact Or.inl rfl) | (exact Or.inr rfl) | (rw [eV])
  · refine aMX_of kX6_faultLoss rfl (fun B hB => ?_)
    refine hB [] 1000 _ _ _ _ _ ?_
    repeat' (first | exact hR | exact fC.rf _ | exact (Or.inr (Or.inl ⟨⟨Nat.le_refl _, Nat.le_refl _⟩, uX (cK_runNumberedX hr (by omega) hR hI hc) (fun x z' q => ⟨rfl, by rw [q.1]; rfl, by rw [q.2]; exact hR, by rw [q.2]; exact fC.rf _⟩)⟩)) | refine And.intro ?_ ?_ | (intro hh; first | exact absurd hh (by decide) | exact absurd rfl hh | (exfalso; omega) | skip) | fail)
    all_goals first | omega | (exact rfl) | (exact hR) | (exact fC.rf _) | (exact Nat.le_refl _) | (exact Or.inl rfl) | (exact Or.inr rfl)
theorem cT_timeLoss {r : Int} (hr : aIR r) (hd : 10 ≤ d) (hR : RelC z A) (hI : InvW A) : cOp [2] l g nX6_timeLoss d [.inr (.inr (.inl (0, 0, 0))), .inl r] z (qR (isN (wM A) r) (wM A (59 + 13 * r + 5)) A) := by
  have cc := hI.1.1.1.1.1
  have ct := hI.1.1.1.1.2.1
  have e4 : z (2, 0, 0) 4 = wM A 0 := hR.1.1.1.1.2.2.1
  have e8 : z (2, 0, 0) 8 = wM A 1 := hR.1.1.1.1.2.2.2
  have e2 : z (2, 0, 0) 2 = wM A 5 := hR.1.1.1.1.2.1.1
  have e3 : z (2, 0, 0) 3 = wM A 6 := hR.1.1.1.1.2.1.2
  have n2 : z (1, 0, 0) 2 = wM A 2 := hR.1.1.2.2.1.1
  have n3 : z (1, 0, 0) 3 = (if wM A 7 = -1 then 0 else 1) := hR.1.1.2.2.1.2
  have n9 : -1 ≤ wM A 7 ∧ wM A 7 < 8 := by rcases hI.1.1.1.2.1 with q | q <;> omega
  have lr := hr
  unfold aIR at lr
  refine qR_C (fun hc => ?_) (fun hc => ?_)
  · have hc1 := hc.1
    have hc2 := hc.2
    have eV := (hR.1.1.2.1 r hc.1 hc.2).2.1.2.2
    refine aM1_of kX6_timeLoss rfl (fun B hB => ?_)
    refine hB [] 1000 _ _ _ _ _ ?_
    repeat' (first | exact hR | exact fC.rf _ | refine Or.inl (uEp (cK_runNumbered hr (by omega) hR hI hc) ?_) | refine And.intro ?_ ?_ | (intro hh; first | exact absurd hh (by decide) | exact absurd rfl hh | (exfalso; omega) | skip) | fail)
    all_goals first | omega | (exact rfl) | (exact hR) | (exact fC.rf _) | (exact Nat.le_refl _) | (exact Or.inl rfl) | (exact Or.inr rfl) | (rw [eV])
  · refine aMX_of kX6_timeLoss rfl (fun B hB => ?_)
    refine hB [] 1000 _ _ _ _ _ ?_
    repeat' (first | exact hR | exact fC.rf _ | exact (Or.inr (Or.inl ⟨⟨Nat.le_refl _, Nat.le_refl _⟩, uX (cK_runNumberedX hr (by omega) hR hI hc) (fun x z' q => ⟨rfl, by rw [q.1]; rfl, by rw [q.2]; exact hR, by rw [q.2]; exact fC.rf _⟩)⟩)) | refine And.intro ?_ ?_ | (intro hh; first | exact absurd hh (by decide) | exact absurd rfl hh | (exfalso; omega) | skip) | fail)
    all_goals first | omega | (exact rfl) | (exact hR) | (exact fC.rf _) | (exact Nat.le_refl _) | (exact Or.inl rfl) | (exact Or.inr rfl)
theorem cT_score {r : Int} (hr : aIR r) (hd : 10 ≤ d) (hR : RelC z A) (hI : InvW A) : cOp [2] l g nX6_score d [.inr (.inr (.inl (0, 0, 0))), .inl r] z (qR (isN (wM A) r) (sSum (wM A) r) A) := by
  have cc := hI.1.1.1.1.1
  have ct := hI.1.1.1.1.2.1
  have e4 : z (2, 0, 0) 4 = wM A 0 := hR.1.1.1.1.2.2.1
  have e8 : z (2, 0, 0) 8 = wM A 1 := hR.1.1.1.1.2.2.2
  have e2 : z (2, 0, 0) 2 = wM A 5 := hR.1.1.1.1.2.1.1
  have e3 : z (2, 0, 0) 3 = wM A 6 := hR.1.1.1.1.2.1.2
  have n2 : z (1, 0, 0) 2 = wM A 2 := hR.1.1.2.2.1.1
  have n3 : z (1, 0, 0) 3 = (if wM A 7 = -1 then 0 else 1) := hR.1.1.2.2.1.2
  have n9 : -1 ≤ wM A 7 ∧ wM A 7 < 8 := by rcases hI.1.1.1.2.1 with q | q <;> omega
  have lr := hr
  unfold aIR at lr
  refine qR_C (fun hc => ?_) (fun hc => ?_)
  · have sc := cK_score (l := l) (g := g) (d := d - 1) hR.1.1 hI.1.1.1 hc.1 hc.2
    refine aM1_of kX6_score rfl (fun B hB => ?_)
    refine hB [] 1000 _ _ _ _ _ ?_
    repeat' (first | exact hR | exact fC.rf _ | refine Or.inl (uEp (cK_runNumbered hr (by omega) hR hI hc) ?_) | refine Or.inl (uE sc ?_) | refine And.intro ?_ ?_ | (intro hh; first | exact absurd hh (by decide) | exact absurd rfl hh | (exfalso; omega) | skip) | fail)
    all_goals first | omega | (exact rfl) | (exact hR) | (exact fC.rf _) | (exact Nat.le_refl _) | (exact Or.inl rfl) | (exact Or.inr rfl)
  · refine aMX_of kX6_score rfl (fun B hB => ?_)
    refine hB [] 1000 _ _ _ _ _ ?_
    repeat' (first | exact hR | exact fC.rf _ | exact (Or.inr (Or.inl ⟨⟨Nat.le_refl _, Nat.le_refl _⟩, uX (cK_runNumberedX hr (by omega) hR hI hc) (fun x z' q => ⟨rfl, by rw [q.1]; rfl, by rw [q.2]; exact hR, by rw [q.2]; exact fC.rf _⟩)⟩)) | refine And.intro ?_ ?_ | (intro hh; first | exact absurd hh (by decide) | exact absurd rfl hh | (exfalso; omega) | skip) | fail)
    all_goals first | omega | (exact rfl) | (exact hR) | (exact fC.rf _) | (exact Nat.le_refl _) | (exact Or.inl rfl) | (exact Or.inr rfl)
theorem cT_scoreByLosses {r : Int} (hr : aIR r) (hd : 10 ≤ d) (hR : RelC z A) (hI : InvW A) : cOp [2] l g nX6_scoreByLosses d [.inr (.inr (.inl (0, 0, 0))), .inl r] z (qR (isN (wM A) r) (sSum (wM A) r) A) := by
  have cc := hI.1.1.1.1.1
  have ct := hI.1.1.1.1.2.1
  have e4 : z (2, 0, 0) 4 = wM A 0 := hR.1.1.1.1.2.2.1
  have e8 : z (2, 0, 0) 8 = wM A 1 := hR.1.1.1.1.2.2.2
  have e2 : z (2, 0, 0) 2 = wM A 5 := hR.1.1.1.1.2.1.1
  have e3 : z (2, 0, 0) 3 = wM A 6 := hR.1.1.1.1.2.1.2
  have n2 : z (1, 0, 0) 2 = wM A 2 := hR.1.1.2.2.1.1
  have n3 : z (1, 0, 0) 3 = (if wM A 7 = -1 then 0 else 1) := hR.1.1.2.2.1.2
  have n9 : -1 ≤ wM A 7 ∧ wM A 7 < 8 := by rcases hI.1.1.1.2.1 with q | q <;> omega
  have lr := hr
  unfold aIR at lr
  refine qR_C (fun hc => ?_) (fun hc => ?_)
  · have sc := cK_lossesA (l := l) (g := g) (d := d - 1) hR.1.1 hc.1 hc.2
    have cs := cK_csumA (l := l) (g := g) (d := d - 1) hR.1.1 hI.1.1.1
    have ok := (hI.1.1.1.2.2.1 r hc.1 hc.2).2.2.2
    have w2 := (hI.1.1.1.2.2.1 r hc.1 hc.2).2.1 2 (by decide) (by decide)
    have w3 := (hI.1.1.1.2.2.1 r hc.1 hc.2).2.1 3 (by decide) (by decide)
    have w4 := (hI.1.1.1.2.2.1 r hc.1 hc.2).2.1 4 (by decide) (by decide)
    have w5 := (hI.1.1.1.2.2.1 r hc.1 hc.2).2.1 5 (by decide) (by decide)
    have sb := sSum_B hI.1.1.1 hc.1 hc.2
    have tb := sN_B (f := fun k => wM A (11 + 3 * k + 2)) (B := 30) (wM A 0).toNat (fun k hk => by have := (hI.1.1.1.1.2.2.1 k (by omega) (by omega)).2; omega)
    have eS : sSum (wM A) r = sN (fun k => wM A (59 + 13 * r + 7 + k)) (wM A 0).toNat := rfl
    have eT : sTot (wM A) = sN (fun k => wM A (11 + 3 * k + 2)) (wM A 0).toNat := rfl
    have eV : sTot (wM A) - (wM A (59 + 13 * r + 2) + wM A (59 + 13 * r + 3) + wM A (59 + 13 * r + 4) + wM A (59 + 13 * r + 5)) = sSum (wM A) r := by omega
    refine aM1_of kX6_scoreByLosses rfl (fun B hB => ?_)
    refine hB [] 1000 _ _ _ _ _ ?_
    repeat' (first | exact hR | exact fC.rf _ | refine Or.inl (uE cs ?_) | refine Or.inl (uEp (cK_runNumbered hr (by omega) hR hI hc) ?_) | refine Or.inl (uE sc ?_) | refine And.intro ?_ ?_ | (intro hh; first | exact absurd hh (by decide) | exact absurd rfl hh | (exfalso; omega) | skip) | fail)
    all_goals first | omega | (exact rfl) | (exact hR) | (exact fC.rf _) | (exact Nat.le_refl _) | (exact Or.inl rfl) | (exact Or.inr rfl) | (rw [eV])
  · refine aMX_of kX6_scoreByLosses rfl (fun B hB => ?_)
    refine hB [] 1000 _ _ _ _ _ ?_
    repeat' (first | exact hR | exact fC.rf _ | refine Or.inl (uE (cK_csumA hR.1.1 hI.1.1.1) ?_) | exact (Or.inr (Or.inl ⟨⟨Nat.le_refl _, Nat.le_refl _⟩, uX (cK_runNumberedX hr (by omega) hR hI hc) (fun x z' q => ⟨rfl, by rw [q.1]; rfl, by rw [q.2]; exact hR, by rw [q.2]; exact fC.rf _⟩)⟩)) | refine And.intro ?_ ?_ | (intro hh; first | exact absurd hh (by decide) | exact absurd rfl hh | (exfalso; omega) | skip) | fail)
    all_goals first | omega | (exact rfl) | (exact hR) | (exact fC.rf _) | (exact Nat.le_refl _) | (exact Or.inl rfl) | (exact Or.inr rfl)
theorem cT_pointsOn {r k : Int} (hr : aIR r) (hk : aIR k) (hd : 10 ≤ d) (hR : RelC z A) (hI : InvW A) : cOp [2] l g nX6_pointsOn d [.inr (.inr (.inl (0, 0, 0))), .inl r, .inl k] z (qR (isN (wM A) r ∧ isL (wM A) k) (wM A (59 + 13 * r + 7 + k)) A) := by
  have cc := hI.1.1.1.1.1
  have ct := hI.1.1.1.1.2.1
  have e4 : z (2, 0, 0) 4 = wM A 0 := hR.1.1.1.1.2.2.1
  have e8 : z (2, 0, 0) 8 = wM A 1 := hR.1.1.1.1.2.2.2
  have e2 : z (2, 0, 0) 2 = wM A 5 := hR.1.1.1.1.2.1.1
  have e3 : z (2, 0, 0) 3 = wM A 6 := hR.1.1.1.1.2.1.2
  have n2 : z (1, 0, 0) 2 = wM A 2 := hR.1.1.2.2.1.1
  have n3 : z (1, 0, 0) 3 = (if wM A 7 = -1 then 0 else 1) := hR.1.1.2.2.1.2
  have n9 : -1 ≤ wM A 7 ∧ wM A 7 < 8 := by rcases hI.1.1.1.2.1 with q | q <;> omega
  have lr := hr
  unfold aIR at lr
  have lk := hk
  unfold aIR at lk
  refine qR_C (fun hc => ?_) (fun hc => ?_)
  · have hc1 := hc.2.1
    have hc2 := hc.2.2
    have hc3 := hc.1.1
    have hc4 := hc.1.2
    have eV := (hR.1.1.2.1 r hc.1.1 hc.1.2).2.2 k hc.2.1 hc.2.2
    refine aM1_of kX6_pointsOn rfl (fun B hB => ?_)
    refine hB [] 1000 _ _ _ _ _ ?_
    repeat' (first | exact hR | exact fC.rf _ | refine Or.inl (uEp (cK_runNumbered hr (by omega) hR hI hc.1) ?_) | refine Or.inl (uE0 (cK_requireLeg hk (by omega) hR hI hc.2) ?_) | refine And.intro ?_ ?_ | (intro hh; first | exact absurd hh (by decide) | exact absurd rfl hh | (exfalso; omega) | skip) | fail)
    all_goals first | omega | (exact rfl) | (exact hR) | (exact fC.rf _) | (exact Nat.le_refl _) | (exact Or.inl rfl) | (exact Or.inr rfl) | (rw [eV])
  · refine aMX_of kX6_pointsOn rfl (fun B hB => ?_)
    by_cases hw : isN (wM A) r
    · refine hB [] 1000 _ _ _ _ _ ?_
      repeat' (first | exact hR | exact fC.rf _ | refine Or.inl (uEp (cK_runNumbered hr (by omega) hR hI hw) ?_) | exact (Or.inr (Or.inl ⟨⟨Nat.le_refl _, Nat.le_refl _⟩, uX (cK_requireLegX hk (by omega) hR hI (fun q => hc ⟨hw, q⟩)) (fun x z' q => ⟨rfl, by rw [q.1]; rfl, by rw [q.2]; exact hR, by rw [q.2]; exact fC.rf _⟩)⟩)) | refine And.intro ?_ ?_ | (intro hh; first | exact absurd hh (by decide) | exact absurd rfl hh | (exfalso; omega) | skip) | fail)
      all_goals first | omega | (exact rfl) | (exact hR) | (exact fC.rf _) | (exact Nat.le_refl _) | (exact Or.inl rfl) | (exact Or.inr rfl)
    · refine hB [] 1000 _ _ _ _ _ ?_
      repeat' (first | exact hR | exact fC.rf _ | exact (Or.inr (Or.inl ⟨⟨Nat.le_refl _, Nat.le_refl _⟩, uX (cK_runNumberedX hr (by omega) hR hI hw) (fun x z' q => ⟨rfl, by rw [q.1]; rfl, by rw [q.2]; exact hR, by rw [q.2]; exact fC.rf _⟩)⟩)) | refine And.intro ?_ ?_ | (intro hh; first | exact absurd hh (by decide) | exact absurd rfl hh | (exfalso; omega) | skip) | fail)
      all_goals first | omega | (exact rfl) | (exact hR) | (exact fC.rf _) | (exact Nat.le_refl _) | (exact Or.inl rfl) | (exact Or.inr rfl)
theorem cT_rankOf {r : Int} (hr : aIR r) (hd : 10 ≤ d) (hR : RelC z A) (hI : InvW A) : cOp [2] l g nX6_rankOf d [.inr (.inr (.inl (0, 0, 0))), .inl r] z (qR (isN (wM A) r) (sRank (wM A) r) A) := by
  have cc := hI.1.1.1.1.1
  have ct := hI.1.1.1.1.2.1
  have e4 : z (2, 0, 0) 4 = wM A 0 := hR.1.1.1.1.2.2.1
  have e8 : z (2, 0, 0) 8 = wM A 1 := hR.1.1.1.1.2.2.2
  have e2 : z (2, 0, 0) 2 = wM A 5 := hR.1.1.1.1.2.1.1
  have e3 : z (2, 0, 0) 3 = wM A 6 := hR.1.1.1.1.2.1.2
  have n2 : z (1, 0, 0) 2 = wM A 2 := hR.1.1.2.2.1.1
  have n3 : z (1, 0, 0) 3 = (if wM A 7 = -1 then 0 else 1) := hR.1.1.2.2.1.2
  have n9 : -1 ≤ wM A 7 ∧ wM A 7 < 8 := by rcases hI.1.1.1.2.1 with q | q <;> omega
  have lr := hr
  unfold aIR at lr
  refine qR_C (fun hc => ?_) (fun hc => ?_)
  · have sc := cK_countRunsBefore (l := l) (g := g) (d := d - 1) (by omega) hR.1.1 hI.1.1.1 hc.1 hc.2
    refine aM1_of kX6_rankOf rfl (fun B hB => ?_)
    refine hB [] 1000 _ _ _ _ _ ?_
    repeat' (first | exact hR | exact fC.rf _ | refine Or.inl (uE0 (cK_requireRun hr (by omega) hR hI hc) ?_) | refine Or.inl (uE sc ?_) | refine And.intro ?_ ?_ | (intro hh; first | exact absurd hh (by decide) | exact absurd rfl hh | (exfalso; omega) | skip) | fail)
    all_goals first | omega | (exact rfl) | (exact hR) | (exact fC.rf _) | (exact Nat.le_refl _) | (exact Or.inl rfl) | (exact Or.inr rfl)
  · refine aMX_of kX6_rankOf rfl (fun B hB => ?_)
    refine hB [] 1000 _ _ _ _ _ ?_
    repeat' (first | exact hR | exact fC.rf _ | exact (Or.inr (Or.inl ⟨⟨Nat.le_refl _, Nat.le_refl _⟩, uX (cK_requireRunX hr (by omega) hR hI hc) (fun x z' q => ⟨rfl, by rw [q.1]; rfl, by rw [q.2]; exact hR, by rw [q.2]; exact fC.rf _⟩)⟩)) | refine And.intro ?_ ?_ | (intro hh; first | exact absurd hh (by decide) | exact absurd rfl hh | (exfalso; omega) | skip) | fail)
    all_goals first | omega | (exact rfl) | (exact hR) | (exact fC.rf _) | (exact Nat.le_refl _) | (exact Or.inl rfl) | (exact Or.inr rfl)

end K14
