/-! THE CLASS: the trial's further queries (printed by wip/whole/cls15.py) -/
theorem sB_s1 {c : Prop} [Decidable c] (h : c) : (some (.inl 1) : Option aV) = some (.inl (sB c)) := by rw [sB_1 h]
theorem sB_s0 {c : Prop} [Decidable c] (h : ¬ c) : (some (.inl 0) : Option aV) = some (.inl (sB c)) := by rw [sB_0 h]
theorem sFs_B {a : Int → Int} : ∀ (n : Nat) (k : Int), sFs a n k = -1 ∨ (k ≤ sFs a n k ∧ sFs a n k < k + (n : Int))
  | 0, k => Or.inl rfl
  | n + 1, k => by
    unfold sFs
    split
    · exact Or.inr (by omega)
    · have := sFs_B (a := a) n (k + 1)
      omega
section K15
variable {l : Launch} {g : aG} {d : Nat} {z : aM} {A : aAb} {a : Int → Int}
theorem RelC.ra {f : Int → Int} (h : RelC z A) : RelC (pS z (9, 0, 0) f) A := by
  have e : ∀ q : aP, q ≠ (9, 0, 0) → pS z (9, 0, 0) f q = z q := fun q hq => pS_ne hq
  have yS : ∀ {s : Int} {a : Int → Int}, Sim z s a → Sim (pS z (9, 0, 0) f) s a := fun h => h.o (fun q q0 q1 => e q (pne (by show q.1 ≠ 9; omega)))
  obtain ⟨⟨h1, h2, h3⟩, ⟨h4, h5, h6⟩, ⟨h7, h8⟩, ⟨h9, h10⟩, h11, h12⟩ := h
  have es : ∀ c i, slot (pS z (9, 0, 0) f) c i = slot z c i := fun c i => by unfold slot; rw [e (7, 0, 0) (by decide)]
  unfold RelC
  rw [e (0, 0, 0) (by decide), e (7, 0, 0) (by decide), e (12, 0, 0) (by decide), e (13, 0, 0) (by decide), e (10, 0, 0) (by decide), e (11, 0, 0) (by decide)]
  refine ⟨⟨yS h1, h2, fun w => yS (h3 w)⟩, ⟨h4, h5, fun i i0 i1 => ?_⟩, ⟨h7, h8⟩, ⟨h9, h10⟩, h11, h12⟩
  rw [es]
  exact yS (h6 i i0 i1)
theorem fC.ra {f : Int → Int} : fC z (pS z (9, 0, 0) f) := fun q hq => pS_ne (pne (by show q.1 ≠ 9; omega))

theorem cT_isOnLine {k : Int} (hk : aIR k) (hd : 10 ≤ d) (hR : RelC z A) (hI : InvW A) : cOp [2] l g nX6_isOnLine d [.inr (.inr (.inl (0, 0, 0))), .inl k] z (qOnLine k A) := by
  have cc := hI.1.1.1.1.1
  have ct := hI.1.1.1.1.2.1
  have e4 : z (2, 0, 0) 4 = wM A 0 := hR.1.1.1.1.2.2.1
  have e8 : z (2, 0, 0) 8 = wM A 1 := hR.1.1.1.1.2.2.2
  have e2 : z (2, 0, 0) 2 = wM A 5 := hR.1.1.1.1.2.1.1
  have e3 : z (2, 0, 0) 3 = wM A 6 := hR.1.1.1.1.2.1.2
  have n2 : z (1, 0, 0) 2 = wM A 2 := hR.1.1.2.2.1.1
  have n3 : z (1, 0, 0) 3 = (if wM A 7 = -1 then 0 else 1) := hR.1.1.2.2.1.2
  have n9 : -1 ≤ wM A 7 ∧ wM A 7 < 8 := by rcases hI.1.1.1.2.1 with q | q <;> omega
  have lk := hk
  unfold aIR at lk
  unfold qOnLine
  by_cases hc : isG (wM A) k
  · rw [if_pos hc]
    have hc1 := hc.1
    have hc2 := hc.2
    have gm := cK_gateMeetsItsLeg (l := l) (g := g) (d := d - 1) (by omega) hR.1.1.1 hI.1.1.1.1 hc.1 hc.2
    refine q0_C ?_
    refine aM1_of kX6_isOnLine rfl (fun B hB => ?_)
    refine hB [] 1000 _ _ _ _ _ ?_
    repeat' (first | exact hR | exact fC.rf _ | refine Or.inl (uE0 (cK_requireGate hk (by omega) hR hI hc) ?_) | refine Or.inl (uB gm ?_ ?_) | refine And.intro ?_ ?_ | (intro hh; first | exact absurd hh (by decide) | exact absurd rfl hh | (exfalso; omega) | skip) | fail)
    all_goals first | omega | (exact rfl) | (exact hR) | (exact fC.rf _) | (exact Nat.le_refl _) | (exact Or.inl rfl) | (exact Or.inr rfl) | (exact sB_s1 (by assumption)) | (exact sB_s0 (by assumption))
  · rw [if_neg hc]
    refine q1_C (by decide) ?_
    refine aMX_of kX6_isOnLine rfl (fun B hB => ?_)
    refine hB [] 1000 _ _ _ _ _ ?_
    repeat' (first | exact hR | exact fC.rf _ | exact (Or.inr (Or.inl ⟨⟨Nat.le_refl _, Nat.le_refl _⟩, uX (cK_requireGateX hk (by omega) hR hI hc) (fun x z' q => ⟨rfl, by rw [q.1]; rfl, by rw [q.2]; exact hR, by rw [q.2]; exact fC.rf _⟩)⟩)) | refine And.intro ?_ ?_ | (intro hh; first | exact absurd hh (by decide) | exact absurd rfl hh | (exfalso; omega) | skip) | fail)
    all_goals first | omega | (exact rfl) | (exact hR) | (exact fC.rf _) | (exact Nat.le_refl _) | (exact Or.inl rfl) | (exact Or.inr rfl)
theorem cT_isComplete {r : Int} (hr : aIR r) (hd : 10 ≤ d) (hR : RelC z A) (hI : InvW A) : cOp [2] l g nX6_isComplete d [.inr (.inr (.inl (0, 0, 0))), .inl r] z (qComplete r A) := by
  have cc := hI.1.1.1.1.1
  have ct := hI.1.1.1.1.2.1
  have e4 : z (2, 0, 0) 4 = wM A 0 := hR.1.1.1.1.2.2.1
  have e8 : z (2, 0, 0) 8 = wM A 1 := hR.1.1.1.1.2.2.2
  have e2 : z (2, 0, 0) 2 = wM A 5 := hR.1.1.1.1.2.1.1
  have e3 : z (2, 0, 0) 3 = wM A 6 := hR.1.1.1.1.2.1.2
  have n2 : z (1, 0, 0) 2 = wM A 2 := hR.1.1.2.2.1.1
  have n3 : z (1, 0, 0) 3 = (if wM A 7 = -1 then 0 else 1) := hR.1.1.2.2.1.2
  have n9 : -1 ≤ wM A 7 ∧ wM A 7 < 8 := by rcases hI.1.1.1.2.1 with q | q <;> omega
  have lr := hr
  unfold aIR at lr
  unfold qComplete
  by_cases hc : isN (wM A) r
  · rw [if_pos hc]
    have hc1 := hc.1
    have hc2 := hc.2
    have eC := (hR.1.1.2.1 r hc.1 hc.2).1.1.2
    have ok := (hI.1.1.1.2.2.1 r hc.1 hc.2).1.1
    have eV : z (5, 0, r) 1 = sB (wM A (59 + 13 * r + 0) = 1) := by
      rw [eC, Int.add_zero]
      by_cases w : wM A (59 + 13 * r) = 1
      · rw [sB_1 w, w]
      · rw [sB_0 w]; omega
    refine q0_C ?_
    refine aM1_of kX6_isComplete rfl (fun B hB => ?_)
    refine hB [] 1000 _ _ _ _ _ ?_
    repeat' (first | exact hR | exact fC.rf _ | refine Or.inl (uEp (cK_runNumbered hr (by omega) hR hI hc) ?_) | refine And.intro ?_ ?_ | (intro hh; first | exact absurd hh (by decide) | exact absurd rfl hh | (exfalso; omega) | skip) | fail)
    all_goals first | omega | (exact rfl) | (exact hR) | (exact fC.rf _) | (exact Nat.le_refl _) | (exact Or.inl rfl) | (exact Or.inr rfl) | (rw [eV])
  · rw [if_neg hc]
    refine q1_C (by decide) ?_
    refine aMX_of kX6_isComplete rfl (fun B hB => ?_)
    refine hB [] 1000 _ _ _ _ _ ?_
    repeat' (first | exact hR | exact fC.rf _ | exact (Or.inr (Or.inl ⟨⟨Nat.le_refl _, Nat.le_refl _⟩, uX (cK_runNumberedX hr (by omega) hR hI hc) (fun x z' q => ⟨rfl, by rw [q.1]; rfl, by rw [q.2]; exact hR, by rw [q.2]; exact fC.rf _⟩)⟩)) | refine And.intro ?_ ?_ | (intro hh; first | exact absurd hh (by decide) | exact absurd rfl hh | (exfalso; omega) | skip) | fail)
    all_goals first | omega | (exact rfl) | (exact hR) | (exact fC.rf _) | (exact Nat.le_refl _) | (exact Or.inl rfl) | (exact Or.inr rfl)
theorem cT_hasPassed {r k : Int} (hr : aIR r) (hk : aIR k) (hd : 10 ≤ d) (hR : RelC z A) (hI : InvW A) : cOp [2] l g nX6_hasPassed d [.inr (.inr (.inl (0, 0, 0))), .inl r, .inl k] z (qPassed r k A) := by
  have cc := hI.1.1.1.1.1
  have ct := hI.1.1.1.1.2.1
  have e4 : z (2, 0, 0) 4 = wM A 0 := hR.1.1.1.1.2.2.1
  have e8 : z (2, 0, 0) 8 = wM A 1 := hR.1.1.1.1.2.2.2
  have e2 : z (2, 0, 0) 2 = wM A 5 := hR.1.1.1.1.2.1.1
  have e3 : z (2, 0, 0) 3 = wM A 6 := hR.1.1.1.1.2.1.2
  have n2 : z (1, 0, 0) 2 = wM A 2 := hR.1.1.2.2.1.1
  have n3 : z (1, 0, 0) 3 = (if wM A 7 = -1 then 0 else 1) := hR.1.1.2.2.1.2
  have n9 : -1 ≤ wM A 7 ∧ wM A 7 < 8 := by rcases hI.1.1.1.2.1 with q | q <;> omega
  have lr := hr
  unfold aIR at lr
  have lk := hk
  unfold aIR at lk
  unfold qPassed
  by_cases hc : isN (wM A) r ∧ isG (wM A) k
  · rw [if_pos hc]
    have hc1 := hc.1.1
    have hc2 := hc.1.2
    have hc3 := hc.2.1
    have hc4 := hc.2.2
    have eP := (hR.1.1.2.1 r hc.1.1 hc.1.2).1.2.2
    have ok := (hI.1.1.1.2.2.1 r hc.1.1 hc.1.2).1.2.2
    have ip := cK_isGatePassed (l := l) (g := g) (d := d - 1) (z := z) (s := 0) (r := r) (k := k) (by omega) (by omega) (by omega) (by omega)
    rw [eP] at ip
    refine q0_C ?_
    refine aM1_of kX6_hasPassed rfl (fun B hB => ?_)
    refine hB [] 1000 _ _ _ _ _ ?_
    repeat' (first | exact hR | exact fC.rf _ | refine Or.inl (uEp (cK_runNumbered hr (by omega) hR hI hc.1) ?_) | refine Or.inl (uE0 (cK_requireGate hk (by omega) hR hI hc.2) ?_) | refine Or.inl (uB ip ?_ ?_) | refine And.intro ?_ ?_ | (intro hh; first | exact absurd hh (by decide) | exact absurd rfl hh | (exfalso; omega) | skip) | fail)
    all_goals first | omega | (exact rfl) | (exact hR) | (exact fC.rf _) | (exact Nat.le_refl _) | (exact Or.inl rfl) | (exact Or.inr rfl) | (exact sB_s1 (by assumption)) | (exact sB_s0 (by assumption))
  · rw [if_neg hc]
    refine q1_C (by decide) ?_
    refine aMX_of kX6_hasPassed rfl (fun B hB => ?_)
    by_cases hw : isN (wM A) r
    · refine hB [] 1000 _ _ _ _ _ ?_
      repeat' (first | exact hR | exact fC.rf _ | refine Or.inl (uEp (cK_runNumbered hr (by omega) hR hI hw) ?_) | exact (Or.inr (Or.inl ⟨⟨Nat.le_refl _, Nat.le_refl _⟩, uX (cK_requireGateX hk (by omega) hR hI (fun q => hc ⟨hw, q⟩)) (fun x z' q => ⟨rfl, by rw [q.1]; rfl, by rw [q.2]; exact hR, by rw [q.2]; exact fC.rf _⟩)⟩)) | refine And.intro ?_ ?_ | (intro hh; first | exact absurd hh (by decide) | exact absurd rfl hh | (exfalso; omega) | skip) | fail)
      all_goals first | omega | (exact rfl) | (exact hR) | (exact fC.rf _) | (exact Nat.le_refl _) | (exact Or.inl rfl) | (exact Or.inr rfl)
    · refine hB [] 1000 _ _ _ _ _ ?_
      repeat' (first | exact hR | exact fC.rf _ | exact (Or.inr (Or.inl ⟨⟨Nat.le_refl _, Nat.le_refl _⟩, uX (cK_runNumberedX hr (by omega) hR hI hw) (fun x z' q => ⟨rfl, by rw [q.1]; rfl, by rw [q.2]; exact hR, by rw [q.2]; exact fC.rf _⟩)⟩)) | refine And.intro ?_ ?_ | (intro hh; first | exact absurd hh (by decide) | exact absurd rfl hh | (exfalso; omega) | skip) | fail)
      all_goals first | omega | (exact rfl) | (exact hR) | (exact fC.rf _) | (exact Nat.le_refl _) | (exact Or.inl rfl) | (exact Or.inr rfl)
theorem cT_presentLeg  (hd : 10 ≤ d) (hR : RelC z A) (hI : InvW A) : cOp [1] l g nX6_presentLeg d [.inr (.inr (.inl (0, 0, 0)))] z (qGoing (wM A 8) A) := by
  have cc := hI.1.1.1.1.1
  have ct := hI.1.1.1.1.2.1
  have e4 : z (2, 0, 0) 4 = wM A 0 := hR.1.1.1.1.2.2.1
  have e8 : z (2, 0, 0) 8 = wM A 1 := hR.1.1.1.1.2.2.2
  have e2 : z (2, 0, 0) 2 = wM A 5 := hR.1.1.1.1.2.1.1
  have e3 : z (2, 0, 0) 3 = wM A 6 := hR.1.1.1.1.2.1.2
  have n2 : z (1, 0, 0) 2 = wM A 2 := hR.1.1.2.2.1.1
  have n3 : z (1, 0, 0) 3 = (if wM A 7 = -1 then 0 else 1) := hR.1.1.2.2.1.2
  have n9 : -1 ≤ wM A 7 ∧ wM A 7 < 8 := by rcases hI.1.1.1.2.1 with q | q <;> omega
  unfold qGoing
  by_cases hc : wM A 7 = -1
  · rw [if_pos hc]
    refine q1_C (by decide) ?_
    refine aMX_of kX6_presentLeg rfl (fun B hB => ?_)
    refine hB [] 1000 _ _ _ _ _ ?_
    repeat' (first | exact hR | exact fC.rf _ | exact (Or.inr (Or.inl ⟨⟨Nat.le_refl _, Nat.le_refl _⟩, uX (cK_requireRunningX (by omega) hR hI (fun n => n hc)) (fun x z' q => ⟨rfl, by rw [q.1]; rfl, by rw [q.2]; exact hR, by rw [q.2]; exact fC.rf _⟩)⟩)) | refine And.intro ?_ ?_ | (intro hh; first | exact absurd hh (by decide) | exact absurd rfl hh | (exfalso; omega) | skip) | fail)
    all_goals first | omega | (exact rfl) | (exact hR) | (exact fC.rf _) | (exact Nat.le_refl _) | (exact Or.inl rfl) | (exact Or.inr rfl)
  · rw [if_neg hc]
    have eV := (hR.1.1.go hI.1.1.1 hc).1.2.1
    refine q0_C ?_
    refine aM1_of kX6_presentLeg rfl (fun B hB => ?_)
    refine hB [] 1000 _ _ _ _ _ ?_
    repeat' (first | exact hR | exact fC.rf _ | refine Or.inl (uE0 (cK_requireRunning (by omega) hR hI hc) ?_) | refine And.intro ?_ ?_ | (intro hh; first | exact absurd hh (by decide) | exact absurd rfl hh | (exfalso; omega) | skip) | fail)
    all_goals first | omega | (exact rfl) | (exact hR) | (exact fC.rf _) | (exact Nat.le_refl _) | (exact Or.inl rfl) | (exact Or.inr rfl) | (rw [eV])
theorem cT_flockX  (hd : 10 ≤ d) (hR : RelC z A) (hI : InvW A) : cOp [1] l g nX6_flockX d [.inr (.inr (.inl (0, 0, 0)))] z (qGoing (wM A 9) A) := by
  have cc := hI.1.1.1.1.1
  have ct := hI.1.1.1.1.2.1
  have e4 : z (2, 0, 0) 4 = wM A 0 := hR.1.1.1.1.2.2.1
  have e8 : z (2, 0, 0) 8 = wM A 1 := hR.1.1.1.1.2.2.2
  have e2 : z (2, 0, 0) 2 = wM A 5 := hR.1.1.1.1.2.1.1
  have e3 : z (2, 0, 0) 3 = wM A 6 := hR.1.1.1.1.2.1.2
  have n2 : z (1, 0, 0) 2 = wM A 2 := hR.1.1.2.2.1.1
  have n3 : z (1, 0, 0) 3 = (if wM A 7 = -1 then 0 else 1) := hR.1.1.2.2.1.2
  have n9 : -1 ≤ wM A 7 ∧ wM A 7 < 8 := by rcases hI.1.1.1.2.1 with q | q <;> omega
  unfold qGoing
  by_cases hc : wM A 7 = -1
  · rw [if_pos hc]
    refine q1_C (by decide) ?_
    refine aMX_of kX6_flockX rfl (fun B hB => ?_)
    refine hB [] 1000 _ _ _ _ _ ?_
    repeat' (first | exact hR | exact fC.rf _ | exact (Or.inr (Or.inl ⟨⟨Nat.le_refl _, Nat.le_refl _⟩, uX (cK_requireRunningX (by omega) hR hI (fun n => n hc)) (fun x z' q => ⟨rfl, by rw [q.1]; rfl, by rw [q.2]; exact hR, by rw [q.2]; exact fC.rf _⟩)⟩)) | refine And.intro ?_ ?_ | (intro hh; first | exact absurd hh (by decide) | exact absurd rfl hh | (exfalso; omega) | skip) | fail)
    all_goals first | omega | (exact rfl) | (exact hR) | (exact fC.rf _) | (exact Nat.le_refl _) | (exact Or.inl rfl) | (exact Or.inr rfl)
  · rw [if_neg hc]
    have eV := (hR.1.1.go hI.1.1.1 hc).1.2.2.1
    refine q0_C ?_
    refine aM1_of kX6_flockX rfl (fun B hB => ?_)
    refine hB [] 1000 _ _ _ _ _ ?_
    repeat' (first | exact hR | exact fC.rf _ | refine Or.inl (uE0 (cK_requireRunning (by omega) hR hI hc) ?_) | refine And.intro ?_ ?_ | (intro hh; first | exact absurd hh (by decide) | exact absurd rfl hh | (exfalso; omega) | skip) | fail)
    all_goals first | omega | (exact rfl) | (exact hR) | (exact fC.rf _) | (exact Nat.le_refl _) | (exact Or.inl rfl) | (exact Or.inr rfl) | (rw [eV])
theorem cT_flockY  (hd : 10 ≤ d) (hR : RelC z A) (hI : InvW A) : cOp [1] l g nX6_flockY d [.inr (.inr (.inl (0, 0, 0)))] z (qGoing (wM A 10) A) := by
  have cc := hI.1.1.1.1.1
  have ct := hI.1.1.1.1.2.1
  have e4 : z (2, 0, 0) 4 = wM A 0 := hR.1.1.1.1.2.2.1
  have e8 : z (2, 0, 0) 8 = wM A 1 := hR.1.1.1.1.2.2.2
  have e2 : z (2, 0, 0) 2 = wM A 5 := hR.1.1.1.1.2.1.1
  have e3 : z (2, 0, 0) 3 = wM A 6 := hR.1.1.1.1.2.1.2
  have n2 : z (1, 0, 0) 2 = wM A 2 := hR.1.1.2.2.1.1
  have n3 : z (1, 0, 0) 3 = (if wM A 7 = -1 then 0 else 1) := hR.1.1.2.2.1.2
  have n9 : -1 ≤ wM A 7 ∧ wM A 7 < 8 := by rcases hI.1.1.1.2.1 with q | q <;> omega
  unfold qGoing
  by_cases hc : wM A 7 = -1
  · rw [if_pos hc]
    refine q1_C (by decide) ?_
    refine aMX_of kX6_flockY rfl (fun B hB => ?_)
    refine hB [] 1000 _ _ _ _ _ ?_
    repeat' (first | exact hR | exact fC.rf _ | exact (Or.inr (Or.inl ⟨⟨Nat.le_refl _, Nat.le_refl _⟩, uX (cK_requireRunningX (by omega) hR hI (fun n => n hc)) (fun x z' q => ⟨rfl, by rw [q.1]; rfl, by rw [q.2]; exact hR, by rw [q.2]; exact fC.rf _⟩)⟩)) | refine And.intro ?_ ?_ | (intro hh; first | exact absurd hh (by decide) | exact absurd rfl hh | (exfalso; omega) | skip) | fail)
    all_goals first | omega | (exact rfl) | (exact hR) | (exact fC.rf _) | (exact Nat.le_refl _) | (exact Or.inl rfl) | (exact Or.inr rfl)
  · rw [if_neg hc]
    have eV := (hR.1.1.go hI.1.1.1 hc).1.2.2.2
    refine q0_C ?_
    refine aM1_of kX6_flockY rfl (fun B hB => ?_)
    refine hB [] 1000 _ _ _ _ _ ?_
    repeat' (first | exact hR | exact fC.rf _ | refine Or.inl (uE0 (cK_requireRunning (by omega) hR hI hc) ?_) | refine And.intro ?_ ?_ | (intro hh; first | exact absurd hh (by decide) | exact absurd rfl hh | (exfalso; omega) | skip) | fail)
    all_goals first | omega | (exact rfl) | (exact hR) | (exact fC.rf _) | (exact Nat.le_refl _) | (exact Or.inl rfl) | (exact Or.inr rfl) | (rw [eV])
theorem cT_nextGate  (hd : 10 ≤ d) (hR : RelC z A) (hI : InvW A) : cOp [1, 3] l g nX6_nextGate d [.inr (.inr (.inl (0, 0, 0)))] z (qNext A) := by
  have cc := hI.1.1.1.1.1
  have ct := hI.1.1.1.1.2.1
  have e4 : z (2, 0, 0) 4 = wM A 0 := hR.1.1.1.1.2.2.1
  have e8 : z (2, 0, 0) 8 = wM A 1 := hR.1.1.1.1.2.2.2
  have e2 : z (2, 0, 0) 2 = wM A 5 := hR.1.1.1.1.2.1.1
  have e3 : z (2, 0, 0) 3 = wM A 6 := hR.1.1.1.1.2.1.2
  have n2 : z (1, 0, 0) 2 = wM A 2 := hR.1.1.2.2.1.1
  have n3 : z (1, 0, 0) 3 = (if wM A 7 = -1 then 0 else 1) := hR.1.1.2.2.1.2
  have n9 : -1 ≤ wM A 7 ∧ wM A 7 < 8 := by rcases hI.1.1.1.2.1 with q | q <;> omega
  unfold qNext
  by_cases hc : wM A 7 = -1
  · rw [if_pos hc]
    refine q1_C (by decide) ?_
    refine aMX_of kX6_nextGate rfl (fun B hB => ?_)
    refine hB [] 1000 _ _ _ _ _ ?_
    repeat' (first | exact hR | exact fC.rf _ | exact (Or.inr (Or.inl ⟨⟨Nat.le_refl _, Nat.le_refl _⟩, uX (cK_requireRunningX (by omega) hR hI (fun n => n hc)) (fun x z' q => ⟨rfl, by rw [q.1]; rfl, by rw [q.2]; exact hR, by rw [q.2]; exact fC.rf _⟩)⟩)) | refine And.intro ?_ ?_ | (intro hh; first | exact absurd hh (by decide) | exact absurd rfl hh | (exfalso; omega) | skip) | fail)
    all_goals first | omega | (exact rfl) | (exact hR) | (exact fC.rf _) | (exact Nat.le_refl _) | (exact Or.inl rfl) | (exact Or.inr rfl)
  · rw [if_neg hc]
    have fg := cK_firstOpenGate (l := l) (g := g) (d := d - 1) (by omega) hR.1.1 hI.1.1.1 hc
    have fb := sFs_B (a := wM A) (wM A 1).toNat 0
    by_cases hw : sFs (wM A) (wM A 1).toNat 0 = -1
    · rw [if_pos hw]
      refine q1_C (by decide) ?_
      refine aMX_of kX6_nextGate rfl (fun B hB => ?_)
      refine hB [] 1000 _ _ _ _ _ ?_
      repeat' (first | exact hR | exact fC.rf _ | refine Or.inl (uE0 (cK_requireRunning (by omega) hR hI hc) ?_) | refine Or.inl (uE fg ?_) | refine And.intro ?_ ?_ | (intro hh; first | exact absurd hh (by decide) | exact absurd rfl hh | (exfalso; omega) | skip) | fail)
      all_goals first | omega | (exact rfl) | (exact hR) | (exact fC.rf _) | (exact Nat.le_refl _) | (exact Or.inl rfl) | (exact Or.inr rfl)
    · rw [if_neg hw]
      refine q0_C ?_
      refine aM1_of kX6_nextGate rfl (fun B hB => ?_)
      refine hB [] 1000 _ _ _ _ _ ?_
      repeat' (first | exact hR | exact fC.rf _ | refine Or.inl (uE0 (cK_requireRunning (by omega) hR hI hc) ?_) | refine Or.inl (uE fg ?_) | refine And.intro ?_ ?_ | (intro hh; first | exact absurd hh (by decide) | exact absurd rfl hh | (exfalso; omega) | skip) | fail)
      all_goals first | omega | (exact rfl) | (exact hR) | (exact fC.rf _) | (exact Nat.le_refl _) | (exact Or.inl rfl) | (exact Or.inr rfl)
theorem cT_gatesPassedTo {x y : Int} (hx : aIR x) (hy : aIR y) (hd : 10 ≤ d) (hR : RelC z A) (hI : InvW A) : cOp [0, 1] l g nX6_gatesPassedTo d [.inr (.inr (.inl (0, 0, 0))), .inl x, .inl y] z (qPassedTo x y A) := by
  have cc := hI.1.1.1.1.1
  have ct := hI.1.1.1.1.2.1
  have e4 : z (2, 0, 0) 4 = wM A 0 := hR.1.1.1.1.2.2.1
  have e8 : z (2, 0, 0) 8 = wM A 1 := hR.1.1.1.1.2.2.2
  have e2 : z (2, 0, 0) 2 = wM A 5 := hR.1.1.1.1.2.1.1
  have e3 : z (2, 0, 0) 3 = wM A 6 := hR.1.1.1.1.2.1.2
  have n2 : z (1, 0, 0) 2 = wM A 2 := hR.1.1.2.2.1.1
  have n3 : z (1, 0, 0) 3 = (if wM A 7 = -1 then 0 else 1) := hR.1.1.2.2.1.2
  have n9 : -1 ≤ wM A 7 ∧ wM A 7 < 8 := by rcases hI.1.1.1.2.1 with q | q <;> omega
  have lx := hx
  unfold aIR at lx
  have ly := hy
  unfold aIR at ly
  unfold qPassedTo qAsk
  by_cases hc : sPt x y
  · rw [if_pos hc]
    by_cases hw : wM A 7 = -1
    · rw [if_pos hw]
      refine q1_C (by decide) ?_
      refine aMX_of kX6_gatesPassedTo rfl (fun B hB => ?_)
      refine hB [] 1000 _ _ _ _ _ ?_
      repeat' (first | exact hR | exact fC.rf _ | refine Or.inl (uE0 (cK_requirePoint hx hy (by omega) hc) ?_) | exact (Or.inr (Or.inl ⟨⟨Nat.le_refl _, Nat.le_refl _⟩, uX (cK_requireRunningX (by omega) hR hI (fun n => n hw)) (fun x z' q => ⟨rfl, by rw [q.1]; rfl, by rw [q.2]; exact hR, by rw [q.2]; exact fC.rf _⟩)⟩)) | refine And.intro ?_ ?_ | (intro hh; first | exact absurd hh (by decide) | exact absurd rfl hh | (exfalso; omega) | skip) | fail)
      all_goals first | omega | (exact rfl) | (exact hR) | (exact fC.rf _) | (exact Nat.le_refl _) | (exact Or.inl rfl) | (exact Or.inr rfl)
    · rw [if_neg hw]
      have fd := cK_freshDraft (l := l) (g := g) (d := d - 1) (by omega) hR hI
      refine q0_C ?_
      refine aM1_of kX6_gatesPassedTo rfl (fun B hB => ?_)
      have l13 : ∀ z1, Sim z1 1 (wM A) → fS 1 z z1 → B (none, 0, 0) z1 13 [some (.inr (.inr (.inl (0, 0, 0)))), some (.inl x), some (.inl y)] [.inr (.inr (.inl (1, 1, 0)))] := by
        intro z1 s1 f1
        have pg := cK_passGates (l := l) (g := g) (d := d - 1) (by omega) s1 hI.1.1.1 hw hc
        refine hB [] 1000 _ _ _ _ _ ?_
        repeat' (first | (intro r2 z2 hz2; obtain ⟨rfl, -, q3⟩ := hz2; exact ⟨rfl, rfl, (hR.dr f1).dr q3, f1.fC.tr q3.fC⟩) | refine And.intro ?_ ?_ | (intro hh; first | exact absurd hh (by decide) | exact absurd rfl hh | (exfalso; omega) | skip) | refine Or.inl (uA pg ?_) | fail)
        all_goals first | omega | (exact rfl)
      refine hB [13] 1000 _ _ _ _ _ ?_
      repeat' (first | (intro q1 z1 hz1; obtain ⟨rfl, s1, f1⟩ := hz1; exact l13 z1 s1 f1) | refine And.intro ?_ ?_ | (intro hh; first | exact absurd hh (by decide) | exact absurd rfl hh | (exfalso; omega) | skip) | refine Or.inl (uE0 (cK_requirePoint hx hy (by omega) hc) ?_) | refine Or.inl (uE0 (cK_requireRunning (by omega) hR hI hw) ?_) | refine Or.inl (uP fd ?_) | fail)
      all_goals first | omega | (exact rfl)
  · rw [if_neg hc]
    refine q1_C (by decide) ?_
    refine aMX_of kX6_gatesPassedTo rfl (fun B hB => ?_)
    refine hB [] 1000 _ _ _ _ _ ?_
    repeat' (first | exact hR | exact fC.rf _ | exact (Or.inr (Or.inl ⟨⟨Nat.le_refl _, Nat.le_refl _⟩, uX (cK_requirePointX hx hy (by omega) hc) (fun x z' q => ⟨rfl, by rw [q.1]; rfl, by rw [q.2]; exact hR, by rw [q.2]; exact fC.rf _⟩)⟩)) | refine And.intro ?_ ?_ | (intro hh; first | exact absurd hh (by decide) | exact absurd rfl hh | (exfalso; omega) | skip) | fail)
    all_goals first | omega | (exact rfl) | (exact hR) | (exact fC.rf _) | (exact Nat.le_refl _) | (exact Or.inl rfl) | (exact Or.inr rfl)
theorem cT_isOffLine {x y : Int} (hx : aIR x) (hy : aIR y) (hd : 10 ≤ d) (hR : RelC z A) (hI : InvW A) : cOp [0, 1] l g nX6_isOffLine d [.inr (.inr (.inl (0, 0, 0))), .inl x, .inl y] z (qOff x y A) := by
  have cc := hI.1.1.1.1.1
  have ct := hI.1.1.1.1.2.1
  have e4 : z (2, 0, 0) 4 = wM A 0 := hR.1.1.1.1.2.2.1
  have e8 : z (2, 0, 0) 8 = wM A 1 := hR.1.1.1.1.2.2.2
  have e2 : z (2, 0, 0) 2 = wM A 5 := hR.1.1.1.1.2.1.1
  have e3 : z (2, 0, 0) 3 = wM A 6 := hR.1.1.1.1.2.1.2
  have n2 : z (1, 0, 0) 2 = wM A 2 := hR.1.1.2.2.1.1
  have n3 : z (1, 0, 0) 3 = (if wM A 7 = -1 then 0 else 1) := hR.1.1.2.2.1.2
  have n9 : -1 ≤ wM A 7 ∧ wM A 7 < 8 := by rcases hI.1.1.1.2.1 with q | q <;> omega
  have lx := hx
  unfold aIR at lx
  have ly := hy
  unfold aIR at ly
  unfold qOff qAsk
  by_cases hc : sPt x y
  · rw [if_pos hc]
    by_cases hw : wM A 7 = -1
    · rw [if_pos hw]
      refine q1_C (by decide) ?_
      refine aMX_of kX6_isOffLine rfl (fun B hB => ?_)
      refine hB [] 1000 _ _ _ _ _ ?_
      repeat' (first | exact hR | exact fC.rf _ | refine Or.inl (uE0 (cK_requirePoint hx hy (by omega) hc) ?_) | exact (Or.inr (Or.inl ⟨⟨Nat.le_refl _, Nat.le_refl _⟩, uX (cK_requireRunningX (by omega) hR hI (fun n => n hw)) (fun x z' q => ⟨rfl, by rw [q.1]; rfl, by rw [q.2]; exact hR, by rw [q.2]; exact fC.rf _⟩)⟩)) | refine And.intro ?_ ?_ | (intro hh; first | exact absurd hh (by decide) | exact absurd rfl hh | (exfalso; omega) | skip) | fail)
      all_goals first | omega | (exact rfl) | (exact hR) | (exact fC.rf _) | (exact Nat.le_refl _) | (exact Or.inl rfl) | (exact Or.inr rfl)
    · rw [if_neg hw]
      have gg := hI.1.1.1.go hw
      have g4 := (hR.1.1.go hI.1.1.1 hw).1.2.1
      have io : ∀ q : Int, q = wM A 8 → aEb l g nX0_isOffLeg (d - 1) [.inr (.inr (.inl (2, 0, 0))), .inl q, .inl x, .inl y] z (sFar (wM A) x y) := fun q e => by
        rw [e]
        exact cK_isOffLeg (by omega) hR.1.1.1 hI.1.1.1.1 gg.2.1.1 gg.2.1.2 hc
      refine q0_C ?_
      refine aM1_of kX6_isOffLine rfl (fun B hB => ?_)
      refine hB [] 1000 _ _ _ _ _ ?_
      repeat' (first | exact hR | exact fC.rf _ | refine Or.inl (uE0 (cK_requirePoint hx hy (by omega) hc) ?_) | refine Or.inl (uE0 (cK_requireRunning (by omega) hR hI hw) ?_) | refine Or.inl (uB (io _ g4) ?_ ?_) | refine And.intro ?_ ?_ | (intro hh; first | exact absurd hh (by decide) | exact absurd rfl hh | (exfalso; omega) | skip) | fail)
      all_goals first | omega | (exact rfl) | (exact hR) | (exact fC.rf _) | (exact Nat.le_refl _) | (exact Or.inl rfl) | (exact Or.inr rfl) | (exact sB_s1 (by assumption)) | (exact sB_s0 (by assumption))
  · rw [if_neg hc]
    refine q1_C (by decide) ?_
    refine aMX_of kX6_isOffLine rfl (fun B hB => ?_)
    refine hB [] 1000 _ _ _ _ _ ?_
    repeat' (first | exact hR | exact fC.rf _ | exact (Or.inr (Or.inl ⟨⟨Nat.le_refl _, Nat.le_refl _⟩, uX (cK_requirePointX hx hy (by omega) hc) (fun x z' q => ⟨rfl, by rw [q.1]; rfl, by rw [q.2]; exact hR, by rw [q.2]; exact fC.rf _⟩)⟩)) | refine And.intro ?_ ?_ | (intro hh; first | exact absurd hh (by decide) | exact absurd rfl hh | (exfalso; omega) | skip) | fail)
    all_goals first | omega | (exact rfl) | (exact hR) | (exact fC.rf _) | (exact Nat.le_refl _) | (exact Or.inl rfl) | (exact Or.inr rfl)
theorem cT_lossOfStep {x y s : Int} (hx : aIR x) (hy : aIR y) (hs : aIR s) (hd : 10 ≤ d) (hR : RelC z A) (hI : InvW A) : cOp [0, 1] l g nX6_lossOfStep d [.inr (.inr (.inl (0, 0, 0))), .inl x, .inl y, .inl s] z (qLoss x y s A) := by
  have cc := hI.1.1.1.1.1
  have ct := hI.1.1.1.1.2.1
  have e4 : z (2, 0, 0) 4 = wM A 0 := hR.1.1.1.1.2.2.1
  have e8 : z (2, 0, 0) 8 = wM A 1 := hR.1.1.1.1.2.2.2
  have e2 : z (2, 0, 0) 2 = wM A 5 := hR.1.1.1.1.2.1.1
  have e3 : z (2, 0, 0) 3 = wM A 6 := hR.1.1.1.1.2.1.2
  have n2 : z (1, 0, 0) 2 = wM A 2 := hR.1.1.2.2.1.1
  have n3 : z (1, 0, 0) 3 = (if wM A 7 = -1 then 0 else 1) := hR.1.1.2.2.1.2
  have n9 : -1 ≤ wM A 7 ∧ wM A 7 < 8 := by rcases hI.1.1.1.2.1 with q | q <;> omega
  have lx := hx
  unfold aIR at lx
  have ly := hy
  unfold aIR at ly
  have ls := hs
  unfold aIR at ls
  unfold qLoss
  have fd := cK_freshDraft (l := l) (g := g) (d := d - 1) (by omega) hR hI
  have hvv : (cWalk x y s (wM A)).1 = 0 → 0 ≤ (cWalk x y s (wM A)).2.1 ∧ (cWalk x y s (wM A)).2.1 ≤ 1000 := exC_v (c := fun i => if i = 0 then 6 else if i = 1 then x else if i = 2 then y else if i = 3 then s else 0) (a := wM A) hI.1.1
  have ht : (cWalk x y s (wM A)).1 = 0 ∨ (cWalk x y s (wM A)).1 = 1 ∨ (cWalk x y s (wM A)).1 = 2 := by
    unfold cWalk
    (repeat' split) <;> first | exact Or.inl rfl | exact Or.inr (Or.inl rfl) | exact Or.inr (Or.inr rfl)
  refine ⟨fun e => ?_, fun e => ?_⟩
  · have e : (cWalk x y s (wM A)).1 = 0 := e
    have vv := hvv e
    refine aM1_of kX6_lossOfStep rfl (fun B hB => ?_)
    have l10 : ∀ z1 z2, fS 1 z z1 → fS 1 z1 z2 → B (none, 0, 0) z2 10 [some (.inr (.inr (.inl (0, 0, 0)))), some (.inl x), some (.inl y), some (.inl s)] [.inl ((cWalk x y s (wM A)).2.1)] := by
      intro z1 z2 f1 q3
      have ac := cK_accepted (l := l) (g := g) (d := d - 1) (z := z2) (v := (cWalk x y s (wM A)).2.1) (by unfold aIR; omega) vv.1
      refine hB [] 1000 _ _ _ _ _ ?_
      repeat' (first | exact ⟨rfl, rfl, (hR.dr f1).dr q3, f1.fC.tr q3.fC⟩ | refine Or.inl (uE ac ?_) | refine And.intro ?_ ?_ | (intro hh; first | exact absurd hh (by decide) | exact absurd rfl hh | (exfalso; omega) | skip) | fail)
      all_goals first | omega | (exact rfl)
    have l4 : ∀ z1, Sim z1 1 (wM A) → fS 1 z z1 → B (none, 0, 0) z1 4 [some (.inr (.inr (.inl (0, 0, 0)))), some (.inl x), some (.inl y), some (.inl s)] [.inr (.inr (.inl (1, 1, 0)))] := by
      intro z1 s1 f1
      have cm := cK_makeStep (l := l) (g := g) (d := d - 1) (by omega) s1 hI.1.1 hx hy hs
      unfold sOp at cm
      refine hB [10] 1000 _ _ _ _ _ ?_
      repeat' (first | (intro r2 z2 hz2; obtain ⟨⟨q1, -⟩, q3⟩ := hz2; obtain ⟨rfl, q4⟩ := q1 e; exact l10 z1 z2 f1 q3) | refine And.intro ?_ ?_ | (intro hh; first | exact absurd hh (by decide) | exact absurd rfl hh | (exfalso; omega) | skip) | refine Or.inl (uA cm ?_) | fail)
      all_goals first | omega | (exact rfl)
    refine hB [4] 1000 _ _ _ _ _ ?_
    repeat' (first | (intro q1 z1 hz1; obtain ⟨rfl, s1, f1⟩ := hz1; exact l4 z1 s1 f1) | refine And.intro ?_ ?_ | (intro hh; first | exact absurd hh (by decide) | exact absurd rfl hh | (exfalso; omega) | skip) | refine Or.inl (uP fd ?_) | fail)
    all_goals first | omega | (exact rfl)
  · have e : (cWalk x y s (wM A)).1 ≠ 0 := e
    have cv : cdA (cWalk x y s (wM A)).1 = -1 ∨ cdA (cWalk x y s (wM A)).1 = -2 ∨ cdA (cWalk x y s (wM A)).1 = -3 := by unfold cdA; omega
    have cx : xOf (cdA (cWalk x y s (wM A)).1) = [0, 1].getD ((cWalk x y s (wM A)).1 - 1).toNat 0 := by
      rcases ht with t | t | t
      · exact absurd t e
      · rw [t]; rfl
      · rw [t]; rfl
    refine aMX_of kX6_lossOfStep rfl (fun B hB => ?_)
    have l10 : ∀ z1 z2, fS 1 z z1 → fS 1 z1 z2 → B (none, 0, 0) z2 10 [some (.inr (.inr (.inl (0, 0, 0)))), some (.inl x), some (.inl y), some (.inl s)] [.inl (cdA (cWalk x y s (wM A)).1)] := by
      intro z1 z2 f1 q3
      have ac := cK_acceptedX (l := l) (g := g) (d := d - 1) (z := z2) cv (by omega)
      refine hB [] 1000 _ _ _ _ _ ?_
      repeat' (first | exact (Or.inr (Or.inl ⟨⟨Nat.le_refl _, Nat.le_refl _⟩, uX ac (fun x z3 q => ⟨rfl, by rw [q.1, cx], by rw [q.2]; exact (hR.dr f1).dr q3, by rw [q.2]; exact f1.fC.tr q3.fC⟩)⟩)) | refine And.intro ?_ ?_ | (intro hh; first | exact absurd hh (by decide) | exact absurd rfl hh | (exfalso; omega) | skip) | fail)
      all_goals first | omega | (exact rfl)
    have l4 : ∀ z1, Sim z1 1 (wM A) → fS 1 z z1 → B (none, 0, 0) z1 4 [some (.inr (.inr (.inl (0, 0, 0)))), some (.inl x), some (.inl y), some (.inl s)] [.inr (.inr (.inl (1, 1, 0)))] := by
      intro z1 s1 f1
      have cm := cK_makeStep (l := l) (g := g) (d := d - 1) (by omega) s1 hI.1.1 hx hy hs
      unfold sOp at cm
      refine hB [10] 1000 _ _ _ _ _ ?_
      repeat' (first | (intro r2 z2 hz2; obtain ⟨⟨-, q1⟩, q3⟩ := hz2; obtain rfl := q1 e; exact l10 z1 z2 f1 q3) | refine And.intro ?_ ?_ | (intro hh; first | exact absurd hh (by decide) | exact absurd rfl hh | (exfalso; omega) | skip) | refine Or.inl (uA cm ?_) | fail)
      all_goals first | omega | (exact rfl)
    refine hB [4] 1000 _ _ _ _ _ ?_
    repeat' (first | (intro q1 z1 hz1; obtain ⟨rfl, s1, f1⟩ := hz1; exact l4 z1 s1 f1) | refine And.intro ?_ ?_ | (intro hh; first | exact absurd hh (by decide) | exact absurd rfl hh | (exfalso; omega) | skip) | refine Or.inl (uP fd ?_) | fail)
    all_goals first | omega | (exact rfl)
theorem cT_bestOn {k : Int} (hk : aIR k) (hd : 10 ≤ d) (hR : RelC z A) (hI : InvW A) : cOp [2, 3] l g nX6_bestOn d [.inr (.inr (.inl (0, 0, 0))), .inl k] z (qBest k A) := by
  have cc := hI.1.1.1.1.1
  have ct := hI.1.1.1.1.2.1
  have e4 : z (2, 0, 0) 4 = wM A 0 := hR.1.1.1.1.2.2.1
  have e8 : z (2, 0, 0) 8 = wM A 1 := hR.1.1.1.1.2.2.2
  have e2 : z (2, 0, 0) 2 = wM A 5 := hR.1.1.1.1.2.1.1
  have e3 : z (2, 0, 0) 3 = wM A 6 := hR.1.1.1.1.2.1.2
  have n2 : z (1, 0, 0) 2 = wM A 2 := hR.1.1.2.2.1.1
  have n3 : z (1, 0, 0) 3 = (if wM A 7 = -1 then 0 else 1) := hR.1.1.2.2.1.2
  have n9 : -1 ≤ wM A 7 ∧ wM A 7 < 8 := by rcases hI.1.1.1.2.1 with q | q <;> omega
  have lk := hk
  unfold aIR at lk
  unfold qBest
  by_cases hc : isL (wM A) k
  · rw [if_pos hc]
    have hc1 := hc.1
    have hc2 := hc.2
    by_cases hw : wM A 2 = 0
    · rw [if_pos hw]
      refine q1_C (by decide) ?_
      refine aMX_of kX6_bestOn rfl (fun B hB => ?_)
      refine hB [] 1000 _ _ _ _ _ ?_
      repeat' (first | exact hR | exact fC.rf _ | refine Or.inl (uE0 (cK_requireLeg hk (by omega) hR hI hc) ?_) | refine And.intro ?_ ?_ | (intro hh; first | exact absurd hh (by decide) | exact absurd rfl hh | (exfalso; omega) | skip) | fail)
      all_goals first | omega | (exact rfl) | (exact hR) | (exact fC.rf _) | (exact Nat.le_refl _) | (exact Or.inl rfl) | (exact Or.inr rfl)
    · rw [if_neg hw]
      have bb := cK_bestRunOn (l := l) (g := g) (d := d - 1) hR.1.1 hI.1.1.1 hc.1 hc.2 (by omega)
      refine q0_C ?_
      refine aM1_of kX6_bestOn rfl (fun B hB => ?_)
      refine hB [] 1000 _ _ _ _ _ ?_
      repeat' (first | exact hR | exact fC.rf _ | refine Or.inl (uE0 (cK_requireLeg hk (by omega) hR hI hc) ?_) | refine Or.inl (uE bb ?_) | refine And.intro ?_ ?_ | (intro hh; first | exact absurd hh (by decide) | exact absurd rfl hh | (exfalso; omega) | skip) | fail)
      all_goals first | omega | (exact rfl) | (exact hR) | (exact fC.rf _) | (exact Nat.le_refl _) | (exact Or.inl rfl) | (exact Or.inr rfl)
  · rw [if_neg hc]
    refine q1_C (by decide) ?_
    refine aMX_of kX6_bestOn rfl (fun B hB => ?_)
    refine hB [] 1000 _ _ _ _ _ ?_
    repeat' (first | exact hR | exact fC.rf _ | exact (Or.inr (Or.inl ⟨⟨Nat.le_refl _, Nat.le_refl _⟩, uX (cK_requireLegX hk (by omega) hR hI hc) (fun x z' q => ⟨rfl, by rw [q.1]; rfl, by rw [q.2]; exact hR, by rw [q.2]; exact fC.rf _⟩)⟩)) | refine And.intro ?_ ?_ | (intro hh; first | exact absurd hh (by decide) | exact absurd rfl hh | (exfalso; omega) | skip) | fail)
    all_goals first | omega | (exact rfl) | (exact hR) | (exact fC.rf _) | (exact Nat.le_refl _) | (exact Or.inl rfl) | (exact Or.inr rfl)
theorem cT_errorPosition  (hd : 10 ≤ d) (hR : RelC z A) (hI : InvW A) : cOp [3] l g nX6_errorPosition d [.inr (.inr (.inl (0, 0, 0)))] z (if wE A = -1 then (1, -1, A) else (0, wE A, A)) := by
  have cc := hI.1.1.1.1.1
  have ct := hI.1.1.1.1.2.1
  have e4 : z (2, 0, 0) 4 = wM A 0 := hR.1.1.1.1.2.2.1
  have e8 : z (2, 0, 0) 8 = wM A 1 := hR.1.1.1.1.2.2.2
  have e2 : z (2, 0, 0) 2 = wM A 5 := hR.1.1.1.1.2.1.1
  have e3 : z (2, 0, 0) 3 = wM A 6 := hR.1.1.1.1.2.1.2
  have n2 : z (1, 0, 0) 2 = wM A 2 := hR.1.1.2.2.1.1
  have n3 : z (1, 0, 0) 3 = (if wM A 7 = -1 then 0 else 1) := hR.1.1.2.2.1.2
  have n9 : -1 ≤ wM A 7 ∧ wM A 7 < 8 := by rcases hI.1.1.1.2.1 with q | q <;> omega
  have eE := hR.2.2.1.1
  have bE := hI.2.2.1.1
  by_cases hc : wE A = -1
  · rw [if_pos hc]
    refine q1_C (by decide) ?_
    refine aMX_of kX6_errorPosition rfl (fun B hB => ?_)
    refine hB [] 1000 _ _ _ _ _ ?_
    repeat' (first | exact hR | exact fC.rf _ | refine And.intro ?_ ?_ | (intro hh; first | exact absurd hh (by decide) | exact absurd rfl hh | (exfalso; omega) | skip) | fail)
    all_goals first | omega | (exact rfl) | (exact hR) | (exact fC.rf _) | (exact Nat.le_refl _) | (exact Or.inl rfl) | (exact Or.inr rfl)
  · rw [if_neg hc]
    refine q0_C ?_
    refine aM1_of kX6_errorPosition rfl (fun B hB => ?_)
    refine hB [] 1000 _ _ _ _ _ ?_
    repeat' (first | exact hR | exact fC.rf _ | refine And.intro ?_ ?_ | (intro hh; first | exact absurd hh (by decide) | exact absurd rfl hh | (exfalso; omega) | skip) | fail)
    all_goals first | omega | (exact rfl) | (exact hR) | (exact fC.rf _) | (exact Nat.le_refl _) | (exact Or.inl rfl) | (exact Or.inr rfl) | (rw [eE])
theorem cT_failedCommand  (hd : 10 ≤ d) (hR : RelC z A) (hI : InvW A) : cOp [3] l g nX6_failedCommand d [.inr (.inr (.inl (0, 0, 0)))] z (if wF A = -1 then (1, -1, A) else (0, wF A, A)) := by
  have cc := hI.1.1.1.1.1
  have ct := hI.1.1.1.1.2.1
  have e4 : z (2, 0, 0) 4 = wM A 0 := hR.1.1.1.1.2.2.1
  have e8 : z (2, 0, 0) 8 = wM A 1 := hR.1.1.1.1.2.2.2
  have e2 : z (2, 0, 0) 2 = wM A 5 := hR.1.1.1.1.2.1.1
  have e3 : z (2, 0, 0) 3 = wM A 6 := hR.1.1.1.1.2.1.2
  have n2 : z (1, 0, 0) 2 = wM A 2 := hR.1.1.2.2.1.1
  have n3 : z (1, 0, 0) 3 = (if wM A 7 = -1 then 0 else 1) := hR.1.1.2.2.1.2
  have n9 : -1 ≤ wM A 7 ∧ wM A 7 < 8 := by rcases hI.1.1.1.2.1 with q | q <;> omega
  have eE := hR.2.2.1.2
  have bE := hI.2.2.1.2
  by_cases hc : wF A = -1
  · rw [if_pos hc]
    refine q1_C (by decide) ?_
    refine aMX_of kX6_failedCommand rfl (fun B hB => ?_)
    refine hB [] 1000 _ _ _ _ _ ?_
    repeat' (first | exact hR | exact fC.rf _ | refine And.intro ?_ ?_ | (intro hh; first | exact absurd hh (by decide) | exact absurd rfl hh | (exfalso; omega) | skip) | fail)
    all_goals first | omega | (exact rfl) | (exact hR) | (exact fC.rf _) | (exact Nat.le_refl _) | (exact Or.inl rfl) | (exact Or.inr rfl)
  · rw [if_neg hc]
    refine q0_C ?_
    refine aM1_of kX6_failedCommand rfl (fun B hB => ?_)
    refine hB [] 1000 _ _ _ _ _ ?_
    repeat' (first | exact hR | exact fC.rf _ | refine And.intro ?_ ?_ | (intro hh; first | exact absurd hh (by decide) | exact absurd rfl hh | (exfalso; omega) | skip) | fail)
    all_goals first | omega | (exact rfl) | (exact hR) | (exact fC.rf _) | (exact Nat.le_refl _) | (exact Or.inl rfl) | (exact Or.inr rfl) | (rw [eE])

end K15
