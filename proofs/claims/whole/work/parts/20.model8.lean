/-! THE MODEL'S METHODS: the public commands (printed by wip/whole/model8.py) -/
section M8
variable {l : Launch} {g : aG} {d : Nat} {z : aM} {A : aAb}
theorem cM_setStart {x y : Int} (hx : aIR x) (hy : aIR y) (hd : 3 ≤ d) (hR : RelM z A) (hI : InvW A) : mOp l g nX7_setStart d [.inr (.inr (.inl (16, 0, 0))), .inl x, .inl y] z (oCmd (cStart x y) A) := by
  try unfold aIR at *
  have hv0 : vz (z (17, 0, 0)) := by rw [hR.1.1]; exact hI.1.1.1.2.2.2.2
  have hv1 := hR.2.2.2.2.2.1.1
  have hJ : Inv (zSt z (17, 0, 0)) := by rw [zSt_m, hR.1.1]; exact hI.1.1
  have ec : cStart x y (zSt z (17, 0, 0)) = cStart x y (wM A) := by rw [zSt_m, hR.1.1]
  obtain ⟨r1, r2⟩ := hR.st hI
  have cc := hI.2.1.1
  have e6 : zSt z (16, 0, 0) 6 = wC A := by rw [zSt_6]; exact hR.2.1.1
  have hthr : 0 ≤ (cStart x y (wM A)).1 ∧ (cStart x y (wM A)).1 ≤ 3 := by
    unfold cStart
    (repeat' split) <;> first | decide | (show (0 : Int) ≤ 0 ∧ (0 : Int) ≤ 3; decide) | (show (0 : Int) ≤ 1 ∧ (1 : Int) ≤ 3; decide) | (show (0 : Int) ≤ 2 ∧ (2 : Int) ≤ 3; decide) | (show (0 : Int) ≤ 3 ∧ (3 : Int) ≤ 3; decide)
  by_cases ht : (cStart x y (wM A)).1 = 0
  · have e2 : mR (zSt z) (cStart x y (zSt z (17, 0, 0))).1 (cStart x y (zSt z (17, 0, 0))).2.2 = pS (zSt z) (17, 0, 0) (cStart x y (wM A)).2.2 := by rw [ec, ht, mR_0]
    have f6 : mR (zSt z) (cStart x y (zSt z (17, 0, 0))).1 (cStart x y (zSt z (17, 0, 0))).2.2 (16, 0, 0) 6 = wC A := by rw [e2, pS_ne (by decide), e6]
    have f9 : mR (zSt z) (cStart x y (zSt z (17, 0, 0))).1 (cStart x y (zSt z (17, 0, 0))).2.2 (16, 0, 0) 9 = 0 := by rw [e2, pS_ne (by decide), zSt_9]
    obtain ⟨p1, p2, p3⟩ := r1.pu (a' := (cStart x y (wM A)).2.2) hI (by unfold zSt; rw [pS_at]; exact hR.1.1)
    have hfin : (RelM (zPu (mR (zSt z) (cStart x y (zSt z (17, 0, 0))).1 (cStart x y (zSt z (17, 0, 0))).2.2)) (oCmd (cStart x y) A).2.2 ∧ zPu (mR (zSt z) (cStart x y (zSt z (17, 0, 0))).1 (cStart x y (zSt z (17, 0, 0))).2.2) (16, 0, 0) 9 = (oCmd (cStart x y) A).1) ∧ fM z (zPu (mR (zSt z) (cStart x y (zSt z (17, 0, 0))).1 (cStart x y (zSt z (17, 0, 0))).2.2)) := by
      rw [e2, oCmd, if_pos ht]
      exact ⟨⟨p1, by rw [p2, zSt_9]⟩, r2.tr p3⟩
    have hval : (some (.inl (cStart x y (zSt z (17, 0, 0))).2.1) : Option aV) = some (.inl (oCmd (cStart x y) A).2.1) := by rw [ec, oCmd, if_pos ht]
    refine aM1_of kX7_setStart rfl (fun B hB => ?_)
    refine hB [] 1000 _ _ _ _ _ ?_
    repeat' (first | exact hfin | exact hval | exact hJ.1 | refine And.intro ?_ ?_ | refine Or.inl (uE0 (cM_starts hv0 hv1) ?_) | refine Or.inl (uE (cM_startIt ?_ hJ.1 ?_ ?_) ?_) | refine Or.inl (uE (cM_changed0 ?_ ?_ f9 rfl) ?_) | fail)
    all_goals first | omega | (exact rfl) | assumption | (exact ⟨by decide, by decide⟩) | (show _ ≤ mR (zSt z) (cStart x y (zSt z (17, 0, 0))).1 (cStart x y (zSt z (17, 0, 0))).2.2 (16, 0, 0) 6; omega) | (show mR (zSt z) (cStart x y (zSt z (17, 0, 0))).1 (cStart x y (zSt z (17, 0, 0))).2.2 (16, 0, 0) 6 ≤ _; omega) | fail "left"
  · have e2 : mR (zSt z) (cStart x y (zSt z (17, 0, 0))).1 (cStart x y (zSt z (17, 0, 0))).2.2 = aWr (zSt z) (16, 0, 0) 9 (cStart x y (wM A)).1 := by rw [ec, mR_t ht]
    have f9 : mR (zSt z) (cStart x y (zSt z (17, 0, 0))).1 (cStart x y (zSt z (17, 0, 0))).2.2 (16, 0, 0) 9 = (cStart x y (wM A)).1 := by rw [e2, aWr_pS, pS_at, ud_at]
    have f9a : 0 < mR (zSt z) (cStart x y (zSt z (17, 0, 0))).1 (cStart x y (zSt z (17, 0, 0))).2.2 (16, 0, 0) 9 := by rw [f9]; omega
    have f9b : mR (zSt z) (cStart x y (zSt z (17, 0, 0))).1 (cStart x y (zSt z (17, 0, 0))).2.2 (16, 0, 0) 9 ≤ 9 := by rw [f9]; omega
    obtain ⟨p1, p2⟩ := r1.thr (cStart x y (wM A)).1
    have hfin : (RelM (mR (zSt z) (cStart x y (zSt z (17, 0, 0))).1 (cStart x y (zSt z (17, 0, 0))).2.2) (oCmd (cStart x y) A).2.2 ∧ mR (zSt z) (cStart x y (zSt z (17, 0, 0))).1 (cStart x y (zSt z (17, 0, 0))).2.2 (16, 0, 0) 9 = (oCmd (cStart x y) A).1) ∧ fM z (mR (zSt z) (cStart x y (zSt z (17, 0, 0))).1 (cStart x y (zSt z (17, 0, 0))).2.2) := by
      rw [e2, oCmd, if_neg ht]
      exact ⟨⟨p1, p2⟩, r2.wr (Or.inl rfl)⟩
    have hval : (some (.inl (cStart x y (zSt z (17, 0, 0))).2.1) : Option aV) = some (.inl (oCmd (cStart x y) A).2.1) := by rw [ec, oCmd, if_neg ht]
    refine aM1_of kX7_setStart rfl (fun B hB => ?_)
    refine hB [] 1000 _ _ _ _ _ ?_
    repeat' (first | exact hfin | exact hval | exact hJ.1 | refine And.intro ?_ ?_ | refine Or.inl (uE0 (cM_starts hv0 hv1) ?_) | refine Or.inl (uE (cM_startIt ?_ hJ.1 ?_ ?_) ?_) | refine Or.inl (uE (cM_changedT f9a f9b) ?_) | fail)
    all_goals first | omega | (exact rfl) | assumption | (exact ⟨by decide, by decide⟩) | fail "left"

theorem cM_addLeg {x y p : Int} (hx : aIR x) (hy : aIR y) (hp : aIR p) (hd : 3 ≤ d) (hR : RelM z A) (hI : InvW A) : mOp l g nX7_addLeg d [.inr (.inr (.inl (16, 0, 0))), .inl x, .inl y, .inl p] z (oCmd (cLeg x y p) A) := by
  try unfold aIR at *
  have hv0 : vz (z (17, 0, 0)) := by rw [hR.1.1]; exact hI.1.1.1.2.2.2.2
  have hv1 := hR.2.2.2.2.2.1.1
  have hJ : Inv (zSt z (17, 0, 0)) := by rw [zSt_m, hR.1.1]; exact hI.1.1
  have ec : cLeg x y p (zSt z (17, 0, 0)) = cLeg x y p (wM A) := by rw [zSt_m, hR.1.1]
  obtain ⟨r1, r2⟩ := hR.st hI
  have cc := hI.2.1.1
  have e6 : zSt z (16, 0, 0) 6 = wC A := by rw [zSt_6]; exact hR.2.1.1
  have hthr : 0 ≤ (cLeg x y p (wM A)).1 ∧ (cLeg x y p (wM A)).1 ≤ 3 := by
    unfold cLeg
    (repeat' split) <;> first | decide | (show (0 : Int) ≤ 0 ∧ (0 : Int) ≤ 3; decide) | (show (0 : Int) ≤ 1 ∧ (1 : Int) ≤ 3; decide) | (show (0 : Int) ≤ 2 ∧ (2 : Int) ≤ 3; decide) | (show (0 : Int) ≤ 3 ∧ (3 : Int) ≤ 3; decide)
  by_cases ht : (cLeg x y p (wM A)).1 = 0
  · have e2 : mR (zSt z) (cLeg x y p (zSt z (17, 0, 0))).1 (cLeg x y p (zSt z (17, 0, 0))).2.2 = pS (zSt z) (17, 0, 0) (cLeg x y p (wM A)).2.2 := by rw [ec, ht, mR_0]
    have f6 : mR (zSt z) (cLeg x y p (zSt z (17, 0, 0))).1 (cLeg x y p (zSt z (17, 0, 0))).2.2 (16, 0, 0) 6 = wC A := by rw [e2, pS_ne (by decide), e6]
    have f9 : mR (zSt z) (cLeg x y p (zSt z (17, 0, 0))).1 (cLeg x y p (zSt z (17, 0, 0))).2.2 (16, 0, 0) 9 = 0 := by rw [e2, pS_ne (by decide), zSt_9]
    obtain ⟨p1, p2, p3⟩ := r1.pu (a' := (cLeg x y p (wM A)).2.2) hI (by unfold zSt; rw [pS_at]; exact hR.1.1)
    have hfin : (RelM (zPu (mR (zSt z) (cLeg x y p (zSt z (17, 0, 0))).1 (cLeg x y p (zSt z (17, 0, 0))).2.2)) (oCmd (cLeg x y p) A).2.2 ∧ zPu (mR (zSt z) (cLeg x y p (zSt z (17, 0, 0))).1 (cLeg x y p (zSt z (17, 0, 0))).2.2) (16, 0, 0) 9 = (oCmd (cLeg x y p) A).1) ∧ fM z (zPu (mR (zSt z) (cLeg x y p (zSt z (17, 0, 0))).1 (cLeg x y p (zSt z (17, 0, 0))).2.2)) := by
      rw [e2, oCmd, if_pos ht]
      exact ⟨⟨p1, by rw [p2, zSt_9]⟩, r2.tr p3⟩
    have hval : (some (.inl (cLeg x y p (zSt z (17, 0, 0))).2.1) : Option aV) = some (.inl (oCmd (cLeg x y p) A).2.1) := by rw [ec, oCmd, if_pos ht]
    refine aM1_of kX7_addLeg rfl (fun B hB => ?_)
    refine hB [] 1000 _ _ _ _ _ ?_
    repeat' (first | exact hfin | exact hval | exact hJ.1 | refine And.intro ?_ ?_ | refine Or.inl (uE0 (cM_starts hv0 hv1) ?_) | refine Or.inl (uE (cM_legIt ?_ hJ.1 ?_ ?_ ?_) ?_) | refine Or.inl (uE (cM_changed0 ?_ ?_ f9 rfl) ?_) | fail)
    all_goals first | omega | (exact rfl) | assumption | (exact ⟨by decide, by decide⟩) | (show _ ≤ mR (zSt z) (cLeg x y p (zSt z (17, 0, 0))).1 (cLeg x y p (zSt z (17, 0, 0))).2.2 (16, 0, 0) 6; omega) | (show mR (zSt z) (cLeg x y p (zSt z (17, 0, 0))).1 (cLeg x y p (zSt z (17, 0, 0))).2.2 (16, 0, 0) 6 ≤ _; omega) | fail "left"
  · have e2 : mR (zSt z) (cLeg x y p (zSt z (17, 0, 0))).1 (cLeg x y p (zSt z (17, 0, 0))).2.2 = aWr (zSt z) (16, 0, 0) 9 (cLeg x y p (wM A)).1 := by rw [ec, mR_t ht]
    have f9 : mR (zSt z) (cLeg x y p (zSt z (17, 0, 0))).1 (cLeg x y p (zSt z (17, 0, 0))).2.2 (16, 0, 0) 9 = (cLeg x y p (wM A)).1 := by rw [e2, aWr_pS, pS_at, ud_at]
    have f9a : 0 < mR (zSt z) (cLeg x y p (zSt z (17, 0, 0))).1 (cLeg x y p (zSt z (17, 0, 0))).2.2 (16, 0, 0) 9 := by rw [f9]; omega
    have f9b : mR (zSt z) (cLeg x y p (zSt z (17, 0, 0))).1 (cLeg x y p (zSt z (17, 0, 0))).2.2 (16, 0, 0) 9 ≤ 9 := by rw [f9]; omega
    obtain ⟨p1, p2⟩ := r1.thr (cLeg x y p (wM A)).1
    have hfin : (RelM (mR (zSt z) (cLeg x y p (zSt z (17, 0, 0))).1 (cLeg x y p (zSt z (17, 0, 0))).2.2) (oCmd (cLeg x y p) A).2.2 ∧ mR (zSt z) (cLeg x y p (zSt z (17, 0, 0))).1 (cLeg x y p (zSt z (17, 0, 0))).2.2 (16, 0, 0) 9 = (oCmd (cLeg x y p) A).1) ∧ fM z (mR (zSt z) (cLeg x y p (zSt z (17, 0, 0))).1 (cLeg x y p (zSt z (17, 0, 0))).2.2) := by
      rw [e2, oCmd, if_neg ht]
      exact ⟨⟨p1, p2⟩, r2.wr (Or.inl rfl)⟩
    have hval : (some (.inl (cLeg x y p (zSt z (17, 0, 0))).2.1) : Option aV) = some (.inl (oCmd (cLeg x y p) A).2.1) := by rw [ec, oCmd, if_neg ht]
    refine aM1_of kX7_addLeg rfl (fun B hB => ?_)
    refine hB [] 1000 _ _ _ _ _ ?_
    repeat' (first | exact hfin | exact hval | exact hJ.1 | refine And.intro ?_ ?_ | refine Or.inl (uE0 (cM_starts hv0 hv1) ?_) | refine Or.inl (uE (cM_legIt ?_ hJ.1 ?_ ?_ ?_) ?_) | refine Or.inl (uE (cM_changedT f9a f9b) ?_) | fail)
    all_goals first | omega | (exact rfl) | assumption | (exact ⟨by decide, by decide⟩) | fail "left"

theorem cM_addGate {leg x1 y1 x2 y2 : Int} (hleg : aIR leg) (hx1 : aIR x1) (hy1 : aIR y1) (hx2 : aIR x2) (hy2 : aIR y2) (hd : 3 ≤ d) (hR : RelM z A) (hI : InvW A) : mOp l g nX7_addGate d [.inr (.inr (.inl (16, 0, 0))), .inl leg, .inl x1, .inl y1, .inl x2, .inl y2] z (oCmd (cGate leg x1 y1 x2 y2) A) := by
  try unfold aIR at *
  have hv0 : vz (z (17, 0, 0)) := by rw [hR.1.1]; exact hI.1.1.1.2.2.2.2
  have hv1 := hR.2.2.2.2.2.1.1
  have hJ : Inv (zSt z (17, 0, 0)) := by rw [zSt_m, hR.1.1]; exact hI.1.1
  have ec : cGate leg x1 y1 x2 y2 (zSt z (17, 0, 0)) = cGate leg x1 y1 x2 y2 (wM A) := by rw [zSt_m, hR.1.1]
  obtain ⟨r1, r2⟩ := hR.st hI
  have cc := hI.2.1.1
  have e6 : zSt z (16, 0, 0) 6 = wC A := by rw [zSt_6]; exact hR.2.1.1
  have hthr : 0 ≤ (cGate leg x1 y1 x2 y2 (wM A)).1 ∧ (cGate leg x1 y1 x2 y2 (wM A)).1 ≤ 3 := by
    unfold cGate
    (repeat' split) <;> first | decide | (show (0 : Int) ≤ 0 ∧ (0 : Int) ≤ 3; decide) | (show (0 : Int) ≤ 1 ∧ (1 : Int) ≤ 3; decide) | (show (0 : Int) ≤ 2 ∧ (2 : Int) ≤ 3; decide) | (show (0 : Int) ≤ 3 ∧ (3 : Int) ≤ 3; decide)
  by_cases ht : (cGate leg x1 y1 x2 y2 (wM A)).1 = 0
  · have e2 : mR (zSt z) (cGate leg x1 y1 x2 y2 (zSt z (17, 0, 0))).1 (cGate leg x1 y1 x2 y2 (zSt z (17, 0, 0))).2.2 = pS (zSt z) (17, 0, 0) (cGate leg x1 y1 x2 y2 (wM A)).2.2 := by rw [ec, ht, mR_0]
    have f6 : mR (zSt z) (cGate leg x1 y1 x2 y2 (zSt z (17, 0, 0))).1 (cGate leg x1 y1 x2 y2 (zSt z (17, 0, 0))).2.2 (16, 0, 0) 6 = wC A := by rw [e2, pS_ne (by decide), e6]
    have f9 : mR (zSt z) (cGate leg x1 y1 x2 y2 (zSt z (17, 0, 0))).1 (cGate leg x1 y1 x2 y2 (zSt z (17, 0, 0))).2.2 (16, 0, 0) 9 = 0 := by rw [e2, pS_ne (by decide), zSt_9]
    obtain ⟨p1, p2, p3⟩ := r1.pu (a' := (cGate leg x1 y1 x2 y2 (wM A)).2.2) hI (by unfold zSt; rw [pS_at]; exact hR.1.1)
    have hfin : (RelM (zPu (mR (zSt z) (cGate leg x1 y1 x2 y2 (zSt z (17, 0, 0))).1 (cGate leg x1 y1 x2 y2 (zSt z (17, 0, 0))).2.2)) (oCmd (cGate leg x1 y1 x2 y2) A).2.2 ∧ zPu (mR (zSt z) (cGate leg x1 y1 x2 y2 (zSt z (17, 0, 0))).1 (cGate leg x1 y1 x2 y2 (zSt z (17, 0, 0))).2.2) (16, 0, 0) 9 = (oCmd (cGate leg x1 y1 x2 y2) A).1) ∧ fM z (zPu (mR (zSt z) (cGate leg x1 y1 x2 y2 (zSt z (17, 0, 0))).1 (cGate leg x1 y1 x2 y2 (zSt z (17, 0, 0))).2.2)) := by
      rw [e2, oCmd, if_pos ht]
      exact ⟨⟨p1, by rw [p2, zSt_9]⟩, r2.tr p3⟩
    have hval : (some (.inl (cGate leg x1 y1 x2 y2 (zSt z (17, 0, 0))).2.1) : Option aV) = some (.inl (oCmd (cGate leg x1 y1 x2 y2) A).2.1) := by rw [ec, oCmd, if_pos ht]
    refine aM1_of kX7_addGate rfl (fun B hB => ?_)
    refine hB [] 1000 _ _ _ _ _ ?_
    repeat' (first | exact hfin | exact hval | exact hJ.1 | refine And.intro ?_ ?_ | refine Or.inl (uE0 (cM_starts hv0 hv1) ?_) | refine Or.inl (uE (cM_gateIt ?_ hJ.1 ?_ ?_ ?_ ?_ ?_) ?_) | refine Or.inl (uE (cM_changed0 ?_ ?_ f9 rfl) ?_) | fail)
    all_goals first | omega | (exact rfl) | assumption | (exact ⟨by decide, by decide⟩) | (show _ ≤ mR (zSt z) (cGate leg x1 y1 x2 y2 (zSt z (17, 0, 0))).1 (cGate leg x1 y1 x2 y2 (zSt z (17, 0, 0))).2.2 (16, 0, 0) 6; omega) | (show mR (zSt z) (cGate leg x1 y1 x2 y2 (zSt z (17, 0, 0))).1 (cGate leg x1 y1 x2 y2 (zSt z (17, 0, 0))).2.2 (16, 0, 0) 6 ≤ _; omega) | fail "left"
  · have e2 : mR (zSt z) (cGate leg x1 y1 x2 y2 (zSt z (17, 0, 0))).1 (cGate leg x1 y1 x2 y2 (zSt z (17, 0, 0))).2.2 = aWr (zSt z) (16, 0, 0) 9 (cGate leg x1 y1 x2 y2 (wM A)).1 := by rw [ec, mR_t ht]
    have f9 : mR (zSt z) (cGate leg x1 y1 x2 y2 (zSt z (17, 0, 0))).1 (cGate leg x1 y1 x2 y2 (zSt z (17, 0, 0))).2.2 (16, 0, 0) 9 = (cGate leg x1 y1 x2 y2 (wM A)).1 := by rw [e2, aWr_pS, pS_at, ud_at]
    have f9a : 0 < mR (zSt z) (cGate leg x1 y1 x2 y2 (zSt z (17, 0, 0))).1 (cGate leg x1 y1 x2 y2 (zSt z (17, 0, 0))).2.2 (16, 0, 0) 9 := by rw [f9]; omega
    have f9b : mR (zSt z) (cGate leg x1 y1 x2 y2 (zSt z (17, 0, 0))).1 (cGate leg x1 y1 x2 y2 (zSt z (17, 0, 0))).2.2 (16, 0, 0) 9 ≤ 9 := by rw [f9]; omega
    obtain ⟨p1, p2⟩ := r1.thr (cGate leg x1 y1 x2 y2 (wM A)).1
    have hfin : (RelM (mR (zSt z) (cGate leg x1 y1 x2 y2 (zSt z (17, 0, 0))).1 (cGate leg x1 y1 x2 y2 (zSt z (17, 0, 0))).2.2) (oCmd (cGate leg x1 y1 x2 y2) A).2.2 ∧ mR (zSt z) (cGate leg x1 y1 x2 y2 (zSt z (17, 0, 0))).1 (cGate leg x1 y1 x2 y2 (zSt z (17, 0, 0))).2.2 (16, 0, 0) 9 = (oCmd (cGate leg x1 y1 x2 y2) A).1) ∧ fM z (mR (zSt z) (cGate leg x1 y1 x2 y2 (zSt z (17, 0, 0))).1 (cGate leg x1 y1 x2 y2 (zSt z (17, 0, 0))).2.2) := by
      rw [e2, oCmd, if_neg ht]
      exact ⟨⟨p1, p2⟩, r2.wr (Or.inl rfl)⟩
    have hval : (some (.inl (cGate leg x1 y1 x2 y2 (zSt z (17, 0, 0))).2.1) : Option aV) = some (.inl (oCmd (cGate leg x1 y1 x2 y2) A).2.1) := by rw [ec, oCmd, if_neg ht]
    refine aM1_of kX7_addGate rfl (fun B hB => ?_)
    refine hB [] 1000 _ _ _ _ _ ?_
    repeat' (first | exact hfin | exact hval | exact hJ.1 | refine And.intro ?_ ?_ | refine Or.inl (uE0 (cM_starts hv0 hv1) ?_) | refine Or.inl (uE (cM_gateIt ?_ hJ.1 ?_ ?_ ?_ ?_ ?_) ?_) | refine Or.inl (uE (cM_changedT f9a f9b) ?_) | fail)
    all_goals first | omega | (exact rfl) | assumption | (exact ⟨by decide, by decide⟩) | fail "left"

theorem cM_setTolerance {v : Int} (hv : aIR v) (hd : 3 ≤ d) (hR : RelM z A) (hI : InvW A) : mOp l g nX7_setTolerance d [.inr (.inr (.inl (16, 0, 0))), .inl v] z (oCmd (cSet 5 v 1 20) A) := by
  try unfold aIR at *
  have hv0 : vz (z (17, 0, 0)) := by rw [hR.1.1]; exact hI.1.1.1.2.2.2.2
  have hv1 := hR.2.2.2.2.2.1.1
  have hJ : Inv (zSt z (17, 0, 0)) := by rw [zSt_m, hR.1.1]; exact hI.1.1
  have ec : cSet 5 v 1 20 (zSt z (17, 0, 0)) = cSet 5 v 1 20 (wM A) := by rw [zSt_m, hR.1.1]
  obtain ⟨r1, r2⟩ := hR.st hI
  have cc := hI.2.1.1
  have e6 : zSt z (16, 0, 0) 6 = wC A := by rw [zSt_6]; exact hR.2.1.1
  have hthr : 0 ≤ (cSet 5 v 1 20 (wM A)).1 ∧ (cSet 5 v 1 20 (wM A)).1 ≤ 3 := by
    unfold cSet
    (repeat' split) <;> first | decide | (show (0 : Int) ≤ 0 ∧ (0 : Int) ≤ 3; decide) | (show (0 : Int) ≤ 1 ∧ (1 : Int) ≤ 3; decide) | (show (0 : Int) ≤ 2 ∧ (2 : Int) ≤ 3; decide) | (show (0 : Int) ≤ 3 ∧ (3 : Int) ≤ 3; decide)
  by_cases ht : (cSet 5 v 1 20 (wM A)).1 = 0
  · have e2 : mR (zSt z) (cSet 5 v 1 20 (zSt z (17, 0, 0))).1 (cSet 5 v 1 20 (zSt z (17, 0, 0))).2.2 = pS (zSt z) (17, 0, 0) (cSet 5 v 1 20 (wM A)).2.2 := by rw [ec, ht, mR_0]
    have f6 : mR (zSt z) (cSet 5 v 1 20 (zSt z (17, 0, 0))).1 (cSet 5 v 1 20 (zSt z (17, 0, 0))).2.2 (16, 0, 0) 6 = wC A := by rw [e2, pS_ne (by decide), e6]
    have f9 : mR (zSt z) (cSet 5 v 1 20 (zSt z (17, 0, 0))).1 (cSet 5 v 1 20 (zSt z (17, 0, 0))).2.2 (16, 0, 0) 9 = 0 := by rw [e2, pS_ne (by decide), zSt_9]
    obtain ⟨p1, p2, p3⟩ := r1.pu (a' := (cSet 5 v 1 20 (wM A)).2.2) hI (by unfold zSt; rw [pS_at]; exact hR.1.1)
    have hfin : (RelM (zPu (mR (zSt z) (cSet 5 v 1 20 (zSt z (17, 0, 0))).1 (cSet 5 v 1 20 (zSt z (17, 0, 0))).2.2)) (oCmd (cSet 5 v 1 20) A).2.2 ∧ zPu (mR (zSt z) (cSet 5 v 1 20 (zSt z (17, 0, 0))).1 (cSet 5 v 1 20 (zSt z (17, 0, 0))).2.2) (16, 0, 0) 9 = (oCmd (cSet 5 v 1 20) A).1) ∧ fM z (zPu (mR (zSt z) (cSet 5 v 1 20 (zSt z (17, 0, 0))).1 (cSet 5 v 1 20 (zSt z (17, 0, 0))).2.2)) := by
      rw [e2, oCmd, if_pos ht]
      exact ⟨⟨p1, by rw [p2, zSt_9]⟩, r2.tr p3⟩
    have hval : (some (.inl (cSet 5 v 1 20 (zSt z (17, 0, 0))).2.1) : Option aV) = some (.inl (oCmd (cSet 5 v 1 20) A).2.1) := by rw [ec, oCmd, if_pos ht]
    refine aM1_of kX7_setTolerance rfl (fun B hB => ?_)
    refine hB [] 1000 _ _ _ _ _ ?_
    repeat' (first | exact hfin | exact hval | exact hJ.1 | refine And.intro ?_ ?_ | refine Or.inl (uE0 (cM_starts hv0 hv1) ?_) | refine Or.inl (uE (cM_setsIt ?_ hJ.1 ?_ ?_ ?_ ?_ ?_) ?_) | refine Or.inl (uE (cM_changed0 ?_ ?_ f9 rfl) ?_) | fail)
    all_goals first | omega | (exact rfl) | assumption | (exact ⟨by decide, by decide⟩) | (show _ ≤ mR (zSt z) (cSet 5 v 1 20 (zSt z (17, 0, 0))).1 (cSet 5 v 1 20 (zSt z (17, 0, 0))).2.2 (16, 0, 0) 6; omega) | (show mR (zSt z) (cSet 5 v 1 20 (zSt z (17, 0, 0))).1 (cSet 5 v 1 20 (zSt z (17, 0, 0))).2.2 (16, 0, 0) 6 ≤ _; omega) | fail "left"
  · have e2 : mR (zSt z) (cSet 5 v 1 20 (zSt z (17, 0, 0))).1 (cSet 5 v 1 20 (zSt z (17, 0, 0))).2.2 = aWr (zSt z) (16, 0, 0) 9 (cSet 5 v 1 20 (wM A)).1 := by rw [ec, mR_t ht]
    have f9 : mR (zSt z) (cSet 5 v 1 20 (zSt z (17, 0, 0))).1 (cSet 5 v 1 20 (zSt z (17, 0, 0))).2.2 (16, 0, 0) 9 = (cSet 5 v 1 20 (wM A)).1 := by rw [e2, aWr_pS, pS_at, ud_at]
    have f9a : 0 < mR (zSt z) (cSet 5 v 1 20 (zSt z (17, 0, 0))).1 (cSet 5 v 1 20 (zSt z (17, 0, 0))).2.2 (16, 0, 0) 9 := by rw [f9]; omega
    have f9b : mR (zSt z) (cSet 5 v 1 20 (zSt z (17, 0, 0))).1 (cSet 5 v 1 20 (zSt z (17, 0, 0))).2.2 (16, 0, 0) 9 ≤ 9 := by rw [f9]; omega
    obtain ⟨p1, p2⟩ := r1.thr (cSet 5 v 1 20 (wM A)).1
    have hfin : (RelM (mR (zSt z) (cSet 5 v 1 20 (zSt z (17, 0, 0))).1 (cSet 5 v 1 20 (zSt z (17, 0, 0))).2.2) (oCmd (cSet 5 v 1 20) A).2.2 ∧ mR (zSt z) (cSet 5 v 1 20 (zSt z (17, 0, 0))).1 (cSet 5 v 1 20 (zSt z (17, 0, 0))).2.2 (16, 0, 0) 9 = (oCmd (cSet 5 v 1 20) A).1) ∧ fM z (mR (zSt z) (cSet 5 v 1 20 (zSt z (17, 0, 0))).1 (cSet 5 v 1 20 (zSt z (17, 0, 0))).2.2) := by
      rw [e2, oCmd, if_neg ht]
      exact ⟨⟨p1, p2⟩, r2.wr (Or.inl rfl)⟩
    have hval : (some (.inl (cSet 5 v 1 20 (zSt z (17, 0, 0))).2.1) : Option aV) = some (.inl (oCmd (cSet 5 v 1 20) A).2.1) := by rw [ec, oCmd, if_neg ht]
    refine aM1_of kX7_setTolerance rfl (fun B hB => ?_)
    refine hB [] 1000 _ _ _ _ _ ?_
    repeat' (first | exact hfin | exact hval | exact hJ.1 | refine And.intro ?_ ?_ | refine Or.inl (uE0 (cM_starts hv0 hv1) ?_) | refine Or.inl (uE (cM_setsIt ?_ hJ.1 ?_ ?_ ?_ ?_ ?_) ?_) | refine Or.inl (uE (cM_changedT f9a f9b) ?_) | fail)
    all_goals first | omega | (exact rfl) | assumption | (exact ⟨by decide, by decide⟩) | fail "left"

theorem cM_setTimeLimit {v : Int} (hv : aIR v) (hd : 3 ≤ d) (hR : RelM z A) (hI : InvW A) : mOp l g nX7_setTimeLimit d [.inr (.inr (.inl (16, 0, 0))), .inl v] z (oCmd (cSet 6 v 60 999) A) := by
  try unfold aIR at *
  have hv0 : vz (z (17, 0, 0)) := by rw [hR.1.1]; exact hI.1.1.1.2.2.2.2
  have hv1 := hR.2.2.2.2.2.1.1
  have hJ : Inv (zSt z (17, 0, 0)) := by rw [zSt_m, hR.1.1]; exact hI.1.1
  have ec : cSet 6 v 60 999 (zSt z (17, 0, 0)) = cSet 6 v 60 999 (wM A) := by rw [zSt_m, hR.1.1]
  obtain ⟨r1, r2⟩ := hR.st hI
  have cc := hI.2.1.1
  have e6 : zSt z (16, 0, 0) 6 = wC A := by rw [zSt_6]; exact hR.2.1.1
  have hthr : 0 ≤ (cSet 6 v 60 999 (wM A)).1 ∧ (cSet 6 v 60 999 (wM A)).1 ≤ 3 := by
    unfold cSet
    (repeat' split) <;> first | decide | (show (0 : Int) ≤ 0 ∧ (0 : Int) ≤ 3; decide) | (show (0 : Int) ≤ 1 ∧ (1 : Int) ≤ 3; decide) | (show (0 : Int) ≤ 2 ∧ (2 : Int) ≤ 3; decide) | (show (0 : Int) ≤ 3 ∧ (3 : Int) ≤ 3; decide)
  by_cases ht : (cSet 6 v 60 999 (wM A)).1 = 0
  · have e2 : mR (zSt z) (cSet 6 v 60 999 (zSt z (17, 0, 0))).1 (cSet 6 v 60 999 (zSt z (17, 0, 0))).2.2 = pS (zSt z) (17, 0, 0) (cSet 6 v 60 999 (wM A)).2.2 := by rw [ec, ht, mR_0]
    have f6 : mR (zSt z) (cSet 6 v 60 999 (zSt z (17, 0, 0))).1 (cSet 6 v 60 999 (zSt z (17, 0, 0))).2.2 (16, 0, 0) 6 = wC A := by rw [e2, pS_ne (by decide), e6]
    have f9 : mR (zSt z) (cSet 6 v 60 999 (zSt z (17, 0, 0))).1 (cSet 6 v 60 999 (zSt z (17, 0, 0))).2.2 (16, 0, 0) 9 = 0 := by rw [e2, pS_ne (by decide), zSt_9]
    obtain ⟨p1, p2, p3⟩ := r1.pu (a' := (cSet 6 v 60 999 (wM A)).2.2) hI (by unfold zSt; rw [pS_at]; exact hR.1.1)
    have hfin : (RelM (zPu (mR (zSt z) (cSet 6 v 60 999 (zSt z (17, 0, 0))).1 (cSet 6 v 60 999 (zSt z (17, 0, 0))).2.2)) (oCmd (cSet 6 v 60 999) A).2.2 ∧ zPu (mR (zSt z) (cSet 6 v 60 999 (zSt z (17, 0, 0))).1 (cSet 6 v 60 999 (zSt z (17, 0, 0))).2.2) (16, 0, 0) 9 = (oCmd (cSet 6 v 60 999) A).1) ∧ fM z (zPu (mR (zSt z) (cSet 6 v 60 999 (zSt z (17, 0, 0))).1 (cSet 6 v 60 999 (zSt z (17, 0, 0))).2.2)) := by
      rw [e2, oCmd, if_pos ht]
      exact ⟨⟨p1, by rw [p2, zSt_9]⟩, r2.tr p3⟩
    have hval : (some (.inl (cSet 6 v 60 999 (zSt z (17, 0, 0))).2.1) : Option aV) = some (.inl (oCmd (cSet 6 v 60 999) A).2.1) := by rw [ec, oCmd, if_pos ht]
    refine aM1_of kX7_setTimeLimit rfl (fun B hB => ?_)
    refine hB [] 1000 _ _ _ _ _ ?_
    repeat' (first | exact hfin | exact hval | exact hJ.1 | refine And.intro ?_ ?_ | refine Or.inl (uE0 (cM_starts hv0 hv1) ?_) | refine Or.inl (uE (cM_setsIt ?_ hJ.1 ?_ ?_ ?_ ?_ ?_) ?_) | refine Or.inl (uE (cM_changed0 ?_ ?_ f9 rfl) ?_) | fail)
    all_goals first | omega | (exact rfl) | assumption | (exact ⟨by decide, by decide⟩) | (show _ ≤ mR (zSt z) (cSet 6 v 60 999 (zSt z (17, 0, 0))).1 (cSet 6 v 60 999 (zSt z (17, 0, 0))).2.2 (16, 0, 0) 6; omega) | (show mR (zSt z) (cSet 6 v 60 999 (zSt z (17, 0, 0))).1 (cSet 6 v 60 999 (zSt z (17, 0, 0))).2.2 (16, 0, 0) 6 ≤ _; omega) | fail "left"
  · have e2 : mR (zSt z) (cSet 6 v 60 999 (zSt z (17, 0, 0))).1 (cSet 6 v 60 999 (zSt z (17, 0, 0))).2.2 = aWr (zSt z) (16, 0, 0) 9 (cSet 6 v 60 999 (wM A)).1 := by rw [ec, mR_t ht]
    have f9 : mR (zSt z) (cSet 6 v 60 999 (zSt z (17, 0, 0))).1 (cSet 6 v 60 999 (zSt z (17, 0, 0))).2.2 (16, 0, 0) 9 = (cSet 6 v 60 999 (wM A)).1 := by rw [e2, aWr_pS, pS_at, ud_at]
    have f9a : 0 < mR (zSt z) (cSet 6 v 60 999 (zSt z (17, 0, 0))).1 (cSet 6 v 60 999 (zSt z (17, 0, 0))).2.2 (16, 0, 0) 9 := by rw [f9]; omega
    have f9b : mR (zSt z) (cSet 6 v 60 999 (zSt z (17, 0, 0))).1 (cSet 6 v 60 999 (zSt z (17, 0, 0))).2.2 (16, 0, 0) 9 ≤ 9 := by rw [f9]; omega
    obtain ⟨p1, p2⟩ := r1.thr (cSet 6 v 60 999 (wM A)).1
    have hfin : (RelM (mR (zSt z) (cSet 6 v 60 999 (zSt z (17, 0, 0))).1 (cSet 6 v 60 999 (zSt z (17, 0, 0))).2.2) (oCmd (cSet 6 v 60 999) A).2.2 ∧ mR (zSt z) (cSet 6 v 60 999 (zSt z (17, 0, 0))).1 (cSet 6 v 60 999 (zSt z (17, 0, 0))).2.2 (16, 0, 0) 9 = (oCmd (cSet 6 v 60 999) A).1) ∧ fM z (mR (zSt z) (cSet 6 v 60 999 (zSt z (17, 0, 0))).1 (cSet 6 v 60 999 (zSt z (17, 0, 0))).2.2) := by
      rw [e2, oCmd, if_neg ht]
      exact ⟨⟨p1, p2⟩, r2.wr (Or.inl rfl)⟩
    have hval : (some (.inl (cSet 6 v 60 999 (zSt z (17, 0, 0))).2.1) : Option aV) = some (.inl (oCmd (cSet 6 v 60 999) A).2.1) := by rw [ec, oCmd, if_neg ht]
    refine aM1_of kX7_setTimeLimit rfl (fun B hB => ?_)
    refine hB [] 1000 _ _ _ _ _ ?_
    repeat' (first | exact hfin | exact hval | exact hJ.1 | refine And.intro ?_ ?_ | refine Or.inl (uE0 (cM_starts hv0 hv1) ?_) | refine Or.inl (uE (cM_setsIt ?_ hJ.1 ?_ ?_ ?_ ?_ ?_) ?_) | refine Or.inl (uE (cM_changedT f9a f9b) ?_) | fail)
    all_goals first | omega | (exact rfl) | assumption | (exact ⟨by decide, by decide⟩) | fail "left"

theorem cM_startRun  (hd : 3 ≤ d) (hR : RelM z A) (hI : InvW A) : mOp l g nX7_startRun d [.inr (.inr (.inl (16, 0, 0)))] z (oCmd (cRun) A) := by
  try unfold aIR at *
  have hv0 : vz (z (17, 0, 0)) := by rw [hR.1.1]; exact hI.1.1.1.2.2.2.2
  have hv1 := hR.2.2.2.2.2.1.1
  have hJ : Inv (zSt z (17, 0, 0)) := by rw [zSt_m, hR.1.1]; exact hI.1.1
  have ec : cRun (zSt z (17, 0, 0)) = cRun (wM A) := by rw [zSt_m, hR.1.1]
  obtain ⟨r1, r2⟩ := hR.st hI
  have cc := hI.2.1.1
  have e6 : zSt z (16, 0, 0) 6 = wC A := by rw [zSt_6]; exact hR.2.1.1
  have hthr : 0 ≤ (cRun (wM A)).1 ∧ (cRun (wM A)).1 ≤ 3 := by
    unfold cRun
    (repeat' split) <;> first | decide | (show (0 : Int) ≤ 0 ∧ (0 : Int) ≤ 3; decide) | (show (0 : Int) ≤ 1 ∧ (1 : Int) ≤ 3; decide) | (show (0 : Int) ≤ 2 ∧ (2 : Int) ≤ 3; decide) | (show (0 : Int) ≤ 3 ∧ (3 : Int) ≤ 3; decide)
  by_cases ht : (cRun (wM A)).1 = 0
  · have e2 : mR (zSt z) (cRun (zSt z (17, 0, 0))).1 (cRun (zSt z (17, 0, 0))).2.2 = pS (zSt z) (17, 0, 0) (cRun (wM A)).2.2 := by rw [ec, ht, mR_0]
    have f6 : mR (zSt z) (cRun (zSt z (17, 0, 0))).1 (cRun (zSt z (17, 0, 0))).2.2 (16, 0, 0) 6 = wC A := by rw [e2, pS_ne (by decide), e6]
    have f9 : mR (zSt z) (cRun (zSt z (17, 0, 0))).1 (cRun (zSt z (17, 0, 0))).2.2 (16, 0, 0) 9 = 0 := by rw [e2, pS_ne (by decide), zSt_9]
    obtain ⟨p1, p2, p3⟩ := r1.pu (a' := (cRun (wM A)).2.2) hI (by unfold zSt; rw [pS_at]; exact hR.1.1)
    have hfin : (RelM (zPu (mR (zSt z) (cRun (zSt z (17, 0, 0))).1 (cRun (zSt z (17, 0, 0))).2.2)) (oCmd (cRun) A).2.2 ∧ zPu (mR (zSt z) (cRun (zSt z (17, 0, 0))).1 (cRun (zSt z (17, 0, 0))).2.2) (16, 0, 0) 9 = (oCmd (cRun) A).1) ∧ fM z (zPu (mR (zSt z) (cRun (zSt z (17, 0, 0))).1 (cRun (zSt z (17, 0, 0))).2.2)) := by
      rw [e2, oCmd, if_pos ht]
      exact ⟨⟨p1, by rw [p2, zSt_9]⟩, r2.tr p3⟩
    have hval : (some (.inl (cRun (zSt z (17, 0, 0))).2.1) : Option aV) = some (.inl (oCmd (cRun) A).2.1) := by rw [ec, oCmd, if_pos ht]
    refine aM1_of kX7_startRun rfl (fun B hB => ?_)
    refine hB [] 1000 _ _ _ _ _ ?_
    repeat' (first | exact hfin | exact hval | exact hJ.1 | refine And.intro ?_ ?_ | refine Or.inl (uE0 (cM_starts hv0 hv1) ?_) | refine Or.inl (uE (cM_runIt ?_ hJ.1) ?_) | refine Or.inl (uE (cM_changed0 ?_ ?_ f9 rfl) ?_) | fail)
    all_goals first | omega | (exact rfl) | assumption | (exact ⟨by decide, by decide⟩) | (show _ ≤ mR (zSt z) (cRun (zSt z (17, 0, 0))).1 (cRun (zSt z (17, 0, 0))).2.2 (16, 0, 0) 6; omega) | (show mR (zSt z) (cRun (zSt z (17, 0, 0))).1 (cRun (zSt z (17, 0, 0))).2.2 (16, 0, 0) 6 ≤ _; omega) | fail "left"
  · have e2 : mR (zSt z) (cRun (zSt z (17, 0, 0))).1 (cRun (zSt z (17, 0, 0))).2.2 = aWr (zSt z) (16, 0, 0) 9 (cRun (wM A)).1 := by rw [ec, mR_t ht]
    have f9 : mR (zSt z) (cRun (zSt z (17, 0, 0))).1 (cRun (zSt z (17, 0, 0))).2.2 (16, 0, 0) 9 = (cRun (wM A)).1 := by rw [e2, aWr_pS, pS_at, ud_at]
    have f9a : 0 < mR (zSt z) (cRun (zSt z (17, 0, 0))).1 (cRun (zSt z (17, 0, 0))).2.2 (16, 0, 0) 9 := by rw [f9]; omega
    have f9b : mR (zSt z) (cRun (zSt z (17, 0, 0))).1 (cRun (zSt z (17, 0, 0))).2.2 (16, 0, 0) 9 ≤ 9 := by rw [f9]; omega
    obtain ⟨p1, p2⟩ := r1.thr (cRun (wM A)).1
    have hfin : (RelM (mR (zSt z) (cRun (zSt z (17, 0, 0))).1 (cRun (zSt z (17, 0, 0))).2.2) (oCmd (cRun) A).2.2 ∧ mR (zSt z) (cRun (zSt z (17, 0, 0))).1 (cRun (zSt z (17, 0, 0))).2.2 (16, 0, 0) 9 = (oCmd (cRun) A).1) ∧ fM z (mR (zSt z) (cRun (zSt z (17, 0, 0))).1 (cRun (zSt z (17, 0, 0))).2.2) := by
      rw [e2, oCmd, if_neg ht]
      exact ⟨⟨p1, p2⟩, r2.wr (Or.inl rfl)⟩
    have hval : (some (.inl (cRun (zSt z (17, 0, 0))).2.1) : Option aV) = some (.inl (oCmd (cRun) A).2.1) := by rw [ec, oCmd, if_neg ht]
    refine aM1_of kX7_startRun rfl (fun B hB => ?_)
    refine hB [] 1000 _ _ _ _ _ ?_
    repeat' (first | exact hfin | exact hval | exact hJ.1 | refine And.intro ?_ ?_ | refine Or.inl (uE0 (cM_starts hv0 hv1) ?_) | refine Or.inl (uE (cM_runIt ?_ hJ.1) ?_) | refine Or.inl (uE (cM_changedT f9a f9b) ?_) | fail)
    all_goals first | omega | (exact rfl) | assumption | (exact ⟨by decide, by decide⟩) | fail "left"

theorem cM_walk {x y s : Int} (hx : aIR x) (hy : aIR y) (hs : aIR s) (hd : 6 ≤ d) (hR : RelM z A) (hI : InvW A) : mOp l g nX7_walk d [.inr (.inr (.inl (16, 0, 0))), .inl x, .inl y, .inl s] z (oCmd (cWalk x y s) A) := by
  try unfold aIR at *
  have hv0 : vz (z (17, 0, 0)) := by rw [hR.1.1]; exact hI.1.1.1.2.2.2.2
  have hv1 := hR.2.2.2.2.2.1.1
  have hJ : Inv (zSt z (17, 0, 0)) := by rw [zSt_m, hR.1.1]; exact hI.1.1
  have ec : cWalk x y s (zSt z (17, 0, 0)) = cWalk x y s (wM A) := by rw [zSt_m, hR.1.1]
  obtain ⟨r1, r2⟩ := hR.st hI
  have cc := hI.2.1.1
  have e6 : zSt z (16, 0, 0) 6 = wC A := by rw [zSt_6]; exact hR.2.1.1
  have hthr : 0 ≤ (cWalk x y s (wM A)).1 ∧ (cWalk x y s (wM A)).1 ≤ 3 := by
    unfold cWalk
    (repeat' split) <;> first | decide | (show (0 : Int) ≤ 0 ∧ (0 : Int) ≤ 3; decide) | (show (0 : Int) ≤ 1 ∧ (1 : Int) ≤ 3; decide) | (show (0 : Int) ≤ 2 ∧ (2 : Int) ≤ 3; decide) | (show (0 : Int) ≤ 3 ∧ (3 : Int) ≤ 3; decide)
  by_cases ht : (cWalk x y s (wM A)).1 = 0
  · have e2 : mR (zSt z) (cWalk x y s (zSt z (17, 0, 0))).1 (cWalk x y s (zSt z (17, 0, 0))).2.2 = pS (zSt z) (17, 0, 0) (cWalk x y s (wM A)).2.2 := by rw [ec, ht, mR_0]
    have f6 : mR (zSt z) (cWalk x y s (zSt z (17, 0, 0))).1 (cWalk x y s (zSt z (17, 0, 0))).2.2 (16, 0, 0) 6 = wC A := by rw [e2, pS_ne (by decide), e6]
    have f9 : mR (zSt z) (cWalk x y s (zSt z (17, 0, 0))).1 (cWalk x y s (zSt z (17, 0, 0))).2.2 (16, 0, 0) 9 = 0 := by rw [e2, pS_ne (by decide), zSt_9]
    obtain ⟨p1, p2, p3⟩ := r1.pu (a' := (cWalk x y s (wM A)).2.2) hI (by unfold zSt; rw [pS_at]; exact hR.1.1)
    have hfin : (RelM (zPu (mR (zSt z) (cWalk x y s (zSt z (17, 0, 0))).1 (cWalk x y s (zSt z (17, 0, 0))).2.2)) (oCmd (cWalk x y s) A).2.2 ∧ zPu (mR (zSt z) (cWalk x y s (zSt z (17, 0, 0))).1 (cWalk x y s (zSt z (17, 0, 0))).2.2) (16, 0, 0) 9 = (oCmd (cWalk x y s) A).1) ∧ fM z (zPu (mR (zSt z) (cWalk x y s (zSt z (17, 0, 0))).1 (cWalk x y s (zSt z (17, 0, 0))).2.2)) := by
      rw [e2, oCmd, if_pos ht]
      exact ⟨⟨p1, by rw [p2, zSt_9]⟩, r2.tr p3⟩
    have hval : (some (.inl (cWalk x y s (zSt z (17, 0, 0))).2.1) : Option aV) = some (.inl (oCmd (cWalk x y s) A).2.1) := by rw [ec, oCmd, if_pos ht]
    refine aM1_of kX7_walk rfl (fun B hB => ?_)
    refine hB [] 1000 _ _ _ _ _ ?_
    repeat' (first | exact hfin | exact hval | exact hJ | refine And.intro ?_ ?_ | refine Or.inl (uE0 (cM_starts hv0 hv1) ?_) | refine Or.inl (uE (cM_walkIt ?_ hJ ?_ ?_ ?_) ?_) | refine Or.inl (uE (cM_changed0 ?_ ?_ f9 rfl) ?_) | fail)
    all_goals first | omega | (exact rfl) | assumption | (exact ⟨by decide, by decide⟩) | (show _ ≤ mR (zSt z) (cWalk x y s (zSt z (17, 0, 0))).1 (cWalk x y s (zSt z (17, 0, 0))).2.2 (16, 0, 0) 6; omega) | (show mR (zSt z) (cWalk x y s (zSt z (17, 0, 0))).1 (cWalk x y s (zSt z (17, 0, 0))).2.2 (16, 0, 0) 6 ≤ _; omega) | fail "left"
  · have e2 : mR (zSt z) (cWalk x y s (zSt z (17, 0, 0))).1 (cWalk x y s (zSt z (17, 0, 0))).2.2 = aWr (zSt z) (16, 0, 0) 9 (cWalk x y s (wM A)).1 := by rw [ec, mR_t ht]
    have f9 : mR (zSt z) (cWalk x y s (zSt z (17, 0, 0))).1 (cWalk x y s (zSt z (17, 0, 0))).2.2 (16, 0, 0) 9 = (cWalk x y s (wM A)).1 := by rw [e2, aWr_pS, pS_at, ud_at]
    have f9a : 0 < mR (zSt z) (cWalk x y s (zSt z (17, 0, 0))).1 (cWalk x y s (zSt z (17, 0, 0))).2.2 (16, 0, 0) 9 := by rw [f9]; omega
    have f9b : mR (zSt z) (cWalk x y s (zSt z (17, 0, 0))).1 (cWalk x y s (zSt z (17, 0, 0))).2.2 (16, 0, 0) 9 ≤ 9 := by rw [f9]; omega
    obtain ⟨p1, p2⟩ := r1.thr (cWalk x y s (wM A)).1
    have hfin : (RelM (mR (zSt z) (cWalk x y s (zSt z (17, 0, 0))).1 (cWalk x y s (zSt z (17, 0, 0))).2.2) (oCmd (cWalk x y s) A).2.2 ∧ mR (zSt z) (cWalk x y s (zSt z (17, 0, 0))).1 (cWalk x y s (zSt z (17, 0, 0))).2.2 (16, 0, 0) 9 = (oCmd (cWalk x y s) A).1) ∧ fM z (mR (zSt z) (cWalk x y s (zSt z (17, 0, 0))).1 (cWalk x y s (zSt z (17, 0, 0))).2.2) := by
      rw [e2, oCmd, if_neg ht]
      exact ⟨⟨p1, p2⟩, r2.wr (Or.inl rfl)⟩
    have hval : (some (.inl (cWalk x y s (zSt z (17, 0, 0))).2.1) : Option aV) = some (.inl (oCmd (cWalk x y s) A).2.1) := by rw [ec, oCmd, if_neg ht]
    refine aM1_of kX7_walk rfl (fun B hB => ?_)
    refine hB [] 1000 _ _ _ _ _ ?_
    repeat' (first | exact hfin | exact hval | exact hJ | refine And.intro ?_ ?_ | refine Or.inl (uE0 (cM_starts hv0 hv1) ?_) | refine Or.inl (uE (cM_walkIt ?_ hJ ?_ ?_ ?_) ?_) | refine Or.inl (uE (cM_changedT f9a f9b) ?_) | fail)
    all_goals first | omega | (exact rfl) | assumption | (exact ⟨by decide, by decide⟩) | fail "left"

theorem cM_fault {p : Int} (hp : aIR p) (hd : 3 ≤ d) (hR : RelM z A) (hI : InvW A) : mOp l g nX7_fault d [.inr (.inr (.inl (16, 0, 0))), .inl p] z (oCmd (cFault p) A) := by
  try unfold aIR at *
  have hv0 : vz (z (17, 0, 0)) := by rw [hR.1.1]; exact hI.1.1.1.2.2.2.2
  have hv1 := hR.2.2.2.2.2.1.1
  have hJ : Inv (zSt z (17, 0, 0)) := by rw [zSt_m, hR.1.1]; exact hI.1.1
  have ec : cFault p (zSt z (17, 0, 0)) = cFault p (wM A) := by rw [zSt_m, hR.1.1]
  obtain ⟨r1, r2⟩ := hR.st hI
  have cc := hI.2.1.1
  have e6 : zSt z (16, 0, 0) 6 = wC A := by rw [zSt_6]; exact hR.2.1.1
  have hthr : 0 ≤ (cFault p (wM A)).1 ∧ (cFault p (wM A)).1 ≤ 3 := by
    unfold cFault
    (repeat' split) <;> first | decide | (show (0 : Int) ≤ 0 ∧ (0 : Int) ≤ 3; decide) | (show (0 : Int) ≤ 1 ∧ (1 : Int) ≤ 3; decide) | (show (0 : Int) ≤ 2 ∧ (2 : Int) ≤ 3; decide) | (show (0 : Int) ≤ 3 ∧ (3 : Int) ≤ 3; decide)
  by_cases ht : (cFault p (wM A)).1 = 0
  · have e2 : mR (zSt z) (cFault p (zSt z (17, 0, 0))).1 (cFault p (zSt z (17, 0, 0))).2.2 = pS (zSt z) (17, 0, 0) (cFault p (wM A)).2.2 := by rw [ec, ht, mR_0]
    have f6 : mR (zSt z) (cFault p (zSt z (17, 0, 0))).1 (cFault p (zSt z (17, 0, 0))).2.2 (16, 0, 0) 6 = wC A := by rw [e2, pS_ne (by decide), e6]
    have f9 : mR (zSt z) (cFault p (zSt z (17, 0, 0))).1 (cFault p (zSt z (17, 0, 0))).2.2 (16, 0, 0) 9 = 0 := by rw [e2, pS_ne (by decide), zSt_9]
    obtain ⟨p1, p2, p3⟩ := r1.pu (a' := (cFault p (wM A)).2.2) hI (by unfold zSt; rw [pS_at]; exact hR.1.1)
    have hfin : (RelM (zPu (mR (zSt z) (cFault p (zSt z (17, 0, 0))).1 (cFault p (zSt z (17, 0, 0))).2.2)) (oCmd (cFault p) A).2.2 ∧ zPu (mR (zSt z) (cFault p (zSt z (17, 0, 0))).1 (cFault p (zSt z (17, 0, 0))).2.2) (16, 0, 0) 9 = (oCmd (cFault p) A).1) ∧ fM z (zPu (mR (zSt z) (cFault p (zSt z (17, 0, 0))).1 (cFault p (zSt z (17, 0, 0))).2.2)) := by
      rw [e2, oCmd, if_pos ht]
      exact ⟨⟨p1, by rw [p2, zSt_9]⟩, r2.tr p3⟩
    have hval : (some (.inl (cFault p (zSt z (17, 0, 0))).2.1) : Option aV) = some (.inl (oCmd (cFault p) A).2.1) := by rw [ec, oCmd, if_pos ht]
    refine aM1_of kX7_fault rfl (fun B hB => ?_)
    refine hB [] 1000 _ _ _ _ _ ?_
    repeat' (first | exact hfin | exact hval | exact hJ.1 | refine And.intro ?_ ?_ | refine Or.inl (uE0 (cM_starts hv0 hv1) ?_) | refine Or.inl (uE (cM_faultIt ?_ hJ.1 ?_) ?_) | refine Or.inl (uE (cM_changed0 ?_ ?_ f9 rfl) ?_) | fail)
    all_goals first | omega | (exact rfl) | assumption | (exact ⟨by decide, by decide⟩) | (show _ ≤ mR (zSt z) (cFault p (zSt z (17, 0, 0))).1 (cFault p (zSt z (17, 0, 0))).2.2 (16, 0, 0) 6; omega) | (show mR (zSt z) (cFault p (zSt z (17, 0, 0))).1 (cFault p (zSt z (17, 0, 0))).2.2 (16, 0, 0) 6 ≤ _; omega) | fail "left"
  · have e2 : mR (zSt z) (cFault p (zSt z (17, 0, 0))).1 (cFault p (zSt z (17, 0, 0))).2.2 = aWr (zSt z) (16, 0, 0) 9 (cFault p (wM A)).1 := by rw [ec, mR_t ht]
    have f9 : mR (zSt z) (cFault p (zSt z (17, 0, 0))).1 (cFault p (zSt z (17, 0, 0))).2.2 (16, 0, 0) 9 = (cFault p (wM A)).1 := by rw [e2, aWr_pS, pS_at, ud_at]
    have f9a : 0 < mR (zSt z) (cFault p (zSt z (17, 0, 0))).1 (cFault p (zSt z (17, 0, 0))).2.2 (16, 0, 0) 9 := by rw [f9]; omega
    have f9b : mR (zSt z) (cFault p (zSt z (17, 0, 0))).1 (cFault p (zSt z (17, 0, 0))).2.2 (16, 0, 0) 9 ≤ 9 := by rw [f9]; omega
    obtain ⟨p1, p2⟩ := r1.thr (cFault p (wM A)).1
    have hfin : (RelM (mR (zSt z) (cFault p (zSt z (17, 0, 0))).1 (cFault p (zSt z (17, 0, 0))).2.2) (oCmd (cFault p) A).2.2 ∧ mR (zSt z) (cFault p (zSt z (17, 0, 0))).1 (cFault p (zSt z (17, 0, 0))).2.2 (16, 0, 0) 9 = (oCmd (cFault p) A).1) ∧ fM z (mR (zSt z) (cFault p (zSt z (17, 0, 0))).1 (cFault p (zSt z (17, 0, 0))).2.2) := by
      rw [e2, oCmd, if_neg ht]
      exact ⟨⟨p1, p2⟩, r2.wr (Or.inl rfl)⟩
    have hval : (some (.inl (cFault p (zSt z (17, 0, 0))).2.1) : Option aV) = some (.inl (oCmd (cFault p) A).2.1) := by rw [ec, oCmd, if_neg ht]
    refine aM1_of kX7_fault rfl (fun B hB => ?_)
    refine hB [] 1000 _ _ _ _ _ ?_
    repeat' (first | exact hfin | exact hval | exact hJ.1 | refine And.intro ?_ ?_ | refine Or.inl (uE0 (cM_starts hv0 hv1) ?_) | refine Or.inl (uE (cM_faultIt ?_ hJ.1 ?_) ?_) | refine Or.inl (uE (cM_changedT f9a f9b) ?_) | fail)
    all_goals first | omega | (exact rfl) | assumption | (exact ⟨by decide, by decide⟩) | fail "left"

theorem cM_retire  (hd : 4 ≤ d) (hR : RelM z A) (hI : InvW A) : mOp l g nX7_retire d [.inr (.inr (.inl (16, 0, 0)))] z (oCmd (cRetire) A) := by
  try unfold aIR at *
  have hv0 : vz (z (17, 0, 0)) := by rw [hR.1.1]; exact hI.1.1.1.2.2.2.2
  have hv1 := hR.2.2.2.2.2.1.1
  have hJ : Inv (zSt z (17, 0, 0)) := by rw [zSt_m, hR.1.1]; exact hI.1.1
  have ec : cRetire (zSt z (17, 0, 0)) = cRetire (wM A) := by rw [zSt_m, hR.1.1]
  obtain ⟨r1, r2⟩ := hR.st hI
  have cc := hI.2.1.1
  have e6 : zSt z (16, 0, 0) 6 = wC A := by rw [zSt_6]; exact hR.2.1.1
  have hthr : 0 ≤ (cRetire (wM A)).1 ∧ (cRetire (wM A)).1 ≤ 3 := by
    unfold cRetire
    (repeat' split) <;> first | decide | (show (0 : Int) ≤ 0 ∧ (0 : Int) ≤ 3; decide) | (show (0 : Int) ≤ 1 ∧ (1 : Int) ≤ 3; decide) | (show (0 : Int) ≤ 2 ∧ (2 : Int) ≤ 3; decide) | (show (0 : Int) ≤ 3 ∧ (3 : Int) ≤ 3; decide)
  by_cases ht : (cRetire (wM A)).1 = 0
  · have e2 : mR (zSt z) (cRetire (zSt z (17, 0, 0))).1 (cRetire (zSt z (17, 0, 0))).2.2 = pS (zSt z) (17, 0, 0) (cRetire (wM A)).2.2 := by rw [ec, ht, mR_0]
    have f6 : mR (zSt z) (cRetire (zSt z (17, 0, 0))).1 (cRetire (zSt z (17, 0, 0))).2.2 (16, 0, 0) 6 = wC A := by rw [e2, pS_ne (by decide), e6]
    have f9 : mR (zSt z) (cRetire (zSt z (17, 0, 0))).1 (cRetire (zSt z (17, 0, 0))).2.2 (16, 0, 0) 9 = 0 := by rw [e2, pS_ne (by decide), zSt_9]
    obtain ⟨p1, p2, p3⟩ := r1.pu (a' := (cRetire (wM A)).2.2) hI (by unfold zSt; rw [pS_at]; exact hR.1.1)
    have hfin : (RelM (zPu (mR (zSt z) (cRetire (zSt z (17, 0, 0))).1 (cRetire (zSt z (17, 0, 0))).2.2)) (oCmd (cRetire) A).2.2 ∧ zPu (mR (zSt z) (cRetire (zSt z (17, 0, 0))).1 (cRetire (zSt z (17, 0, 0))).2.2) (16, 0, 0) 9 = (oCmd (cRetire) A).1) ∧ fM z (zPu (mR (zSt z) (cRetire (zSt z (17, 0, 0))).1 (cRetire (zSt z (17, 0, 0))).2.2)) := by
      rw [e2, oCmd, if_pos ht]
      exact ⟨⟨p1, by rw [p2, zSt_9]⟩, r2.tr p3⟩
    have hval : (some (.inl (cRetire (zSt z (17, 0, 0))).2.1) : Option aV) = some (.inl (oCmd (cRetire) A).2.1) := by rw [ec, oCmd, if_pos ht]
    refine aM1_of kX7_retire rfl (fun B hB => ?_)
    refine hB [] 1000 _ _ _ _ _ ?_
    repeat' (first | exact hfin | exact hval | exact hJ.1 | refine And.intro ?_ ?_ | refine Or.inl (uE0 (cM_starts hv0 hv1) ?_) | refine Or.inl (uE (cM_retireIt ?_ hJ.1) ?_) | refine Or.inl (uE (cM_changed0 ?_ ?_ f9 rfl) ?_) | fail)
    all_goals first | omega | (exact rfl) | assumption | (exact ⟨by decide, by decide⟩) | (show _ ≤ mR (zSt z) (cRetire (zSt z (17, 0, 0))).1 (cRetire (zSt z (17, 0, 0))).2.2 (16, 0, 0) 6; omega) | (show mR (zSt z) (cRetire (zSt z (17, 0, 0))).1 (cRetire (zSt z (17, 0, 0))).2.2 (16, 0, 0) 6 ≤ _; omega) | fail "left"
  · have e2 : mR (zSt z) (cRetire (zSt z (17, 0, 0))).1 (cRetire (zSt z (17, 0, 0))).2.2 = aWr (zSt z) (16, 0, 0) 9 (cRetire (wM A)).1 := by rw [ec, mR_t ht]
    have f9 : mR (zSt z) (cRetire (zSt z (17, 0, 0))).1 (cRetire (zSt z (17, 0, 0))).2.2 (16, 0, 0) 9 = (cRetire (wM A)).1 := by rw [e2, aWr_pS, pS_at, ud_at]
    have f9a : 0 < mR (zSt z) (cRetire (zSt z (17, 0, 0))).1 (cRetire (zSt z (17, 0, 0))).2.2 (16, 0, 0) 9 := by rw [f9]; omega
    have f9b : mR (zSt z) (cRetire (zSt z (17, 0, 0))).1 (cRetire (zSt z (17, 0, 0))).2.2 (16, 0, 0) 9 ≤ 9 := by rw [f9]; omega
    obtain ⟨p1, p2⟩ := r1.thr (cRetire (wM A)).1
    have hfin : (RelM (mR (zSt z) (cRetire (zSt z (17, 0, 0))).1 (cRetire (zSt z (17, 0, 0))).2.2) (oCmd (cRetire) A).2.2 ∧ mR (zSt z) (cRetire (zSt z (17, 0, 0))).1 (cRetire (zSt z (17, 0, 0))).2.2 (16, 0, 0) 9 = (oCmd (cRetire) A).1) ∧ fM z (mR (zSt z) (cRetire (zSt z (17, 0, 0))).1 (cRetire (zSt z (17, 0, 0))).2.2) := by
      rw [e2, oCmd, if_neg ht]
      exact ⟨⟨p1, p2⟩, r2.wr (Or.inl rfl)⟩
    have hval : (some (.inl (cRetire (zSt z (17, 0, 0))).2.1) : Option aV) = some (.inl (oCmd (cRetire) A).2.1) := by rw [ec, oCmd, if_neg ht]
    refine aM1_of kX7_retire rfl (fun B hB => ?_)
    refine hB [] 1000 _ _ _ _ _ ?_
    repeat' (first | exact hfin | exact hval | exact hJ.1 | refine And.intro ?_ ?_ | refine Or.inl (uE0 (cM_starts hv0 hv1) ?_) | refine Or.inl (uE (cM_retireIt ?_ hJ.1) ?_) | refine Or.inl (uE (cM_changedT f9a f9b) ?_) | fail)
    all_goals first | omega | (exact rfl) | assumption | (exact ⟨by decide, by decide⟩) | fail "left"

end M8
