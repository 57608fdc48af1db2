/-! THE MODEL'S METHODS: the commands (printed by wip/whole/model5.py) -/
theorem mR_0 (z : aM) (a : Int → Int) : mR z 0 a = pS z (17, 0, 0) a := if_pos rfl
theorem mR_t {z : aM} {a : Int → Int} {t : Int} (h : t ≠ 0) : mR z t a = aWr z (16, 0, 0) 9 t := if_neg h
section M5
variable {l : Launch} {g : aG} {d : Nat} {z : aM}
theorem cM_isFixed (h0 : 0 ≤ z (17, 0, 0) 2) (h1 : z (17, 0, 0) 2 ≤ 8) : aEb l g nX7_isFixed d [.inr (.inr (.inl (16, 0, 0)))] z (0 < z (17, 0, 0) 2) := by
  refine aM1_of kX7_isFixed rfl (fun B hB => ?_)
  refine hB [] 1000 _ _ _ _ _ ?_
  repeat' (first | refine And.intro ?_ ?_ | (intro hh; first | exact absurd hh (by decide) | exact absurd rfl hh | skip) | fail)
  all_goals first | omega | exact rfl | exact Or.inl rfl | exact Or.inr rfl | exact sI (by omega) | exact Or.inl ⟨rfl, by omega⟩ | exact Or.inr ⟨rfl, by omega⟩ | fail "left"

theorem cM_startIt {x y : Int} (hd : 2 ≤ d) (h : Inv0 (z (17, 0, 0))) (hx : aIR x) (hy : aIR y) : aE1 l g nX7_startIt d [.inr (.inr (.inl (16, 0, 0))), .inl x, .inl y] z (cStart x y (z (17, 0, 0))).2.1 (mR z (cStart x y (z (17, 0, 0))).1 (cStart x y (z (17, 0, 0))).2.2) := by
  try unfold aIR at *
  have cc := h.1.1
  refine aM1_of kX7_startIt rfl (fun B hB => ?_)
  refine hB [] 1000 _ _ _ _ _ ?_
  repeat' (first | refine And.intro ?_ ?_ | (intro hh; first | exact absurd hh (by decide) | exact absurd rfl hh | skip) | refine Or.inl (uE cM_throwing ?_) | refine Or.inl (uB (cM_isPoint ?_ ?_ ?_) ?_ ?_) | refine Or.inl (uB (cM_isFixed ?_ ?_) ?_ ?_) | fail)
  all_goals first | omega | (exact rfl) | skip
  all_goals (unfold cStart; (repeat' split) <;> first | (exfalso; omega) | contradiction | (exact rfl) | (exact (mR_t (by decide)).symm) | (refine Eq.trans ?_ (mR_0 z _).symm; simp (disch := omega) only [aWr_pS, pS_at, pS_pS, ud_at, ud_ne]; done) | (simp (disch := omega) only [aWr_pS, pS_at, pS_pS, ud_at, ud_ne]; done) | (simp (disch := omega) only [aWr_pS, pS_at, pS_pS, ud_at, ud_ne]; exact sI (by omega)) | fail "left")

theorem cM_legIt {x y p : Int} (hd : 2 ≤ d) (h : Inv0 (z (17, 0, 0))) (hx : aIR x) (hy : aIR y) (hp : aIR p) : aE1 l g nX7_legIt d [.inr (.inr (.inl (16, 0, 0))), .inl x, .inl y, .inl p] z (cLeg x y p (z (17, 0, 0))).2.1 (mR z (cLeg x y p (z (17, 0, 0))).1 (cLeg x y p (z (17, 0, 0))).2.2) := by
  try unfold aIR at *
  have cc := h.1.1
  refine aM1_of kX7_legIt rfl (fun B hB => ?_)
  refine hB [] 1000 _ _ _ _ _ ?_
  repeat' (first | refine And.intro ?_ ?_ | (intro hh; first | exact absurd hh (by decide) | exact absurd rfl hh | skip) | refine Or.inl (uE cM_throwing ?_) | refine Or.inl (uB (cM_isPoint ?_ ?_ ?_) ?_ ?_) | refine Or.inl (uB (cM_in ?_ ?_ ?_) ?_ ?_) | refine Or.inl (uB (cM_isFixed ?_ ?_) ?_ ?_) | refine Or.inl (uE cM_legAt ?_) | fail)
  all_goals first | omega | (exact rfl) | skip
  all_goals (unfold cLeg; (repeat' split) <;> first | (exfalso; omega) | contradiction | (exact rfl) | (exact (mR_t (by decide)).symm) | (refine Eq.trans ?_ (mR_0 z _).symm; simp (disch := omega) only [aWr_pS, pS_at, pS_pS, ud_at, ud_ne]; done) | (simp (disch := omega) only [aWr_pS, pS_at, pS_pS, ud_at, ud_ne]; done) | (simp (disch := omega) only [aWr_pS, pS_at, pS_pS, ud_at, ud_ne]; exact sI (by omega)) | fail "left")

theorem cM_gateIt {leg x1 y1 x2 y2 : Int} (hd : 2 ≤ d) (h : Inv0 (z (17, 0, 0))) (hl : aIR leg) (hx1 : aIR x1) (hy1 : aIR y1) (hx2 : aIR x2) (hy2 : aIR y2) : aE1 l g nX7_gateIt d [.inr (.inr (.inl (16, 0, 0))), .inl leg, .inl x1, .inl y1, .inl x2, .inl y2] z (cGate leg x1 y1 x2 y2 (z (17, 0, 0))).2.1 (mR z (cGate leg x1 y1 x2 y2 (z (17, 0, 0))).1 (cGate leg x1 y1 x2 y2 (z (17, 0, 0))).2.2) := by
  try unfold aIR at *
  have cc := h.1.1
  refine aM1_of kX7_gateIt rfl (fun B hB => ?_)
  refine hB [] 1000 _ _ _ _ _ ?_
  repeat' (first | refine And.intro ?_ ?_ | (intro hh; first | exact absurd hh (by decide) | exact absurd rfl hh | skip) | refine Or.inl (uE cM_throwing ?_) | refine Or.inl (uB (cM_isPoint ?_ ?_ ?_) ?_ ?_) | refine Or.inl (uB (cM_isFixed ?_ ?_) ?_ ?_) | refine Or.inl (uB (cM_isLeg ?_ ?_ ?_ ?_) ?_ ?_) | refine Or.inl (uE cM_gateAt ?_) | fail)
  all_goals first | omega | (exact rfl) | skip
  all_goals (unfold cGate; (repeat' split) <;> first | (exfalso; omega) | contradiction | (exact rfl) | (exact (mR_t (by decide)).symm) | (refine Eq.trans ?_ (mR_0 z _).symm; simp (disch := omega) only [aWr_pS, pS_at, pS_pS, ud_at, ud_ne]; done) | (simp (disch := omega) only [aWr_pS, pS_at, pS_pS, ud_at, ud_ne]; done) | (simp (disch := omega) only [aWr_pS, pS_at, pS_pS, ud_at, ud_ne]; exact sI (by omega)) | fail "left")

theorem cM_setsIt {w v lo hi : Int} (hd : 2 ≤ d) (h : Inv0 (z (17, 0, 0))) (hw0 : 0 ≤ w) (hw1 : w < 163) (hv : aIR v) (hlo : aIR lo) (hhi : aIR hi) : aE1 l g nX7_setsIt d [.inr (.inr (.inl (16, 0, 0))), .inl w, .inl v, .inl lo, .inl hi] z (cSet w v lo hi (z (17, 0, 0))).2.1 (mR z (cSet w v lo hi (z (17, 0, 0))).1 (cSet w v lo hi (z (17, 0, 0))).2.2) := by
  try unfold aIR at *
  have cc := h.1.1
  refine aM1_of kX7_setsIt rfl (fun B hB => ?_)
  refine hB [] 1000 _ _ _ _ _ ?_
  repeat' (first | refine And.intro ?_ ?_ | (intro hh; first | exact absurd hh (by decide) | exact absurd rfl hh | skip) | refine Or.inl (uE cM_throwing ?_) | refine Or.inl (uB (cM_in ?_ ?_ ?_) ?_ ?_) | refine Or.inl (uB (cM_isFixed ?_ ?_) ?_ ?_) | fail)
  all_goals first | omega | (exact rfl) | skip
  all_goals (unfold cSet; (repeat' split) <;> first | (exfalso; omega) | contradiction | (exact rfl) | (exact (mR_t (by decide)).symm) | (refine Eq.trans ?_ (mR_0 z _).symm; simp (disch := omega) only [aWr_pS, pS_at, pS_pS, ud_at, ud_ne]; done) | (simp (disch := omega) only [aWr_pS, pS_at, pS_pS, ud_at, ud_ne]; done) | (simp (disch := omega) only [aWr_pS, pS_at, pS_pS, ud_at, ud_ne]; exact sI (by omega)) | fail "left")

theorem cM_faultIt {p : Int} (hd : 2 ≤ d) (h : Inv0 (z (17, 0, 0))) (hp : aIR p) : aE1 l g nX7_faultIt d [.inr (.inr (.inl (16, 0, 0))), .inl p] z (cFault p (z (17, 0, 0))).2.1 (mR z (cFault p (z (17, 0, 0))).1 (cFault p (z (17, 0, 0))).2.2) := by
  try unfold aIR at *
  have cc := h.1.1
  have gg := fun n7 => h.go n7
  have ga : -1 ≤ z (17, 0, 0) 7 ∧ z (17, 0, 0) 7 < 8 := by rcases h.2.1 with q | q <;> omega
  refine aM1_of kX7_faultIt rfl (fun B hB => ?_)
  refine hB [] 1000 _ _ _ _ _ ?_
  repeat' (first | refine And.intro ?_ ?_ | (intro hh; first | exact absurd hh (by decide) | exact absurd rfl hh | skip) | refine Or.inl (uE cM_throwing ?_) | refine Or.inl (uB (cM_in ?_ ?_ ?_) ?_ ?_) | refine Or.inl (uE (cM_loses ?_ h (by assumption) (gg (by assumption)).2.1.1 (gg (by assumption)).2.1.2 ?_ ?_ ?_ ?_) ?_) | fail)
  all_goals first | omega | (exact rfl) | skip
  all_goals (unfold cFault; (repeat' split) <;> first | (exfalso; omega) | contradiction | (exact rfl) | (exact (mR_t (by decide)).symm) | (refine Eq.trans ?_ (mR_0 z _).symm; simp (disch := omega) only [aWr_pS, pS_at, pS_pS, ud_at, ud_ne]; done) | (simp (disch := omega) only [aWr_pS, pS_at, pS_pS, ud_at, ud_ne]; done) | (simp (disch := omega) only [aWr_pS, pS_at, pS_pS, ud_at, ud_ne]; exact sI (by omega)) | fail "left")

theorem cM_retireIt (hd : 3 ≤ d) (h : Inv0 (z (17, 0, 0))) : aE1 l g nX7_retireIt d [.inr (.inr (.inl (16, 0, 0)))] z (cRetire (z (17, 0, 0))).2.1 (mR z (cRetire (z (17, 0, 0))).1 (cRetire (z (17, 0, 0))).2.2) := by
  try unfold aIR at *
  have cc := h.1.1
  have ga : -1 ≤ z (17, 0, 0) 7 ∧ z (17, 0, 0) 7 < 8 := by rcases h.2.1 with q | q <;> omega
  refine aM1_of kX7_retireIt rfl (fun B hB => ?_)
  refine hB [] 1000 _ _ _ _ _ ?_
  repeat' (first | refine And.intro ?_ ?_ | (intro hh; first | exact absurd hh (by decide) | exact absurd rfl hh | skip) | refine Or.inl (uE cM_throwing ?_) | refine Or.inl (uE (cM_losesRest ?_ h (by assumption) ?_ ?_) ?_) | refine Or.inl (uE0 cM_endsRun ?_) | fail)
  all_goals first | omega | (exact rfl) | skip
  all_goals (unfold cRetire; (repeat' split) <;> first | (exfalso; omega) | contradiction | (exact rfl) | (exact (mR_t (by decide)).symm) | (refine Eq.trans ?_ (mR_0 z _).symm; simp (disch := omega) only [aWr_pS, pS_at, pS_pS, ud_at, ud_ne]; done) | (simp (disch := omega) only [aWr_pS, pS_at, pS_pS, ud_at, ud_ne]; done) | (simp (disch := omega) only [aWr_pS, pS_at, pS_pS, ud_at, ud_ne]; exact sI (by omega)) | fail "left")

end M5
