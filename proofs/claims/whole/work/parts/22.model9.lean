/-! THE MODEL'S METHODS: queries (printed by wip/whole/model9.py) -/
theorem sN_s {f : Int → Int} {k : Int} (h : 0 ≤ k) : sN f (k + 1).toNat = sN f k.toNat + f k := by
  have e : (k + 1).toNat = k.toNat + 1 := by omega
  rw [e]
  show sN f k.toNat + f ((k.toNat : Nat) : Int) = _
  rw [Int.toNat_of_nonneg h]
theorem sB_1 {c : Prop} [Decidable c] (h : c) : sB c = 1 := if_pos h
theorem sB_0 {c : Prop} [Decidable c] (h : ¬ c) : sB c = 0 := if_neg h
section M9
variable {l : Launch} {g : aG} {d : Nat} {z : aM} {A : aAb}
theorem cM_thrown  : aE1 l g nX7_thrown d [.inr (.inr (.inl (16, 0, 0)))] z (z (16, 0, 0) 9) z := by
  refine aM1_of kX7_thrown rfl (fun B hB => ?_)
  refine hB [] 1000 _ _ _ _ _ ?_
  repeat' (first | refine And.intro ?_ ?_ | (intro hh; first | exact absurd hh (by decide) | exact absurd rfl hh | skip) | fail)
  all_goals first | omega | exact rfl | exact Or.inl rfl | exact Or.inr rfl | exact sI (by omega) | exact Or.inl ⟨rfl, by omega⟩ | exact Or.inr ⟨rfl, by omega⟩ | fail "left"

theorem cM_total {w : Int} (w0 : 0 ≤ w) (w1 : w < 163) : aE1 l g nX7_total d [.inr (.inr (.inl (16, 0, 0))), .inl w] z (z (17, 0, 0) w) (aWr z (16, 0, 0) 9 0) := by
  refine aM1_of kX7_total rfl (fun B hB => ?_)
  refine hB [] 1000 _ _ _ _ _ ?_
  repeat' (first | refine And.intro ?_ ?_ | (intro hh; first | exact absurd hh (by decide) | exact absurd rfl hh | skip) | fail)
  all_goals first | omega | exact rfl | exact Or.inl rfl | exact Or.inr rfl | exact sI (by omega) | exact Or.inl ⟨rfl, by omega⟩ | exact Or.inr ⟨rfl, by omega⟩ | fail "left"

theorem cM_legs  (hd : 1 ≤ d) (hR : RelM z A) (hI : InvW A) : mOp l g nX7_legs d [.inr (.inr (.inl (16, 0, 0)))] z ((0, wM A 0, A)) := by
  try unfold aIR at *
  have em := hR.1.1
  have hJ : Inv (z (17, 0, 0)) := by rw [em]; exact hI.1.1
  have cc := hJ.1.1.1
  have ct := hJ.1.1.2.1
  have ga : -1 ≤ z (17, 0, 0) 7 ∧ z (17, 0, 0) 7 < 8 := by rcases hJ.1.2.1 with q | q <;> omega
  have fin1 : ∀ t, (RelM (aWr z (16, 0, 0) 9 t) A ∧ aWr z (16, 0, 0) 9 t (16, 0, 0) 9 = t) ∧ fM z (aWr z (16, 0, 0) 9 t) := fun t => ⟨hR.thr t, (fM.rf z).wr (Or.inl rfl)⟩
  have fin2 : ∀ t, (RelM (aWr (aWr z (16, 0, 0) 9 0) (16, 0, 0) 9 t) A ∧ aWr (aWr z (16, 0, 0) 9 0) (16, 0, 0) 9 t (16, 0, 0) 9 = t) ∧ fM z (aWr (aWr z (16, 0, 0) 9 0) (16, 0, 0) 9 t) := fun t => ⟨(hR.thr 0).1.thr t, ((fM.rf z).wr (Or.inl rfl)).wr (Or.inl rfl)⟩
  obtain ⟨y1, hy1⟩ : ∃ w, w = aWr z (16, 0, 0) 9 0 := ⟨_, rfl⟩
  have ey : aWr z (16, 0, 0) 9 0 (17, 0, 0) = z (17, 0, 0) := aWr_ne2 (by decide)
  have ey0 : aWr z (16, 0, 0) 9 0 (17, 0, 0) 0 = z (17, 0, 0) 0 := by rw [ey]
  have ey1 : aWr z (16, 0, 0) 9 0 (17, 0, 0) 1 = z (17, 0, 0) 1 := by rw [ey]
  have ey2 : aWr z (16, 0, 0) 9 0 (17, 0, 0) 2 = z (17, 0, 0) 2 := by rw [ey]
  have ey7 : aWr z (16, 0, 0) 9 0 (17, 0, 0) 7 = z (17, 0, 0) 7 := by rw [ey]
  have hRq : ((0, wM A 0, A) : aRes) = (0, z (17, 0, 0) 0, A) := by
    rw [em]
  rw [hRq, mOp]
  refine aM1_of kX7_legs rfl (fun B hB => ?_)
  refine hB [] 1000 _ _ _ _ _ ?_
  repeat' (first | exact fin1 _ | exact fin2 _ | refine And.intro ?_ ?_ | (intro hh; first | exact absurd hh (by decide) | exact absurd rfl hh | (exfalso; omega) | skip) | refine Or.inl (uE cM_throwing ?_) | refine Or.inl (uE (cM_total (by omega) (by omega)) ?_) | fail)
  all_goals first | omega | (exact rfl) | (exact Or.inl rfl) | (exact Or.inr rfl) | contradiction | (exact sI (by omega)) | (exact sI (by rw [ey])) | fail "left"

theorem cM_gates  (hd : 1 ≤ d) (hR : RelM z A) (hI : InvW A) : mOp l g nX7_gates d [.inr (.inr (.inl (16, 0, 0)))] z ((0, wM A 1, A)) := by
  try unfold aIR at *
  have em := hR.1.1
  have hJ : Inv (z (17, 0, 0)) := by rw [em]; exact hI.1.1
  have cc := hJ.1.1.1
  have ct := hJ.1.1.2.1
  have ga : -1 ≤ z (17, 0, 0) 7 ∧ z (17, 0, 0) 7 < 8 := by rcases hJ.1.2.1 with q | q <;> omega
  have fin1 : ∀ t, (RelM (aWr z (16, 0, 0) 9 t) A ∧ aWr z (16, 0, 0) 9 t (16, 0, 0) 9 = t) ∧ fM z (aWr z (16, 0, 0) 9 t) := fun t => ⟨hR.thr t, (fM.rf z).wr (Or.inl rfl)⟩
  have fin2 : ∀ t, (RelM (aWr (aWr z (16, 0, 0) 9 0) (16, 0, 0) 9 t) A ∧ aWr (aWr z (16, 0, 0) 9 0) (16, 0, 0) 9 t (16, 0, 0) 9 = t) ∧ fM z (aWr (aWr z (16, 0, 0) 9 0) (16, 0, 0) 9 t) := fun t => ⟨(hR.thr 0).1.thr t, ((fM.rf z).wr (Or.inl rfl)).wr (Or.inl rfl)⟩
  obtain ⟨y1, hy1⟩ : ∃ w, w = aWr z (16, 0, 0) 9 0 := ⟨_, rfl⟩
  have ey : aWr z (16, 0, 0) 9 0 (17, 0, 0) = z (17, 0, 0) := aWr_ne2 (by decide)
  have ey0 : aWr z (16, 0, 0) 9 0 (17, 0, 0) 0 = z (17, 0, 0) 0 := by rw [ey]
  have ey1 : aWr z (16, 0, 0) 9 0 (17, 0, 0) 1 = z (17, 0, 0) 1 := by rw [ey]
  have ey2 : aWr z (16, 0, 0) 9 0 (17, 0, 0) 2 = z (17, 0, 0) 2 := by rw [ey]
  have ey7 : aWr z (16, 0, 0) 9 0 (17, 0, 0) 7 = z (17, 0, 0) 7 := by rw [ey]
  have hRq : ((0, wM A 1, A) : aRes) = (0, z (17, 0, 0) 1, A) := by
    rw [em]
  rw [hRq, mOp]
  refine aM1_of kX7_gates rfl (fun B hB => ?_)
  refine hB [] 1000 _ _ _ _ _ ?_
  repeat' (first | exact fin1 _ | exact fin2 _ | refine And.intro ?_ ?_ | (intro hh; first | exact absurd hh (by decide) | exact absurd rfl hh | (exfalso; omega) | skip) | refine Or.inl (uE cM_throwing ?_) | refine Or.inl (uE (cM_total (by omega) (by omega)) ?_) | fail)
  all_goals first | omega | (exact rfl) | (exact Or.inl rfl) | (exact Or.inr rfl) | contradiction | (exact sI (by omega)) | (exact sI (by rw [ey])) | fail "left"

theorem cM_tolerance  (hd : 1 ≤ d) (hR : RelM z A) (hI : InvW A) : mOp l g nX7_tolerance d [.inr (.inr (.inl (16, 0, 0)))] z ((0, wM A 5, A)) := by
  try unfold aIR at *
  have em := hR.1.1
  have hJ : Inv (z (17, 0, 0)) := by rw [em]; exact hI.1.1
  have cc := hJ.1.1.1
  have ct := hJ.1.1.2.1
  have ga : -1 ≤ z (17, 0, 0) 7 ∧ z (17, 0, 0) 7 < 8 := by rcases hJ.1.2.1 with q | q <;> omega
  have fin1 : ∀ t, (RelM (aWr z (16, 0, 0) 9 t) A ∧ aWr z (16, 0, 0) 9 t (16, 0, 0) 9 = t) ∧ fM z (aWr z (16, 0, 0) 9 t) := fun t => ⟨hR.thr t, (fM.rf z).wr (Or.inl rfl)⟩
  have fin2 : ∀ t, (RelM (aWr (aWr z (16, 0, 0) 9 0) (16, 0, 0) 9 t) A ∧ aWr (aWr z (16, 0, 0) 9 0) (16, 0, 0) 9 t (16, 0, 0) 9 = t) ∧ fM z (aWr (aWr z (16, 0, 0) 9 0) (16, 0, 0) 9 t) := fun t => ⟨(hR.thr 0).1.thr t, ((fM.rf z).wr (Or.inl rfl)).wr (Or.inl rfl)⟩
  obtain ⟨y1, hy1⟩ : ∃ w, w = aWr z (16, 0, 0) 9 0 := ⟨_, rfl⟩
  have ey : aWr z (16, 0, 0) 9 0 (17, 0, 0) = z (17, 0, 0) := aWr_ne2 (by decide)
  have ey0 : aWr z (16, 0, 0) 9 0 (17, 0, 0) 0 = z (17, 0, 0) 0 := by rw [ey]
  have ey1 : aWr z (16, 0, 0) 9 0 (17, 0, 0) 1 = z (17, 0, 0) 1 := by rw [ey]
  have ey2 : aWr z (16, 0, 0) 9 0 (17, 0, 0) 2 = z (17, 0, 0) 2 := by rw [ey]
  have ey7 : aWr z (16, 0, 0) 9 0 (17, 0, 0) 7 = z (17, 0, 0) 7 := by rw [ey]
  have hRq : ((0, wM A 5, A) : aRes) = (0, z (17, 0, 0) 5, A) := by
    rw [em]
  rw [hRq, mOp]
  refine aM1_of kX7_tolerance rfl (fun B hB => ?_)
  refine hB [] 1000 _ _ _ _ _ ?_
  repeat' (first | exact fin1 _ | exact fin2 _ | refine And.intro ?_ ?_ | (intro hh; first | exact absurd hh (by decide) | exact absurd rfl hh | (exfalso; omega) | skip) | refine Or.inl (uE cM_throwing ?_) | refine Or.inl (uE (cM_total (by omega) (by omega)) ?_) | fail)
  all_goals first | omega | (exact rfl) | (exact Or.inl rfl) | (exact Or.inr rfl) | contradiction | (exact sI (by omega)) | (exact sI (by rw [ey])) | fail "left"

theorem cM_timeLimit  (hd : 1 ≤ d) (hR : RelM z A) (hI : InvW A) : mOp l g nX7_timeLimit d [.inr (.inr (.inl (16, 0, 0)))] z ((0, wM A 6, A)) := by
  try unfold aIR at *
  have em := hR.1.1
  have hJ : Inv (z (17, 0, 0)) := by rw [em]; exact hI.1.1
  have cc := hJ.1.1.1
  have ct := hJ.1.1.2.1
  have ga : -1 ≤ z (17, 0, 0) 7 ∧ z (17, 0, 0) 7 < 8 := by rcases hJ.1.2.1 with q | q <;> omega
  have fin1 : ∀ t, (RelM (aWr z (16, 0, 0) 9 t) A ∧ aWr z (16, 0, 0) 9 t (16, 0, 0) 9 = t) ∧ fM z (aWr z (16, 0, 0) 9 t) := fun t => ⟨hR.thr t, (fM.rf z).wr (Or.inl rfl)⟩
  have fin2 : ∀ t, (RelM (aWr (aWr z (16, 0, 0) 9 0) (16, 0, 0) 9 t) A ∧ aWr (aWr z (16, 0, 0) 9 0) (16, 0, 0) 9 t (16, 0, 0) 9 = t) ∧ fM z (aWr (aWr z (16, 0, 0) 9 0) (16, 0, 0) 9 t) := fun t => ⟨(hR.thr 0).1.thr t, ((fM.rf z).wr (Or.inl rfl)).wr (Or.inl rfl)⟩
  obtain ⟨y1, hy1⟩ : ∃ w, w = aWr z (16, 0, 0) 9 0 := ⟨_, rfl⟩
  have ey : aWr z (16, 0, 0) 9 0 (17, 0, 0) = z (17, 0, 0) := aWr_ne2 (by decide)
  have ey0 : aWr z (16, 0, 0) 9 0 (17, 0, 0) 0 = z (17, 0, 0) 0 := by rw [ey]
  have ey1 : aWr z (16, 0, 0) 9 0 (17, 0, 0) 1 = z (17, 0, 0) 1 := by rw [ey]
  have ey2 : aWr z (16, 0, 0) 9 0 (17, 0, 0) 2 = z (17, 0, 0) 2 := by rw [ey]
  have ey7 : aWr z (16, 0, 0) 9 0 (17, 0, 0) 7 = z (17, 0, 0) 7 := by rw [ey]
  have hRq : ((0, wM A 6, A) : aRes) = (0, z (17, 0, 0) 6, A) := by
    rw [em]
  rw [hRq, mOp]
  refine aM1_of kX7_timeLimit rfl (fun B hB => ?_)
  refine hB [] 1000 _ _ _ _ _ ?_
  repeat' (first | exact fin1 _ | exact fin2 _ | refine And.intro ?_ ?_ | (intro hh; first | exact absurd hh (by decide) | exact absurd rfl hh | (exfalso; omega) | skip) | refine Or.inl (uE cM_throwing ?_) | refine Or.inl (uE (cM_total (by omega) (by omega)) ?_) | fail)
  all_goals first | omega | (exact rfl) | (exact Or.inl rfl) | (exact Or.inr rfl) | contradiction | (exact sI (by omega)) | (exact sI (by rw [ey])) | fail "left"

theorem cM_runs  (hd : 1 ≤ d) (hR : RelM z A) (hI : InvW A) : mOp l g nX7_runs d [.inr (.inr (.inl (16, 0, 0)))] z ((0, wM A 2, A)) := by
  try unfold aIR at *
  have em := hR.1.1
  have hJ : Inv (z (17, 0, 0)) := by rw [em]; exact hI.1.1
  have cc := hJ.1.1.1
  have ct := hJ.1.1.2.1
  have ga : -1 ≤ z (17, 0, 0) 7 ∧ z (17, 0, 0) 7 < 8 := by rcases hJ.1.2.1 with q | q <;> omega
  have fin1 : ∀ t, (RelM (aWr z (16, 0, 0) 9 t) A ∧ aWr z (16, 0, 0) 9 t (16, 0, 0) 9 = t) ∧ fM z (aWr z (16, 0, 0) 9 t) := fun t => ⟨hR.thr t, (fM.rf z).wr (Or.inl rfl)⟩
  have fin2 : ∀ t, (RelM (aWr (aWr z (16, 0, 0) 9 0) (16, 0, 0) 9 t) A ∧ aWr (aWr z (16, 0, 0) 9 0) (16, 0, 0) 9 t (16, 0, 0) 9 = t) ∧ fM z (aWr (aWr z (16, 0, 0) 9 0) (16, 0, 0) 9 t) := fun t => ⟨(hR.thr 0).1.thr t, ((fM.rf z).wr (Or.inl rfl)).wr (Or.inl rfl)⟩
  obtain ⟨y1, hy1⟩ : ∃ w, w = aWr z (16, 0, 0) 9 0 := ⟨_, rfl⟩
  have ey : aWr z (16, 0, 0) 9 0 (17, 0, 0) = z (17, 0, 0) := aWr_ne2 (by decide)
  have ey0 : aWr z (16, 0, 0) 9 0 (17, 0, 0) 0 = z (17, 0, 0) 0 := by rw [ey]
  have ey1 : aWr z (16, 0, 0) 9 0 (17, 0, 0) 1 = z (17, 0, 0) 1 := by rw [ey]
  have ey2 : aWr z (16, 0, 0) 9 0 (17, 0, 0) 2 = z (17, 0, 0) 2 := by rw [ey]
  have ey7 : aWr z (16, 0, 0) 9 0 (17, 0, 0) 7 = z (17, 0, 0) 7 := by rw [ey]
  have hRq : ((0, wM A 2, A) : aRes) = (0, z (17, 0, 0) 2, A) := by
    rw [em]
  rw [hRq, mOp]
  refine aM1_of kX7_runs rfl (fun B hB => ?_)
  refine hB [] 1000 _ _ _ _ _ ?_
  repeat' (first | exact fin1 _ | exact fin2 _ | refine And.intro ?_ ?_ | (intro hh; first | exact absurd hh (by decide) | exact absurd rfl hh | (exfalso; omega) | skip) | refine Or.inl (uE cM_throwing ?_) | refine Or.inl (uE (cM_total (by omega) (by omega)) ?_) | fail)
  all_goals first | omega | (exact rfl) | (exact Or.inl rfl) | (exact Or.inr rfl) | contradiction | (exact sI (by omega)) | (exact sI (by rw [ey])) | fail "left"

theorem cM_legPoints {k : Int} (hk : aIR k) (hd : 2 ≤ d) (hR : RelM z A) (hI : InvW A) : mOp l g nX7_legPoints d [.inr (.inr (.inl (16, 0, 0))), .inl k] z (qR (isL (wM A) k) (wM A (11 + 3 * k + 2)) A) := by
  try unfold aIR at *
  have em := hR.1.1
  have hJ : Inv (z (17, 0, 0)) := by rw [em]; exact hI.1.1
  have cc := hJ.1.1.1
  have ct := hJ.1.1.2.1
  have ga : -1 ≤ z (17, 0, 0) 7 ∧ z (17, 0, 0) 7 < 8 := by rcases hJ.1.2.1 with q | q <;> omega
  have fin1 : ∀ t, (RelM (aWr z (16, 0, 0) 9 t) A ∧ aWr z (16, 0, 0) 9 t (16, 0, 0) 9 = t) ∧ fM z (aWr z (16, 0, 0) 9 t) := fun t => ⟨hR.thr t, (fM.rf z).wr (Or.inl rfl)⟩
  have fin2 : ∀ t, (RelM (aWr (aWr z (16, 0, 0) 9 0) (16, 0, 0) 9 t) A ∧ aWr (aWr z (16, 0, 0) 9 0) (16, 0, 0) 9 t (16, 0, 0) 9 = t) ∧ fM z (aWr (aWr z (16, 0, 0) 9 0) (16, 0, 0) 9 t) := fun t => ⟨(hR.thr 0).1.thr t, ((fM.rf z).wr (Or.inl rfl)).wr (Or.inl rfl)⟩
  obtain ⟨y1, hy1⟩ : ∃ w, w = aWr z (16, 0, 0) 9 0 := ⟨_, rfl⟩
  have ey : aWr z (16, 0, 0) 9 0 (17, 0, 0) = z (17, 0, 0) := aWr_ne2 (by decide)
  have ey0 : aWr z (16, 0, 0) 9 0 (17, 0, 0) 0 = z (17, 0, 0) 0 := by rw [ey]
  have ey1 : aWr z (16, 0, 0) 9 0 (17, 0, 0) 1 = z (17, 0, 0) 1 := by rw [ey]
  have ey2 : aWr z (16, 0, 0) 9 0 (17, 0, 0) 2 = z (17, 0, 0) 2 := by rw [ey]
  have ey7 : aWr z (16, 0, 0) 9 0 (17, 0, 0) 7 = z (17, 0, 0) 7 := by rw [ey]
  by_cases hc0 : isL (z (17, 0, 0)) k
  · have hRq : (qR (isL (wM A) k) (wM A (11 + 3 * k + 2)) A : aRes) = (0, z (17, 0, 0) (11 + 3 * k + 2), A) := by
      rw [← em]; exact if_pos hc0
    rw [hRq, mOp]
    refine aM1_of kX7_legPoints rfl (fun B hB => ?_)
    refine hB [] 1000 _ _ _ _ _ ?_
    repeat' (first | exact fin1 _ | exact fin2 _ | refine And.intro ?_ ?_ | (intro hh; first | exact absurd hh (by decide) | exact absurd rfl hh | (exfalso; omega) | skip) | refine Or.inl (uE cM_throwing ?_) | refine Or.inl (uB (cM_isLeg ?_ ?_ ?_ ?_) ?_ ?_) | refine Or.inl (uE cM_legAt ?_) | fail)
    all_goals first | omega | (exact rfl) | (exact Or.inl rfl) | (exact Or.inr rfl) | contradiction | (exact sI (by omega)) | (exact sI (by rw [ey])) | fail "left"
  · skip
    have hRq : (qR (isL (wM A) k) (wM A (11 + 3 * k + 2)) A : aRes) = (1, -1, A) := by
      rw [← em]; exact if_neg hc0
    rw [hRq, mOp]
    refine aM1_of kX7_legPoints rfl (fun B hB => ?_)
    refine hB [] 1000 _ _ _ _ _ ?_
    repeat' (first | exact fin1 _ | exact fin2 _ | refine And.intro ?_ ?_ | (intro hh; first | exact absurd hh (by decide) | exact absurd rfl hh | (exfalso; omega) | skip) | refine Or.inl (uE cM_throwing ?_) | refine Or.inl (uB (cM_isLeg ?_ ?_ ?_ ?_) ?_ ?_) | refine Or.inl (uE cM_legAt ?_) | fail)
    all_goals first | omega | (exact rfl) | (exact Or.inl rfl) | (exact Or.inr rfl) | contradiction | (exact sI (by omega)) | (exact sI (by rw [ey])) | fail "left"

theorem cM_legOf {k : Int} (hk : aIR k) (hd : 2 ≤ d) (hR : RelM z A) (hI : InvW A) : mOp l g nX7_legOf d [.inr (.inr (.inl (16, 0, 0))), .inl k] z (qR (isG (wM A) k) (wM A (29 + 5 * k)) A) := by
  try unfold aIR at *
  have em := hR.1.1
  have hJ : Inv (z (17, 0, 0)) := by rw [em]; exact hI.1.1
  have cc := hJ.1.1.1
  have ct := hJ.1.1.2.1
  have ga : -1 ≤ z (17, 0, 0) 7 ∧ z (17, 0, 0) 7 < 8 := by rcases hJ.1.2.1 with q | q <;> omega
  have fin1 : ∀ t, (RelM (aWr z (16, 0, 0) 9 t) A ∧ aWr z (16, 0, 0) 9 t (16, 0, 0) 9 = t) ∧ fM z (aWr z (16, 0, 0) 9 t) := fun t => ⟨hR.thr t, (fM.rf z).wr (Or.inl rfl)⟩
  have fin2 : ∀ t, (RelM (aWr (aWr z (16, 0, 0) 9 0) (16, 0, 0) 9 t) A ∧ aWr (aWr z (16, 0, 0) 9 0) (16, 0, 0) 9 t (16, 0, 0) 9 = t) ∧ fM z (aWr (aWr z (16, 0, 0) 9 0) (16, 0, 0) 9 t) := fun t => ⟨(hR.thr 0).1.thr t, ((fM.rf z).wr (Or.inl rfl)).wr (Or.inl rfl)⟩
  obtain ⟨y1, hy1⟩ : ∃ w, w = aWr z (16, 0, 0) 9 0 := ⟨_, rfl⟩
  have ey : aWr z (16, 0, 0) 9 0 (17, 0, 0) = z (17, 0, 0) := aWr_ne2 (by decide)
  have ey0 : aWr z (16, 0, 0) 9 0 (17, 0, 0) 0 = z (17, 0, 0) 0 := by rw [ey]
  have ey1 : aWr z (16, 0, 0) 9 0 (17, 0, 0) 1 = z (17, 0, 0) 1 := by rw [ey]
  have ey2 : aWr z (16, 0, 0) 9 0 (17, 0, 0) 2 = z (17, 0, 0) 2 := by rw [ey]
  have ey7 : aWr z (16, 0, 0) 9 0 (17, 0, 0) 7 = z (17, 0, 0) 7 := by rw [ey]
  by_cases hc0 : isG (z (17, 0, 0)) k
  · have hRq : (qR (isG (wM A) k) (wM A (29 + 5 * k)) A : aRes) = (0, z (17, 0, 0) (29 + 5 * k), A) := by
      rw [← em]; exact if_pos hc0
    rw [hRq, mOp]
    refine aM1_of kX7_legOf rfl (fun B hB => ?_)
    refine hB [] 1000 _ _ _ _ _ ?_
    repeat' (first | exact fin1 _ | exact fin2 _ | refine And.intro ?_ ?_ | (intro hh; first | exact absurd hh (by decide) | exact absurd rfl hh | (exfalso; omega) | skip) | refine Or.inl (uE cM_throwing ?_) | refine Or.inl (uB (cM_isGate ?_ ?_ ?_ ?_) ?_ ?_) | refine Or.inl (uE cM_gateAt ?_) | fail)
    all_goals first | omega | (exact rfl) | (exact Or.inl rfl) | (exact Or.inr rfl) | contradiction | (exact sI (by omega)) | (exact sI (by rw [ey])) | fail "left"
  · skip
    have hRq : (qR (isG (wM A) k) (wM A (29 + 5 * k)) A : aRes) = (1, -1, A) := by
      rw [← em]; exact if_neg hc0
    rw [hRq, mOp]
    refine aM1_of kX7_legOf rfl (fun B hB => ?_)
    refine hB [] 1000 _ _ _ _ _ ?_
    repeat' (first | exact fin1 _ | exact fin2 _ | refine And.intro ?_ ?_ | (intro hh; first | exact absurd hh (by decide) | exact absurd rfl hh | (exfalso; omega) | skip) | refine Or.inl (uE cM_throwing ?_) | refine Or.inl (uB (cM_isGate ?_ ?_ ?_ ?_) ?_ ?_) | refine Or.inl (uE cM_gateAt ?_) | fail)
    all_goals first | omega | (exact rfl) | (exact Or.inl rfl) | (exact Or.inr rfl) | contradiction | (exact sI (by omega)) | (exact sI (by rw [ey])) | fail "left"

theorem cM_isRunning  (hd : 1 ≤ d) (hR : RelM z A) (hI : InvW A) : mOp l g nX7_isRunning d [.inr (.inr (.inl (16, 0, 0)))] z ((0, sB (wM A 7 ≠ -1), A)) := by
  try unfold aIR at *
  have em := hR.1.1
  have hJ : Inv (z (17, 0, 0)) := by rw [em]; exact hI.1.1
  have cc := hJ.1.1.1
  have ct := hJ.1.1.2.1
  have ga : -1 ≤ z (17, 0, 0) 7 ∧ z (17, 0, 0) 7 < 8 := by rcases hJ.1.2.1 with q | q <;> omega
  have fin1 : ∀ t, (RelM (aWr z (16, 0, 0) 9 t) A ∧ aWr z (16, 0, 0) 9 t (16, 0, 0) 9 = t) ∧ fM z (aWr z (16, 0, 0) 9 t) := fun t => ⟨hR.thr t, (fM.rf z).wr (Or.inl rfl)⟩
  have fin2 : ∀ t, (RelM (aWr (aWr z (16, 0, 0) 9 0) (16, 0, 0) 9 t) A ∧ aWr (aWr z (16, 0, 0) 9 0) (16, 0, 0) 9 t (16, 0, 0) 9 = t) ∧ fM z (aWr (aWr z (16, 0, 0) 9 0) (16, 0, 0) 9 t) := fun t => ⟨(hR.thr 0).1.thr t, ((fM.rf z).wr (Or.inl rfl)).wr (Or.inl rfl)⟩
  obtain ⟨y1, hy1⟩ : ∃ w, w = aWr z (16, 0, 0) 9 0 := ⟨_, rfl⟩
  have ey : aWr z (16, 0, 0) 9 0 (17, 0, 0) = z (17, 0, 0) := aWr_ne2 (by decide)
  have ey0 : aWr z (16, 0, 0) 9 0 (17, 0, 0) 0 = z (17, 0, 0) 0 := by rw [ey]
  have ey1 : aWr z (16, 0, 0) 9 0 (17, 0, 0) 1 = z (17, 0, 0) 1 := by rw [ey]
  have ey2 : aWr z (16, 0, 0) 9 0 (17, 0, 0) 2 = z (17, 0, 0) 2 := by rw [ey]
  have ey7 : aWr z (16, 0, 0) 9 0 (17, 0, 0) 7 = z (17, 0, 0) 7 := by rw [ey]
  by_cases hc0 : z (17, 0, 0) 7 ≠ -1
  · have hRq : ((0, sB (wM A 7 ≠ -1), A) : aRes) = (0, 1, A) := by
      rw [← em, sB_1 hc0]
    rw [hRq, mOp]
    refine aM1_of kX7_isRunning rfl (fun B hB => ?_)
    refine hB [] 1000 _ _ _ _ _ ?_
    repeat' (first | exact fin1 _ | exact fin2 _ | refine And.intro ?_ ?_ | (intro hh; first | exact absurd hh (by decide) | exact absurd rfl hh | (exfalso; omega) | skip) | refine Or.inl (uE cM_throwing ?_) | fail)
    all_goals first | omega | (exact rfl) | (exact Or.inl rfl) | (exact Or.inr rfl) | contradiction | (exact sI (by omega)) | (exact sI (by rw [ey])) | fail "left"
  · skip
    have hRq : ((0, sB (wM A 7 ≠ -1), A) : aRes) = (0, 0, A) := by
      rw [← em, sB_0 hc0]
    rw [hRq, mOp]
    refine aM1_of kX7_isRunning rfl (fun B hB => ?_)
    refine hB [] 1000 _ _ _ _ _ ?_
    repeat' (first | exact fin1 _ | exact fin2 _ | refine And.intro ?_ ?_ | (intro hh; first | exact absurd hh (by decide) | exact absurd rfl hh | (exfalso; omega) | skip) | refine Or.inl (uE cM_throwing ?_) | fail)
    all_goals first | omega | (exact rfl) | (exact Or.inl rfl) | (exact Or.inr rfl) | contradiction | (exact sI (by omega)) | (exact sI (by rw [ey])) | fail "left"

theorem cM_ofGoing1 {w : Int} (hd : 1 ≤ d) (w0 : 0 ≤ w) (w1 : w < 163) (h7 : z (17, 0, 0) 7 = -1) : aE1 l g nX7_ofGoing d [.inr (.inr (.inl (16, 0, 0))), .inl w] z (-1) (aWr (aWr z (16, 0, 0) 9 0) (16, 0, 0) 9 1) := by
  have ey7 : aWr z (16, 0, 0) 9 0 (17, 0, 0) 7 = z (17, 0, 0) 7 := by rw [aWr_ne2 (by decide)]
  refine aM1_of kX7_ofGoing rfl (fun B hB => ?_)
  refine hB [] 1000 _ _ _ _ _ ?_
  repeat' (first | refine And.intro ?_ ?_ | (intro hh; first | exact absurd hh (by decide) | exact absurd rfl hh | (exfalso; omega) | skip) | refine Or.inl (uE cM_throwing ?_) | fail)
  all_goals first | omega | (exact rfl)
theorem cM_ofGoing0 {w : Int} (hd : 1 ≤ d) (w0 : 0 ≤ w) (w1 : w < 163) (h7 : z (17, 0, 0) 7 ≠ -1) (h8 : -1 ≤ z (17, 0, 0) 7 ∧ z (17, 0, 0) 7 < 8) : aE1 l g nX7_ofGoing d [.inr (.inr (.inl (16, 0, 0))), .inl w] z (z (17, 0, 0) w) (aWr z (16, 0, 0) 9 0) := by
  have ey7 : aWr z (16, 0, 0) 9 0 (17, 0, 0) 7 = z (17, 0, 0) 7 := by rw [aWr_ne2 (by decide)]
  refine aM1_of kX7_ofGoing rfl (fun B hB => ?_)
  refine hB [] 1000 _ _ _ _ _ ?_
  repeat' (first | refine And.intro ?_ ?_ | (intro hh; first | exact absurd hh (by decide) | exact absurd rfl hh | (exfalso; omega) | skip) | refine Or.inl (uE cM_throwing ?_) | fail)
  all_goals first | omega | (exact rfl)

theorem cM_presentLeg  (hd : 2 ≤ d) (hR : RelM z A) (hI : InvW A) : mOp l g nX7_presentLeg d [.inr (.inr (.inl (16, 0, 0)))] z (qGoing (wM A 8) A) := by
  try unfold aIR at *
  have em := hR.1.1
  have hJ : Inv (z (17, 0, 0)) := by rw [em]; exact hI.1.1
  have cc := hJ.1.1.1
  have ct := hJ.1.1.2.1
  have ga : -1 ≤ z (17, 0, 0) 7 ∧ z (17, 0, 0) 7 < 8 := by rcases hJ.1.2.1 with q | q <;> omega
  have fin1 : ∀ t, (RelM (aWr z (16, 0, 0) 9 t) A ∧ aWr z (16, 0, 0) 9 t (16, 0, 0) 9 = t) ∧ fM z (aWr z (16, 0, 0) 9 t) := fun t => ⟨hR.thr t, (fM.rf z).wr (Or.inl rfl)⟩
  have fin2 : ∀ t, (RelM (aWr (aWr z (16, 0, 0) 9 0) (16, 0, 0) 9 t) A ∧ aWr (aWr z (16, 0, 0) 9 0) (16, 0, 0) 9 t (16, 0, 0) 9 = t) ∧ fM z (aWr (aWr z (16, 0, 0) 9 0) (16, 0, 0) 9 t) := fun t => ⟨(hR.thr 0).1.thr t, ((fM.rf z).wr (Or.inl rfl)).wr (Or.inl rfl)⟩
  obtain ⟨y1, hy1⟩ : ∃ w, w = aWr z (16, 0, 0) 9 0 := ⟨_, rfl⟩
  have ey : aWr z (16, 0, 0) 9 0 (17, 0, 0) = z (17, 0, 0) := aWr_ne2 (by decide)
  have ey0 : aWr z (16, 0, 0) 9 0 (17, 0, 0) 0 = z (17, 0, 0) 0 := by rw [ey]
  have ey1 : aWr z (16, 0, 0) 9 0 (17, 0, 0) 1 = z (17, 0, 0) 1 := by rw [ey]
  have ey2 : aWr z (16, 0, 0) 9 0 (17, 0, 0) 2 = z (17, 0, 0) 2 := by rw [ey]
  have ey7 : aWr z (16, 0, 0) 9 0 (17, 0, 0) 7 = z (17, 0, 0) 7 := by rw [ey]
  by_cases hc0 : z (17, 0, 0) 7 = -1
  · have hRq : (qGoing (wM A 8) A : aRes) = (1, -1, A) := by
      unfold qGoing; rw [← em]; exact if_pos hc0
    rw [hRq, mOp]
    refine aM1_of kX7_presentLeg rfl (fun B hB => ?_)
    refine hB [] 1000 _ _ _ _ _ ?_
    repeat' (first | exact fin1 _ | exact fin2 _ | refine And.intro ?_ ?_ | (intro hh; first | exact absurd hh (by decide) | exact absurd rfl hh | (exfalso; omega) | skip) | refine Or.inl (uE cM_throwing ?_) | refine Or.inl (uE (cM_ofGoing1 (by omega) (by omega) (by omega) hc0) ?_) | refine Or.inl (uE (cM_ofGoing0 (by omega) (by omega) (by omega) hc0 ga) ?_) | fail)
    all_goals first | omega | (exact rfl) | (exact Or.inl rfl) | (exact Or.inr rfl) | contradiction | (exact sI (by omega)) | (exact sI (by rw [ey])) | fail "left"
  · skip
    have hRq : (qGoing (wM A 8) A : aRes) = (0, z (17, 0, 0) 8, A) := by
      unfold qGoing; rw [← em]; exact if_neg hc0
    rw [hRq, mOp]
    refine aM1_of kX7_presentLeg rfl (fun B hB => ?_)
    refine hB [] 1000 _ _ _ _ _ ?_
    repeat' (first | exact fin1 _ | exact fin2 _ | refine And.intro ?_ ?_ | (intro hh; first | exact absurd hh (by decide) | exact absurd rfl hh | (exfalso; omega) | skip) | refine Or.inl (uE cM_throwing ?_) | refine Or.inl (uE (cM_ofGoing1 (by omega) (by omega) (by omega) hc0) ?_) | refine Or.inl (uE (cM_ofGoing0 (by omega) (by omega) (by omega) hc0 ga) ?_) | fail)
    all_goals first | omega | (exact rfl) | (exact Or.inl rfl) | (exact Or.inr rfl) | contradiction | (exact sI (by omega)) | (exact sI (by rw [ey])) | fail "left"

theorem cM_flockX  (hd : 2 ≤ d) (hR : RelM z A) (hI : InvW A) : mOp l g nX7_flockX d [.inr (.inr (.inl (16, 0, 0)))] z (qGoing (wM A 9) A) := by
  try unfold aIR at *
  have em := hR.1.1
  have hJ : Inv (z (17, 0, 0)) := by rw [em]; exact hI.1.1
  have cc := hJ.1.1.1
  have ct := hJ.1.1.2.1
  have ga : -1 ≤ z (17, 0, 0) 7 ∧ z (17, 0, 0) 7 < 8 := by rcases hJ.1.2.1 with q | q <;> omega
  have fin1 : ∀ t, (RelM (aWr z (16, 0, 0) 9 t) A ∧ aWr z (16, 0, 0) 9 t (16, 0, 0) 9 = t) ∧ fM z (aWr z (16, 0, 0) 9 t) := fun t => ⟨hR.thr t, (fM.rf z).wr (Or.inl rfl)⟩
  have fin2 : ∀ t, (RelM (aWr (aWr z (16, 0, 0) 9 0) (16, 0, 0) 9 t) A ∧ aWr (aWr z (16, 0, 0) 9 0) (16, 0, 0) 9 t (16, 0, 0) 9 = t) ∧ fM z (aWr (aWr z (16, 0, 0) 9 0) (16, 0, 0) 9 t) := fun t => ⟨(hR.thr 0).1.thr t, ((fM.rf z).wr (Or.inl rfl)).wr (Or.inl rfl)⟩
  obtain ⟨y1, hy1⟩ : ∃ w, w = aWr z (16, 0, 0) 9 0 := ⟨_, rfl⟩
  have ey : aWr z (16, 0, 0) 9 0 (17, 0, 0) = z (17, 0, 0) := aWr_ne2 (by decide)
  have ey0 : aWr z (16, 0, 0) 9 0 (17, 0, 0) 0 = z (17, 0, 0) 0 := by rw [ey]
  have ey1 : aWr z (16, 0, 0) 9 0 (17, 0, 0) 1 = z (17, 0, 0) 1 := by rw [ey]
  have ey2 : aWr z (16, 0, 0) 9 0 (17, 0, 0) 2 = z (17, 0, 0) 2 := by rw [ey]
  have ey7 : aWr z (16, 0, 0) 9 0 (17, 0, 0) 7 = z (17, 0, 0) 7 := by rw [ey]
  by_cases hc0 : z (17, 0, 0) 7 = -1
  · have hRq : (qGoing (wM A 9) A : aRes) = (1, -1, A) := by
      unfold qGoing; rw [← em]; exact if_pos hc0
    rw [hRq, mOp]
    refine aM1_of kX7_flockX rfl (fun B hB => ?_)
    refine hB [] 1000 _ _ _ _ _ ?_
    repeat' (first | exact fin1 _ | exact fin2 _ | refine And.intro ?_ ?_ | (intro hh; first | exact absurd hh (by decide) | exact absurd rfl hh | (exfalso; omega) | skip) | refine Or.inl (uE cM_throwing ?_) | refine Or.inl (uE (cM_ofGoing1 (by omega) (by omega) (by omega) hc0) ?_) | refine Or.inl (uE (cM_ofGoing0 (by omega) (by omega) (by omega) hc0 ga) ?_) | fail)
    all_goals first | omega | (exact rfl) | (exact Or.inl rfl) | (exact Or.inr rfl) | contradiction | (exact sI (by omega)) | (exact sI (by rw [ey])) | fail "left"
  · skip
    have hRq : (qGoing (wM A 9) A : aRes) = (0, z (17, 0, 0) 9, A) := by
      unfold qGoing; rw [← em]; exact if_neg hc0
    rw [hRq, mOp]
    refine aM1_of kX7_flockX rfl (fun B hB => ?_)
    refine hB [] 1000 _ _ _ _ _ ?_
    repeat' (first | exact fin1 _ | exact fin2 _ | refine And.intro ?_ ?_ | (intro hh; first | exact absurd hh (by decide) | exact absurd rfl hh | (exfalso; omega) | skip) | refine Or.inl (uE cM_throwing ?_) | refine Or.inl (uE (cM_ofGoing1 (by omega) (by omega) (by omega) hc0) ?_) | refine Or.inl (uE (cM_ofGoing0 (by omega) (by omega) (by omega) hc0 ga) ?_) | fail)
    all_goals first | omega | (exact rfl) | (exact Or.inl rfl) | (exact Or.inr rfl) | contradiction | (exact sI (by omega)) | (exact sI (by rw [ey])) | fail "left"

theorem cM_flockY  (hd : 2 ≤ d) (hR : RelM z A) (hI : InvW A) : mOp l g nX7_flockY d [.inr (.inr (.inl (16, 0, 0)))] z (qGoing (wM A 10) A) := by
  try unfold aIR at *
  have em := hR.1.1
  have hJ : Inv (z (17, 0, 0)) := by rw [em]; exact hI.1.1
  have cc := hJ.1.1.1
  have ct := hJ.1.1.2.1
  have ga : -1 ≤ z (17, 0, 0) 7 ∧ z (17, 0, 0) 7 < 8 := by rcases hJ.1.2.1 with q | q <;> omega
  have fin1 : ∀ t, (RelM (aWr z (16, 0, 0) 9 t) A ∧ aWr z (16, 0, 0) 9 t (16, 0, 0) 9 = t) ∧ fM z (aWr z (16, 0, 0) 9 t) := fun t => ⟨hR.thr t, (fM.rf z).wr (Or.inl rfl)⟩
  have fin2 : ∀ t, (RelM (aWr (aWr z (16, 0, 0) 9 0) (16, 0, 0) 9 t) A ∧ aWr (aWr z (16, 0, 0) 9 0) (16, 0, 0) 9 t (16, 0, 0) 9 = t) ∧ fM z (aWr (aWr z (16, 0, 0) 9 0) (16, 0, 0) 9 t) := fun t => ⟨(hR.thr 0).1.thr t, ((fM.rf z).wr (Or.inl rfl)).wr (Or.inl rfl)⟩
  obtain ⟨y1, hy1⟩ : ∃ w, w = aWr z (16, 0, 0) 9 0 := ⟨_, rfl⟩
  have ey : aWr z (16, 0, 0) 9 0 (17, 0, 0) = z (17, 0, 0) := aWr_ne2 (by decide)
  have ey0 : aWr z (16, 0, 0) 9 0 (17, 0, 0) 0 = z (17, 0, 0) 0 := by rw [ey]
  have ey1 : aWr z (16, 0, 0) 9 0 (17, 0, 0) 1 = z (17, 0, 0) 1 := by rw [ey]
  have ey2 : aWr z (16, 0, 0) 9 0 (17, 0, 0) 2 = z (17, 0, 0) 2 := by rw [ey]
  have ey7 : aWr z (16, 0, 0) 9 0 (17, 0, 0) 7 = z (17, 0, 0) 7 := by rw [ey]
  by_cases hc0 : z (17, 0, 0) 7 = -1
  · have hRq : (qGoing (wM A 10) A : aRes) = (1, -1, A) := by
      unfold qGoing; rw [← em]; exact if_pos hc0
    rw [hRq, mOp]
    refine aM1_of kX7_flockY rfl (fun B hB => ?_)
    refine hB [] 1000 _ _ _ _ _ ?_
    repeat' (first | exact fin1 _ | exact fin2 _ | refine And.intro ?_ ?_ | (intro hh; first | exact absurd hh (by decide) | exact absurd rfl hh | (exfalso; omega) | skip) | refine Or.inl (uE cM_throwing ?_) | refine Or.inl (uE (cM_ofGoing1 (by omega) (by omega) (by omega) hc0) ?_) | refine Or.inl (uE (cM_ofGoing0 (by omega) (by omega) (by omega) hc0 ga) ?_) | fail)
    all_goals first | omega | (exact rfl) | (exact Or.inl rfl) | (exact Or.inr rfl) | contradiction | (exact sI (by omega)) | (exact sI (by rw [ey])) | fail "left"
  · skip
    have hRq : (qGoing (wM A 10) A : aRes) = (0, z (17, 0, 0) 10, A) := by
      unfold qGoing; rw [← em]; exact if_neg hc0
    rw [hRq, mOp]
    refine aM1_of kX7_flockY rfl (fun B hB => ?_)
    refine hB [] 1000 _ _ _ _ _ ?_
    repeat' (first | exact fin1 _ | exact fin2 _ | refine And.intro ?_ ?_ | (intro hh; first | exact absurd hh (by decide) | exact absurd rfl hh | (exfalso; omega) | skip) | refine Or.inl (uE cM_throwing ?_) | refine Or.inl (uE (cM_ofGoing1 (by omega) (by omega) (by omega) hc0) ?_) | refine Or.inl (uE (cM_ofGoing0 (by omega) (by omega) (by omega) hc0 ga) ?_) | fail)
    all_goals first | omega | (exact rfl) | (exact Or.inl rfl) | (exact Or.inr rfl) | contradiction | (exact sI (by omega)) | (exact sI (by rw [ey])) | fail "left"

end M9
