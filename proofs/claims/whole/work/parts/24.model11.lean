/-! THE MODEL'S METHODS: queries that read (printed by wip/whole/model11.py) -/
section M11
variable {l : Launch} {g : aG} {d : Nat} {z : aM} {A : aAb}
theorem cM_totalPoints  (hd : 1 ≤ d) (hR : RelM z A) (hI : InvW A) : mOp l g nX7_totalPoints d [.inr (.inr (.inl (16, 0, 0)))] z ((0, sTot (wM A), A)) := by
  try unfold aIR at *
  obtain ⟨R, eR⟩ : ∃ R : aRes, R = (0, sTot (wM A), A) := ⟨_, rfl⟩
  rw [← eR, mOp]
  refine aM1_of kX7_totalPoints rfl (fun B hB => ?_)
  have h5 : ∀ z1 : aM, RelM z1 A → z1 (16, 0, 0) 9 = 0 → fM z z1 → B (none, 0, 0) z1 5 [some (.inr (.inr (.inl (16, 0, 0)))), none, none] [] := by
    intro z1 h1 h9 hF
    clear hR
    obtain ⟨m, T⟩ := A
    have em : z1 (17, 0, 0) = m := h1.1.1
    subst em
    have hJ : Inv (z1 (17, 0, 0)) := hI.1.1
    have cc := hJ.1.1.1
    have ct := hJ.1.1.2.1
    have ga : -1 ≤ z1 (17, 0, 0) 7 ∧ z1 (17, 0, 0) 7 < 8 := by rcases hJ.1.2.1 with q | q <;> omega
    have fin : ∀ v' : Int, v' = (sTot (z1 (17, 0, 0))) → (some (.inl v') : Option aV) = some (.inl R.2.1) ∧ (RelM z1 R.2.2 ∧ z1 (16, 0, 0) 9 = R.1) ∧ fM z z1 := fun v' e9 => by
      have hRq : R = (0, (sTot (z1 (17, 0, 0))), (z1 (17, 0, 0), T)) := by
        rw [eR]
      rw [hRq, e9]
      exact ⟨rfl, ⟨h1, h9⟩, hF⟩
    have loop : ∀ (n : Nat) (k acc : Int), 0 ≤ k → k + (n : Int) = z1 (17, 0, 0) 0 → acc = sN (fun k => z1 (17, 0, 0) (11 + 3 * k + 2)) k.toNat → B (none, 0, 0) z1 9 [some (.inr (.inr (.inl (16, 0, 0)))), some (.inl acc), some (.inl k)] [] := by
      intro n
      induction n with
      | zero =>
        intro k acc k0 k1 e
        have ek : k = z1 (17, 0, 0) 0 := by omega
        subst ek
        refine hB [] 1000 _ _ _ _ _ ?_
        repeat' (first | (refine ⟨rfl, fin _ ?_⟩) | refine And.intro ?_ ?_ | (intro hh; first | exact absurd hh (by decide) | exact absurd rfl hh | (exfalso; omega) | skip) | refine Or.inl (uE cM_throwing ?_) | refine Or.inl (uE cM_legAt ?_) | fail)
        all_goals first | omega | (exact rfl) | (exact e)
      | succ n ih =>
        intro k acc k0 k1 e
        refine hB [9] 1000 _ _ _ _ _ ?_
        repeat' (first | (refine ⟨rfl, fin _ ?_⟩) | refine And.intro ?_ ?_ | (intro hh; first | exact absurd hh (by decide) | exact absurd rfl hh | (exfalso; omega) | skip) | refine Or.inl (uE cM_throwing ?_) | refine Or.inl (uE cM_legAt ?_) | fail)
        all_goals first | omega | (exact rfl) | skip
        refine ih _ _ ?_ ?_ ?_
        · omega
        · omega
        · rw [sN_s k0, e]
    refine hB [9] 1000 _ _ _ _ _ ?_
    exact loop (z1 (17, 0, 0) 0).toNat 0 0 (by omega) (by omega) rfl
  refine hB [5] 1000 _ _ _ _ _ ?_
  repeat' (first | refine And.intro ?_ ?_ | fail)
  all_goals first | (exact rfl) | (exact Or.inl rfl) | exact h5 _ (hR.thr 0).1 (hR.thr 0).2 ((fM.rf z).wr (Or.inl rfl))


theorem cM_isOnLine {k : Int} (hk : aIR k) (hd : 4 ≤ d) (hR : RelM z A) (hI : InvW A) : mOp l g nX7_isOnLine d [.inr (.inr (.inl (16, 0, 0))), .inl k] z (qOnLine k A) := by
  try unfold aIR at *
  obtain ⟨R, eR⟩ : ∃ R : aRes, R = qOnLine k A := ⟨_, rfl⟩
  rw [← eR, mOp]
  refine aM1_of kX7_isOnLine rfl (fun B hB => ?_)
  have h5 : ∀ z1 : aM, RelM z1 A → z1 (16, 0, 0) 9 = 0 → fM z z1 → B (none, 0, 0) z1 5 [some (.inr (.inr (.inl (16, 0, 0)))), some (.inl k), none, none] [] := by
    intro z1 h1 h9 hF
    clear hR
    obtain ⟨m, T⟩ := A
    have em : z1 (17, 0, 0) = m := h1.1.1
    subst em
    have hJ : Inv (z1 (17, 0, 0)) := hI.1.1
    have cc := hJ.1.1.1
    have ct := hJ.1.1.2.1
    have ga : -1 ≤ z1 (17, 0, 0) 7 ∧ z1 (17, 0, 0) 7 < 8 := by rcases hJ.1.2.1 with q | q <;> omega
    by_cases hc0 : isG (z1 (17, 0, 0)) k
    · have hg := hJ.1.1.2.2.2 k hc0.1 hc0.2
      have hb := InvC.beg hJ.1.1 hg.1.1 hg.1.2
      have he := (hJ.1.1.2.2.1 _ hg.1.1 hg.1.2).1
      have bb := sBeg_B hg.1.1 (by omega)
      have fin : ∀ v' : Int, v' = (sB (sMe (z1 (17, 0, 0)) (z1 (17, 0, 0) (sBeg (z1 (17, 0, 0) (29 + 5 * k)))) (z1 (17, 0, 0) (sBeg (z1 (17, 0, 0) (29 + 5 * k)) + 1)) (z1 (17, 0, 0) (11 + 3 * z1 (17, 0, 0) (29 + 5 * k))) (z1 (17, 0, 0) (11 + 3 * z1 (17, 0, 0) (29 + 5 * k) + 1)) k)) → (some (.inl v') : Option aV) = some (.inl R.2.1) ∧ (RelM z1 R.2.2 ∧ z1 (16, 0, 0) 9 = R.1) ∧ fM z z1 := fun v' e9 => by
        have hRq : R = (0, (sB (sMe (z1 (17, 0, 0)) (z1 (17, 0, 0) (sBeg (z1 (17, 0, 0) (29 + 5 * k)))) (z1 (17, 0, 0) (sBeg (z1 (17, 0, 0) (29 + 5 * k)) + 1)) (z1 (17, 0, 0) (11 + 3 * z1 (17, 0, 0) (29 + 5 * k))) (z1 (17, 0, 0) (11 + 3 * z1 (17, 0, 0) (29 + 5 * k) + 1)) k)), (z1 (17, 0, 0), T)) := by
          rw [eR]; unfold qOnLine; exact if_pos hc0
        rw [hRq, e9]
        exact ⟨rfl, ⟨h1, h9⟩, hF⟩
      refine hB [] 1000 _ _ _ _ _ ?_
      repeat' (first | (refine ⟨rfl, fin _ ?_⟩) | refine And.intro ?_ ?_ | (intro hh; first | exact absurd hh (by decide) | exact absurd rfl hh | (exfalso; omega) | skip) | refine Or.inl (uE cM_throwing ?_) | refine Or.inl (uB (cM_isGate ?_ ?_ ?_ ?_) ?_ ?_) | refine Or.inl (uE cM_gateAt ?_) | refine Or.inl (uE cM_legAt ?_) | refine Or.inl (uE (cM_beginOf ?_ ?_) ?_) | refine Or.inl (uB (cM_meets ?_ hb he hc0.1 ?_ hg.2.1 hg.2.2) ?_ ?_) | fail)
      all_goals first | omega | (exact rfl) | (exact Or.inl rfl) | (exact Or.inr rfl) | contradiction | (exact (sB_1 (by assumption)).symm) | (exact (sB_0 (by assumption)).symm) | fail "left"
    · have fin : ∀ v' : Int, v' = 0 → (some (.inl v') : Option aV) = some (.inl R.2.1) ∧ (RelM (aWr z1 (16, 0, 0) 9 1) R.2.2 ∧ (aWr z1 (16, 0, 0) 9 1) (16, 0, 0) 9 = R.1) ∧ fM z (aWr z1 (16, 0, 0) 9 1) := fun v' e9 => by
        have hRq : R = (1, 0, (z1 (17, 0, 0), T)) := by
          rw [eR]; unfold qOnLine; exact if_neg hc0
        rw [hRq, e9]
        exact ⟨rfl, h1.thr 1, hF.wr (Or.inl rfl)⟩
      refine hB [] 1000 _ _ _ _ _ ?_
      repeat' (first | (refine ⟨rfl, fin _ ?_⟩) | refine And.intro ?_ ?_ | (intro hh; first | exact absurd hh (by decide) | exact absurd rfl hh | (exfalso; omega) | skip) | refine Or.inl (uE cM_throwing ?_) | refine Or.inl (uB (cM_isGate ?_ ?_ ?_ ?_) ?_ ?_) | refine Or.inl (uE cM_gateAt ?_) | refine Or.inl (uE cM_legAt ?_) | refine Or.inl (uE (cM_beginOf ?_ ?_) ?_) | refine Or.inl (uB (cM_meets ?_ hb he hc0.1 ?_ hg.2.1 hg.2.2) ?_ ?_) | fail)
      all_goals first | omega | (exact rfl) | (exact Or.inl rfl) | (exact Or.inr rfl) | contradiction | (exact (sB_1 (by assumption)).symm) | (exact (sB_0 (by assumption)).symm) | fail "left"
  refine hB [5] 1000 _ _ _ _ _ ?_
  repeat' (first | refine And.intro ?_ ?_ | fail)
  all_goals first | (exact rfl) | (exact Or.inl rfl) | exact h5 _ (hR.thr 0).1 (hR.thr 0).2 ((fM.rf z).wr (Or.inl rfl))


theorem cM_nextGate  (hd : 2 ≤ d) (hR : RelM z A) (hI : InvW A) : mOp l g nX7_nextGate d [.inr (.inr (.inl (16, 0, 0)))] z (qNext A) := by
  try unfold aIR at *
  obtain ⟨R, eR⟩ : ∃ R : aRes, R = qNext A := ⟨_, rfl⟩
  rw [← eR, mOp]
  refine aM1_of kX7_nextGate rfl (fun B hB => ?_)
  have h5 : ∀ z1 : aM, RelM z1 A → z1 (16, 0, 0) 9 = 0 → fM z z1 → B (none, 0, 0) z1 5 [some (.inr (.inr (.inl (16, 0, 0)))), none] [] := by
    intro z1 h1 h9 hF
    clear hR
    obtain ⟨m, T⟩ := A
    have em : z1 (17, 0, 0) = m := h1.1.1
    subst em
    have hJ : Inv (z1 (17, 0, 0)) := hI.1.1
    have cc := hJ.1.1.1
    have ct := hJ.1.1.2.1
    have ga : -1 ≤ z1 (17, 0, 0) 7 ∧ z1 (17, 0, 0) 7 < 8 := by rcases hJ.1.2.1 with q | q <;> omega
    by_cases hc0 : z1 (17, 0, 0) 7 ≠ -1
    · have gg := hJ.1.go hc0
      have loop : ∀ (n : Nat) (k : Int), 0 ≤ k → k + (n : Int) = z1 (17, 0, 0) 1 → sFs (z1 (17, 0, 0)) n k = sFs (z1 (17, 0, 0)) (z1 (17, 0, 0) 1).toNat 0 → B (none, 0, 0) z1 24 [some (.inr (.inr (.inl (16, 0, 0)))), some (.inl k)] [] := by
        intro n
        induction n with
        | zero =>
          intro k k0 k1 e
          have finE : ∀ v' : Int, v' = (-1) → (some (.inl v') : Option aV) = some (.inl R.2.1) ∧ (RelM (aWr z1 (16, 0, 0) 9 2) R.2.2 ∧ (aWr z1 (16, 0, 0) 9 2) (16, 0, 0) 9 = R.1) ∧ fM z (aWr z1 (16, 0, 0) 9 2) := fun v' e9 => by
            have hRq : R = (2, (-1), (z1 (17, 0, 0), T)) := by
              rw [eR]; unfold qNext
              rw [if_neg hc0]
              exact if_pos e.symm
            rw [hRq, e9]
            exact ⟨rfl, h1.thr 2, hF.wr (Or.inl rfl)⟩
          refine hB [] 1000 _ _ _ _ _ ?_
          repeat' (first | (refine ⟨rfl, finE _ ?_⟩) | refine And.intro ?_ ?_ | (intro hh; first | exact absurd hh (by decide) | exact absurd rfl hh | (exfalso; omega) | skip) | refine Or.inl (uE cM_throwing ?_) | fail)
          all_goals first | omega | (exact rfl)
        | succ n ih =>
          intro k k0 k1 e
          have hg := (hJ.1.1.2.2.2 k k0 (by omega)).1
          have finO : (sOpen (z1 (17, 0, 0)) k) → ∀ v' : Int, v' = k → (some (.inl v') : Option aV) = some (.inl R.2.1) ∧ (RelM z1 R.2.2 ∧ z1 (16, 0, 0) 9 = R.1) ∧ fM z z1 := fun hcd v' e9 => by
            have hRq : R = (0, k, (z1 (17, 0, 0), T)) := by
              have e2 : sFs (z1 (17, 0, 0)) (z1 (17, 0, 0) 1).toNat 0 = k := by rw [← e]; exact if_pos hcd
              rw [eR]; unfold qNext
              rw [if_neg hc0, if_neg (by show ¬ (sFs (z1 (17, 0, 0)) (z1 (17, 0, 0) 1).toNat 0 = -1); omega)]
              show (_, sFs (z1 (17, 0, 0)) (z1 (17, 0, 0) 1).toNat 0, _) = _
              rw [e2]
            rw [hRq, e9]
            exact ⟨rfl, ⟨h1, h9⟩, hF⟩
          refine hB [24] 1000 _ _ _ _ _ ?_
          repeat' (first | (refine ⟨rfl, finO ⟨by assumption, by assumption⟩ _ ?_⟩) | refine And.intro ?_ ?_ | (intro hh; first | exact absurd hh (by decide) | exact absurd rfl hh | (exfalso; omega) | skip) | refine Or.inl (uE cM_gateAt ?_) | refine Or.inl (uB (cM_isPassed ?_ hJ.1 hc0 ?_ ?_) ?_ ?_) | fail)
          all_goals first | omega | (exact rfl) | refine ih _ ?_ ?_ ?_
          all_goals first | omega | (rw [← e]; exact (if_neg (fun q => by first | exact absurd q.1 (by assumption) | exact q.2 (by assumption))).symm) | fail "left"
      refine hB [24] 1000 _ _ _ _ _ ?_
      repeat' (first | refine And.intro ?_ ?_ | (intro hh; first | exact absurd hh (by decide) | exact absurd rfl hh | (exfalso; omega) | skip) | fail)
      all_goals first | omega | (exact rfl) | skip
      exact loop (z1 (17, 0, 0) 1).toNat 0 (by omega) (by omega) rfl
    · have hc1 : z1 (17, 0, 0) 7 = -1 := by omega
      have fin : ∀ v' : Int, v' = (-1) → (some (.inl v') : Option aV) = some (.inl R.2.1) ∧ (RelM (aWr z1 (16, 0, 0) 9 1) R.2.2 ∧ (aWr z1 (16, 0, 0) 9 1) (16, 0, 0) 9 = R.1) ∧ fM z (aWr z1 (16, 0, 0) 9 1) := fun v' e9 => by
        have hRq : R = (1, (-1), (z1 (17, 0, 0), T)) := by
          rw [eR]; unfold qNext; exact if_pos hc1
        rw [hRq, e9]
        exact ⟨rfl, h1.thr 1, hF.wr (Or.inl rfl)⟩
      refine hB [] 1000 _ _ _ _ _ ?_
      repeat' (first | (refine ⟨rfl, fin _ ?_⟩) | refine And.intro ?_ ?_ | (intro hh; first | exact absurd hh (by decide) | exact absurd rfl hh | (exfalso; omega) | skip) | refine Or.inl (uE cM_throwing ?_) | fail)
      all_goals first | omega | (exact rfl)
  refine hB [5] 1000 _ _ _ _ _ ?_
  repeat' (first | refine And.intro ?_ ?_ | fail)
  all_goals first | (exact rfl) | (exact Or.inl rfl) | exact h5 _ (hR.thr 0).1 (hR.thr 0).2 ((fM.rf z).wr (Or.inl rfl))


theorem cM_ofRun1 {r w : Int} (hd : 2 ≤ d) (hr : aIR r) (h : Inv0 (z (17, 0, 0))) (hn : ¬ isN (z (17, 0, 0)) r) : aE1 l g nX7_ofRun d [.inr (.inr (.inl (16, 0, 0))), .inl r, .inl w] z (-1) (aWr (aWr z (16, 0, 0) 9 0) (16, 0, 0) 9 1) := by
  unfold aIR at *
  have ey : aWr z (16, 0, 0) 9 0 (17, 0, 0) = z (17, 0, 0) := aWr_ne2 (by decide)
  have ey2 : aWr z (16, 0, 0) 9 0 (17, 0, 0) 2 = z (17, 0, 0) 2 := by rw [ey]
  have cc := h.1.1
  refine aM1_of kX7_ofRun rfl (fun B hB => ?_)
  refine hB [] 1000 _ _ _ _ _ ?_
  repeat' (first | refine And.intro ?_ ?_ | (intro hh; first | exact absurd hh (by decide) | exact absurd rfl hh | (exfalso; omega) | skip) | refine Or.inl (uE cM_throwing ?_) | refine Or.inl (uB (cM_isRun ?_ ?_ ?_ ?_) ?_ ?_) | refine Or.inl (uE cM_runAtPlace ?_) | fail)
  all_goals first | omega | (exact rfl)
theorem cM_ofRun0 {r w : Int} (hd : 2 ≤ d) (hr : aIR r) (h : Inv0 (z (17, 0, 0))) (hn : isN (z (17, 0, 0)) r) (w0 : 0 ≤ w) (w1 : w < 13) : aE1 l g nX7_ofRun d [.inr (.inr (.inl (16, 0, 0))), .inl r, .inl w] z (z (17, 0, 0) (59 + 13 * r + w)) (aWr z (16, 0, 0) 9 0) := by
  unfold aIR at *
  have ey : aWr z (16, 0, 0) 9 0 (17, 0, 0) = z (17, 0, 0) := aWr_ne2 (by decide)
  have ey2 : aWr z (16, 0, 0) 9 0 (17, 0, 0) 2 = z (17, 0, 0) 2 := by rw [ey]
  have cc := h.1.1
  refine aM1_of kX7_ofRun rfl (fun B hB => ?_)
  refine hB [] 1000 _ _ _ _ _ ?_
  repeat' (first | refine And.intro ?_ ?_ | (intro hh; first | exact absurd hh (by decide) | exact absurd rfl hh | (exfalso; omega) | skip) | refine Or.inl (uE cM_throwing ?_) | refine Or.inl (uB (cM_isRun ?_ ?_ ?_ ?_) ?_ ?_) | refine Or.inl (uE cM_runAtPlace ?_) | fail)
  all_goals first | omega | (exact rfl)

theorem cM_time {r : Int} (hr : aIR r) (hd : 3 ≤ d) (hR : RelM z A) (hI : InvW A) : mOp l g nX7_time d [.inr (.inr (.inl (16, 0, 0))), .inl r] z (qR (isN (wM A) r) (wM A (59 + 13 * r + 1)) A) := by
  obtain ⟨R, eR⟩ : ∃ R : aRes, R = qR (isN (wM A) r) (wM A (59 + 13 * r + 1)) A := ⟨_, rfl⟩
  rw [← eR, mOp]
  refine aM1_of kX7_time rfl (fun B hB => ?_)
  obtain ⟨m, T⟩ := A
  have em : z (17, 0, 0) = m := hR.1.1
  subst em
  have hJ : Inv (z (17, 0, 0)) := hI.1.1
  have cc := hJ.1.1.1
  by_cases hc0 : isN (z (17, 0, 0)) r
  · have hRq : R = (0, z (17, 0, 0) (59 + 13 * r + 1), (z (17, 0, 0), T)) := by rw [eR]; exact if_pos hc0
    have fin : (some (.inl (z (17, 0, 0) (59 + 13 * r + 1))) : Option aV) = some (.inl R.2.1) ∧ (RelM (aWr z (16, 0, 0) 9 0) R.2.2 ∧ aWr z (16, 0, 0) 9 0 (16, 0, 0) 9 = R.1) ∧ fM z (aWr z (16, 0, 0) 9 0) := by
      rw [hRq]; exact ⟨rfl, hR.thr 0, (fM.rf z).wr (Or.inl rfl)⟩
    refine hB [] 1000 _ _ _ _ _ ?_
    repeat' (first | (exact ⟨rfl, fin⟩) | refine And.intro ?_ ?_ | refine Or.inl (uE (cM_ofRun0 (by omega) hr hJ.1 hc0 (by omega) (by omega)) ?_) | fail)
    all_goals first | omega | (exact rfl)
  · have hRq : R = (1, -1, (z (17, 0, 0), T)) := by rw [eR]; exact if_neg hc0
    have fin : (some (.inl (-1)) : Option aV) = some (.inl R.2.1) ∧ (RelM (aWr (aWr z (16, 0, 0) 9 0) (16, 0, 0) 9 1) R.2.2 ∧ aWr (aWr z (16, 0, 0) 9 0) (16, 0, 0) 9 1 (16, 0, 0) 9 = R.1) ∧ fM z (aWr (aWr z (16, 0, 0) 9 0) (16, 0, 0) 9 1) := by
      rw [hRq]; exact ⟨rfl, (hR.thr 0).1.thr 1, ((fM.rf z).wr (Or.inl rfl)).wr (Or.inl rfl)⟩
    refine hB [] 1000 _ _ _ _ _ ?_
    repeat' (first | (exact ⟨rfl, fin⟩) | refine And.intro ?_ ?_ | (intro hh; first | exact absurd hh (by decide) | exact absurd rfl hh | (exfalso; omega) | skip) | refine Or.inl (uE (cM_ofRun1 (by omega) hr hJ.1 hc0) ?_) | fail)
    all_goals first | omega | (exact rfl) | (exact Or.inl rfl) | (exact Or.inr rfl)

theorem cM_lineLoss {r : Int} (hr : aIR r) (hd : 3 ≤ d) (hR : RelM z A) (hI : InvW A) : mOp l g nX7_lineLoss d [.inr (.inr (.inl (16, 0, 0))), .inl r] z (qR (isN (wM A) r) (wM A (59 + 13 * r + 2)) A) := by
  obtain ⟨R, eR⟩ : ∃ R : aRes, R = qR (isN (wM A) r) (wM A (59 + 13 * r + 2)) A := ⟨_, rfl⟩
  rw [← eR, mOp]
  refine aM1_of kX7_lineLoss rfl (fun B hB => ?_)
  obtain ⟨m, T⟩ := A
  have em : z (17, 0, 0) = m := hR.1.1
  subst em
  have hJ : Inv (z (17, 0, 0)) := hI.1.1
  have cc := hJ.1.1.1
  by_cases hc0 : isN (z (17, 0, 0)) r
  · have hRq : R = (0, z (17, 0, 0) (59 + 13 * r + 2), (z (17, 0, 0), T)) := by rw [eR]; exact if_pos hc0
    have fin : (some (.inl (z (17, 0, 0) (59 + 13 * r + 2))) : Option aV) = some (.inl R.2.1) ∧ (RelM (aWr z (16, 0, 0) 9 0) R.2.2 ∧ aWr z (16, 0, 0) 9 0 (16, 0, 0) 9 = R.1) ∧ fM z (aWr z (16, 0, 0) 9 0) := by
      rw [hRq]; exact ⟨rfl, hR.thr 0, (fM.rf z).wr (Or.inl rfl)⟩
    refine hB [] 1000 _ _ _ _ _ ?_
    repeat' (first | (exact ⟨rfl, fin⟩) | refine And.intro ?_ ?_ | refine Or.inl (uE (cM_ofRun0 (by omega) hr hJ.1 hc0 (by omega) (by omega)) ?_) | fail)
    all_goals first | omega | (exact rfl)
  · have hRq : R = (1, -1, (z (17, 0, 0), T)) := by rw [eR]; exact if_neg hc0
    have fin : (some (.inl (-1)) : Option aV) = some (.inl R.2.1) ∧ (RelM (aWr (aWr z (16, 0, 0) 9 0) (16, 0, 0) 9 1) R.2.2 ∧ aWr (aWr z (16, 0, 0) 9 0) (16, 0, 0) 9 1 (16, 0, 0) 9 = R.1) ∧ fM z (aWr (aWr z (16, 0, 0) 9 0) (16, 0, 0) 9 1) := by
      rw [hRq]; exact ⟨rfl, (hR.thr 0).1.thr 1, ((fM.rf z).wr (Or.inl rfl)).wr (Or.inl rfl)⟩
    refine hB [] 1000 _ _ _ _ _ ?_
    repeat' (first | (exact ⟨rfl, fin⟩) | refine And.intro ?_ ?_ | (intro hh; first | exact absurd hh (by decide) | exact absurd rfl hh | (exfalso; omega) | skip) | refine Or.inl (uE (cM_ofRun1 (by omega) hr hJ.1 hc0) ?_) | fail)
    all_goals first | omega | (exact rfl) | (exact Or.inl rfl) | (exact Or.inr rfl)

theorem cM_gateLoss {r : Int} (hr : aIR r) (hd : 3 ≤ d) (hR : RelM z A) (hI : InvW A) : mOp l g nX7_gateLoss d [.inr (.inr (.inl (16, 0, 0))), .inl r] z (qR (isN (wM A) r) (wM A (59 + 13 * r + 3)) A) := by
  obtain ⟨R, eR⟩ : ∃ R : aRes, R = qR (isN (wM A) r) (wM A (59 + 13 * r + 3)) A := ⟨_, rfl⟩
  rw [← eR, mOp]
  refine aM1_of kX7_gateLoss rfl (fun B hB => ?_)
  obtain ⟨m, T⟩ := A
  have em : z (17, 0, 0) = m := hR.1.1
  subst em
  have hJ : Inv (z (17, 0, 0)) := hI.1.1
  have cc := hJ.1.1.1
  by_cases hc0 : isN (z (17, 0, 0)) r
  · have hRq : R = (0, z (17, 0, 0) (59 + 13 * r + 3), (z (17, 0, 0), T)) := by rw [eR]; exact if_pos hc0
    have fin : (some (.inl (z (17, 0, 0) (59 + 13 * r + 3))) : Option aV) = some (.inl R.2.1) ∧ (RelM (aWr z (16, 0, 0) 9 0) R.2.2 ∧ aWr z (16, 0, 0) 9 0 (16, 0, 0) 9 = R.1) ∧ fM z (aWr z (16, 0, 0) 9 0) := by
      rw [hRq]; exact ⟨rfl, hR.thr 0, (fM.rf z).wr (Or.inl rfl)⟩
    refine hB [] 1000 _ _ _ _ _ ?_
    repeat' (first | (exact ⟨rfl, fin⟩) | refine And.intro ?_ ?_ | refine Or.inl (uE (cM_ofRun0 (by omega) hr hJ.1 hc0 (by omega) (by omega)) ?_) | fail)
    all_goals first | omega | (exact rfl)
  · have hRq : R = (1, -1, (z (17, 0, 0), T)) := by rw [eR]; exact if_neg hc0
    have fin : (some (.inl (-1)) : Option aV) = some (.inl R.2.1) ∧ (RelM (aWr (aWr z (16, 0, 0) 9 0) (16, 0, 0) 9 1) R.2.2 ∧ aWr (aWr z (16, 0, 0) 9 0) (16, 0, 0) 9 1 (16, 0, 0) 9 = R.1) ∧ fM z (aWr (aWr z (16, 0, 0) 9 0) (16, 0, 0) 9 1) := by
      rw [hRq]; exact ⟨rfl, (hR.thr 0).1.thr 1, ((fM.rf z).wr (Or.inl rfl)).wr (Or.inl rfl)⟩
    refine hB [] 1000 _ _ _ _ _ ?_
    repeat' (first | (exact ⟨rfl, fin⟩) | refine And.intro ?_ ?_ | (intro hh; first | exact absurd hh (by decide) | exact absurd rfl hh | (exfalso; omega) | skip) | refine Or.inl (uE (cM_ofRun1 (by omega) hr hJ.1 hc0) ?_) | fail)
    all_goals first | omega | (exact rfl) | (exact Or.inl rfl) | (exact Or.inr rfl)

theorem cM_faultLoss {r : Int} (hr : aIR r) (hd : 3 ≤ d) (hR : RelM z A) (hI : InvW A) : mOp l g nX7_faultLoss d [.inr (.inr (.inl (16, 0, 0))), .inl r] z (qR (isN (wM A) r) (wM A (59 + 13 * r + 4)) A) := by
  obtain ⟨R, eR⟩ : ∃ R : aRes, R = qR (isN (wM A) r) (wM A (59 + 13 * r + 4)) A := ⟨_, rfl⟩
  rw [← eR, mOp]
  refine aM1_of kX7_faultLoss rfl (fun B hB => ?_)
  obtain ⟨m, T⟩ := A
  have em : z (17, 0, 0) = m := hR.1.1
  subst em
  have hJ : Inv (z (17, 0, 0)) := hI.1.1
  have cc := hJ.1.1.1
  by_cases hc0 : isN (z (17, 0, 0)) r
  · have hRq : R = (0, z (17, 0, 0) (59 + 13 * r + 4), (z (17, 0, 0), T)) := by rw [eR]; exact if_pos hc0
    have fin : (some (.inl (z (17, 0, 0) (59 + 13 * r + 4))) : Option aV) = some (.inl R.2.1) ∧ (RelM (aWr z (16, 0, 0) 9 0) R.2.2 ∧ aWr z (16, 0, 0) 9 0 (16, 0, 0) 9 = R.1) ∧ fM z (aWr z (16, 0, 0) 9 0) := by
      rw [hRq]; exact ⟨rfl, hR.thr 0, (fM.rf z).wr (Or.inl rfl)⟩
    refine hB [] 1000 _ _ _ _ _ ?_
    repeat' (first | (exact ⟨rfl, fin⟩) | refine And.intro ?_ ?_ | refine Or.inl (uE (cM_ofRun0 (by omega) hr hJ.1 hc0 (by omega) (by omega)) ?_) | fail)
    all_goals first | omega | (exact rfl)
  · have hRq : R = (1, -1, (z (17, 0, 0), T)) := by rw [eR]; exact if_neg hc0
    have fin : (some (.inl (-1)) : Option aV) = some (.inl R.2.1) ∧ (RelM (aWr (aWr z (16, 0, 0) 9 0) (16, 0, 0) 9 1) R.2.2 ∧ aWr (aWr z (16, 0, 0) 9 0) (16, 0, 0) 9 1 (16, 0, 0) 9 = R.1) ∧ fM z (aWr (aWr z (16, 0, 0) 9 0) (16, 0, 0) 9 1) := by
      rw [hRq]; exact ⟨rfl, (hR.thr 0).1.thr 1, ((fM.rf z).wr (Or.inl rfl)).wr (Or.inl rfl)⟩
    refine hB [] 1000 _ _ _ _ _ ?_
    repeat' (first | (exact ⟨rfl, fin⟩) | refine And.intro ?_ ?_ | (intro hh; first | exact absurd hh (by decide) | exact absurd rfl hh | (exfalso; omega) | skip) | refine Or.inl (uE (cM_ofRun1 (by omega) hr hJ.1 hc0) ?_) | fail)
    all_goals first | omega | (exact rfl) | (exact Or.inl rfl) | (exact Or.inr rfl)

theorem cM_timeLoss {r : Int} (hr : aIR r) (hd : 3 ≤ d) (hR : RelM z A) (hI : InvW A) : mOp l g nX7_timeLoss d [.inr (.inr (.inl (16, 0, 0))), .inl r] z (qR (isN (wM A) r) (wM A (59 + 13 * r + 5)) A) := by
  obtain ⟨R, eR⟩ : ∃ R : aRes, R = qR (isN (wM A) r) (wM A (59 + 13 * r + 5)) A := ⟨_, rfl⟩
  rw [← eR, mOp]
  refine aM1_of kX7_timeLoss rfl (fun B hB => ?_)
  obtain ⟨m, T⟩ := A
  have em : z (17, 0, 0) = m := hR.1.1
  subst em
  have hJ : Inv (z (17, 0, 0)) := hI.1.1
  have cc := hJ.1.1.1
  by_cases hc0 : isN (z (17, 0, 0)) r
  · have hRq : R = (0, z (17, 0, 0) (59 + 13 * r + 5), (z (17, 0, 0), T)) := by rw [eR]; exact if_pos hc0
    have fin : (some (.inl (z (17, 0, 0) (59 + 13 * r + 5))) : Option aV) = some (.inl R.2.1) ∧ (RelM (aWr z (16, 0, 0) 9 0) R.2.2 ∧ aWr z (16, 0, 0) 9 0 (16, 0, 0) 9 = R.1) ∧ fM z (aWr z (16, 0, 0) 9 0) := by
      rw [hRq]; exact ⟨rfl, hR.thr 0, (fM.rf z).wr (Or.inl rfl)⟩
    refine hB [] 1000 _ _ _ _ _ ?_
    repeat' (first | (exact ⟨rfl, fin⟩) | refine And.intro ?_ ?_ | refine Or.inl (uE (cM_ofRun0 (by omega) hr hJ.1 hc0 (by omega) (by omega)) ?_) | fail)
    all_goals first | omega | (exact rfl)
  · have hRq : R = (1, -1, (z (17, 0, 0), T)) := by rw [eR]; exact if_neg hc0
    have fin : (some (.inl (-1)) : Option aV) = some (.inl R.2.1) ∧ (RelM (aWr (aWr z (16, 0, 0) 9 0) (16, 0, 0) 9 1) R.2.2 ∧ aWr (aWr z (16, 0, 0) 9 0) (16, 0, 0) 9 1 (16, 0, 0) 9 = R.1) ∧ fM z (aWr (aWr z (16, 0, 0) 9 0) (16, 0, 0) 9 1) := by
      rw [hRq]; exact ⟨rfl, (hR.thr 0).1.thr 1, ((fM.rf z).wr (Or.inl rfl)).wr (Or.inl rfl)⟩
    refine hB [] 1000 _ _ _ _ _ ?_
    repeat' (first | (exact ⟨rfl, fin⟩) | refine And.intro ?_ ?_ | (intro hh; first | exact absurd hh (by decide) | exact absurd rfl hh | (exfalso; omega) | skip) | refine Or.inl (uE (cM_ofRun1 (by omega) hr hJ.1 hc0) ?_) | fail)
    all_goals first | omega | (exact rfl) | (exact Or.inl rfl) | (exact Or.inr rfl)

theorem cM_isComplete {r : Int} (hr : aIR r) (hd : 3 ≤ d) (hR : RelM z A) (hI : InvW A) : mOp l g nX7_isComplete d [.inr (.inr (.inl (16, 0, 0))), .inl r] z (qComplete r A) := by
  obtain ⟨R, eR⟩ : ∃ R : aRes, R = qComplete r A := ⟨_, rfl⟩
  rw [← eR, mOp]
  refine aM1_of kX7_isComplete rfl (fun B hB => ?_)
  obtain ⟨m, T⟩ := A
  have em : z (17, 0, 0) = m := hR.1.1
  subst em
  have hJ : Inv (z (17, 0, 0)) := hI.1.1
  have cc := hJ.1.1.1
  by_cases hc0 : isN (z (17, 0, 0)) r
  · have ok := (hJ.1.2.2.1 r hc0.1 hc0.2).1.1
    have hRq : R = (0, sB (z (17, 0, 0) (59 + 13 * r + 0) = 1), (z (17, 0, 0), T)) := by rw [eR]; exact if_pos hc0
    have fin : ∀ v, v = sB (z (17, 0, 0) (59 + 13 * r + 0) = 1) → (some (.inl v) : Option aV) = some (.inl R.2.1) ∧ (RelM (aWr z (16, 0, 0) 9 0) R.2.2 ∧ aWr z (16, 0, 0) 9 0 (16, 0, 0) 9 = R.1) ∧ fM z (aWr z (16, 0, 0) 9 0) := fun v e9 => by
      rw [hRq, e9]; exact ⟨rfl, hR.thr 0, (fM.rf z).wr (Or.inl rfl)⟩
    have ok2 : 0 ≤ z (17, 0, 0) (59 + 13 * r + 0) ∧ z (17, 0, 0) (59 + 13 * r + 0) ≤ 1 := by rw [show 59 + 13 * r + 0 = 59 + 13 * r by omega]; exact ok
    refine hB [] 1000 _ _ _ _ _ ?_
    repeat' (first | (refine ⟨rfl, fin _ ?_⟩) | refine And.intro ?_ ?_ | (intro hh; first | exact absurd hh (by decide) | exact absurd rfl hh | (exfalso; omega) | skip) | refine Or.inl (uE (cM_ofRun0 (by omega) hr hJ.1 hc0 (by omega) (by omega)) ?_) | fail)
    all_goals first | omega | (exact rfl) | (exact Or.inl rfl) | (exact Or.inr rfl) | (exact (sB_1 (by assumption)).symm) | (exact (sB_0 (by assumption)).symm)
  · have hRq : R = (1, 0, (z (17, 0, 0), T)) := by rw [eR]; exact if_neg hc0
    have fin : (some (.inl (0)) : Option aV) = some (.inl R.2.1) ∧ (RelM (aWr (aWr z (16, 0, 0) 9 0) (16, 0, 0) 9 1) R.2.2 ∧ aWr (aWr z (16, 0, 0) 9 0) (16, 0, 0) 9 1 (16, 0, 0) 9 = R.1) ∧ fM z (aWr (aWr z (16, 0, 0) 9 0) (16, 0, 0) 9 1) := by
      rw [hRq]; exact ⟨rfl, (hR.thr 0).1.thr 1, ((fM.rf z).wr (Or.inl rfl)).wr (Or.inl rfl)⟩
    refine hB [] 1000 _ _ _ _ _ ?_
    repeat' (first | (exact ⟨rfl, fin⟩) | refine And.intro ?_ ?_ | (intro hh; first | exact absurd hh (by decide) | exact absurd rfl hh | (exfalso; omega) | skip) | refine Or.inl (uE (cM_ofRun1 (by omega) hr hJ.1 hc0) ?_) | fail)
    all_goals first | omega | (exact rfl) | (exact Or.inl rfl) | (exact Or.inr rfl)

theorem cM_hasRunPassed {r k : Int} (hd : 1 ≤ d) (h : Inv0 (z (17, 0, 0))) (hn : isN (z (17, 0, 0)) r) (k0 : 0 ≤ k) (k1 : k < 6) : aEb l g nX7_hasRunPassed d [.inr (.inr (.inl (16, 0, 0))), .inl r, .inl k] z (sBit (z (17, 0, 0) (59 + 13 * r + 6)) k) := by
  have cc := h.1.1
  have ok := (h.2.2.1 r hn.1 hn.2).1.2.2
  have ib := Int32.le_toInt (iZ (z (17, 0, 0) (59 + 13 * r + 6) / 2 ^ k.toNat) &&& iZ 1)
  have ib2 := Int32.toInt_lt (iZ (z (17, 0, 0) (59 + 13 * r + 6) / 2 ^ k.toNat) &&& iZ 1)
  refine aM1_of kX7_hasRunPassed rfl (fun B hB => ?_)
  refine hB [] 1000 _ _ _ _ _ ?_
  repeat' (first | refine And.intro ?_ ?_ | (intro hh; first | exact absurd hh (by decide) | exact absurd rfl hh | skip) | refine Or.inl (uE cM_runAtPlace ?_) | fail)
  all_goals first | omega | (exact rfl) | (exact Or.inl rfl) | (exact Or.inr rfl) | (exact Or.inl ⟨rfl, by assumption⟩) | (exact Or.inr ⟨rfl, by assumption⟩) | (unfold aIR; omega) | fail "left"

theorem cM_hasPassed {r k : Int} (hr : aIR r) (hk : aIR k) (hd : 2 ≤ d) (hR : RelM z A) (hI : InvW A) : mOp l g nX7_hasPassed d [.inr (.inr (.inl (16, 0, 0))), .inl r, .inl k] z (qPassed r k A) := by
  try unfold aIR at *
  obtain ⟨R, eR⟩ : ∃ R : aRes, R = qPassed r k A := ⟨_, rfl⟩
  rw [← eR, mOp]
  refine aM1_of kX7_hasPassed rfl (fun B hB => ?_)
  have h5 : ∀ z1 : aM, RelM z1 A → z1 (16, 0, 0) 9 = 0 → fM z z1 → B (none, 0, 0) z1 5 [some (.inr (.inr (.inl (16, 0, 0)))), some (.inl r), some (.inl k)] [] := by
    intro z1 h1 h9 hF
    clear hR
    obtain ⟨m, T⟩ := A
    have em : z1 (17, 0, 0) = m := h1.1.1
    subst em
    have hJ : Inv (z1 (17, 0, 0)) := hI.1.1
    have cc := hJ.1.1.1
    have ct := hJ.1.1.2.1
    have ga : -1 ≤ z1 (17, 0, 0) 7 ∧ z1 (17, 0, 0) 7 < 8 := by rcases hJ.1.2.1 with q | q <;> omega
    by_cases hc0 : isN (z1 (17, 0, 0)) r ∧ isG (z1 (17, 0, 0)) k
    · have fin : ∀ v' : Int, v' = (sB (sBit (z1 (17, 0, 0) (59 + 13 * r + 6)) k)) → (some (.inl v') : Option aV) = some (.inl R.2.1) ∧ (RelM z1 R.2.2 ∧ z1 (16, 0, 0) 9 = R.1) ∧ fM z z1 := fun v' e9 => by
        have hRq : R = (0, (sB (sBit (z1 (17, 0, 0) (59 + 13 * r + 6)) k)), (z1 (17, 0, 0), T)) := by
          rw [eR]; exact if_pos hc0
        rw [hRq, e9]
        exact ⟨rfl, ⟨h1, h9⟩, hF⟩
      refine hB [] 1000 _ _ _ _ _ ?_
      repeat' (first | (refine ⟨rfl, fin _ ?_⟩) | refine And.intro ?_ ?_ | (intro hh; first | exact absurd hh (by decide) | exact absurd rfl hh | (exfalso; omega) | skip) | refine Or.inl (uE cM_throwing ?_) | refine Or.inl (uB (cM_isRun ?_ ?_ ?_ ?_) ?_ ?_) | refine Or.inl (uB (cM_isGate ?_ ?_ ?_ ?_) ?_ ?_) | refine Or.inl (uB (cM_hasRunPassed ?_ hJ.1 hc0.1 ?_ ?_) ?_ ?_) | fail)
      all_goals first | omega | (exact rfl) | (exact Or.inl rfl) | (exact Or.inr rfl) | contradiction | (exact (sB_1 (by assumption)).symm) | (exact (sB_0 (by assumption)).symm) | (exfalso; exact hc0 ⟨by assumption, by assumption⟩) | fail "left"
    · have fin : ∀ v' : Int, v' = 0 → (some (.inl v') : Option aV) = some (.inl R.2.1) ∧ (RelM (aWr z1 (16, 0, 0) 9 1) R.2.2 ∧ (aWr z1 (16, 0, 0) 9 1) (16, 0, 0) 9 = R.1) ∧ fM z (aWr z1 (16, 0, 0) 9 1) := fun v' e9 => by
        have hRq : R = (1, 0, (z1 (17, 0, 0), T)) := by
          rw [eR]; exact if_neg hc0
        rw [hRq, e9]
        exact ⟨rfl, h1.thr 1, hF.wr (Or.inl rfl)⟩
      refine hB [] 1000 _ _ _ _ _ ?_
      repeat' (first | (refine ⟨rfl, fin _ ?_⟩) | refine And.intro ?_ ?_ | (intro hh; first | exact absurd hh (by decide) | exact absurd rfl hh | (exfalso; omega) | skip) | refine Or.inl (uE cM_throwing ?_) | refine Or.inl (uB (cM_isRun ?_ ?_ ?_ ?_) ?_ ?_) | refine Or.inl (uB (cM_isGate ?_ ?_ ?_ ?_) ?_ ?_) | refine Or.inl (uB (cM_hasRunPassed ?_ hJ.1 hc0.1 ?_ ?_) ?_ ?_) | fail)
      all_goals first | omega | (exact rfl) | (exact Or.inl rfl) | (exact Or.inr rfl) | contradiction | (exact (sB_1 (by assumption)).symm) | (exact (sB_0 (by assumption)).symm) | (exfalso; exact hc0 ⟨by assumption, by assumption⟩) | fail "left"
  refine hB [5] 1000 _ _ _ _ _ ?_
  repeat' (first | refine And.intro ?_ ?_ | fail)
  all_goals first | (exact rfl) | (exact Or.inl rfl) | exact h5 _ (hR.thr 0).1 (hR.thr 0).2 ((fM.rf z).wr (Or.inl rfl))


theorem cM_pointsOn {r k : Int} (hr : aIR r) (hk : aIR k) (hd : 2 ≤ d) (hR : RelM z A) (hI : InvW A) : mOp l g nX7_pointsOn d [.inr (.inr (.inl (16, 0, 0))), .inl r, .inl k] z (qR (isN (wM A) r ∧ isL (wM A) k) (wM A (59 + 13 * r + 7 + k)) A) := by
  try unfold aIR at *
  obtain ⟨R, eR⟩ : ∃ R : aRes, R = qR (isN (wM A) r ∧ isL (wM A) k) (wM A (59 + 13 * r + 7 + k)) A := ⟨_, rfl⟩
  rw [← eR, mOp]
  refine aM1_of kX7_pointsOn rfl (fun B hB => ?_)
  have h5 : ∀ z1 : aM, RelM z1 A → z1 (16, 0, 0) 9 = 0 → fM z z1 → B (none, 0, 0) z1 5 [some (.inr (.inr (.inl (16, 0, 0)))), some (.inl r), some (.inl k)] [] := by
    intro z1 h1 h9 hF
    clear hR
    obtain ⟨m, T⟩ := A
    have em : z1 (17, 0, 0) = m := h1.1.1
    subst em
    have hJ : Inv (z1 (17, 0, 0)) := hI.1.1
    have cc := hJ.1.1.1
    have ct := hJ.1.1.2.1
    have ga : -1 ≤ z1 (17, 0, 0) 7 ∧ z1 (17, 0, 0) 7 < 8 := by rcases hJ.1.2.1 with q | q <;> omega
    by_cases hc0 : isN (z1 (17, 0, 0)) r ∧ isL (z1 (17, 0, 0)) k
    · have fin : ∀ v' : Int, v' = (z1 (17, 0, 0) (59 + 13 * r + 7 + k)) → (some (.inl v') : Option aV) = some (.inl R.2.1) ∧ (RelM z1 R.2.2 ∧ z1 (16, 0, 0) 9 = R.1) ∧ fM z z1 := fun v' e9 => by
        have hRq : R = (0, (z1 (17, 0, 0) (59 + 13 * r + 7 + k)), (z1 (17, 0, 0), T)) := by
          rw [eR]; exact if_pos hc0
        rw [hRq, e9]
        exact ⟨rfl, ⟨h1, h9⟩, hF⟩
      refine hB [] 1000 _ _ _ _ _ ?_
      repeat' (first | (refine ⟨rfl, fin _ ?_⟩) | refine And.intro ?_ ?_ | (intro hh; first | exact absurd hh (by decide) | exact absurd rfl hh | (exfalso; omega) | skip) | refine Or.inl (uE cM_throwing ?_) | refine Or.inl (uB (cM_isRun ?_ ?_ ?_ ?_) ?_ ?_) | refine Or.inl (uB (cM_isLeg ?_ ?_ ?_ ?_) ?_ ?_) | refine Or.inl (uE cM_runAtPlace ?_) | fail)
      all_goals first | omega | (exact rfl) | (exact Or.inl rfl) | (exact Or.inr rfl) | contradiction | (exact (sB_1 (by assumption)).symm) | (exact (sB_0 (by assumption)).symm) | (exfalso; exact hc0 ⟨by assumption, by assumption⟩) | fail "left"
    · have fin : ∀ v' : Int, v' = (-1) → (some (.inl v') : Option aV) = some (.inl R.2.1) ∧ (RelM (aWr z1 (16, 0, 0) 9 1) R.2.2 ∧ (aWr z1 (16, 0, 0) 9 1) (16, 0, 0) 9 = R.1) ∧ fM z (aWr z1 (16, 0, 0) 9 1) := fun v' e9 => by
        have hRq : R = (1, (-1), (z1 (17, 0, 0), T)) := by
          rw [eR]; exact if_neg hc0
        rw [hRq, e9]
        exact ⟨rfl, h1.thr 1, hF.wr (Or.inl rfl)⟩
      refine hB [] 1000 _ _ _ _ _ ?_
      repeat' (first | (refine ⟨rfl, fin _ ?_⟩) | refine And.intro ?_ ?_ | (intro hh; first | exact absurd hh (by decide) | exact absurd rfl hh | (exfalso; omega) | skip) | refine Or.inl (uE cM_throwing ?_) | refine Or.inl (uB (cM_isRun ?_ ?_ ?_ ?_) ?_ ?_) | refine Or.inl (uB (cM_isLeg ?_ ?_ ?_ ?_) ?_ ?_) | refine Or.inl (uE cM_runAtPlace ?_) | fail)
      all_goals first | omega | (exact rfl) | (exact Or.inl rfl) | (exact Or.inr rfl) | contradiction | (exact (sB_1 (by assumption)).symm) | (exact (sB_0 (by assumption)).symm) | (exfalso; exact hc0 ⟨by assumption, by assumption⟩) | fail "left"
  refine hB [5] 1000 _ _ _ _ _ ?_
  repeat' (first | refine And.intro ?_ ?_ | fail)
  all_goals first | (exact rfl) | (exact Or.inl rfl) | exact h5 _ (hR.thr 0).1 (hR.thr 0).2 ((fM.rf z).wr (Or.inl rfl))


theorem cM_score {r : Int} (hr : aIR r) (hd : 2 ≤ d) (hR : RelM z A) (hI : InvW A) : mOp l g nX7_score d [.inr (.inr (.inl (16, 0, 0))), .inl r] z (qR (isN (wM A) r) (sSum (wM A) r) A) := by
  try unfold aIR at *
  obtain ⟨R, eR⟩ : ∃ R : aRes, R = qR (isN (wM A) r) (sSum (wM A) r) A := ⟨_, rfl⟩
  rw [← eR, mOp]
  refine aM1_of kX7_score rfl (fun B hB => ?_)
  have h5 : ∀ z1 : aM, RelM z1 A → z1 (16, 0, 0) 9 = 0 → fM z z1 → B (none, 0, 0) z1 5 [some (.inr (.inr (.inl (16, 0, 0)))), some (.inl r)] [] := by
    intro z1 h1 h9 hF
    clear hR
    obtain ⟨m, T⟩ := A
    have em : z1 (17, 0, 0) = m := h1.1.1
    subst em
    have hJ : Inv (z1 (17, 0, 0)) := hI.1.1
    have cc := hJ.1.1.1
    have ct := hJ.1.1.2.1
    have ga : -1 ≤ z1 (17, 0, 0) 7 ∧ z1 (17, 0, 0) 7 < 8 := by rcases hJ.1.2.1 with q | q <;> omega
    by_cases hc0 : isN (z1 (17, 0, 0)) r
    · have fin : ∀ v' : Int, v' = (sSum (z1 (17, 0, 0)) r) → (some (.inl v') : Option aV) = some (.inl R.2.1) ∧ (RelM z1 R.2.2 ∧ z1 (16, 0, 0) 9 = R.1) ∧ fM z z1 := fun v' e9 => by
        have hRq : R = (0, (sSum (z1 (17, 0, 0)) r), (z1 (17, 0, 0), T)) := by
          rw [eR]; exact if_pos hc0
        rw [hRq, e9]
        exact ⟨rfl, ⟨h1, h9⟩, hF⟩
      refine hB [] 1000 _ _ _ _ _ ?_
      repeat' (first | (refine ⟨rfl, fin _ ?_⟩) | refine And.intro ?_ ?_ | (intro hh; first | exact absurd hh (by decide) | exact absurd rfl hh | (exfalso; omega) | skip) | refine Or.inl (uE cM_throwing ?_) | refine Or.inl (uB (cM_isRun ?_ ?_ ?_ ?_) ?_ ?_) | refine Or.inl (uE (cM_scoreOf ?_ hJ.1 ?_ ?_) ?_) | fail)
      all_goals first | omega | (exact rfl) | (exact Or.inl rfl) | (exact Or.inr rfl) | contradiction | (exact (sB_1 (by assumption)).symm) | (exact (sB_0 (by assumption)).symm) | fail "left"
    · have fin : ∀ v' : Int, v' = (-1) → (some (.inl v') : Option aV) = some (.inl R.2.1) ∧ (RelM (aWr z1 (16, 0, 0) 9 1) R.2.2 ∧ (aWr z1 (16, 0, 0) 9 1) (16, 0, 0) 9 = R.1) ∧ fM z (aWr z1 (16, 0, 0) 9 1) := fun v' e9 => by
        have hRq : R = (1, (-1), (z1 (17, 0, 0), T)) := by
          rw [eR]; exact if_neg hc0
        rw [hRq, e9]
        exact ⟨rfl, h1.thr 1, hF.wr (Or.inl rfl)⟩
      refine hB [] 1000 _ _ _ _ _ ?_
      repeat' (first | (refine ⟨rfl, fin _ ?_⟩) | refine And.intro ?_ ?_ | (intro hh; first | exact absurd hh (by decide) | exact absurd rfl hh | (exfalso; omega) | skip) | refine Or.inl (uE cM_throwing ?_) | refine Or.inl (uB (cM_isRun ?_ ?_ ?_ ?_) ?_ ?_) | refine Or.inl (uE (cM_scoreOf ?_ hJ.1 ?_ ?_) ?_) | fail)
      all_goals first | omega | (exact rfl) | (exact Or.inl rfl) | (exact Or.inr rfl) | contradiction | (exact (sB_1 (by assumption)).symm) | (exact (sB_0 (by assumption)).symm) | fail "left"
  refine hB [5] 1000 _ _ _ _ _ ?_
  repeat' (first | refine And.intro ?_ ?_ | fail)
  all_goals first | (exact rfl) | (exact Or.inl rfl) | exact h5 _ (hR.thr 0).1 (hR.thr 0).2 ((fM.rf z).wr (Or.inl rfl))


theorem cM_scoreByLosses {r : Int} (hr : aIR r) (hd : 3 ≤ d) (hR : RelM z A) (hI : InvW A) : mOp l g nX7_scoreByLosses d [.inr (.inr (.inl (16, 0, 0))), .inl r] z (qR (isN (wM A) r) (sSum (wM A) r) A) := by
  refine aM1_of kX7_scoreByLosses rfl (fun B hB => ?_)
  refine hB [] 1000 _ _ _ _ _ ?_
  repeat' (first | refine And.intro ?_ ?_ | refine Or.inl (uA (cM_score hr (by omega) hR hI) ?_) | fail)
  all_goals first | omega | (exact rfl) | skip
  intro r' z' hq
  obtain ⟨e1, e2⟩ := hq
  rw [e1]
  exact ⟨rfl, rfl, e2⟩

theorem cM_rankOfRun {r : Int} (hd : 3 ≤ d) (h : Inv0 (z (17, 0, 0))) (r0 : 0 ≤ r) (r1 : r < z (17, 0, 0) 2) : aE1 l g nX7_rankOfRun d [.inr (.inr (.inl (16, 0, 0))), .inl r] z (sRank (z (17, 0, 0)) r) z := by
  have cc := h.1.1
  refine aM1_of kX7_rankOfRun rfl (fun B hB => ?_)
  have loop : ∀ (n : Nat) (k acc : Int), 0 ≤ k → k + (n : Int) = z (17, 0, 0) 2 → sRk (z (17, 0, 0)) r n k acc = sRank (z (17, 0, 0)) r → B (none, 0, 0) z 4 [some (.inr (.inr (.inl (16, 0, 0)))), some (.inl r), some (.inl acc), some (.inl k)] [] := by
    intro n
    induction n with
    | zero =>
      intro k acc k0 k1 e
      refine hB [] 1000 _ _ _ _ _ ?_
      repeat' (first | refine And.intro ?_ ?_ | (intro hh; first | exact absurd hh (by decide) | exact absurd rfl hh | skip) | fail)
      all_goals first | omega | (exact rfl) | (exact sI e)
    | succ n ih =>
      intro k acc k0 k1 e
      have e' : sRk (z (17, 0, 0)) r n (k + 1) (acc + (if k ≠ r ∧ sAhd (z (17, 0, 0)) k r then 1 else 0)) = sRank (z (17, 0, 0)) r := e
      have h33 : ∀ v : Int, v = (if k ≠ r ∧ sAhd (z (17, 0, 0)) k r then 1 else 0) → B (none, 0, 0) z 34 [some (.inr (.inr (.inl (16, 0, 0)))), some (.inl r), some (.inl acc), some (.inl k)] [.inl v, .inl acc] := by
        intro v ev
        refine hB [4] 1000 _ _ _ _ _ ?_
        repeat' (first | refine And.intro ?_ ?_ | fail)
        all_goals first | omega | (exact rfl) | skip
        refine ih _ _ (by omega) (by omega) ?_
        rw [ev]; exact e'
      refine hB [34] 1000 _ _ _ _ _ ?_
      repeat' (first | refine And.intro ?_ ?_ | (intro hh; first | exact absurd hh (by decide) | exact absurd rfl hh | skip) | refine Or.inl (uB (cM_isAhead ?_ h k0 ?_ r0 r1) ?_ ?_) | fail)
      all_goals first | omega | (exact rfl) | (refine h33 _ ?_)
      all_goals first | (exact (if_pos ⟨by assumption, by assumption⟩).symm) | (exact (if_neg (fun q => by first | exact absurd q.2 (by assumption) | exact absurd q.1 (by omega) | exact q.1 (by assumption))).symm) | fail "left"
  refine hB [4] 1000 _ _ _ _ _ ?_
  exact loop (z (17, 0, 0) 2).toNat 0 0 (by omega) (by omega) rfl
theorem sRk_B {a : Int → Int} {r : Int} : ∀ (n : Nat) (k acc : Int), acc ≤ sRk a r n k acc ∧ sRk a r n k acc ≤ acc + (n : Int)
  | 0, k, acc => ⟨Int.le_refl _, by show acc ≤ acc + ((0 : Nat) : Int); omega⟩
  | n + 1, k, acc => by
    have := sRk_B (a := a) (r := r) n (k + 1) (acc + (if k ≠ r ∧ sAhd a k r then 1 else 0))
    show acc ≤ sRk a r n (k + 1) (acc + (if k ≠ r ∧ sAhd a k r then 1 else 0)) ∧ sRk a r n (k + 1) (acc + (if k ≠ r ∧ sAhd a k r then 1 else 0)) ≤ acc + ((n + 1 : Nat) : Int)
    split at this <;> split <;> first | omega | contradiction
theorem sRank_B {a : Int → Int} (h : Inv0 a) {r : Int} : 0 ≤ sRank a r ∧ sRank a r ≤ 8 := by
  have cc := h.1.1
  have := sRk_B (a := a) (r := r) (a 2).toNat 0 0
  unfold sRank
  omega
theorem cM_runRanked {k : Int} (hd : 4 ≤ d) (hk : aIR k) (h : Inv0 (z (17, 0, 0))) : aE1 l g nX7_runRanked d [.inr (.inr (.inl (16, 0, 0))), .inl k] z (sRanked (z (17, 0, 0)) k) z := by
  unfold aIR at hk
  have cc := h.1.1
  refine aM1_of kX7_runRanked rfl (fun B hB => ?_)
  have loop : ∀ (n : Nat) (r : Int), 0 ≤ r → r + (n : Int) = z (17, 0, 0) 2 → sRd (z (17, 0, 0)) k n r = sRanked (z (17, 0, 0)) k → B (none, 0, 0) z 2 [some (.inr (.inr (.inl (16, 0, 0)))), some (.inl k), some (.inl r)] [] := by
    intro n
    induction n with
    | zero =>
      intro r k0 k1 e
      refine hB [] 1000 _ _ _ _ _ ?_
      repeat' (first | refine And.intro ?_ ?_ | (intro hh; first | exact absurd hh (by decide) | exact absurd rfl hh | skip) | fail)
      all_goals first | omega | (exact rfl) | (exact sI e)
    | succ n ih =>
      intro r k0 k1 e
      have e' : (if sRank (z (17, 0, 0)) r = k then r else sRd (z (17, 0, 0)) k n (r + 1)) = sRanked (z (17, 0, 0)) k := e
      have sb := sRank_B h (r := r)
      refine hB [2] 1000 _ _ _ _ _ ?_
      repeat' (first | refine And.intro ?_ ?_ | (intro hh; first | exact absurd hh (by decide) | exact absurd rfl hh | skip) | refine Or.inl (uE (cM_rankOfRun ?_ h k0 ?_) ?_) | fail)
      all_goals first | omega | (exact rfl) | (rw [if_pos (by assumption)] at e'; exact sI e') | (rw [if_neg (by assumption)] at e'; exact ih _ (by omega) (by omega) e') | fail "left"
  refine hB [2] 1000 _ _ _ _ _ ?_
  exact loop (z (17, 0, 0) 2).toNat 0 (by omega) (by omega) rfl
theorem sRd_B {a : Int → Int} {k : Int} : ∀ (n : Nat) (r : Int), 0 ≤ r → sRd a k n r = -1 ∨ (0 ≤ sRd a k n r ∧ sRd a k n r < r + (n : Int))
  | 0, r, _ => Or.inl rfl
  | n + 1, r, r0 => by
    show (if sRank a r = k then r else sRd a k n (r + 1)) = -1 ∨ (0 ≤ (if sRank a r = k then r else sRd a k n (r + 1)) ∧ (if sRank a r = k then r else sRd a k n (r + 1)) < r + ((n + 1 : Nat) : Int))
    have := sRd_B (a := a) (k := k) n (r + 1) (by omega)
    split <;> omega
theorem sRanked_B {a : Int → Int} (h : Inv0 a) {k : Int} : sRanked a k = -1 ∨ (0 ≤ sRanked a k ∧ sRanked a k < a 2) := by
  have cc := h.1.1
  have := sRd_B (a := a) (k := k) (a 2).toNat 0 (by omega)
  unfold sRanked
  omega

theorem cM_runAt {k : Int} (hk : aIR k) (hd : 5 ≤ d) (hR : RelM z A) (hI : InvW A) : mOp l g nX7_runAt d [.inr (.inr (.inl (16, 0, 0))), .inl k] z (qRunAt k A) := by
  try unfold aIR at *
  obtain ⟨R, eR⟩ : ∃ R : aRes, R = qRunAt k A := ⟨_, rfl⟩
  rw [← eR, mOp]
  refine aM1_of kX7_runAt rfl (fun B hB => ?_)
  have h5 : ∀ z1 : aM, RelM z1 A → z1 (16, 0, 0) 9 = 0 → fM z z1 → B (none, 0, 0) z1 5 [some (.inr (.inr (.inl (16, 0, 0)))), some (.inl k), none] [] := by
    intro z1 h1 h9 hF
    clear hR
    obtain ⟨m, T⟩ := A
    have em : z1 (17, 0, 0) = m := h1.1.1
    subst em
    have hJ : Inv (z1 (17, 0, 0)) := hI.1.1
    have cc := hJ.1.1.1
    have ct := hJ.1.1.2.1
    have ga : -1 ≤ z1 (17, 0, 0) 7 ∧ z1 (17, 0, 0) 7 < 8 := by rcases hJ.1.2.1 with q | q <;> omega
    have sb := sRanked_B hJ.1 (k := k)
    by_cases hc0 : sRanked (z1 (17, 0, 0)) k = -1
    · have fin : ∀ v' : Int, v' = (-1) → (some (.inl v') : Option aV) = some (.inl R.2.1) ∧ (RelM (aWr z1 (16, 0, 0) 9 1) R.2.2 ∧ (aWr z1 (16, 0, 0) 9 1) (16, 0, 0) 9 = R.1) ∧ fM z (aWr z1 (16, 0, 0) 9 1) := fun v' e9 => by
        have hRq : R = (1, (-1), (z1 (17, 0, 0), T)) := by
          rw [eR]; exact if_pos hc0
        rw [hRq, e9]
        exact ⟨rfl, h1.thr 1, hF.wr (Or.inl rfl)⟩
      refine hB [] 1000 _ _ _ _ _ ?_
      repeat' (first | (refine ⟨rfl, fin _ ?_⟩) | refine And.intro ?_ ?_ | (intro hh; first | exact absurd hh (by decide) | exact absurd rfl hh | (exfalso; omega) | skip) | refine Or.inl (uE cM_throwing ?_) | refine Or.inl (uE (cM_runRanked ?_ ?_ hJ.1) ?_) | fail)
      all_goals first | omega | (exact rfl) | (exact Or.inl rfl) | (exact Or.inr rfl) | contradiction | (exact (sB_1 (by assumption)).symm) | (exact (sB_0 (by assumption)).symm) | (unfold aIR; omega) | fail "left"
    · have fin : ∀ v' : Int, v' = (sRanked (z1 (17, 0, 0)) k) → (some (.inl v') : Option aV) = some (.inl R.2.1) ∧ (RelM z1 R.2.2 ∧ z1 (16, 0, 0) 9 = R.1) ∧ fM z z1 := fun v' e9 => by
        have hRq : R = (0, (sRanked (z1 (17, 0, 0)) k), (z1 (17, 0, 0), T)) := by
          rw [eR]; exact if_neg hc0
        rw [hRq, e9]
        exact ⟨rfl, ⟨h1, h9⟩, hF⟩
      refine hB [] 1000 _ _ _ _ _ ?_
      repeat' (first | (refine ⟨rfl, fin _ ?_⟩) | refine And.intro ?_ ?_ | (intro hh; first | exact absurd hh (by decide) | exact absurd rfl hh | (exfalso; omega) | skip) | refine Or.inl (uE cM_throwing ?_) | refine Or.inl (uE (cM_runRanked ?_ ?_ hJ.1) ?_) | fail)
      all_goals first | omega | (exact rfl) | (exact Or.inl rfl) | (exact Or.inr rfl) | contradiction | (exact (sB_1 (by assumption)).symm) | (exact (sB_0 (by assumption)).symm) | (unfold aIR; omega) | fail "left"
  refine hB [5] 1000 _ _ _ _ _ ?_
  repeat' (first | refine And.intro ?_ ?_ | fail)
  all_goals first | (exact rfl) | (exact Or.inl rfl) | exact h5 _ (hR.thr 0).1 (hR.thr 0).2 ((fM.rf z).wr (Or.inl rfl))


theorem cM_rankOf {r : Int} (hr : aIR r) (hd : 4 ≤ d) (hR : RelM z A) (hI : InvW A) : mOp l g nX7_rankOf d [.inr (.inr (.inl (16, 0, 0))), .inl r] z (qR (isN (wM A) r) (sRank (wM A) r) A) := by
  try unfold aIR at *
  obtain ⟨R, eR⟩ : ∃ R : aRes, R = qR (isN (wM A) r) (sRank (wM A) r) A := ⟨_, rfl⟩
  rw [← eR, mOp]
  refine aM1_of kX7_rankOf rfl (fun B hB => ?_)
  have h5 : ∀ z1 : aM, RelM z1 A → z1 (16, 0, 0) 9 = 0 → fM z z1 → B (none, 0, 0) z1 5 [some (.inr (.inr (.inl (16, 0, 0)))), some (.inl r)] [] := by
    intro z1 h1 h9 hF
    clear hR
    obtain ⟨m, T⟩ := A
    have em : z1 (17, 0, 0) = m := h1.1.1
    subst em
    have hJ : Inv (z1 (17, 0, 0)) := hI.1.1
    have cc := hJ.1.1.1
    have ct := hJ.1.1.2.1
    have ga : -1 ≤ z1 (17, 0, 0) 7 ∧ z1 (17, 0, 0) 7 < 8 := by rcases hJ.1.2.1 with q | q <;> omega
    by_cases hc0 : isN (z1 (17, 0, 0)) r
    · have fin : ∀ v' : Int, v' = (sRank (z1 (17, 0, 0)) r) → (some (.inl v') : Option aV) = some (.inl R.2.1) ∧ (RelM z1 R.2.2 ∧ z1 (16, 0, 0) 9 = R.1) ∧ fM z z1 := fun v' e9 => by
        have hRq : R = (0, (sRank (z1 (17, 0, 0)) r), (z1 (17, 0, 0), T)) := by
          rw [eR]; exact if_pos hc0
        rw [hRq, e9]
        exact ⟨rfl, ⟨h1, h9⟩, hF⟩
      refine hB [] 1000 _ _ _ _ _ ?_
      repeat' (first | (refine ⟨rfl, fin _ ?_⟩) | refine And.intro ?_ ?_ | (intro hh; first | exact absurd hh (by decide) | exact absurd rfl hh | (exfalso; omega) | skip) | refine Or.inl (uE cM_throwing ?_) | refine Or.inl (uB (cM_isRun ?_ ?_ ?_ ?_) ?_ ?_) | refine Or.inl (uE (cM_rankOfRun ?_ hJ.1 ?_ ?_) ?_) | fail)
      all_goals first | omega | (exact rfl) | (exact Or.inl rfl) | (exact Or.inr rfl) | contradiction | (exact (sB_1 (by assumption)).symm) | (exact (sB_0 (by assumption)).symm) | fail "left"
    · have fin : ∀ v' : Int, v' = (-1) → (some (.inl v') : Option aV) = some (.inl R.2.1) ∧ (RelM (aWr z1 (16, 0, 0) 9 1) R.2.2 ∧ (aWr z1 (16, 0, 0) 9 1) (16, 0, 0) 9 = R.1) ∧ fM z (aWr z1 (16, 0, 0) 9 1) := fun v' e9 => by
        have hRq : R = (1, (-1), (z1 (17, 0, 0), T)) := by
          rw [eR]; exact if_neg hc0
        rw [hRq, e9]
        exact ⟨rfl, h1.thr 1, hF.wr (Or.inl rfl)⟩
      refine hB [] 1000 _ _ _ _ _ ?_
      repeat' (first | (refine ⟨rfl, fin _ ?_⟩) | refine And.intro ?_ ?_ | (intro hh; first | exact absurd hh (by decide) | exact absurd rfl hh | (exfalso; omega) | skip) | refine Or.inl (uE cM_throwing ?_) | refine Or.inl (uB (cM_isRun ?_ ?_ ?_ ?_) ?_ ?_) | refine Or.inl (uE (cM_rankOfRun ?_ hJ.1 ?_ ?_) ?_) | fail)
      all_goals first | omega | (exact rfl) | (exact Or.inl rfl) | (exact Or.inr rfl) | contradiction | (exact (sB_1 (by assumption)).symm) | (exact (sB_0 (by assumption)).symm) | fail "left"
  refine hB [5] 1000 _ _ _ _ _ ?_
  repeat' (first | refine And.intro ?_ ?_ | fail)
  all_goals first | (exact rfl) | (exact Or.inl rfl) | exact h5 _ (hR.thr 0).1 (hR.thr 0).2 ((fM.rf z).wr (Or.inl rfl))


theorem cM_bestOn {k : Int} (hk : aIR k) (hd : 2 ≤ d) (hR : RelM z A) (hI : InvW A) : mOp l g nX7_bestOn d [.inr (.inr (.inl (16, 0, 0))), .inl k] z (qBest k A) := by
  try unfold aIR at *
  obtain ⟨R, eR⟩ : ∃ R : aRes, R = qBest k A := ⟨_, rfl⟩
  rw [← eR, mOp]
  refine aM1_of kX7_bestOn rfl (fun B hB => ?_)
  have h5 : ∀ z1 : aM, RelM z1 A → z1 (16, 0, 0) 9 = 0 → fM z z1 → B (none, 0, 0) z1 5 [some (.inr (.inr (.inl (16, 0, 0)))), some (.inl k), none, none] [] := by
    intro z1 h1 h9 hF
    clear hR
    obtain ⟨m, T⟩ := A
    have em : z1 (17, 0, 0) = m := h1.1.1
    subst em
    have hJ : Inv (z1 (17, 0, 0)) := hI.1.1
    have cc := hJ.1.1.1
    have ct := hJ.1.1.2.1
    have ga : -1 ≤ z1 (17, 0, 0) 7 ∧ z1 (17, 0, 0) 7 < 8 := by rcases hJ.1.2.1 with q | q <;> omega
    by_cases hc0 : isL (z1 (17, 0, 0)) k
    · by_cases hc1 : z1 (17, 0, 0) 2 = 0
      · have fin : ∀ v' : Int, v' = (-1) → (some (.inl v') : Option aV) = some (.inl R.2.1) ∧ (RelM (aWr z1 (16, 0, 0) 9 2) R.2.2 ∧ (aWr z1 (16, 0, 0) 9 2) (16, 0, 0) 9 = R.1) ∧ fM z (aWr z1 (16, 0, 0) 9 2) := fun v' e9 => by
          have hRq : R = (2, (-1), (z1 (17, 0, 0), T)) := by
            rw [eR]; unfold qBest
            rw [if_pos hc0]
            exact if_pos hc1
          rw [hRq, e9]
          exact ⟨rfl, h1.thr 2, hF.wr (Or.inl rfl)⟩
        refine hB [] 1000 _ _ _ _ _ ?_
        repeat' (first | (refine ⟨rfl, fin _ ?_⟩) | refine And.intro ?_ ?_ | (intro hh; first | exact absurd hh (by decide) | exact absurd rfl hh | (exfalso; omega) | skip) | refine Or.inl (uE cM_throwing ?_) | refine Or.inl (uB (cM_isLeg ?_ ?_ ?_ ?_) ?_ ?_) | fail)
        all_goals first | omega | (exact rfl) | (exact Or.inl rfl) | (exact Or.inr rfl) | contradiction | (exact (sB_1 (by assumption)).symm) | (exact (sB_0 (by assumption)).symm) | fail "left"
      · have fin : ∀ v' : Int, v' = (sBs (z1 (17, 0, 0)) k ((z1 (17, 0, 0) 2).toNat - 1) 1 0) → (some (.inl v') : Option aV) = some (.inl R.2.1) ∧ (RelM z1 R.2.2 ∧ z1 (16, 0, 0) 9 = R.1) ∧ fM z z1 := fun v' e9 => by
          have hRq : R = (0, (sBs (z1 (17, 0, 0)) k ((z1 (17, 0, 0) 2).toNat - 1) 1 0), (z1 (17, 0, 0), T)) := by
            rw [eR]; unfold qBest
            rw [if_pos hc0]
            exact if_neg hc1
          rw [hRq, e9]
          exact ⟨rfl, ⟨h1, h9⟩, hF⟩
        have loop : ∀ (n : Nat) (r b : Int), 1 ≤ r → r + (n : Int) = z1 (17, 0, 0) 2 → 0 ≤ b ∧ b < r → sBs (z1 (17, 0, 0)) k n r b = sBs (z1 (17, 0, 0)) k ((z1 (17, 0, 0) 2).toNat - 1) 1 0 → B (none, 0, 0) z1 38 [some (.inr (.inr (.inl (16, 0, 0)))), some (.inl k), some (.inl b), some (.inl r)] [] := by
          intro n
          induction n with
          | zero =>
            intro r b k0 k1 hb e
            refine hB [] 1000 _ _ _ _ _ ?_
            repeat' (first | (refine ⟨rfl, fin _ ?_⟩) | refine And.intro ?_ ?_ | (intro hh; first | exact absurd hh (by decide) | exact absurd rfl hh | (exfalso; omega) | skip) | refine Or.inl (uE cM_throwing ?_) | refine Or.inl (uB (cM_isLeg ?_ ?_ ?_ ?_) ?_ ?_) | refine Or.inl (uE cM_runAtPlace ?_) | fail)
            all_goals first | omega | (exact rfl) | (exact e)
          | succ n ih =>
            intro r b k0 k1 hb e
            have p1 := hJ.1.pts (r := r) (by omega) (by omega) hc0.1 hc0.2
            have p2 := hJ.1.pts (r := b) (by omega) (by omega) hc0.1 hc0.2
            have e' : sBs (z1 (17, 0, 0)) k n (r + 1) (if z1 (17, 0, 0) (59 + 13 * b + 7 + k) < z1 (17, 0, 0) (59 + 13 * r + 7 + k) then r else b) = sBs (z1 (17, 0, 0)) k ((z1 (17, 0, 0) 2).toNat - 1) 1 0 := e
            refine hB [38] 1000 _ _ _ _ _ ?_
            repeat' (first | refine And.intro ?_ ?_ | (intro hh; first | exact absurd hh (by decide) | exact absurd rfl hh | skip) | refine Or.inl (uE cM_runAtPlace ?_) | fail)
            all_goals first | omega | (exact rfl) | (rw [if_pos (by assumption)] at e'; exact ih _ _ (by omega) (by omega) (by omega) e') | (rw [if_neg (by omega)] at e'; exact ih _ _ (by omega) (by omega) (by omega) e') | fail "left"
        refine hB [38] 1000 _ _ _ _ _ ?_
        repeat' (first | (refine ⟨rfl, fin _ ?_⟩) | refine And.intro ?_ ?_ | (intro hh; first | exact absurd hh (by decide) | exact absurd rfl hh | (exfalso; omega) | skip) | refine Or.inl (uE cM_throwing ?_) | refine Or.inl (uB (cM_isLeg ?_ ?_ ?_ ?_) ?_ ?_) | refine Or.inl (uE cM_runAtPlace ?_) | fail)
        all_goals first | omega | (exact rfl) | contradiction | skip
        exact loop ((z1 (17, 0, 0) 2).toNat - 1) 1 0 (by omega) (by omega) (by omega) rfl
    · have fin : ∀ v' : Int, v' = (-1) → (some (.inl v') : Option aV) = some (.inl R.2.1) ∧ (RelM (aWr z1 (16, 0, 0) 9 1) R.2.2 ∧ (aWr z1 (16, 0, 0) 9 1) (16, 0, 0) 9 = R.1) ∧ fM z (aWr z1 (16, 0, 0) 9 1) := fun v' e9 => by
        have hRq : R = (1, (-1), (z1 (17, 0, 0), T)) := by
          rw [eR]; unfold qBest
          exact if_neg hc0
        rw [hRq, e9]
        exact ⟨rfl, h1.thr 1, hF.wr (Or.inl rfl)⟩
      refine hB [] 1000 _ _ _ _ _ ?_
      repeat' (first | (refine ⟨rfl, fin _ ?_⟩) | refine And.intro ?_ ?_ | (intro hh; first | exact absurd hh (by decide) | exact absurd rfl hh | (exfalso; omega) | skip) | refine Or.inl (uE cM_throwing ?_) | refine Or.inl (uB (cM_isLeg ?_ ?_ ?_ ?_) ?_ ?_) | fail)
      all_goals first | omega | (exact rfl) | (exact Or.inl rfl) | (exact Or.inr rfl) | contradiction | (exact (sB_1 (by assumption)).symm) | (exact (sB_0 (by assumption)).symm) | fail "left"
  refine hB [5] 1000 _ _ _ _ _ ?_
  repeat' (first | refine And.intro ?_ ?_ | fail)
  all_goals first | (exact rfl) | (exact Or.inl rfl) | exact h5 _ (hR.thr 0).1 (hR.thr 0).2 ((fM.rf z).wr (Or.inl rfl))


theorem cM_isConsistent (hd : 1 ≤ d) (hR : RelM z A) (hI : InvW A) : mOp l g nX7_isConsistent d [.inr (.inr (.inl (16, 0, 0)))] z (0, 1, A) := by
  refine aM1_of kX7_isConsistent rfl (fun B hB => ?_)
  refine hB [] 1000 _ _ _ _ _ ?_
  repeat' (first | exact hR.thr 0 | exact (fM.rf z).wr (Or.inl rfl) | refine And.intro ?_ ?_ | fail)
  all_goals first | (exact rfl) | (exact Or.inr rfl) | (exact Or.inl rfl) | omega

theorem cM_errorPosition  (hd : 1 ≤ d) (hR : RelM z A) (hI : InvW A) : mOp l g nX7_errorPosition d [.inr (.inr (.inl (16, 0, 0)))] z (if wE A = -1 then (1, -1, A) else (0, wE A, A)) := by
  try unfold aIR at *
  obtain ⟨R, eR⟩ : ∃ R : aRes, R = if wE A = -1 then (1, -1, A) else (0, wE A, A) := ⟨_, rfl⟩
  rw [← eR, mOp]
  refine aM1_of kX7_errorPosition rfl (fun B hB => ?_)
  have h5 : ∀ z1 : aM, RelM z1 A → z1 (16, 0, 0) 9 = 0 → fM z z1 → B (none, 0, 0) z1 5 [some (.inr (.inr (.inl (16, 0, 0))))] [] := by
    intro z1 h1 h9 hF
    clear hR
    obtain ⟨m, T⟩ := A
    have em : z1 (17, 0, 0) = m := h1.1.1
    subst em
    have hJ : Inv (z1 (17, 0, 0)) := hI.1.1
    have cc := hJ.1.1.1
    have ct := hJ.1.1.2.1
    have ga : -1 ≤ z1 (17, 0, 0) 7 ∧ z1 (17, 0, 0) 7 < 8 := by rcases hJ.1.2.1 with q | q <;> omega
    have eE : z1 (16, 0, 0) 7 = wE (z1 (17, 0, 0), T) := h1.2.2.1.1
    have bE := hI.2.2.1.1
    by_cases hc0 : wE (z1 (17, 0, 0), T) = -1
    · have fin : ∀ v' : Int, v' = (-1) → (some (.inl v') : Option aV) = some (.inl R.2.1) ∧ (RelM (aWr z1 (16, 0, 0) 9 1) R.2.2 ∧ (aWr z1 (16, 0, 0) 9 1) (16, 0, 0) 9 = R.1) ∧ fM z (aWr z1 (16, 0, 0) 9 1) := fun v' e9 => by
        have hRq : R = (1, (-1), (z1 (17, 0, 0), T)) := by
          rw [eR]; exact if_pos hc0
        rw [hRq, e9]
        exact ⟨rfl, h1.thr 1, hF.wr (Or.inl rfl)⟩
      refine hB [] 1000 _ _ _ _ _ ?_
      repeat' (first | (refine ⟨rfl, fin _ ?_⟩) | refine And.intro ?_ ?_ | (intro hh; first | exact absurd hh (by decide) | exact absurd rfl hh | (exfalso; omega) | skip) | refine Or.inl (uE cM_throwing ?_) | fail)
      all_goals first | omega | (exact rfl) | (exact Or.inl rfl) | (exact Or.inr rfl) | contradiction | (exact (sB_1 (by assumption)).symm) | (exact (sB_0 (by assumption)).symm) | fail "left"
    · have fin : ∀ v' : Int, v' = (wE (z1 (17, 0, 0), T)) → (some (.inl v') : Option aV) = some (.inl R.2.1) ∧ (RelM z1 R.2.2 ∧ z1 (16, 0, 0) 9 = R.1) ∧ fM z z1 := fun v' e9 => by
        have hRq : R = (0, (wE (z1 (17, 0, 0), T)), (z1 (17, 0, 0), T)) := by
          rw [eR]; exact if_neg hc0
        rw [hRq, e9]
        exact ⟨rfl, ⟨h1, h9⟩, hF⟩
      refine hB [] 1000 _ _ _ _ _ ?_
      repeat' (first | (refine ⟨rfl, fin _ ?_⟩) | refine And.intro ?_ ?_ | (intro hh; first | exact absurd hh (by decide) | exact absurd rfl hh | (exfalso; omega) | skip) | refine Or.inl (uE cM_throwing ?_) | fail)
      all_goals first | omega | (exact rfl) | (exact Or.inl rfl) | (exact Or.inr rfl) | contradiction | (exact (sB_1 (by assumption)).symm) | (exact (sB_0 (by assumption)).symm) | fail "left"
  refine hB [5] 1000 _ _ _ _ _ ?_
  repeat' (first | refine And.intro ?_ ?_ | fail)
  all_goals first | (exact rfl) | (exact Or.inl rfl) | exact h5 _ (hR.thr 0).1 (hR.thr 0).2 ((fM.rf z).wr (Or.inl rfl))


theorem cM_failedCommand  (hd : 1 ≤ d) (hR : RelM z A) (hI : InvW A) : mOp l g nX7_failedCommand d [.inr (.inr (.inl (16, 0, 0)))] z (if wF A = -1 then (1, -1, A) else (0, wF A, A)) := by
  try unfold aIR at *
  obtain ⟨R, eR⟩ : ∃ R : aRes, R = if wF A = -1 then (1, -1, A) else (0, wF A, A) := ⟨_, rfl⟩
  rw [← eR, mOp]
  refine aM1_of kX7_failedCommand rfl (fun B hB => ?_)
  have h5 : ∀ z1 : aM, RelM z1 A → z1 (16, 0, 0) 9 = 0 → fM z z1 → B (none, 0, 0) z1 5 [some (.inr (.inr (.inl (16, 0, 0))))] [] := by
    intro z1 h1 h9 hF
    clear hR
    obtain ⟨m, T⟩ := A
    have em : z1 (17, 0, 0) = m := h1.1.1
    subst em
    have hJ : Inv (z1 (17, 0, 0)) := hI.1.1
    have cc := hJ.1.1.1
    have ct := hJ.1.1.2.1
    have ga : -1 ≤ z1 (17, 0, 0) 7 ∧ z1 (17, 0, 0) 7 < 8 := by rcases hJ.1.2.1 with q | q <;> omega
    have eE : z1 (16, 0, 0) 8 = wF (z1 (17, 0, 0), T) := h1.2.2.1.2
    have bE := hI.2.2.1.2
    by_cases hc0 : wF (z1 (17, 0, 0), T) = -1
    · have fin : ∀ v' : Int, v' = (-1) → (some (.inl v') : Option aV) = some (.inl R.2.1) ∧ (RelM (aWr z1 (16, 0, 0) 9 1) R.2.2 ∧ (aWr z1 (16, 0, 0) 9 1) (16, 0, 0) 9 = R.1) ∧ fM z (aWr z1 (16, 0, 0) 9 1) := fun v' e9 => by
        have hRq : R = (1, (-1), (z1 (17, 0, 0), T)) := by
          rw [eR]; exact if_pos hc0
        rw [hRq, e9]
        exact ⟨rfl, h1.thr 1, hF.wr (Or.inl rfl)⟩
      refine hB [] 1000 _ _ _ _ _ ?_
      repeat' (first | (refine ⟨rfl, fin _ ?_⟩) | refine And.intro ?_ ?_ | (intro hh; first | exact absurd hh (by decide) | exact absurd rfl hh | (exfalso; omega) | skip) | refine Or.inl (uE cM_throwing ?_) | fail)
      all_goals first | omega | (exact rfl) | (exact Or.inl rfl) | (exact Or.inr rfl) | contradiction | (exact (sB_1 (by assumption)).symm) | (exact (sB_0 (by assumption)).symm) | fail "left"
    · have fin : ∀ v' : Int, v' = (wF (z1 (17, 0, 0), T)) → (some (.inl v') : Option aV) = some (.inl R.2.1) ∧ (RelM z1 R.2.2 ∧ z1 (16, 0, 0) 9 = R.1) ∧ fM z z1 := fun v' e9 => by
        have hRq : R = (0, (wF (z1 (17, 0, 0), T)), (z1 (17, 0, 0), T)) := by
          rw [eR]; exact if_neg hc0
        rw [hRq, e9]
        exact ⟨rfl, ⟨h1, h9⟩, hF⟩
      refine hB [] 1000 _ _ _ _ _ ?_
      repeat' (first | (refine ⟨rfl, fin _ ?_⟩) | refine And.intro ?_ ?_ | (intro hh; first | exact absurd hh (by decide) | exact absurd rfl hh | (exfalso; omega) | skip) | refine Or.inl (uE cM_throwing ?_) | fail)
      all_goals first | omega | (exact rfl) | (exact Or.inl rfl) | (exact Or.inr rfl) | contradiction | (exact (sB_1 (by assumption)).symm) | (exact (sB_0 (by assumption)).symm) | fail "left"
  refine hB [5] 1000 _ _ _ _ _ ?_
  repeat' (first | refine And.intro ?_ ?_ | fail)
  all_goals first | (exact rfl) | (exact Or.inl rfl) | exact h5 _ (hR.thr 0).1 (hR.thr 0).2 ((fM.rf z).wr (Or.inl rfl))


end M11
