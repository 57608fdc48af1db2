/-! THE CLASS: legs, gates, runs added (printed by wip/whole/cls6.py) -/
section K6
variable {l : Launch} {g : aG} {d : Nat} {z : aM} {s r : Int} {a : Int → Int}
theorem cK_appendLeg {x y p : Int} (hd : 2 ≤ d) (h : Sim z s a) (hI : Inv0 a) (hx : aIR x) (hy : aIR y) (hp : aIR p) : sOp l g nX5_appendLeg d s [.inr (.inr (.inl (1, s, 0))), .inl x, .inl y, .inl p] z (cLeg x y p a) cdA := by
  unfold sOp aIR at *
  have cc := hI.1.1
  have e2 := h.2.2.1.1
  have e4 : z (2, s, 0) 4 = a 0 := h.1.1.2.2.1
  by_cases c1 : sPt x y ∧ (1 ≤ p ∧ p ≤ 30)
  · by_cases h2 : a 0 = 6 ∨ 0 < a 2
    · have ec : cLeg x y p a = (2, -1, a) := (if_pos c1).trans (if_pos h2)
      rw [ec]
      refine aM1_of kX5_appendLeg rfl (fun B hB => ?_)
      have fin : ((2 : Int) = 0 → (some (.inl (-3)) : Option aV) = some (.inl (-1)) ∧ Sim z s a) ∧ ((2 : Int) ≠ 0 → (some (.inl (-3)) : Option aV) = some (.inl (cdA 2))) := ⟨fun e => absurd e (by decide), fun _ => rfl⟩
      refine hB [] 1000 _ _ _ _ _ ?_
      repeat' (first | exact ⟨rfl, fin, fS.rf s z⟩ | refine And.intro ?_ ?_ | (intro hh; first | exact absurd hh (by decide) | exact absurd rfl hh | (exfalso; omega) | skip) | refine Or.inl (uB (cK_isWithin ?_ ?_ ?_) ?_ ?_) | refine Or.inl (uB (cK_isPoint ?_ ?_ ?_) ?_ ?_) | fail)
      all_goals first | omega | (exact rfl) | contradiction | (unfold aIR; omega) | (exfalso; exact absurd c1.1 (by assumption)) | (exfalso; exact absurd c1.2 (by assumption))
    · obtain ⟨n7, n2⟩ := Inv.no hI (by omega)
      have ec : cLeg x y p a = (0, a 0, (ud (ud (ud (ud a (11 + 3 * a 0) x) (11 + 3 * a 0 + 1) y) (11 + 3 * a 0 + 2) p) 0 (a 0 + 1))) := (if_pos c1).trans (if_neg h2)
      rw [ec]
      obtain ⟨mm1, em1⟩ : ∃ w, w = aWr z (3, s, 0) (z (2, s, 0) 4) x := ⟨_, rfl⟩
      have f1 : ∀ q : aP, q ≠ (3, s, 0) → mm1 q = z q := fun q h => by rw [em1]; exact aWr_ne2 h
      have g1 : ∀ j, j ≠ z (2, s, 0) 4 → mm1 (3, s, 0) j = z (3, s, 0) j := fun j h => by rw [em1]; exact aWr_j h
      have h1 : mm1 (3, s, 0) (z (2, s, 0) 4) = x := by rw [em1]; exact aWr_k _ _ _ _
      obtain ⟨mm2, em2⟩ : ∃ w, w = aWr mm1 (3, s, 1) (z (2, s, 0) 4) y := ⟨_, rfl⟩
      have f2 : ∀ q : aP, q ≠ (3, s, 1) → mm2 q = mm1 q := fun q h => by rw [em2]; exact aWr_ne2 h
      have g2 : ∀ j, j ≠ z (2, s, 0) 4 → mm2 (3, s, 1) j = mm1 (3, s, 1) j := fun j h => by rw [em2]; exact aWr_j h
      have h2 : mm2 (3, s, 1) (z (2, s, 0) 4) = y := by rw [em2]; exact aWr_k _ _ _ _
      obtain ⟨mm3, em3⟩ : ∃ w, w = aWr mm2 (3, s, 2) (z (2, s, 0) 4) p := ⟨_, rfl⟩
      have f3 : ∀ q : aP, q ≠ (3, s, 2) → mm3 q = mm2 q := fun q h => by rw [em3]; exact aWr_ne2 h
      have g3 : ∀ j, j ≠ z (2, s, 0) 4 → mm3 (3, s, 2) j = mm2 (3, s, 2) j := fun j h => by rw [em3]; exact aWr_j h
      have h3 : mm3 (3, s, 2) (z (2, s, 0) 4) = p := by rw [em3]; exact aWr_k _ _ _ _
      obtain ⟨mm4, em4⟩ : ∃ w, w = aWr mm3 (2, s, 0) 4 (z (2, s, 0) 4 + 1) := ⟨_, rfl⟩
      have f4 : ∀ q : aP, q ≠ (2, s, 0) → mm4 q = mm3 q := fun q h => by rw [em4]; exact aWr_ne2 h
      have g4 : ∀ j, j ≠ 4 → mm4 (2, s, 0) j = mm3 (2, s, 0) j := fun j h => by rw [em4]; exact aWr_j h
      have h4 : mm4 (2, s, 0) 4 = z (2, s, 0) 4 + 1 := by rw [em4]; exact aWr_k _ _ _ _
      have q2 : ∀ j, j ≠ 4 → mm4 (2, s, 0) j = z (2, s, 0) j := fun j h => by rw [g4 j h, f3 _ (pne (by show (2 : Nat) ≠ 3; decide)), f2 _ (pne (by show (2 : Nat) ≠ 3; decide)), f1 _ (pne (by show (2 : Nat) ≠ 3; decide))]
      have q1 : mm4 (1, s, 0) = z (1, s, 0) := by rw [f4 _ (pne (by show (1 : Nat) ≠ 2; decide)), f3 _ (pne (by show (1 : Nat) ≠ 3; decide)), f2 _ (pne (by show (1 : Nat) ≠ 3; decide)), f1 _ (pne (by show (1 : Nat) ≠ 3; decide))]
      have q3 : ∀ i, (i < 0 ∨ 3 ≤ i) → mm4 (3, s, i) = z (3, s, i) := fun i hi => by rw [f4 _ (pne (by show (3 : Nat) ≠ 2; decide)), f3 _ (pnj (by omega)), f2 _ (pnj (by omega)), f1 _ (pnj (by omega))]
      have p0 : mm4 (3, s, 0) (z (2, s, 0) 4) = x := by rw [f4 _ (pne (by show (3 : Nat) ≠ 2; decide)), f3 _ (pnj (by decide)), f2 _ (pnj (by decide)), h1]
      have r0 : ∀ j, j ≠ z (2, s, 0) 4 → mm4 (3, s, 0) j = z (3, s, 0) j := fun j hj => by rw [f4 _ (pne (by show (3 : Nat) ≠ 2; decide)), f3 _ (pnj (by decide)), f2 _ (pnj (by decide)), g1 j hj]
      have p1 : mm4 (3, s, 1) (z (2, s, 0) 4) = y := by rw [f4 _ (pne (by show (3 : Nat) ≠ 2; decide)), f3 _ (pnj (by decide)), h2]
      have r1 : ∀ j, j ≠ z (2, s, 0) 4 → mm4 (3, s, 1) j = z (3, s, 1) j := fun j hj => by rw [f4 _ (pne (by show (3 : Nat) ≠ 2; decide)), f3 _ (pnj (by decide)), g2 j hj, f1 _ (pnj (by decide))]
      have p2 : mm4 (3, s, 2) (z (2, s, 0) 4) = p := by rw [f4 _ (pne (by show (3 : Nat) ≠ 2; decide)), h3]
      have r2 : ∀ j, j ≠ z (2, s, 0) 4 → mm4 (3, s, 2) j = z (3, s, 2) j := fun j hj => by rw [f4 _ (pne (by show (3 : Nat) ≠ 2; decide)), g3 j hj, f2 _ (pnj (by decide)), f1 _ (pnj (by decide))]
      have fs : Sim mm4 s (ud (ud (ud (ud a (11 + 3 * a 0) x) (11 + 3 * a 0 + 1) y) (11 + 3 * a 0 + 2) p) 0 (a 0 + 1)) := by
        refine h.crs n2 q1 (by simp (disch := omega) only [ud_ne]) (by simp (disch := omega) only [ud_ne]) n7 ?_
        obtain ⟨⟨⟨k1, k2⟩, ⟨k3, k4⟩, k5, k7⟩, k8, k9⟩ := h.1
        unfold SimC
        rw [q2 0 (by decide), q2 1 (by decide), q2 2 (by decide), q2 3 (by decide), q2 8 (by decide), h4, e4]
        simp (disch := omega) only [ud_ne, ud_at]
        refine ⟨⟨⟨k1, k2⟩, ⟨k3, k4⟩, trivial, k7⟩, fun k k0 k1 => ?_, fun k k0 k1 => ?_⟩
        · by_cases e : k = a 0
          · subst e
            simp (disch := omega) only [ud_ne, ud_at]
            rw [← e4]
            exact ⟨p0, p1, p2⟩
          · simp (disch := omega) only [ud_ne]
            rw [r0 k (by omega), r1 k (by omega), r2 k (by omega)]
            exact k8 k k0 (by omega)
        · simp (disch := omega) only [ud_ne]
          rw [q3 3 (by omega), q3 4 (by omega), q3 5 (by omega), q3 6 (by omega), q3 7 (by omega)]
          exact k9 k k0 k1
      have fF : fS s z mm4 := by
        rw [em4, em3, em2, em1]
        exact ((((fS.rf s z).wr (by decide) (by decide)).wr (by decide) (by decide)).wr (by decide) (by decide)).wr (by decide) (by decide)
      have fin : (((0 : Int) = 0 → (some (.inl (z (2, s, 0) 4)) : Option aV) = some (.inl (a 0)) ∧ Sim mm4 s (ud (ud (ud (ud a (11 + 3 * a 0) x) (11 + 3 * a 0 + 1) y) (11 + 3 * a 0 + 2) p) 0 (a 0 + 1))) ∧ ((0 : Int) ≠ 0 → (some (.inl (z (2, s, 0) 4)) : Option aV) = some (.inl (cdA 0)))) ∧ fS s z mm4 := ⟨⟨fun _ => ⟨by rw [e4], fs⟩, fun e => absurd rfl e⟩, fF⟩
      clear fs fF q1 q2 q3 p0 p1 p2 r0 r1 r2
      clear f1 g1 h1 f2 g2 h2 f3 g3 h3 f4 g4 h4
      subst em4 em3 em2 em1
      refine aM1_of kX5_appendLeg rfl (fun B hB => ?_)
      refine hB [] 1000 _ _ _ _ _ ?_
      repeat' (first | exact ⟨rfl, fin⟩ | refine And.intro ?_ ?_ | (intro hh; first | exact absurd hh (by decide) | exact absurd rfl hh | (exfalso; omega) | skip) | refine Or.inl (uB (cK_isWithin ?_ ?_ ?_) ?_ ?_) | refine Or.inl (uB (cK_isPoint ?_ ?_ ?_) ?_ ?_) | fail)
      all_goals first | omega | (exact rfl) | contradiction | (unfold aIR; omega) | (exact Or.inl rfl) | (exact Or.inr rfl) | (exfalso; exact absurd c1.1 (by assumption)) | (exfalso; exact absurd c1.2 (by assumption))
  · have ec : cLeg x y p a = (1, -1, a) := if_neg c1
    rw [ec]
    refine aM1_of kX5_appendLeg rfl (fun B hB => ?_)
    have fin : ((1 : Int) = 0 → (some (.inl (-2)) : Option aV) = some (.inl (-1)) ∧ Sim z s a) ∧ ((1 : Int) ≠ 0 → (some (.inl (-2)) : Option aV) = some (.inl (cdA 1))) := ⟨fun e => absurd e (by decide), fun _ => rfl⟩
    refine hB [] 1000 _ _ _ _ _ ?_
    repeat' (first | exact ⟨rfl, fin, fS.rf s z⟩ | refine And.intro ?_ ?_ | (intro hh; first | exact absurd hh (by decide) | exact absurd rfl hh | (exfalso; omega) | skip) | refine Or.inl (uB (cK_isWithin ?_ ?_ ?_) ?_ ?_) | refine Or.inl (uB (cK_isPoint ?_ ?_ ?_) ?_ ?_) | fail)
    all_goals first | omega | (exact rfl) | contradiction | (unfold aIR; omega) | (exfalso; exact c1 ⟨by assumption, by assumption⟩)

theorem cK_appendGate {leg x1 y1 x2 y2 : Int} (hd : 2 ≤ d) (h : Sim z s a) (hI : Inv0 a) (hl : aIR leg) (hx1 : aIR x1) (hy1 : aIR y1) (hx2 : aIR x2) (hy2 : aIR y2) : sOp l g nX5_appendGate d s [.inr (.inr (.inl (1, s, 0))), .inl leg, .inl x1, .inl y1, .inl x2, .inl y2] z (cGate leg x1 y1 x2 y2 a) cdG := by
  unfold sOp aIR at *
  have cc := hI.1.1
  have e2 := h.2.2.1.1
  have e4 : z (2, s, 0) 4 = a 0 := h.1.1.2.2.1
  have e8 : z (2, s, 0) 8 = a 1 := h.1.1.2.2.2
  by_cases c0 : 0 ≤ leg ∧ leg < a 0
  · by_cases c1 : (sPt x1 y1 ∧ sPt x2 y2) ∧ ¬ (x1 = x2 ∧ y1 = y2)
    · by_cases h2 : a 1 = 6 ∨ 0 < a 2
      · have ec : cGate leg x1 y1 x2 y2 a = (3, -1, a) := ((if_pos c0).trans (if_pos c1)).trans (if_pos h2)
        rw [ec]
        refine aM1_of kX5_appendGate rfl (fun B hB => ?_)
        have fin : ((3 : Int) = 0 → (some (.inl (-3)) : Option aV) = some (.inl (-1)) ∧ Sim z s a) ∧ ((3 : Int) ≠ 0 → (some (.inl (-3)) : Option aV) = some (.inl (cdG 3))) := ⟨fun e => absurd e (by decide), fun _ => rfl⟩
        refine hB [] 1000 _ _ _ _ _ ?_
        repeat' (first | exact ⟨rfl, fin, fS.rf s z⟩ | refine And.intro ?_ ?_ | (intro hh; first | exact absurd hh (by decide) | exact absurd rfl hh | (exfalso; omega) | skip) | refine Or.inl (uB (cK_hasLeg ?_ ?_ ?_) ?_ ?_) | refine Or.inl (uB (cK_isPoint ?_ ?_ ?_) ?_ ?_) | fail)
        all_goals first | omega | (exact rfl) | contradiction | (unfold aIR; omega) | (exfalso; exact absurd c1.1.1 (by assumption)) | (exfalso; exact absurd c1.1.2 (by assumption)) | (exfalso; exact c1.2 ⟨by omega, by omega⟩)
      · obtain ⟨n7, n2⟩ := Inv.no hI (by omega)
        have ec : cGate leg x1 y1 x2 y2 a = (0, a 1, (ud (ud (ud (ud (ud (ud a (29 + 5 * a 1) leg) (29 + 5 * a 1 + 1) x1) (29 + 5 * a 1 + 2) y1) (29 + 5 * a 1 + 3) x2) (29 + 5 * a 1 + 4) y2) 1 (a 1 + 1))) := ((if_pos c0).trans (if_pos c1)).trans (if_neg h2)
        rw [ec]
        obtain ⟨mm1, em1⟩ : ∃ w, w = aWr z (3, s, 3) (z (2, s, 0) 8) leg := ⟨_, rfl⟩
        have f1 : ∀ q : aP, q ≠ (3, s, 3) → mm1 q = z q := fun q h => by rw [em1]; exact aWr_ne2 h
        have g1 : ∀ j, j ≠ z (2, s, 0) 8 → mm1 (3, s, 3) j = z (3, s, 3) j := fun j h => by rw [em1]; exact aWr_j h
        have h1 : mm1 (3, s, 3) (z (2, s, 0) 8) = leg := by rw [em1]; exact aWr_k _ _ _ _
        obtain ⟨mm2, em2⟩ : ∃ w, w = aWr mm1 (3, s, 4) (z (2, s, 0) 8) x1 := ⟨_, rfl⟩
        have f2 : ∀ q : aP, q ≠ (3, s, 4) → mm2 q = mm1 q := fun q h => by rw [em2]; exact aWr_ne2 h
        have g2 : ∀ j, j ≠ z (2, s, 0) 8 → mm2 (3, s, 4) j = mm1 (3, s, 4) j := fun j h => by rw [em2]; exact aWr_j h
        have h2 : mm2 (3, s, 4) (z (2, s, 0) 8) = x1 := by rw [em2]; exact aWr_k _ _ _ _
        obtain ⟨mm3, em3⟩ : ∃ w, w = aWr mm2 (3, s, 5) (z (2, s, 0) 8) y1 := ⟨_, rfl⟩
        have f3 : ∀ q : aP, q ≠ (3, s, 5) → mm3 q = mm2 q := fun q h => by rw [em3]; exact aWr_ne2 h
        have g3 : ∀ j, j ≠ z (2, s, 0) 8 → mm3 (3, s, 5) j = mm2 (3, s, 5) j := fun j h => by rw [em3]; exact aWr_j h
        have h3 : mm3 (3, s, 5) (z (2, s, 0) 8) = y1 := by rw [em3]; exact aWr_k _ _ _ _
        obtain ⟨mm4, em4⟩ : ∃ w, w = aWr mm3 (3, s, 6) (z (2, s, 0) 8) x2 := ⟨_, rfl⟩
        have f4 : ∀ q : aP, q ≠ (3, s, 6) → mm4 q = mm3 q := fun q h => by rw [em4]; exact aWr_ne2 h
        have g4 : ∀ j, j ≠ z (2, s, 0) 8 → mm4 (3, s, 6) j = mm3 (3, s, 6) j := fun j h => by rw [em4]; exact aWr_j h
        have h4 : mm4 (3, s, 6) (z (2, s, 0) 8) = x2 := by rw [em4]; exact aWr_k _ _ _ _
        obtain ⟨mm5, em5⟩ : ∃ w, w = aWr mm4 (3, s, 7) (z (2, s, 0) 8) y2 := ⟨_, rfl⟩
        have f5 : ∀ q : aP, q ≠ (3, s, 7) → mm5 q = mm4 q := fun q h => by rw [em5]; exact aWr_ne2 h
        have g5 : ∀ j, j ≠ z (2, s, 0) 8 → mm5 (3, s, 7) j = mm4 (3, s, 7) j := fun j h => by rw [em5]; exact aWr_j h
        have h5 : mm5 (3, s, 7) (z (2, s, 0) 8) = y2 := by rw [em5]; exact aWr_k _ _ _ _
        obtain ⟨mm6, em6⟩ : ∃ w, w = aWr mm5 (2, s, 0) 8 (z (2, s, 0) 8 + 1) := ⟨_, rfl⟩
        have f6 : ∀ q : aP, q ≠ (2, s, 0) → mm6 q = mm5 q := fun q h => by rw [em6]; exact aWr_ne2 h
        have g6 : ∀ j, j ≠ 8 → mm6 (2, s, 0) j = mm5 (2, s, 0) j := fun j h => by rw [em6]; exact aWr_j h
        have h6 : mm6 (2, s, 0) 8 = z (2, s, 0) 8 + 1 := by rw [em6]; exact aWr_k _ _ _ _
        have q2 : ∀ j, j ≠ 8 → mm6 (2, s, 0) j = z (2, s, 0) j := fun j h => by rw [g6 j h, f5 _ (pne (by show (2 : Nat) ≠ 3; decide)), f4 _ (pne (by show (2 : Nat) ≠ 3; decide)), f3 _ (pne (by show (2 : Nat) ≠ 3; decide)), f2 _ (pne (by show (2 : Nat) ≠ 3; decide)), f1 _ (pne (by show (2 : Nat) ≠ 3; decide))]
        have q1 : mm6 (1, s, 0) = z (1, s, 0) := by rw [f6 _ (pne (by show (1 : Nat) ≠ 2; decide)), f5 _ (pne (by show (1 : Nat) ≠ 3; decide)), f4 _ (pne (by show (1 : Nat) ≠ 3; decide)), f3 _ (pne (by show (1 : Nat) ≠ 3; decide)), f2 _ (pne (by show (1 : Nat) ≠ 3; decide)), f1 _ (pne (by show (1 : Nat) ≠ 3; decide))]
        have q3 : ∀ i, (i < 3 ∨ 8 ≤ i) → mm6 (3, s, i) = z (3, s, i) := fun i hi => by rw [f6 _ (pne (by show (3 : Nat) ≠ 2; decide)), f5 _ (pnj (by omega)), f4 _ (pnj (by omega)), f3 _ (pnj (by omega)), f2 _ (pnj (by omega)), f1 _ (pnj (by omega))]
        have p0 : mm6 (3, s, 3) (z (2, s, 0) 8) = leg := by rw [f6 _ (pne (by show (3 : Nat) ≠ 2; decide)), f5 _ (pnj (by decide)), f4 _ (pnj (by decide)), f3 _ (pnj (by decide)), f2 _ (pnj (by decide)), h1]
        have r0 : ∀ j, j ≠ z (2, s, 0) 8 → mm6 (3, s, 3) j = z (3, s, 3) j := fun j hj => by rw [f6 _ (pne (by show (3 : Nat) ≠ 2; decide)), f5 _ (pnj (by decide)), f4 _ (pnj (by decide)), f3 _ (pnj (by decide)), f2 _ (pnj (by decide)), g1 j hj]
        have p1 : mm6 (3, s, 4) (z (2, s, 0) 8) = x1 := by rw [f6 _ (pne (by show (3 : Nat) ≠ 2; decide)), f5 _ (pnj (by decide)), f4 _ (pnj (by decide)), f3 _ (pnj (by decide)), h2]
        have r1 : ∀ j, j ≠ z (2, s, 0) 8 → mm6 (3, s, 4) j = z (3, s, 4) j := fun j hj => by rw [f6 _ (pne (by show (3 : Nat) ≠ 2; decide)), f5 _ (pnj (by decide)), f4 _ (pnj (by decide)), f3 _ (pnj (by decide)), g2 j hj, f1 _ (pnj (by decide))]
        have p2 : mm6 (3, s, 5) (z (2, s, 0) 8) = y1 := by rw [f6 _ (pne (by show (3 : Nat) ≠ 2; decide)), f5 _ (pnj (by decide)), f4 _ (pnj (by decide)), h3]
        have r2 : ∀ j, j ≠ z (2, s, 0) 8 → mm6 (3, s, 5) j = z (3, s, 5) j := fun j hj => by rw [f6 _ (pne (by show (3 : Nat) ≠ 2; decide)), f5 _ (pnj (by decide)), f4 _ (pnj (by decide)), g3 j hj, f2 _ (pnj (by decide)), f1 _ (pnj (by decide))]
        have p3 : mm6 (3, s, 6) (z (2, s, 0) 8) = x2 := by rw [f6 _ (pne (by show (3 : Nat) ≠ 2; decide)), f5 _ (pnj (by decide)), h4]
        have r3 : ∀ j, j ≠ z (2, s, 0) 8 → mm6 (3, s, 6) j = z (3, s, 6) j := fun j hj => by rw [f6 _ (pne (by show (3 : Nat) ≠ 2; decide)), f5 _ (pnj (by decide)), g4 j hj, f3 _ (pnj (by decide)), f2 _ (pnj (by decide)), f1 _ (pnj (by decide))]
        have p4 : mm6 (3, s, 7) (z (2, s, 0) 8) = y2 := by rw [f6 _ (pne (by show (3 : Nat) ≠ 2; decide)), h5]
        have r4 : ∀ j, j ≠ z (2, s, 0) 8 → mm6 (3, s, 7) j = z (3, s, 7) j := fun j hj => by rw [f6 _ (pne (by show (3 : Nat) ≠ 2; decide)), g5 j hj, f4 _ (pnj (by decide)), f3 _ (pnj (by decide)), f2 _ (pnj (by decide)), f1 _ (pnj (by decide))]
        have fs : Sim mm6 s (ud (ud (ud (ud (ud (ud a (29 + 5 * a 1) leg) (29 + 5 * a 1 + 1) x1) (29 + 5 * a 1 + 2) y1) (29 + 5 * a 1 + 3) x2) (29 + 5 * a 1 + 4) y2) 1 (a 1 + 1)) := by
          refine h.crs n2 q1 (by simp (disch := omega) only [ud_ne]) (by simp (disch := omega) only [ud_ne]) n7 ?_
          obtain ⟨⟨⟨k1, k2⟩, ⟨k3, k4⟩, k5, k7⟩, k8, k9⟩ := h.1
          unfold SimC
          rw [q2 0 (by decide), q2 1 (by decide), q2 2 (by decide), q2 3 (by decide), q2 4 (by decide), h6, e8]
          simp (disch := omega) only [ud_ne, ud_at]
          refine ⟨⟨⟨k1, k2⟩, ⟨k3, k4⟩, k5, trivial⟩, fun k k0 k1 => ?_, fun k k0 k1 => ?_⟩
          · simp (disch := omega) only [ud_ne]
            rw [q3 0 (by omega), q3 1 (by omega), q3 2 (by omega)]
            exact k8 k k0 k1
          · by_cases e : k = a 1
            · subst e
              simp (disch := omega) only [ud_ne, ud_at]
              rw [← e8]
              exact ⟨p0, p1, p2, p3, p4⟩
            · simp (disch := omega) only [ud_ne]
              rw [r0 k (by omega), r1 k (by omega), r2 k (by omega), r3 k (by omega), r4 k (by omega)]
              exact k9 k k0 (by omega)
        have fF : fS s z mm6 := by
          rw [em6, em5, em4, em3, em2, em1]
          exact ((((((fS.rf s z).wr (by decide) (by decide)).wr (by decide) (by decide)).wr (by decide) (by decide)).wr (by decide) (by decide)).wr (by decide) (by decide)).wr (by decide) (by decide)
        have fin : (((0 : Int) = 0 → (some (.inl (z (2, s, 0) 8)) : Option aV) = some (.inl (a 1)) ∧ Sim mm6 s (ud (ud (ud (ud (ud (ud a (29 + 5 * a 1) leg) (29 + 5 * a 1 + 1) x1) (29 + 5 * a 1 + 2) y1) (29 + 5 * a 1 + 3) x2) (29 + 5 * a 1 + 4) y2) 1 (a 1 + 1))) ∧ ((0 : Int) ≠ 0 → (some (.inl (z (2, s, 0) 8)) : Option aV) = some (.inl (cdG 0)))) ∧ fS s z mm6 := ⟨⟨fun _ => ⟨by rw [e8], fs⟩, fun e => absurd rfl e⟩, fF⟩
        clear fs fF q1 q2 q3 p0 p1 p2 p3 p4 r0 r1 r2 r3 r4
        clear f1 g1 h1 f2 g2 h2 f3 g3 h3 f4 g4 h4 f5 g5 h5 f6 g6 h6
        subst em6 em5 em4 em3 em2 em1
        refine aM1_of kX5_appendGate rfl (fun B hB => ?_)
        refine hB [] 1000 _ _ _ _ _ ?_
        repeat' (first | exact ⟨rfl, fin⟩ | refine And.intro ?_ ?_ | (intro hh; first | exact absurd hh (by decide) | exact absurd rfl hh | (exfalso; omega) | skip) | refine Or.inl (uB (cK_hasLeg ?_ ?_ ?_) ?_ ?_) | refine Or.inl (uB (cK_isPoint ?_ ?_ ?_) ?_ ?_) | fail)
        all_goals first | omega | (exact rfl) | contradiction | (unfold aIR; omega) | (exact Or.inl rfl) | (exact Or.inr rfl) | (exfalso; exact absurd c1.1.1 (by assumption)) | (exfalso; exact absurd c1.1.2 (by assumption)) | (exfalso; exact c1.2 ⟨by omega, by omega⟩)
    · have ec : cGate leg x1 y1 x2 y2 a = (2, -1, a) := (if_pos c0).trans (if_neg c1)
      rw [ec]
      refine aM1_of kX5_appendGate rfl (fun B hB => ?_)
      have fin : ((2 : Int) = 0 → (some (.inl (-2)) : Option aV) = some (.inl (-1)) ∧ Sim z s a) ∧ ((2 : Int) ≠ 0 → (some (.inl (-2)) : Option aV) = some (.inl (cdG 2))) := ⟨fun e => absurd e (by decide), fun _ => rfl⟩
      refine hB [] 1000 _ _ _ _ _ ?_
      repeat' (first | exact ⟨rfl, fin, fS.rf s z⟩ | refine And.intro ?_ ?_ | (intro hh; first | exact absurd hh (by decide) | exact absurd rfl hh | (exfalso; omega) | skip) | refine Or.inl (uB (cK_hasLeg ?_ ?_ ?_) ?_ ?_) | refine Or.inl (uB (cK_isPoint ?_ ?_ ?_) ?_ ?_) | fail)
      all_goals first | omega | (exact rfl) | contradiction | (unfold aIR; omega) | (exfalso; exact c1 ⟨⟨by assumption, by assumption⟩, fun w => by have w1 := w.1; have w2 := w.2; omega⟩)
  · have ec : cGate leg x1 y1 x2 y2 a = (1, -1, a) := if_neg c0
    rw [ec]
    refine aM1_of kX5_appendGate rfl (fun B hB => ?_)
    have fin : ((1 : Int) = 0 → (some (.inl (-1)) : Option aV) = some (.inl (-1)) ∧ Sim z s a) ∧ ((1 : Int) ≠ 0 → (some (.inl (-1)) : Option aV) = some (.inl (cdG 1))) := ⟨fun e => absurd e (by decide), fun _ => rfl⟩
    refine hB [] 1000 _ _ _ _ _ ?_
    repeat' (first | exact ⟨rfl, fin, fS.rf s z⟩ | refine And.intro ?_ ?_ | (intro hh; first | exact absurd hh (by decide) | exact absurd rfl hh | (exfalso; omega) | skip) | refine Or.inl (uB (cK_hasLeg ?_ ?_ ?_) ?_ ?_) | refine Or.inl (uB (cK_isPoint ?_ ?_ ?_) ?_ ?_) | fail)
    all_goals first | omega | (exact rfl) | contradiction | (unfold aIR; omega)

theorem cK_beginRun (hd : 2 ≤ d) (h : Sim z s a) (hI : Inv0 a) : sOp l g nX5_beginRun d s [.inr (.inr (.inl (1, s, 0)))] z (cRun a) cdR := by
  unfold sOp
  have cc := hI.1.1
  have e2 := h.2.2.1.1
  have e3 := h.2.2.1.2
  have e4 : z (2, s, 0) 4 = a 0 := h.1.1.2.2.1
  by_cases c1 : a 0 = 0 ∨ (a 7 ≠ -1 ∨ a 2 = 8)
  · have e3' : (a 7 = -1 ∧ z (1, s, 0) 3 = 0) ∨ (a 7 ≠ -1 ∧ z (1, s, 0) 3 = 1) := by
      by_cases q : a 7 = -1
      · rw [if_pos q] at e3; exact Or.inl ⟨q, e3⟩
      · rw [if_neg q] at e3; exact Or.inr ⟨q, e3⟩
    have ec : cRun a = (1, -1, a) := if_pos c1
    rw [ec]
    refine aM1_of kX5_beginRun rfl (fun B hB => ?_)
    have fin : ((1 : Int) = 0 → (some (.inl (-3)) : Option aV) = some (.inl (-1)) ∧ Sim z s a) ∧ ((1 : Int) ≠ 0 → (some (.inl (-3)) : Option aV) = some (.inl (cdR 1))) := ⟨fun e => absurd e (by decide), fun _ => rfl⟩
    refine hB [] 1000 _ _ _ _ _ ?_
    repeat' (first | exact ⟨rfl, fin, fS.rf s z⟩ | refine And.intro ?_ ?_ | (intro hh; first | exact absurd hh (by decide) | exact absurd rfl hh | (exfalso; omega) | skip) | fail)
    all_goals first | omega | (exact rfl) | contradiction | (unfold aIR; omega)
  · have n7 : a 7 = -1 := by omega
    rw [if_pos n7] at e3
    have ec : cRun a = (0, a 2, sGo (a 2) (sPts (a 2) (a 0).toNat a 0)) := if_neg c1
    rw [ec]
    obtain ⟨r, hr⟩ : ∃ r, r = a 2 := ⟨_, rfl⟩
    obtain ⟨b, hb⟩ : ∃ b, b = sPts (a 2) (a 0).toNat a 0 := ⟨_, rfl⟩
    have b1 : ∀ j, (j < 59 + 13 * r + 7 ∨ 59 + 13 * r + 7 + a 0 ≤ j) → b j = a j := fun j hj => by
      rw [hb]
      exact sPts_e (by omega) _ a 0 (by omega) j (by omega)
    have b2 : ∀ k, 0 ≤ k → k < a 0 → b (59 + 13 * r + 7 + k) = a (11 + 3 * k + 2) := fun k k0 k1 => by
      rw [hb, hr]
      exact sPts_v (by omega) _ a 0 (by omega) k k0 (by omega) (by omega) (by omega)
    rw [← hb]
    obtain ⟨t, ht⟩ : ∃ t, t = sGo r b := ⟨_, rfl⟩
    have f2 : t 2 = r + 1 := by
      rw [ht]; unfold sGo
      simp (disch := omega) only [ud_at, ud_ne]
      rw [b1 2 (by omega), hr]
    have f7 : t 7 = r := by
      rw [ht]; unfold sGo
      simp (disch := omega) only [ud_at, ud_ne]
    have f8 : t 8 = 0 := by
      rw [ht]; unfold sGo
      simp (disch := omega) only [ud_at, ud_ne]
    have f9 : t 9 = a 3 := by
      rw [ht]; unfold sGo
      simp (disch := omega) only [ud_at, ud_ne]
      exact b1 3 (by omega)
    have f10 : t 10 = a 4 := by
      rw [ht]; unfold sGo
      simp (disch := omega) only [ud_at, ud_ne]
      exact b1 4 (by omega)
    have fo : ∀ j, j ≠ 2 → (j < 7 ∨ 10 < j) → t j = b j := fun j j0 j1 => by
      rw [ht]; unfold sGo
      simp (disch := omega) only [ud_at, ud_ne]
    have fa : ∀ j, j ≠ 2 → (j < 7 ∨ 10 < j) → (j < 59 + 13 * r + 7 ∨ 59 + 13 * r + 7 + a 0 ≤ j) → t j = a j := fun j j0 j1 j2 => (fo j j0 j1).trans (b1 j j2)
    have fp : ∀ k, 0 ≤ k → k < a 0 → t (59 + 13 * r + 7 + k) = a (11 + 3 * k + 2) := fun k k0 k1 => (fo _ (by omega) (by omega)).trans (b2 k k0 k1)
    have z13 : ∀ k, 0 ≤ k → k < 13 → a (59 + 13 * r + k) = 0 := fun k k0 k1 => hI.2.2.2.1 r (by omega) (by omega) k k0 k1
    have z0 : a (59 + 13 * r) = 0 := by have := z13 0 (by omega) (by omega); simpa using this
    have f0 : t 0 = a 0 := fa 0 (by omega) (by omega) (by omega)
    rw [← hr, ← ht]
    have bg' := cK_begin (l := l) (g := g) (d := d - 1) (z := z) (s := s) (r := z (1, s, 0) 2) (by omega)
    rw [← e2] at hr
    refine aM1_of kX5_beginRun rfl (fun B hB => ?_)
    have tail : ∀ z1 : aM, (((z1 (5, s, r) 0 = 0 ∧ z1 (5, s, r) 1 = 0) ∧ (z1 (5, s, r) 2 = z (2, s, 0) 4 ∧ z1 (5, s, r) 4 = 0) ∧ (z1 (5, s, r) 5 = 0 ∧ z1 (5, s, r) 6 = 0) ∧ (z1 (5, s, r) 7 = 0 ∧ z1 (5, s, r) 8 = 0)) ∧ (∀ k, 0 ≤ k → k < 6 → z1 (6, s, r) k = z (3, s, 2) k) ∧ (∀ q : aP, q ≠ (5, s, r) → q ≠ (6, s, r) → z1 q = z q)) → B (none, 0, 0) z1 47 [some (.inr (.inr (.inl (1, s, 0)))), some (.inl (z (1, s, 0) 2))] [] := by
      rintro z1 ⟨⟨⟨u0, u1⟩, ⟨u2, u4⟩, ⟨u5, u6⟩, u7, u8⟩, up, uo⟩
      obtain ⟨y1, e1⟩ : ∃ y, y = aWr z1 (1, s, 0) 2 (z (1, s, 0) 2 + 1) := ⟨_, rfl⟩
      obtain ⟨y2, e2'⟩ : ∃ y, y = aWr y1 (1, s, 0) 3 1 := ⟨_, rfl⟩
      obtain ⟨y3, e3'⟩ : ∃ y, y = aWr y2 (1, s, 0) 4 0 := ⟨_, rfl⟩
      obtain ⟨y4, e4'⟩ : ∃ y, y = aWr y3 (1, s, 0) 5 (y3 (2, s, 0) 0) := ⟨_, rfl⟩
      obtain ⟨y5, e5⟩ : ∃ y, y = aWr y4 (1, s, 0) 6 (y4 (2, s, 0) 1) := ⟨_, rfl⟩
      have n21 : ((2 : Nat), s, (0 : Int)) ≠ (1, s, 0) := pne (by show (2 : Nat) ≠ 1; decide)
      have zc : z1 (2, s, 0) = z (2, s, 0) := uo _ (pne (by show (2 : Nat) ≠ 5; decide)) (pne (by show (2 : Nat) ≠ 6; decide))
      have w3 : y3 (2, s, 0) = z (2, s, 0) := by rw [e3', aWr_ne2 n21, e2', aWr_ne2 n21, e1, aWr_ne2 n21, zc]
      have w4 : y4 (2, s, 0) = z (2, s, 0) := by rw [e4', aWr_ne2 n21, w3]
      have q6 : y5 (1, s, 0) 6 = a 4 := by rw [e5, aWr_k, w4]; exact h.1.1.1.2
      have q5 : y5 (1, s, 0) 5 = a 3 := by rw [e5, aWr_j (by decide), e4', aWr_k, w3]; exact h.1.1.1.1
      have q4 : y5 (1, s, 0) 4 = 0 := by rw [e5, aWr_j (by decide), e4', aWr_j (by decide), e3', aWr_k]
      have q3 : y5 (1, s, 0) 3 = 1 := by rw [e5, aWr_j (by decide), e4', aWr_j (by decide), e3', aWr_j (by decide), e2', aWr_k]
      have q2 : y5 (1, s, 0) 2 = r + 1 := by rw [e5, aWr_j (by decide), e4', aWr_j (by decide), e3', aWr_j (by decide), e2', aWr_j (by decide), e1, aWr_k, ← hr]
      have qo : ∀ q : aP, q ≠ (1, s, 0) → y5 q = z1 q := fun q hq => by rw [e5, aWr_ne2 hq, e4', aWr_ne2 hq, e3', aWr_ne2 hq, e2', aWr_ne2 hq, e1, aWr_ne2 hq]
      have qz : ∀ q : aP, q ≠ (1, s, 0) → q ≠ (5, s, r) → q ≠ (6, s, r) → y5 q = z q := fun q k1 k2 k3 => (qo q k1).trans (uo q k2 k3)
      have hr2 : r = a 2 := by rw [hr, e2]
      have fs : Sim y5 s t := by
        refine ⟨h.1.cg (by omega) (fun j j0 j1 j2 j3 => fa j (by omega) j3 (by omega)) (qz _ n21 (pne (by show (2 : Nat) ≠ 5; decide)) (pne (by show (2 : Nat) ≠ 6; decide))) (fun j => qz _ (pne (by show (3 : Nat) ≠ 1; decide)) (pne (by show (3 : Nat) ≠ 5; decide)) (pne (by show (3 : Nat) ≠ 6; decide))), fun r' r0' r1' => ?_, ?_⟩
        · rw [f2] at r1'
          by_cases q : r' = r
          · rw [q]
            unfold SimR
            rw [qo (5, s, r) (pne (by show (5 : Nat) ≠ 1; decide)), qo (6, s, r) (pne (by show (6 : Nat) ≠ 1; decide)), u0, u1, u2, u4, u5, u6, u7, u8, f0, e4, fa (59 + 13 * r) (by omega) (by omega) (by omega), fa (59 + 13 * r + 1) (by omega) (by omega) (by omega), fa (59 + 13 * r + 2) (by omega) (by omega) (by omega), fa (59 + 13 * r + 3) (by omega) (by omega) (by omega), fa (59 + 13 * r + 4) (by omega) (by omega) (by omega), fa (59 + 13 * r + 5) (by omega) (by omega) (by omega), fa (59 + 13 * r + 6) (by omega) (by omega) (by omega), z0, z13 1 (by omega) (by omega), z13 2 (by omega) (by omega), z13 3 (by omega) (by omega), z13 4 (by omega) (by omega), z13 5 (by omega) (by omega), z13 6 (by omega) (by omega)]
            refine ⟨⟨⟨rfl, rfl⟩, rfl, rfl⟩, ⟨⟨rfl, rfl⟩, rfl, rfl⟩, fun k k0 k1 => ?_⟩
            rw [up k k0 (by omega), fp k k0 k1]
            exact (h.1.2.1 k k0 k1).2.2
          · exact (h.2.1 r' r0' (by omega)).cg f0 (by omega) (fun k k0 k1 => fa _ (by omega) (by omega) (by omega)) (qz _ (pne (by show (5 : Nat) ≠ 1; decide)) (pnj q) (pne (by show (5 : Nat) ≠ 6; decide))) (qz _ (pne (by show (6 : Nat) ≠ 1; decide)) (pne (by show (6 : Nat) ≠ 5; decide)) (pnj q))
        · unfold SimS
          rw [q2, q3, q4, q5, q6, f2, f7, f8, f9, f10, if_neg (by omega)]
          exact ⟨⟨rfl, rfl⟩, fun _ => ⟨rfl, rfl, rfl⟩⟩
      have fF : fS s z y5 := fun q hq => qz q (fun e => hq (by rw [e]; exact ⟨⟨by show 1 ≤ 1; decide, by show 1 ≤ 6; decide⟩, rfl⟩)) (fun e => hq (by rw [e]; exact ⟨⟨by show 1 ≤ 5; decide, by show 5 ≤ 6; decide⟩, rfl⟩)) (fun e => hq (by rw [e]; exact ⟨⟨by show 1 ≤ 6; decide, by show 6 ≤ 6; decide⟩, rfl⟩))
      have fin : (((0 : Int) = 0 → (some (.inl (z (1, s, 0) 2)) : Option aV) = some (.inl r) ∧ Sim y5 s t) ∧ ((0 : Int) ≠ 0 → (some (.inl (z (1, s, 0) 2)) : Option aV) = some (.inl (cdR 0)))) ∧ fS s z y5 := ⟨⟨fun _ => ⟨by rw [hr], fs⟩, fun e => absurd rfl e⟩, fF⟩
      clear q6 q5 q4 q3 q2 qo qz w3 w4 fs fF fa fo fp f2 f7 f8 f9 f10 f0
      subst e5 e4' e3' e2' e1
      refine hB [] 1000 _ _ _ _ _ ?_
      repeat' (first | exact ⟨rfl, fin⟩ | refine And.intro ?_ ?_ | fail)
      all_goals first | omega | (exact rfl) | (exact Or.inl rfl) | (exact Or.inr rfl)
    have em : ∀ v : Option aV, True := fun _ => trivial
    refine hB [47] 1000 _ _ _ _ _ ?_
    repeat' (first | (intro z1 hz1; exact tail z1 (by rw [hr]; exact hz1)) | refine And.intro ?_ ?_ | (intro hh; first | exact absurd hh (by decide) | exact absurd rfl hh | (exfalso; omega) | skip) | refine Or.inl (uV bg' ?_) | fail)
    all_goals first | omega | (exact rfl)

end K6
