/-! THE CLASS: the trial's commands (printed by wip/whole/cls13.py) -/
section K13
variable {l : Launch} {g : aG} {d : Nat} {z : aM} {A : aAb} {a : Int → Int}

theorem cT_setStart {x y : Int} (hx : aIR x) (hy : aIR y) (hd : 8 ≤ d) (hR : RelC z A) (hI : InvW A) : cOp [0, 1] l g nX6_setStart d [.inr (.inr (.inl (0, 0, 0))), .inl x, .inl y] z (oCmd (cStart x y) A) := by
  have fd := cK_freshDraft (l := l) (g := g) (d := d - 1) (by omega) hR hI
  have hvv : (cStart x y (wM A)).1 = 0 → 0 ≤ (cStart x y (wM A)).2.1 ∧ (cStart x y (wM A)).2.1 ≤ 1000 := exC_v (c := fun i => if i = 0 then 0 else if i = 1 then x else if i = 2 then y else 0) (a := wM A) hI.1.1
  have ht : (cStart x y (wM A)).1 = 0 ∨ (cStart x y (wM A)).1 = 1 ∨ (cStart x y (wM A)).1 = 2 := by
    unfold cStart
    (repeat' split) <;> first | exact Or.inl rfl | exact Or.inr (Or.inl rfl) | exact Or.inr (Or.inr (rfl))
  have hJ : Inv (cStart x y (wM A)).2.2 := cStart_I hI.1.1
  refine oCmd_C (c := cStart x y) (fun e => ?_) (fun e => ?_)
  · refine aM1_of kX6_setStart rfl (fun B hB => ?_)
    have l10 : ∀ z2, Sim z2 1 (cStart x y (wM A)).2.2 → RelC z2 A → fC z z2 → B (none, 0, 0) z2 10 [some (.inr (.inr (.inl (0, 0, 0)))), some (.inl x), some (.inl y)] [.inl (cStart x y (wM A)).2.1, .inr (.inr (.inl (0, 0, 0)))] := by
      intro z2 s2 r2 f2
      have vv := hvv e
      have st := cK_settle (l := l) (g := g) (d := d - 1) (by omega) r2 hI s2 hJ (v := (cStart x y (wM A)).2.1) (by unfold aIR; omega) vv.1
      refine hB [] 1000 _ _ _ _ _ ?_
      repeat' (first | (intro r3 z3 hz3; obtain ⟨rfl, q1, q2⟩ := hz3; exact ⟨rfl, rfl, q1, f2.tr q2⟩) | refine And.intro ?_ ?_ | (intro hh; first | exact absurd hh (by decide) | exact absurd rfl hh | (exfalso; omega) | skip) | refine Or.inl (uA st ?_) | fail)
      all_goals first | omega | (exact rfl)
    have l5 : ∀ z1, Sim z1 1 (wM A) → fS 1 z z1 → B (none, 0, 0) z1 5 [some (.inr (.inr (.inl (0, 0, 0)))), some (.inl x), some (.inl y)] [.inr (.inr (.inl (1, 1, 0))), .inr (.inr (.inl (0, 0, 0)))] := by
      intro z1 s1 f1
      have cm := cK_placeStart (l := l) (g := g) (d := d - 1) (by omega) s1 hI.1.1.1 hx hy
      unfold sOp at cm
      refine hB [10] 1000 _ _ _ _ _ ?_
      repeat' (first | (intro r2 z2 hz2; obtain ⟨⟨q1, -⟩, q3⟩ := hz2; obtain ⟨rfl, q4⟩ := q1 e; exact l10 z2 q4 ((hR.dr f1).dr q3) (f1.fC.tr q3.fC)) | refine And.intro ?_ ?_ | (intro hh; first | exact absurd hh (by decide) | exact absurd rfl hh | (exfalso; omega) | skip) | refine Or.inl (uA cm ?_) | fail)
      all_goals first | omega | (exact rfl)
    refine hB [5] 1000 _ _ _ _ _ ?_
    repeat' (first | (intro q1 z1 hz1; obtain ⟨rfl, s1, f1⟩ := hz1; exact l5 z1 s1 f1) | refine And.intro ?_ ?_ | (intro hh; first | exact absurd hh (by decide) | exact absurd rfl hh | (exfalso; omega) | skip) | refine Or.inl (uP fd ?_) | fail)
    all_goals first | omega | (exact rfl)
  · refine aMX_of kX6_setStart rfl (fun B hB => ?_)
    have l10 : ∀ z2, RelC z2 A → fC z z2 → B (none, 0, 0) z2 10 [some (.inr (.inr (.inl (0, 0, 0)))), some (.inl x), some (.inl y)] [.inl (cdA (cStart x y (wM A)).1), .inr (.inr (.inl (0, 0, 0)))] := by
      intro z2 r2 f2
      have cv : cdA (cStart x y (wM A)).1 = -1 ∨ cdA (cStart x y (wM A)).1 = -2 ∨ cdA (cStart x y (wM A)).1 = -3 := by unfold cdA; omega
      have cx : xOf (cdA (cStart x y (wM A)).1) = [0, 1].getD ((cStart x y (wM A)).1 - 1).toNat 0 := by
        rcases ht with t | t | t
        · exact absurd t e
        · rw [t]; rfl
        · rw [t]; rfl
      have st := cK_settleX (l := l) (g := g) (d := d - 1) (z := z2) (by omega) cv
      refine hB [] 1000 _ _ _ _ _ ?_
      repeat' (first | exact (Or.inr (Or.inl ⟨⟨Nat.le_refl _, Nat.le_refl _⟩, uX st (fun x z3 q => ⟨rfl, by rw [q.1, cx], by rw [q.2]; exact r2, by rw [q.2]; exact f2⟩)⟩)) | refine And.intro ?_ ?_ | (intro hh; first | exact absurd hh (by decide) | exact absurd rfl hh | (exfalso; omega) | skip) | fail)
      all_goals first | omega | (exact rfl)
    have l5 : ∀ z1, Sim z1 1 (wM A) → fS 1 z z1 → B (none, 0, 0) z1 5 [some (.inr (.inr (.inl (0, 0, 0)))), some (.inl x), some (.inl y)] [.inr (.inr (.inl (1, 1, 0))), .inr (.inr (.inl (0, 0, 0)))] := by
      intro z1 s1 f1
      have cm := cK_placeStart (l := l) (g := g) (d := d - 1) (by omega) s1 hI.1.1.1 hx hy
      unfold sOp at cm
      refine hB [10] 1000 _ _ _ _ _ ?_
      repeat' (first | (intro r2 z2 hz2; obtain ⟨⟨-, q1⟩, q3⟩ := hz2; obtain rfl := q1 e; exact l10 z2 ((hR.dr f1).dr q3) (f1.fC.tr q3.fC)) | refine And.intro ?_ ?_ | (intro hh; first | exact absurd hh (by decide) | exact absurd rfl hh | (exfalso; omega) | skip) | refine Or.inl (uA cm ?_) | fail)
      all_goals first | omega | (exact rfl)
    refine hB [5] 1000 _ _ _ _ _ ?_
    repeat' (first | (intro q1 z1 hz1; obtain ⟨rfl, s1, f1⟩ := hz1; exact l5 z1 s1 f1) | refine And.intro ?_ ?_ | (intro hh; first | exact absurd hh (by decide) | exact absurd rfl hh | (exfalso; omega) | skip) | refine Or.inl (uP fd ?_) | fail)
    all_goals first | omega | (exact rfl)
theorem cT_addLeg {x y p : Int} (hx : aIR x) (hy : aIR y) (hp : aIR p) (hd : 8 ≤ d) (hR : RelC z A) (hI : InvW A) : cOp [0, 1] l g nX6_addLeg d [.inr (.inr (.inl (0, 0, 0))), .inl x, .inl y, .inl p] z (oCmd (cLeg x y p) A) := by
  have fd := cK_freshDraft (l := l) (g := g) (d := d - 1) (by omega) hR hI
  have hvv : (cLeg x y p (wM A)).1 = 0 → 0 ≤ (cLeg x y p (wM A)).2.1 ∧ (cLeg x y p (wM A)).2.1 ≤ 1000 := exC_v (c := fun i => if i = 0 then 1 else if i = 1 then x else if i = 2 then y else if i = 3 then p else 0) (a := wM A) hI.1.1
  have ht : (cLeg x y p (wM A)).1 = 0 ∨ (cLeg x y p (wM A)).1 = 1 ∨ (cLeg x y p (wM A)).1 = 2 := by
    unfold cLeg
    (repeat' split) <;> first | exact Or.inl rfl | exact Or.inr (Or.inl rfl) | exact Or.inr (Or.inr (rfl))
  have hJ : Inv (cLeg x y p (wM A)).2.2 := cLeg_I hI.1.1
  refine oCmd_C (c := cLeg x y p) (fun e => ?_) (fun e => ?_)
  · refine aM1_of kX6_addLeg rfl (fun B hB => ?_)
    have l10 : ∀ z2, Sim z2 1 (cLeg x y p (wM A)).2.2 → RelC z2 A → fC z z2 → B (none, 0, 0) z2 11 [some (.inr (.inr (.inl (0, 0, 0)))), some (.inl x), some (.inl y), some (.inl p)] [.inl (cLeg x y p (wM A)).2.1, .inr (.inr (.inl (0, 0, 0)))] := by
      intro z2 s2 r2 f2
      have vv := hvv e
      have st := cK_settle (l := l) (g := g) (d := d - 1) (by omega) r2 hI s2 hJ (v := (cLeg x y p (wM A)).2.1) (by unfold aIR; omega) vv.1
      refine hB [] 1000 _ _ _ _ _ ?_
      repeat' (first | (intro r3 z3 hz3; obtain ⟨rfl, q1, q2⟩ := hz3; exact ⟨rfl, rfl, q1, f2.tr q2⟩) | refine And.intro ?_ ?_ | (intro hh; first | exact absurd hh (by decide) | exact absurd rfl hh | (exfalso; omega) | skip) | refine Or.inl (uA st ?_) | fail)
      all_goals first | omega | (exact rfl)
    have l5 : ∀ z1, Sim z1 1 (wM A) → fS 1 z z1 → B (none, 0, 0) z1 5 [some (.inr (.inr (.inl (0, 0, 0)))), some (.inl x), some (.inl y), some (.inl p)] [.inr (.inr (.inl (1, 1, 0))), .inr (.inr (.inl (0, 0, 0)))] := by
      intro z1 s1 f1
      have cm := cK_appendLeg (l := l) (g := g) (d := d - 1) (by omega) s1 hI.1.1.1 hx hy hp
      unfold sOp at cm
      refine hB [11] 1000 _ _ _ _ _ ?_
      repeat' (first | (intro r2 z2 hz2; obtain ⟨⟨q1, -⟩, q3⟩ := hz2; obtain ⟨rfl, q4⟩ := q1 e; exact l10 z2 q4 ((hR.dr f1).dr q3) (f1.fC.tr q3.fC)) | refine And.intro ?_ ?_ | (intro hh; first | exact absurd hh (by decide) | exact absurd rfl hh | (exfalso; omega) | skip) | refine Or.inl (uA cm ?_) | fail)
      all_goals first | omega | (exact rfl)
    refine hB [5] 1000 _ _ _ _ _ ?_
    repeat' (first | (intro q1 z1 hz1; obtain ⟨rfl, s1, f1⟩ := hz1; exact l5 z1 s1 f1) | refine And.intro ?_ ?_ | (intro hh; first | exact absurd hh (by decide) | exact absurd rfl hh | (exfalso; omega) | skip) | refine Or.inl (uP fd ?_) | fail)
    all_goals first | omega | (exact rfl)
  · refine aMX_of kX6_addLeg rfl (fun B hB => ?_)
    have l10 : ∀ z2, RelC z2 A → fC z z2 → B (none, 0, 0) z2 11 [some (.inr (.inr (.inl (0, 0, 0)))), some (.inl x), some (.inl y), some (.inl p)] [.inl (cdA (cLeg x y p (wM A)).1), .inr (.inr (.inl (0, 0, 0)))] := by
      intro z2 r2 f2
      have cv : cdA (cLeg x y p (wM A)).1 = -1 ∨ cdA (cLeg x y p (wM A)).1 = -2 ∨ cdA (cLeg x y p (wM A)).1 = -3 := by unfold cdA; omega
      have cx : xOf (cdA (cLeg x y p (wM A)).1) = [0, 1].getD ((cLeg x y p (wM A)).1 - 1).toNat 0 := by
        rcases ht with t | t | t
        · exact absurd t e
        · rw [t]; rfl
        · rw [t]; rfl
      have st := cK_settleX (l := l) (g := g) (d := d - 1) (z := z2) (by omega) cv
      refine hB [] 1000 _ _ _ _ _ ?_
      repeat' (first | exact (Or.inr (Or.inl ⟨⟨Nat.le_refl _, Nat.le_refl _⟩, uX st (fun x z3 q => ⟨rfl, by rw [q.1, cx], by rw [q.2]; exact r2, by rw [q.2]; exact f2⟩)⟩)) | refine And.intro ?_ ?_ | (intro hh; first | exact absurd hh (by decide) | exact absurd rfl hh | (exfalso; omega) | skip) | fail)
      all_goals first | omega | (exact rfl)
    have l5 : ∀ z1, Sim z1 1 (wM A) → fS 1 z z1 → B (none, 0, 0) z1 5 [some (.inr (.inr (.inl (0, 0, 0)))), some (.inl x), some (.inl y), some (.inl p)] [.inr (.inr (.inl (1, 1, 0))), .inr (.inr (.inl (0, 0, 0)))] := by
      intro z1 s1 f1
      have cm := cK_appendLeg (l := l) (g := g) (d := d - 1) (by omega) s1 hI.1.1.1 hx hy hp
      unfold sOp at cm
      refine hB [11] 1000 _ _ _ _ _ ?_
      repeat' (first | (intro r2 z2 hz2; obtain ⟨⟨-, q1⟩, q3⟩ := hz2; obtain rfl := q1 e; exact l10 z2 ((hR.dr f1).dr q3) (f1.fC.tr q3.fC)) | refine And.intro ?_ ?_ | (intro hh; first | exact absurd hh (by decide) | exact absurd rfl hh | (exfalso; omega) | skip) | refine Or.inl (uA cm ?_) | fail)
      all_goals first | omega | (exact rfl)
    refine hB [5] 1000 _ _ _ _ _ ?_
    repeat' (first | (intro q1 z1 hz1; obtain ⟨rfl, s1, f1⟩ := hz1; exact l5 z1 s1 f1) | refine And.intro ?_ ?_ | (intro hh; first | exact absurd hh (by decide) | exact absurd rfl hh | (exfalso; omega) | skip) | refine Or.inl (uP fd ?_) | fail)
    all_goals first | omega | (exact rfl)
theorem cT_addGate {k x1 y1 x2 y2 : Int} (hk : aIR k) (hx1 : aIR x1) (hy1 : aIR y1) (hx2 : aIR x2) (hy2 : aIR y2) (hd : 8 ≤ d) (hR : RelC z A) (hI : InvW A) : cOp [2, 0, 1] l g nX6_addGate d [.inr (.inr (.inl (0, 0, 0))), .inl k, .inl x1, .inl y1, .inl x2, .inl y2] z (oCmd (cGate k x1 y1 x2 y2) A) := by
  have fd := cK_freshDraft (l := l) (g := g) (d := d - 1) (by omega) hR hI
  have hvv : (cGate k x1 y1 x2 y2 (wM A)).1 = 0 → 0 ≤ (cGate k x1 y1 x2 y2 (wM A)).2.1 ∧ (cGate k x1 y1 x2 y2 (wM A)).2.1 ≤ 1000 := exC_v (c := fun i => if i = 0 then 2 else if i = 1 then k else if i = 2 then x1 else if i = 3 then y1 else if i = 4 then x2 else if i = 5 then y2 else 0) (a := wM A) hI.1.1
  have ht : (cGate k x1 y1 x2 y2 (wM A)).1 = 0 ∨ (cGate k x1 y1 x2 y2 (wM A)).1 = 1 ∨ (cGate k x1 y1 x2 y2 (wM A)).1 = 2 ∨ (cGate k x1 y1 x2 y2 (wM A)).1 = 3 := by
    unfold cGate
    (repeat' split) <;> first | exact Or.inl rfl | exact Or.inr (Or.inl rfl) | exact Or.inr (Or.inr (Or.inl rfl)) | exact Or.inr (Or.inr (Or.inr (rfl)))
  have hJ : Inv (cGate k x1 y1 x2 y2 (wM A)).2.2 := cGate_I hI.1.1
  refine oCmd_C (c := cGate k x1 y1 x2 y2) (fun e => ?_) (fun e => ?_)
  · refine aM1_of kX6_addGate rfl (fun B hB => ?_)
    have l10 : ∀ z2, Sim z2 1 (cGate k x1 y1 x2 y2 (wM A)).2.2 → RelC z2 A → fC z z2 → B (none, 0, 0) z2 15 [some (.inr (.inr (.inl (0, 0, 0)))), some (.inl k), some (.inl x1), some (.inl y1), some (.inl x2), some (.inl y2)] [.inl (cGate k x1 y1 x2 y2 (wM A)).2.1, .inr (.inr (.inl (0, 0, 0)))] := by
      intro z2 s2 r2 f2
      have vv := hvv e
      have st := cK_settle (l := l) (g := g) (d := d - 1) (by omega) r2 hI s2 hJ (v := (cGate k x1 y1 x2 y2 (wM A)).2.1) (by unfold aIR; omega) vv.1
      refine hB [] 1000 _ _ _ _ _ ?_
      repeat' (first | (intro r3 z3 hz3; obtain ⟨rfl, q1, q2⟩ := hz3; exact ⟨rfl, rfl, q1, f2.tr q2⟩) | refine And.intro ?_ ?_ | (intro hh; first | exact absurd hh (by decide) | exact absurd rfl hh | (exfalso; omega) | skip) | refine Or.inl (uA st ?_) | fail)
      all_goals first | omega | (exact rfl)
    have l5 : ∀ z1, Sim z1 1 (wM A) → fS 1 z z1 → B (none, 0, 0) z1 5 [some (.inr (.inr (.inl (0, 0, 0)))), some (.inl k), some (.inl x1), some (.inl y1), some (.inl x2), some (.inl y2)] [.inr (.inr (.inl (1, 1, 0))), .inr (.inr (.inl (0, 0, 0)))] := by
      intro z1 s1 f1
      have cm := cK_appendGate (l := l) (g := g) (d := d - 1) (by omega) s1 hI.1.1.1 hk hx1 hy1 hx2 hy2
      unfold sOp at cm
      refine hB [15] 1000 _ _ _ _ _ ?_
      repeat' (first | (intro r2 z2 hz2; obtain ⟨⟨q1, -⟩, q3⟩ := hz2; obtain ⟨rfl, q4⟩ := q1 e; exact l10 z2 q4 ((hR.dr f1).dr q3) (f1.fC.tr q3.fC)) | refine And.intro ?_ ?_ | (intro hh; first | exact absurd hh (by decide) | exact absurd rfl hh | (exfalso; omega) | skip) | refine Or.inl (uA cm ?_) | fail)
      all_goals first | omega | (exact rfl)
    refine hB [5] 1000 _ _ _ _ _ ?_
    repeat' (first | (intro q1 z1 hz1; obtain ⟨rfl, s1, f1⟩ := hz1; exact l5 z1 s1 f1) | refine And.intro ?_ ?_ | (intro hh; first | exact absurd hh (by decide) | exact absurd rfl hh | (exfalso; omega) | skip) | refine Or.inl (uP fd ?_) | fail)
    all_goals first | omega | (exact rfl)
  · refine aMX_of kX6_addGate rfl (fun B hB => ?_)
    have l10 : ∀ z2, RelC z2 A → fC z z2 → B (none, 0, 0) z2 15 [some (.inr (.inr (.inl (0, 0, 0)))), some (.inl k), some (.inl x1), some (.inl y1), some (.inl x2), some (.inl y2)] [.inl (cdG (cGate k x1 y1 x2 y2 (wM A)).1), .inr (.inr (.inl (0, 0, 0)))] := by
      intro z2 r2 f2
      have cv : cdG (cGate k x1 y1 x2 y2 (wM A)).1 = -1 ∨ cdG (cGate k x1 y1 x2 y2 (wM A)).1 = -2 ∨ cdG (cGate k x1 y1 x2 y2 (wM A)).1 = -3 := by unfold cdG; omega
      have cx : xOf (cdG (cGate k x1 y1 x2 y2 (wM A)).1) = [2, 0, 1].getD ((cGate k x1 y1 x2 y2 (wM A)).1 - 1).toNat 0 := by
        rcases ht with t | t | t | t
        · exact absurd t e
        · rw [t]; rfl
        · rw [t]; rfl
        · rw [t]; rfl
      have st := cK_settleX (l := l) (g := g) (d := d - 1) (z := z2) (by omega) cv
      refine hB [] 1000 _ _ _ _ _ ?_
      repeat' (first | exact (Or.inr (Or.inl ⟨⟨Nat.le_refl _, Nat.le_refl _⟩, uX st (fun x z3 q => ⟨rfl, by rw [q.1, cx], by rw [q.2]; exact r2, by rw [q.2]; exact f2⟩)⟩)) | refine And.intro ?_ ?_ | (intro hh; first | exact absurd hh (by decide) | exact absurd rfl hh | (exfalso; omega) | skip) | fail)
      all_goals first | omega | (exact rfl)
    have l5 : ∀ z1, Sim z1 1 (wM A) → fS 1 z z1 → B (none, 0, 0) z1 5 [some (.inr (.inr (.inl (0, 0, 0)))), some (.inl k), some (.inl x1), some (.inl y1), some (.inl x2), some (.inl y2)] [.inr (.inr (.inl (1, 1, 0))), .inr (.inr (.inl (0, 0, 0)))] := by
      intro z1 s1 f1
      have cm := cK_appendGate (l := l) (g := g) (d := d - 1) (by omega) s1 hI.1.1.1 hk hx1 hy1 hx2 hy2
      unfold sOp at cm
      refine hB [15] 1000 _ _ _ _ _ ?_
      repeat' (first | (intro r2 z2 hz2; obtain ⟨⟨-, q1⟩, q3⟩ := hz2; obtain rfl := q1 e; exact l10 z2 ((hR.dr f1).dr q3) (f1.fC.tr q3.fC)) | refine And.intro ?_ ?_ | (intro hh; first | exact absurd hh (by decide) | exact absurd rfl hh | (exfalso; omega) | skip) | refine Or.inl (uA cm ?_) | fail)
      all_goals first | omega | (exact rfl)
    refine hB [5] 1000 _ _ _ _ _ ?_
    repeat' (first | (intro q1 z1 hz1; obtain ⟨rfl, s1, f1⟩ := hz1; exact l5 z1 s1 f1) | refine And.intro ?_ ?_ | (intro hh; first | exact absurd hh (by decide) | exact absurd rfl hh | (exfalso; omega) | skip) | refine Or.inl (uP fd ?_) | fail)
    all_goals first | omega | (exact rfl)
theorem cT_setTolerance {v : Int} (hv : aIR v) (hd : 8 ≤ d) (hR : RelC z A) (hI : InvW A) : cOp [0, 1] l g nX6_setTolerance d [.inr (.inr (.inl (0, 0, 0))), .inl v] z (oCmd (cSet 5 v 1 20) A) := by
  have fd := cK_freshDraft (l := l) (g := g) (d := d - 1) (by omega) hR hI
  have hvv : (cSet 5 v 1 20 (wM A)).1 = 0 → 0 ≤ (cSet 5 v 1 20 (wM A)).2.1 ∧ (cSet 5 v 1 20 (wM A)).2.1 ≤ 1000 := exC_v (c := fun i => if i = 0 then 4 else if i = 1 then v else 0) (a := wM A) hI.1.1
  have ht : (cSet 5 v 1 20 (wM A)).1 = 0 ∨ (cSet 5 v 1 20 (wM A)).1 = 1 ∨ (cSet 5 v 1 20 (wM A)).1 = 2 := by
    unfold cSet
    (repeat' split) <;> first | exact Or.inl rfl | exact Or.inr (Or.inl rfl) | exact Or.inr (Or.inr (rfl))
  have hJ : Inv (cSet 5 v 1 20 (wM A)).2.2 := cSet_I hI.1.1 (Or.inl ⟨rfl, by decide, by decide⟩)
  refine oCmd_C (c := cSet 5 v 1 20) (fun e => ?_) (fun e => ?_)
  · refine aM1_of kX6_setTolerance rfl (fun B hB => ?_)
    have l10 : ∀ z2, Sim z2 1 (cSet 5 v 1 20 (wM A)).2.2 → RelC z2 A → fC z z2 → B (none, 0, 0) z2 9 [some (.inr (.inr (.inl (0, 0, 0)))), some (.inl v)] [.inl (cSet 5 v 1 20 (wM A)).2.1, .inr (.inr (.inl (0, 0, 0)))] := by
      intro z2 s2 r2 f2
      have vv := hvv e
      have st := cK_settle (l := l) (g := g) (d := d - 1) (by omega) r2 hI s2 hJ (v := (cSet 5 v 1 20 (wM A)).2.1) (by unfold aIR; omega) vv.1
      refine hB [] 1000 _ _ _ _ _ ?_
      repeat' (first | (intro r3 z3 hz3; obtain ⟨rfl, q1, q2⟩ := hz3; exact ⟨rfl, rfl, q1, f2.tr q2⟩) | refine And.intro ?_ ?_ | (intro hh; first | exact absurd hh (by decide) | exact absurd rfl hh | (exfalso; omega) | skip) | refine Or.inl (uA st ?_) | fail)
      all_goals first | omega | (exact rfl)
    have l5 : ∀ z1, Sim z1 1 (wM A) → fS 1 z z1 → B (none, 0, 0) z1 5 [some (.inr (.inr (.inl (0, 0, 0)))), some (.inl v)] [.inr (.inr (.inl (1, 1, 0))), .inr (.inr (.inl (0, 0, 0)))] := by
      intro z1 s1 f1
      have cm := cK_changeTolerance (l := l) (g := g) (d := d - 1) (by omega) s1 hI.1.1.1 hv
      unfold sOp at cm
      refine hB [9] 1000 _ _ _ _ _ ?_
      repeat' (first | (intro r2 z2 hz2; obtain ⟨⟨q1, -⟩, q3⟩ := hz2; obtain ⟨rfl, q4⟩ := q1 e; exact l10 z2 q4 ((hR.dr f1).dr q3) (f1.fC.tr q3.fC)) | refine And.intro ?_ ?_ | (intro hh; first | exact absurd hh (by decide) | exact absurd rfl hh | (exfalso; omega) | skip) | refine Or.inl (uA cm ?_) | fail)
      all_goals first | omega | (exact rfl)
    refine hB [5] 1000 _ _ _ _ _ ?_
    repeat' (first | (intro q1 z1 hz1; obtain ⟨rfl, s1, f1⟩ := hz1; exact l5 z1 s1 f1) | refine And.intro ?_ ?_ | (intro hh; first | exact absurd hh (by decide) | exact absurd rfl hh | (exfalso; omega) | skip) | refine Or.inl (uP fd ?_) | fail)
    all_goals first | omega | (exact rfl)
  · refine aMX_of kX6_setTolerance rfl (fun B hB => ?_)
    have l10 : ∀ z2, RelC z2 A → fC z z2 → B (none, 0, 0) z2 9 [some (.inr (.inr (.inl (0, 0, 0)))), some (.inl v)] [.inl (cdA (cSet 5 v 1 20 (wM A)).1), .inr (.inr (.inl (0, 0, 0)))] := by
      intro z2 r2 f2
      have cv : cdA (cSet 5 v 1 20 (wM A)).1 = -1 ∨ cdA (cSet 5 v 1 20 (wM A)).1 = -2 ∨ cdA (cSet 5 v 1 20 (wM A)).1 = -3 := by unfold cdA; omega
      have cx : xOf (cdA (cSet 5 v 1 20 (wM A)).1) = [0, 1].getD ((cSet 5 v 1 20 (wM A)).1 - 1).toNat 0 := by
        rcases ht with t | t | t
        · exact absurd t e
        · rw [t]; rfl
        · rw [t]; rfl
      have st := cK_settleX (l := l) (g := g) (d := d - 1) (z := z2) (by omega) cv
      refine hB [] 1000 _ _ _ _ _ ?_
      repeat' (first | exact (Or.inr (Or.inl ⟨⟨Nat.le_refl _, Nat.le_refl _⟩, uX st (fun x z3 q => ⟨rfl, by rw [q.1, cx], by rw [q.2]; exact r2, by rw [q.2]; exact f2⟩)⟩)) | refine And.intro ?_ ?_ | (intro hh; first | exact absurd hh (by decide) | exact absurd rfl hh | (exfalso; omega) | skip) | fail)
      all_goals first | omega | (exact rfl)
    have l5 : ∀ z1, Sim z1 1 (wM A) → fS 1 z z1 → B (none, 0, 0) z1 5 [some (.inr (.inr (.inl (0, 0, 0)))), some (.inl v)] [.inr (.inr (.inl (1, 1, 0))), .inr (.inr (.inl (0, 0, 0)))] := by
      intro z1 s1 f1
      have cm := cK_changeTolerance (l := l) (g := g) (d := d - 1) (by omega) s1 hI.1.1.1 hv
      unfold sOp at cm
      refine hB [9] 1000 _ _ _ _ _ ?_
      repeat' (first | (intro r2 z2 hz2; obtain ⟨⟨-, q1⟩, q3⟩ := hz2; obtain rfl := q1 e; exact l10 z2 ((hR.dr f1).dr q3) (f1.fC.tr q3.fC)) | refine And.intro ?_ ?_ | (intro hh; first | exact absurd hh (by decide) | exact absurd rfl hh | (exfalso; omega) | skip) | refine Or.inl (uA cm ?_) | fail)
      all_goals first | omega | (exact rfl)
    refine hB [5] 1000 _ _ _ _ _ ?_
    repeat' (first | (intro q1 z1 hz1; obtain ⟨rfl, s1, f1⟩ := hz1; exact l5 z1 s1 f1) | refine And.intro ?_ ?_ | (intro hh; first | exact absurd hh (by decide) | exact absurd rfl hh | (exfalso; omega) | skip) | refine Or.inl (uP fd ?_) | fail)
    all_goals first | omega | (exact rfl)
theorem cT_setTimeLimit {v : Int} (hv : aIR v) (hd : 8 ≤ d) (hR : RelC z A) (hI : InvW A) : cOp [0, 1] l g nX6_setTimeLimit d [.inr (.inr (.inl (0, 0, 0))), .inl v] z (oCmd (cSet 6 v 60 999) A) := by
  have fd := cK_freshDraft (l := l) (g := g) (d := d - 1) (by omega) hR hI
  have hvv : (cSet 6 v 60 999 (wM A)).1 = 0 → 0 ≤ (cSet 6 v 60 999 (wM A)).2.1 ∧ (cSet 6 v 60 999 (wM A)).2.1 ≤ 1000 := exC_v (c := fun i => if i = 0 then 3 else if i = 1 then v else 0) (a := wM A) hI.1.1
  have ht : (cSet 6 v 60 999 (wM A)).1 = 0 ∨ (cSet 6 v 60 999 (wM A)).1 = 1 ∨ (cSet 6 v 60 999 (wM A)).1 = 2 := by
    unfold cSet
    (repeat' split) <;> first | exact Or.inl rfl | exact Or.inr (Or.inl rfl) | exact Or.inr (Or.inr (rfl))
  have hJ : Inv (cSet 6 v 60 999 (wM A)).2.2 := cSet_I hI.1.1 (Or.inr ⟨rfl, by decide, by decide⟩)
  refine oCmd_C (c := cSet 6 v 60 999) (fun e => ?_) (fun e => ?_)
  · refine aM1_of kX6_setTimeLimit rfl (fun B hB => ?_)
    have l10 : ∀ z2, Sim z2 1 (cSet 6 v 60 999 (wM A)).2.2 → RelC z2 A → fC z z2 → B (none, 0, 0) z2 9 [some (.inr (.inr (.inl (0, 0, 0)))), some (.inl v)] [.inl (cSet 6 v 60 999 (wM A)).2.1, .inr (.inr (.inl (0, 0, 0)))] := by
      intro z2 s2 r2 f2
      have vv := hvv e
      have st := cK_settle (l := l) (g := g) (d := d - 1) (by omega) r2 hI s2 hJ (v := (cSet 6 v 60 999 (wM A)).2.1) (by unfold aIR; omega) vv.1
      refine hB [] 1000 _ _ _ _ _ ?_
      repeat' (first | (intro r3 z3 hz3; obtain ⟨rfl, q1, q2⟩ := hz3; exact ⟨rfl, rfl, q1, f2.tr q2⟩) | refine And.intro ?_ ?_ | (intro hh; first | exact absurd hh (by decide) | exact absurd rfl hh | (exfalso; omega) | skip) | refine Or.inl (uA st ?_) | fail)
      all_goals first | omega | (exact rfl)
    have l5 : ∀ z1, Sim z1 1 (wM A) → fS 1 z z1 → B (none, 0, 0) z1 5 [some (.inr (.inr (.inl (0, 0, 0)))), some (.inl v)] [.inr (.inr (.inl (1, 1, 0))), .inr (.inr (.inl (0, 0, 0)))] := by
      intro z1 s1 f1
      have cm := cK_changeTimeLimit (l := l) (g := g) (d := d - 1) (by omega) s1 hI.1.1.1 hv
      unfold sOp at cm
      refine hB [9] 1000 _ _ _ _ _ ?_
      repeat' (first | (intro r2 z2 hz2; obtain ⟨⟨q1, -⟩, q3⟩ := hz2; obtain ⟨rfl, q4⟩ := q1 e; exact l10 z2 q4 ((hR.dr f1).dr q3) (f1.fC.tr q3.fC)) | refine And.intro ?_ ?_ | (intro hh; first | exact absurd hh (by decide) | exact absurd rfl hh | (exfalso; omega) | skip) | refine Or.inl (uA cm ?_) | fail)
      all_goals first | omega | (exact rfl)
    refine hB [5] 1000 _ _ _ _ _ ?_
    repeat' (first | (intro q1 z1 hz1; obtain ⟨rfl, s1, f1⟩ := hz1; exact l5 z1 s1 f1) | refine And.intro ?_ ?_ | (intro hh; first | exact absurd hh (by decide) | exact absurd rfl hh | (exfalso; omega) | skip) | refine Or.inl (uP fd ?_) | fail)
    all_goals first | omega | (exact rfl)
  · refine aMX_of kX6_setTimeLimit rfl (fun B hB => ?_)
    have l10 : ∀ z2, RelC z2 A → fC z z2 → B (none, 0, 0) z2 9 [some (.inr (.inr (.inl (0, 0, 0)))), some (.inl v)] [.inl (cdA (cSet 6 v 60 999 (wM A)).1), .inr (.inr (.inl (0, 0, 0)))] := by
      intro z2 r2 f2
      have cv : cdA (cSet 6 v 60 999 (wM A)).1 = -1 ∨ cdA (cSet 6 v 60 999 (wM A)).1 = -2 ∨ cdA (cSet 6 v 60 999 (wM A)).1 = -3 := by unfold cdA; omega
      have cx : xOf (cdA (cSet 6 v 60 999 (wM A)).1) = [0, 1].getD ((cSet 6 v 60 999 (wM A)).1 - 1).toNat 0 := by
        rcases ht with t | t | t
        · exact absurd t e
        · rw [t]; rfl
        · rw [t]; rfl
      have st := cK_settleX (l := l) (g := g) (d := d - 1) (z := z2) (by omega) cv
      refine hB [] 1000 _ _ _ _ _ ?_
      repeat' (first | exact (Or.inr (Or.inl ⟨⟨Nat.le_refl _, Nat.le_refl _⟩, uX st (fun x z3 q => ⟨rfl, by rw [q.1, cx], by rw [q.2]; exact r2, by rw [q.2]; exact f2⟩)⟩)) | refine And.intro ?_ ?_ | (intro hh; first | exact absurd hh (by decide) | exact absurd rfl hh | (exfalso; omega) | skip) | fail)
      all_goals first | omega | (exact rfl)
    have l5 : ∀ z1, Sim z1 1 (wM A) → fS 1 z z1 → B (none, 0, 0) z1 5 [some (.inr (.inr (.inl (0, 0, 0)))), some (.inl v)] [.inr (.inr (.inl (1, 1, 0))), .inr (.inr (.inl (0, 0, 0)))] := by
      intro z1 s1 f1
      have cm := cK_changeTimeLimit (l := l) (g := g) (d := d - 1) (by omega) s1 hI.1.1.1 hv
      unfold sOp at cm
      refine hB [9] 1000 _ _ _ _ _ ?_
      repeat' (first | (intro r2 z2 hz2; obtain ⟨⟨-, q1⟩, q3⟩ := hz2; obtain rfl := q1 e; exact l10 z2 ((hR.dr f1).dr q3) (f1.fC.tr q3.fC)) | refine And.intro ?_ ?_ | (intro hh; first | exact absurd hh (by decide) | exact absurd rfl hh | (exfalso; omega) | skip) | refine Or.inl (uA cm ?_) | fail)
      all_goals first | omega | (exact rfl)
    refine hB [5] 1000 _ _ _ _ _ ?_
    repeat' (first | (intro q1 z1 hz1; obtain ⟨rfl, s1, f1⟩ := hz1; exact l5 z1 s1 f1) | refine And.intro ?_ ?_ | (intro hh; first | exact absurd hh (by decide) | exact absurd rfl hh | (exfalso; omega) | skip) | refine Or.inl (uP fd ?_) | fail)
    all_goals first | omega | (exact rfl)
theorem cT_startRun  (hd : 8 ≤ d) (hR : RelC z A) (hI : InvW A) : cOp [1] l g nX6_startRun d [.inr (.inr (.inl (0, 0, 0)))] z (oCmd (cRun) A) := by
  have fd := cK_freshDraft (l := l) (g := g) (d := d - 1) (by omega) hR hI
  have hvv : (cRun (wM A)).1 = 0 → 0 ≤ (cRun (wM A)).2.1 ∧ (cRun (wM A)).2.1 ≤ 1000 := exC_v (c := fun i => if i = 0 then 5 else 0) (a := wM A) hI.1.1
  have ht : (cRun (wM A)).1 = 0 ∨ (cRun (wM A)).1 = 1 := by
    unfold cRun
    (repeat' split) <;> first | exact Or.inl rfl | exact Or.inr (rfl)
  have hJ : Inv (cRun (wM A)).2.2 := cRun_I hI.1.1
  refine oCmd_C (c := cRun) (fun e => ?_) (fun e => ?_)
  · refine aM1_of kX6_startRun rfl (fun B hB => ?_)
    have l10 : ∀ z2, Sim z2 1 (cRun (wM A)).2.2 → RelC z2 A → fC z z2 → B (none, 0, 0) z2 8 [some (.inr (.inr (.inl (0, 0, 0))))] [.inl (cRun (wM A)).2.1, .inr (.inr (.inl (0, 0, 0)))] := by
      intro z2 s2 r2 f2
      have vv := hvv e
      have st := cK_settle (l := l) (g := g) (d := d - 1) (by omega) r2 hI s2 hJ (v := (cRun (wM A)).2.1) (by unfold aIR; omega) vv.1
      refine hB [] 1000 _ _ _ _ _ ?_
      repeat' (first | (intro r3 z3 hz3; obtain ⟨rfl, q1, q2⟩ := hz3; exact ⟨rfl, rfl, q1, f2.tr q2⟩) | refine And.intro ?_ ?_ | (intro hh; first | exact absurd hh (by decide) | exact absurd rfl hh | (exfalso; omega) | skip) | refine Or.inl (uA st ?_) | fail)
      all_goals first | omega | (exact rfl)
    have l5 : ∀ z1, Sim z1 1 (wM A) → fS 1 z z1 → B (none, 0, 0) z1 5 [some (.inr (.inr (.inl (0, 0, 0))))] [.inr (.inr (.inl (1, 1, 0))), .inr (.inr (.inl (0, 0, 0)))] := by
      intro z1 s1 f1
      have cm := cK_beginRun (l := l) (g := g) (d := d - 1) (by omega) s1 hI.1.1.1 
      unfold sOp at cm
      refine hB [8] 1000 _ _ _ _ _ ?_
      repeat' (first | (intro r2 z2 hz2; obtain ⟨⟨q1, -⟩, q3⟩ := hz2; obtain ⟨rfl, q4⟩ := q1 e; exact l10 z2 q4 ((hR.dr f1).dr q3) (f1.fC.tr q3.fC)) | refine And.intro ?_ ?_ | (intro hh; first | exact absurd hh (by decide) | exact absurd rfl hh | (exfalso; omega) | skip) | refine Or.inl (uA cm ?_) | fail)
      all_goals first | omega | (exact rfl)
    refine hB [5] 1000 _ _ _ _ _ ?_
    repeat' (first | (intro q1 z1 hz1; obtain ⟨rfl, s1, f1⟩ := hz1; exact l5 z1 s1 f1) | refine And.intro ?_ ?_ | (intro hh; first | exact absurd hh (by decide) | exact absurd rfl hh | (exfalso; omega) | skip) | refine Or.inl (uP fd ?_) | fail)
    all_goals first | omega | (exact rfl)
  · refine aMX_of kX6_startRun rfl (fun B hB => ?_)
    have l10 : ∀ z2, RelC z2 A → fC z z2 → B (none, 0, 0) z2 8 [some (.inr (.inr (.inl (0, 0, 0))))] [.inl (cdR (cRun (wM A)).1), .inr (.inr (.inl (0, 0, 0)))] := by
      intro z2 r2 f2
      have cv : cdR (cRun (wM A)).1 = -1 ∨ cdR (cRun (wM A)).1 = -2 ∨ cdR (cRun (wM A)).1 = -3 := by unfold cdR; omega
      have cx : xOf (cdR (cRun (wM A)).1) = [1].getD ((cRun (wM A)).1 - 1).toNat 0 := by
        rcases ht with t | t
        · exact absurd t e
        · rw [t]; rfl
      have st := cK_settleX (l := l) (g := g) (d := d - 1) (z := z2) (by omega) cv
      refine hB [] 1000 _ _ _ _ _ ?_
      repeat' (first | exact (Or.inr (Or.inl ⟨⟨Nat.le_refl _, Nat.le_refl _⟩, uX st (fun x z3 q => ⟨rfl, by rw [q.1, cx], by rw [q.2]; exact r2, by rw [q.2]; exact f2⟩)⟩)) | refine And.intro ?_ ?_ | (intro hh; first | exact absurd hh (by decide) | exact absurd rfl hh | (exfalso; omega) | skip) | fail)
      all_goals first | omega | (exact rfl)
    have l5 : ∀ z1, Sim z1 1 (wM A) → fS 1 z z1 → B (none, 0, 0) z1 5 [some (.inr (.inr (.inl (0, 0, 0))))] [.inr (.inr (.inl (1, 1, 0))), .inr (.inr (.inl (0, 0, 0)))] := by
      intro z1 s1 f1
      have cm := cK_beginRun (l := l) (g := g) (d := d - 1) (by omega) s1 hI.1.1.1 
      unfold sOp at cm
      refine hB [8] 1000 _ _ _ _ _ ?_
      repeat' (first | (intro r2 z2 hz2; obtain ⟨⟨-, q1⟩, q3⟩ := hz2; obtain rfl := q1 e; exact l10 z2 ((hR.dr f1).dr q3) (f1.fC.tr q3.fC)) | refine And.intro ?_ ?_ | (intro hh; first | exact absurd hh (by decide) | exact absurd rfl hh | (exfalso; omega) | skip) | refine Or.inl (uA cm ?_) | fail)
      all_goals first | omega | (exact rfl)
    refine hB [5] 1000 _ _ _ _ _ ?_
    repeat' (first | (intro q1 z1 hz1; obtain ⟨rfl, s1, f1⟩ := hz1; exact l5 z1 s1 f1) | refine And.intro ?_ ?_ | (intro hh; first | exact absurd hh (by decide) | exact absurd rfl hh | (exfalso; omega) | skip) | refine Or.inl (uP fd ?_) | fail)
    all_goals first | omega | (exact rfl)
theorem cT_walk {x y s : Int} (hx : aIR x) (hy : aIR y) (hs : aIR s) (hd : 8 ≤ d) (hR : RelC z A) (hI : InvW A) : cOp [0, 1] l g nX6_walk d [.inr (.inr (.inl (0, 0, 0))), .inl x, .inl y, .inl s] z (oCmd (cWalk x y s) A) := by
  have fd := cK_freshDraft (l := l) (g := g) (d := d - 1) (by omega) hR hI
  have hvv : (cWalk x y s (wM A)).1 = 0 → 0 ≤ (cWalk x y s (wM A)).2.1 ∧ (cWalk x y s (wM A)).2.1 ≤ 1000 := exC_v (c := fun i => if i = 0 then 6 else if i = 1 then x else if i = 2 then y else if i = 3 then s else 0) (a := wM A) hI.1.1
  have ht : (cWalk x y s (wM A)).1 = 0 ∨ (cWalk x y s (wM A)).1 = 1 ∨ (cWalk x y s (wM A)).1 = 2 := by
    unfold cWalk
    (repeat' split) <;> first | exact Or.inl rfl | exact Or.inr (Or.inl rfl) | exact Or.inr (Or.inr (rfl))
  have hJ : Inv (cWalk x y s (wM A)).2.2 := cWalk_I hI.1.1 |>.1
  refine oCmd_C (c := cWalk x y s) (fun e => ?_) (fun e => ?_)
  · refine aM1_of kX6_walk rfl (fun B hB => ?_)
    have l10 : ∀ z2, Sim z2 1 (cWalk x y s (wM A)).2.2 → RelC z2 A → fC z z2 → B (none, 0, 0) z2 11 [some (.inr (.inr (.inl (0, 0, 0)))), some (.inl x), some (.inl y), some (.inl s)] [.inl (cWalk x y s (wM A)).2.1, .inr (.inr (.inl (0, 0, 0)))] := by
      intro z2 s2 r2 f2
      have vv := hvv e
      have st := cK_settle (l := l) (g := g) (d := d - 1) (by omega) r2 hI s2 hJ (v := (cWalk x y s (wM A)).2.1) (by unfold aIR; omega) vv.1
      refine hB [] 1000 _ _ _ _ _ ?_
      repeat' (first | (intro r3 z3 hz3; obtain ⟨rfl, q1, q2⟩ := hz3; exact ⟨rfl, rfl, q1, f2.tr q2⟩) | refine And.intro ?_ ?_ | (intro hh; first | exact absurd hh (by decide) | exact absurd rfl hh | (exfalso; omega) | skip) | refine Or.inl (uA st ?_) | fail)
      all_goals first | omega | (exact rfl)
    have l5 : ∀ z1, Sim z1 1 (wM A) → fS 1 z z1 → B (none, 0, 0) z1 5 [some (.inr (.inr (.inl (0, 0, 0)))), some (.inl x), some (.inl y), some (.inl s)] [.inr (.inr (.inl (1, 1, 0))), .inr (.inr (.inl (0, 0, 0)))] := by
      intro z1 s1 f1
      have cm := cK_makeStep (l := l) (g := g) (d := d - 1) (by omega) s1 hI.1.1 hx hy hs
      unfold sOp at cm
      refine hB [11] 1000 _ _ _ _ _ ?_
      repeat' (first | (intro r2 z2 hz2; obtain ⟨⟨q1, -⟩, q3⟩ := hz2; obtain ⟨rfl, q4⟩ := q1 e; exact l10 z2 q4 ((hR.dr f1).dr q3) (f1.fC.tr q3.fC)) | refine And.intro ?_ ?_ | (intro hh; first | exact absurd hh (by decide) | exact absurd rfl hh | (exfalso; omega) | skip) | refine Or.inl (uA cm ?_) | fail)
      all_goals first | omega | (exact rfl)
    refine hB [5] 1000 _ _ _ _ _ ?_
    repeat' (first | (intro q1 z1 hz1; obtain ⟨rfl, s1, f1⟩ := hz1; exact l5 z1 s1 f1) | refine And.intro ?_ ?_ | (intro hh; first | exact absurd hh (by decide) | exact absurd rfl hh | (exfalso; omega) | skip) | refine Or.inl (uP fd ?_) | fail)
    all_goals first | omega | (exact rfl)
  · refine aMX_of kX6_walk rfl (fun B hB => ?_)
    have l10 : ∀ z2, RelC z2 A → fC z z2 → B (none, 0, 0) z2 11 [some (.inr (.inr (.inl (0, 0, 0)))), some (.inl x), some (.inl y), some (.inl s)] [.inl (cdA (cWalk x y s (wM A)).1), .inr (.inr (.inl (0, 0, 0)))] := by
      intro z2 r2 f2
      have cv : cdA (cWalk x y s (wM A)).1 = -1 ∨ cdA (cWalk x y s (wM A)).1 = -2 ∨ cdA (cWalk x y s (wM A)).1 = -3 := by unfold cdA; omega
      have cx : xOf (cdA (cWalk x y s (wM A)).1) = [0, 1].getD ((cWalk x y s (wM A)).1 - 1).toNat 0 := by
        rcases ht with t | t | t
        · exact absurd t e
        · rw [t]; rfl
        · rw [t]; rfl
      have st := cK_settleX (l := l) (g := g) (d := d - 1) (z := z2) (by omega) cv
      refine hB [] 1000 _ _ _ _ _ ?_
      repeat' (first | exact (Or.inr (Or.inl ⟨⟨Nat.le_refl _, Nat.le_refl _⟩, uX st (fun x z3 q => ⟨rfl, by rw [q.1, cx], by rw [q.2]; exact r2, by rw [q.2]; exact f2⟩)⟩)) | refine And.intro ?_ ?_ | (intro hh; first | exact absurd hh (by decide) | exact absurd rfl hh | (exfalso; omega) | skip) | fail)
      all_goals first | omega | (exact rfl)
    have l5 : ∀ z1, Sim z1 1 (wM A) → fS 1 z z1 → B (none, 0, 0) z1 5 [some (.inr (.inr (.inl (0, 0, 0)))), some (.inl x), some (.inl y), some (.inl s)] [.inr (.inr (.inl (1, 1, 0))), .inr (.inr (.inl (0, 0, 0)))] := by
      intro z1 s1 f1
      have cm := cK_makeStep (l := l) (g := g) (d := d - 1) (by omega) s1 hI.1.1 hx hy hs
      unfold sOp at cm
      refine hB [11] 1000 _ _ _ _ _ ?_
      repeat' (first | (intro r2 z2 hz2; obtain ⟨⟨-, q1⟩, q3⟩ := hz2; obtain rfl := q1 e; exact l10 z2 ((hR.dr f1).dr q3) (f1.fC.tr q3.fC)) | refine And.intro ?_ ?_ | (intro hh; first | exact absurd hh (by decide) | exact absurd rfl hh | (exfalso; omega) | skip) | refine Or.inl (uA cm ?_) | fail)
      all_goals first | omega | (exact rfl)
    refine hB [5] 1000 _ _ _ _ _ ?_
    repeat' (first | (intro q1 z1 hz1; obtain ⟨rfl, s1, f1⟩ := hz1; exact l5 z1 s1 f1) | refine And.intro ?_ ?_ | (intro hh; first | exact absurd hh (by decide) | exact absurd rfl hh | (exfalso; omega) | skip) | refine Or.inl (uP fd ?_) | fail)
    all_goals first | omega | (exact rfl)
theorem cT_fault {p : Int} (hp : aIR p) (hd : 8 ≤ d) (hR : RelC z A) (hI : InvW A) : cOp [0, 1] l g nX6_fault d [.inr (.inr (.inl (0, 0, 0))), .inl p] z (oCmd (cFault p) A) := by
  have fd := cK_freshDraft (l := l) (g := g) (d := d - 1) (by omega) hR hI
  have hvv : (cFault p (wM A)).1 = 0 → 0 ≤ (cFault p (wM A)).2.1 ∧ (cFault p (wM A)).2.1 ≤ 1000 := exC_v (c := fun i => if i = 0 then 7 else if i = 1 then p else 0) (a := wM A) hI.1.1
  have ht : (cFault p (wM A)).1 = 0 ∨ (cFault p (wM A)).1 = 1 ∨ (cFault p (wM A)).1 = 2 := by
    unfold cFault
    (repeat' split) <;> first | exact Or.inl rfl | exact Or.inr (Or.inl rfl) | exact Or.inr (Or.inr (rfl))
  have hJ : Inv (cFault p (wM A)).2.2 := cFault_I hI.1.1
  refine oCmd_C (c := cFault p) (fun e => ?_) (fun e => ?_)
  · refine aM1_of kX6_fault rfl (fun B hB => ?_)
    have l10 : ∀ z2, Sim z2 1 (cFault p (wM A)).2.2 → RelC z2 A → fC z z2 → B (none, 0, 0) z2 9 [some (.inr (.inr (.inl (0, 0, 0)))), some (.inl p)] [.inl (cFault p (wM A)).2.1, .inr (.inr (.inl (0, 0, 0)))] := by
      intro z2 s2 r2 f2
      have vv := hvv e
      have st := cK_settle (l := l) (g := g) (d := d - 1) (by omega) r2 hI s2 hJ (v := (cFault p (wM A)).2.1) (by unfold aIR; omega) vv.1
      refine hB [] 1000 _ _ _ _ _ ?_
      repeat' (first | (intro r3 z3 hz3; obtain ⟨rfl, q1, q2⟩ := hz3; exact ⟨rfl, rfl, q1, f2.tr q2⟩) | refine And.intro ?_ ?_ | (intro hh; first | exact absurd hh (by decide) | exact absurd rfl hh | (exfalso; omega) | skip) | refine Or.inl (uA st ?_) | fail)
      all_goals first | omega | (exact rfl)
    have l5 : ∀ z1, Sim z1 1 (wM A) → fS 1 z z1 → B (none, 0, 0) z1 5 [some (.inr (.inr (.inl (0, 0, 0)))), some (.inl p)] [.inr (.inr (.inl (1, 1, 0))), .inr (.inr (.inl (0, 0, 0)))] := by
      intro z1 s1 f1
      have cm := cK_deductFault (l := l) (g := g) (d := d - 1) (by omega) s1 hI.1.1.1 hp
      unfold sOp at cm
      refine hB [9] 1000 _ _ _ _ _ ?_
      repeat' (first | (intro r2 z2 hz2; obtain ⟨⟨q1, -⟩, q3⟩ := hz2; obtain ⟨rfl, q4⟩ := q1 e; exact l10 z2 q4 ((hR.dr f1).dr q3) (f1.fC.tr q3.fC)) | refine And.intro ?_ ?_ | (intro hh; first | exact absurd hh (by decide) | exact absurd rfl hh | (exfalso; omega) | skip) | refine Or.inl (uA cm ?_) | fail)
      all_goals first | omega | (exact rfl)
    refine hB [5] 1000 _ _ _ _ _ ?_
    repeat' (first | (intro q1 z1 hz1; obtain ⟨rfl, s1, f1⟩ := hz1; exact l5 z1 s1 f1) | refine And.intro ?_ ?_ | (intro hh; first | exact absurd hh (by decide) | exact absurd rfl hh | (exfalso; omega) | skip) | refine Or.inl (uP fd ?_) | fail)
    all_goals first | omega | (exact rfl)
  · refine aMX_of kX6_fault rfl (fun B hB => ?_)
    have l10 : ∀ z2, RelC z2 A → fC z z2 → B (none, 0, 0) z2 9 [some (.inr (.inr (.inl (0, 0, 0)))), some (.inl p)] [.inl (cdA (cFault p (wM A)).1), .inr (.inr (.inl (0, 0, 0)))] := by
      intro z2 r2 f2
      have cv : cdA (cFault p (wM A)).1 = -1 ∨ cdA (cFault p (wM A)).1 = -2 ∨ cdA (cFault p (wM A)).1 = -3 := by unfold cdA; omega
      have cx : xOf (cdA (cFault p (wM A)).1) = [0, 1].getD ((cFault p (wM A)).1 - 1).toNat 0 := by
        rcases ht with t | t | t
        · exact absurd t e
        · rw [t]; rfl
        · rw [t]; rfl
      have st := cK_settleX (l := l) (g := g) (d := d - 1) (z := z2) (by omega) cv
      refine hB [] 1000 _ _ _ _ _ ?_
      repeat' (first | exact (Or.inr (Or.inl ⟨⟨Nat.le_refl _, Nat.le_refl _⟩, uX st (fun x z3 q => ⟨rfl, by rw [q.1, cx], by rw [q.2]; exact r2, by rw [q.2]; exact f2⟩)⟩)) | refine And.intro ?_ ?_ | (intro hh; first | exact absurd hh (by decide) | exact absurd rfl hh | (exfalso; omega) | skip) | fail)
      all_goals first | omega | (exact rfl)
    have l5 : ∀ z1, Sim z1 1 (wM A) → fS 1 z z1 → B (none, 0, 0) z1 5 [some (.inr (.inr (.inl (0, 0, 0)))), some (.inl p)] [.inr (.inr (.inl (1, 1, 0))), .inr (.inr (.inl (0, 0, 0)))] := by
      intro z1 s1 f1
      have cm := cK_deductFault (l := l) (g := g) (d := d - 1) (by omega) s1 hI.1.1.1 hp
      unfold sOp at cm
      refine hB [9] 1000 _ _ _ _ _ ?_
      repeat' (first | (intro r2 z2 hz2; obtain ⟨⟨-, q1⟩, q3⟩ := hz2; obtain rfl := q1 e; exact l10 z2 ((hR.dr f1).dr q3) (f1.fC.tr q3.fC)) | refine And.intro ?_ ?_ | (intro hh; first | exact absurd hh (by decide) | exact absurd rfl hh | (exfalso; omega) | skip) | refine Or.inl (uA cm ?_) | fail)
      all_goals first | omega | (exact rfl)
    refine hB [5] 1000 _ _ _ _ _ ?_
    repeat' (first | (intro q1 z1 hz1; obtain ⟨rfl, s1, f1⟩ := hz1; exact l5 z1 s1 f1) | refine And.intro ?_ ?_ | (intro hh; first | exact absurd hh (by decide) | exact absurd rfl hh | (exfalso; omega) | skip) | refine Or.inl (uP fd ?_) | fail)
    all_goals first | omega | (exact rfl)
theorem cT_retire  (hd : 8 ≤ d) (hR : RelC z A) (hI : InvW A) : cOp [1] l g nX6_retire d [.inr (.inr (.inl (0, 0, 0)))] z (oCmd (cRetire) A) := by
  have fd := cK_freshDraft (l := l) (g := g) (d := d - 1) (by omega) hR hI
  have hvv : (cRetire (wM A)).1 = 0 → 0 ≤ (cRetire (wM A)).2.1 ∧ (cRetire (wM A)).2.1 ≤ 1000 := exC_v (c := fun i => if i = 0 then 8 else 0) (a := wM A) hI.1.1
  have ht : (cRetire (wM A)).1 = 0 ∨ (cRetire (wM A)).1 = 1 := by
    unfold cRetire
    (repeat' split) <;> first | exact Or.inl rfl | exact Or.inr (rfl)
  have hJ : Inv (cRetire (wM A)).2.2 := cRetire_I hI.1.1
  refine oCmd_C (c := cRetire) (fun e => ?_) (fun e => ?_)
  · refine aM1_of kX6_retire rfl (fun B hB => ?_)
    have l10 : ∀ z2, Sim z2 1 (cRetire (wM A)).2.2 → RelC z2 A → fC z z2 → B (none, 0, 0) z2 8 [some (.inr (.inr (.inl (0, 0, 0))))] [.inl (cRetire (wM A)).2.1, .inr (.inr (.inl (0, 0, 0)))] := by
      intro z2 s2 r2 f2
      have vv := hvv e
      have st := cK_settle (l := l) (g := g) (d := d - 1) (by omega) r2 hI s2 hJ (v := (cRetire (wM A)).2.1) (by unfold aIR; omega) vv.1
      refine hB [] 1000 _ _ _ _ _ ?_
      repeat' (first | (intro r3 z3 hz3; obtain ⟨rfl, q1, q2⟩ := hz3; exact ⟨rfl, rfl, q1, f2.tr q2⟩) | refine And.intro ?_ ?_ | (intro hh; first | exact absurd hh (by decide) | exact absurd rfl hh | (exfalso; omega) | skip) | refine Or.inl (uA st ?_) | fail)
      all_goals first | omega | (exact rfl)
    have l5 : ∀ z1, Sim z1 1 (wM A) → fS 1 z z1 → B (none, 0, 0) z1 5 [some (.inr (.inr (.inl (0, 0, 0))))] [.inr (.inr (.inl (1, 1, 0))), .inr (.inr (.inl (0, 0, 0)))] := by
      intro z1 s1 f1
      have cm := cK_giveUpRun (l := l) (g := g) (d := d - 1) (by omega) s1 hI.1.1.1 
      unfold sOp at cm
      refine hB [8] 1000 _ _ _ _ _ ?_
      repeat' (first | (intro r2 z2 hz2; obtain ⟨⟨q1, -⟩, q3⟩ := hz2; obtain ⟨rfl, q4⟩ := q1 e; exact l10 z2 q4 ((hR.dr f1).dr q3) (f1.fC.tr q3.fC)) | refine And.intro ?_ ?_ | (intro hh; first | exact absurd hh (by decide) | exact absurd rfl hh | (exfalso; omega) | skip) | refine Or.inl (uA cm ?_) | fail)
      all_goals first | omega | (exact rfl)
    refine hB [5] 1000 _ _ _ _ _ ?_
    repeat' (first | (intro q1 z1 hz1; obtain ⟨rfl, s1, f1⟩ := hz1; exact l5 z1 s1 f1) | refine And.intro ?_ ?_ | (intro hh; first | exact absurd hh (by decide) | exact absurd rfl hh | (exfalso; omega) | skip) | refine Or.inl (uP fd ?_) | fail)
    all_goals first | omega | (exact rfl)
  · refine aMX_of kX6_retire rfl (fun B hB => ?_)
    have l10 : ∀ z2, RelC z2 A → fC z z2 → B (none, 0, 0) z2 8 [some (.inr (.inr (.inl (0, 0, 0))))] [.inl (cdR (cRetire (wM A)).1), .inr (.inr (.inl (0, 0, 0)))] := by
      intro z2 r2 f2
      have cv : cdR (cRetire (wM A)).1 = -1 ∨ cdR (cRetire (wM A)).1 = -2 ∨ cdR (cRetire (wM A)).1 = -3 := by unfold cdR; omega
      have cx : xOf (cdR (cRetire (wM A)).1) = [1].getD ((cRetire (wM A)).1 - 1).toNat 0 := by
        rcases ht with t | t
        · exact absurd t e
        · rw [t]; rfl
      have st := cK_settleX (l := l) (g := g) (d := d - 1) (z := z2) (by omega) cv
      refine hB [] 1000 _ _ _ _ _ ?_
      repeat' (first | exact (Or.inr (Or.inl ⟨⟨Nat.le_refl _, Nat.le_refl _⟩, uX st (fun x z3 q => ⟨rfl, by rw [q.1, cx], by rw [q.2]; exact r2, by rw [q.2]; exact f2⟩)⟩)) | refine And.intro ?_ ?_ | (intro hh; first | exact absurd hh (by decide) | exact absurd rfl hh | (exfalso; omega) | skip) | fail)
      all_goals first | omega | (exact rfl)
    have l5 : ∀ z1, Sim z1 1 (wM A) → fS 1 z z1 → B (none, 0, 0) z1 5 [some (.inr (.inr (.inl (0, 0, 0))))] [.inr (.inr (.inl (1, 1, 0))), .inr (.inr (.inl (0, 0, 0)))] := by
      intro z1 s1 f1
      have cm := cK_giveUpRun (l := l) (g := g) (d := d - 1) (by omega) s1 hI.1.1.1 
      unfold sOp at cm
      refine hB [8] 1000 _ _ _ _ _ ?_
      repeat' (first | (intro r2 z2 hz2; obtain ⟨⟨-, q1⟩, q3⟩ := hz2; obtain rfl := q1 e; exact l10 z2 ((hR.dr f1).dr q3) (f1.fC.tr q3.fC)) | refine And.intro ?_ ?_ | (intro hh; first | exact absurd hh (by decide) | exact absurd rfl hh | (exfalso; omega) | skip) | refine Or.inl (uA cm ?_) | fail)
      all_goals first | omega | (exact rfl)
    refine hB [5] 1000 _ _ _ _ _ ?_
    repeat' (first | (intro q1 z1 hz1; obtain ⟨rfl, s1, f1⟩ := hz1; exact l5 z1 s1 f1) | refine And.intro ?_ ?_ | (intro hh; first | exact absurd hh (by decide) | exact absurd rfl hh | (exfalso; omega) | skip) | refine Or.inl (uP fd ?_) | fail)
    all_goals first | omega | (exact rfl)

end K13
