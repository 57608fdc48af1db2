/-! THE LAW: its calls of the class (printed by wip/whole/cls19.py) -/
/-- only the class and the law's two arrays differ -/
def fL (z z' : aM) : Prop := ∀ q : aP, 16 ≤ q.1 → q.1 ≠ 18 → q.1 ≠ 19 → z' q = z q
theorem fL.rf (z : aM) : fL z z := fun _ _ _ _ => rfl
theorem fL.tr {z z' z'' : aM} (h : fL z z') (h' : fL z' z'') : fL z z'' := fun q h1 h2 h3 => (h' q h1 h2 h3).trans (h q h1 h2 h3)
theorem fC.fL {z z' : aM} (h : fC z z') : fL z z' := fun q h1 _ _ => h q h1
theorem fL.wr {z z' : aM} {p : aP} {i x : Int} (h : fL z z') (hp : p.1 = 18 ∨ p.1 = 19) : fL z (aWr z' p i x) := fun q h1 h2 h3 => by
  rw [aWr_ne2 (fun e => by rw [e] at h2 h3; omega)]
  exact h q h1 h2 h3
theorem RelC.fr {z z' : aM} {A : aAb} (h : RelC z A) (e : ∀ q : aP, q.1 < 16 → z' q = z q) : RelC z' A := by
  obtain ⟨⟨h1, h2, h3⟩, ⟨h4, h5, h6⟩, ⟨h7, h8⟩, ⟨h9, h10⟩, h11, h12⟩ := h
  have yS : ∀ {s : Int} {a : Int → Int}, Sim z s a → Sim z' s a := fun h => h.o (fun q q0 q1 => e q (by omega))
  have es : ∀ c i, slot z' c i = slot z c i := fun c i => by unfold slot; rw [e (7, 0, 0) (by decide)]
  unfold RelC
  rw [e (0, 0, 0) (by decide), e (7, 0, 0) (by decide), e (12, 0, 0) (by decide), e (13, 0, 0) (by decide), e (10, 0, 0) (by decide), e (11, 0, 0) (by decide)]
  refine ⟨⟨yS h1, h2, fun w => yS (h3 w)⟩, ⟨h4, h5, fun i i0 i1 => ?_⟩, ⟨h7, h8⟩, ⟨h9, h10⟩, h11, h12⟩
  rw [es]
  exact yS (h6 i i0 i1)
theorem RelC.wr {z : aM} {A : aAb} {p : aP} {i x : Int} (h : RelC z A) (hp : 16 ≤ p.1) : RelC (aWr z p i x) A := h.fr (fun q hq => aWr_ne2 (fun e => by rw [e] at hq; omega))
/-- what a call of the law tells -/
def lQ (z : aM) (R : aRes) : Option aV → aM → Prop := fun r z' => r = some (.inl R.1) ∧ (R.1 = 0 → z' (18, 0, 0) 0 = R.2.1) ∧ RelC z' R.2.2 ∧ fL z z'
def lQD (z : aM) (R : Int × UInt64 × aAb) : Option aV → aM → Prop := fun r z' => r = some (.inl R.1) ∧ (R.1 = 0 → z' (19, 0, 0) 0 = (R.2.1.toNat : Int)) ∧ RelC z' R.2.2 ∧ fL z z'
def lQF (z : aM) (R : Int × UInt32 × aAb) : Option aV → aM → Prop := fun r z' => r = some (.inl R.1) ∧ (R.1 = 0 → z' (19, 0, 0) 0 = ((FP.f2d R.2.1).toNat : Int)) ∧ RelC z' R.2.2 ∧ fL z z'
def lOp (l : Launch) (g : aG) (y d : Nat) (as : List aV) (z : aM) (Q : Option aV → aM → Prop) : Prop := aCt l g y d 1 6 none as z (fun r s' z' => s' = none ∧ Q r z') (fun _ _ _ => False)
theorem aL_of {l : Launch} {g : aG} {y o d : Nat} {as : List aV} {z : aM} {Q : Option aV → aM → Prop} {T : aT} {nL rk : Nat} {hh : List (Nat × Nat × Nat × Nat)} (hT : aTk y o T nL rk hh) (hn : Nat.ble (aSz as) nL = true)
    (h : ∀ B : aK → aM → Nat → List (Option aV) → List aV → Prop, (∀ (cs : List Nat) (n : Nat) (k : aK) (z : aM) (pc : Nat) (ls : List (Option aV)) (st : List aV), wp l g (d, 1, 6, rk, hh) (fun r s' z' => s' = none ∧ Q r z') (fun _ _ _ => False) T cs B n k z pc ls st → B k z pc ls st) → aFo (aEn as nL) (fun ls => B (none, 0, 0) z 0 ls [])) : lOp l g y d as z Q := aCt_of hT (Nat.le_of_ble_eq_true hn) h
theorem lF0 {z z2 : aM} {R : aRes} {w : Int} (t : R.1 = 0) (e : w = R.2.1) (q1 : RelC z2 R.2.2) (q2 : fC z z2) : (none : aSt) = none ∧ lQ z R (some (.inl 0)) (aWr z2 (18, 0, 0) 0 w) := ⟨rfl, by rw [t], fun _ => by rw [aWr_k, e], q1.wr (by decide), q2.fL.wr (Or.inl rfl)⟩
theorem lFx {z z2 : aM} {R : aRes} {v : Int} (t : R.1 = v) (n : v ≠ 0) (q1 : RelC z2 R.2.2) (q2 : fC z z2) : (none : aSt) = none ∧ lQ z R (some (.inl v)) z2 := ⟨rfl, by rw [t], fun e => absurd (t.symm.trans e) n, q1, q2.fL⟩
theorem lF0D {z z2 : aM} {R : Int × UInt64 × aAb} (t : R.1 = 0) (q1 : RelC z2 R.2.2) (q2 : fC z z2) : (none : aSt) = none ∧ lQD z R (some (.inl 0)) (aWr z2 (19, 0, 0) 0 (R.2.1.toNat : Int)) := ⟨rfl, by rw [t], fun _ => by rw [aWr_k], q1.wr (by decide), q2.fL.wr (Or.inr rfl)⟩
theorem lFxD {z z2 : aM} {R : Int × UInt64 × aAb} {v : Int} (t : R.1 = v) (n : v ≠ 0) (q1 : RelC z2 R.2.2) (q2 : fC z z2) : (none : aSt) = none ∧ lQD z R (some (.inl v)) z2 := ⟨rfl, by rw [t], fun e => absurd (t.symm.trans e) n, q1, q2.fL⟩
theorem lF0F {z z2 : aM} {R : Int × UInt32 × aAb} (t : R.1 = 0) (q1 : RelC z2 R.2.2) (q2 : fC z z2) : (none : aSt) = none ∧ lQF z R (some (.inl 0)) (aWr z2 (19, 0, 0) 0 ((FP.f2d R.2.1).toNat : Int)) := ⟨rfl, by rw [t], fun _ => by rw [aWr_k], q1.wr (by decide), q2.fL.wr (Or.inr rfl)⟩
theorem lFxF {z z2 : aM} {R : Int × UInt32 × aAb} {v : Int} (t : R.1 = v) (n : v ≠ 0) (q1 : RelC z2 R.2.2) (q2 : fC z z2) : (none : aSt) = none ∧ lQF z R (some (.inl v)) z2 := ⟨rfl, by rw [t], fun e => absurd (t.symm.trans e) n, q1, q2.fL⟩
section K19
variable {l : Launch} {g : aG} {d : Nat} {z : aM}

theorem lT_setStart {x1 x2 : Int} {R : aRes} (hd : 5 ≤ d) (c : cOp [0, 1] l g nX6_setStart (d - 1) [.inr (.inr (.inl (0, 0, 0))), .inl x1, .inl x2] z R) (ht : R.1 = 0 ∨ R.1 = 1 ∨ R.1 = 2) (hv : R.1 = 0 → aIR R.2.1) : lOp l g nL_setStart d [.inr (.inr (.inl (0, 0, 0))), .inl x1, .inl x2, .inr (.inr (.inl (18, 0, 0)))] z (lQ z R) := by
  rcases ht with t | t | t
  · have cm := c.1 t
    have vv := hv t
    refine aL_of kL_setStart rfl (fun B hB => ?_)
    refine hB [] 1000 _ _ _ _ _ ?_
    repeat' (first | exact lF0 t rfl (by assumption) (by assumption) | (intro r z2 hz2; obtain ⟨rfl, q1, q2⟩ := hz2) | refine And.intro ?_ ?_ | (intro hh; first | exact absurd hh (by decide) | exact absurd rfl hh | (exfalso; omega) | skip) | refine Or.inl (uA cm ?_) | fail)
    all_goals first | omega | (exact rfl) | (exact vv) | (exact vv.1) | (exact vv.2)
  · have cx : aMX l g nX6_setStart (d - 1) [.inr (.inr (.inl (0, 0, 0))), .inl x1, .inl x2] z (fun x z' => x = 0 ∧ RelC z' R.2.2 ∧ fC z z') := by
      have := c.2 (by omega)
      rw [t] at this
      exact this
    refine aL_of kL_setStart rfl (fun B hB => ?_)
    refine hB [] 1000 _ _ _ _ _ ?_
    repeat' (first | exact lFx t (by decide) (by assumption) (by assumption) | (intro x z2 hz2; obtain ⟨rfl, q1, q2⟩ := hz2) | refine Or.inr (Or.inl ⟨⟨Nat.le_refl _, Nat.le_refl _⟩, uX cx ?_⟩) | refine And.intro ?_ ?_ | (intro hh; first | exact absurd hh (by decide) | exact absurd rfl hh | (exfalso; omega) | skip) | fail)
    all_goals first | omega | (exact rfl)
  · have cx : aMX l g nX6_setStart (d - 1) [.inr (.inr (.inl (0, 0, 0))), .inl x1, .inl x2] z (fun x z' => x = 1 ∧ RelC z' R.2.2 ∧ fC z z') := by
      have := c.2 (by omega)
      rw [t] at this
      exact this
    refine aL_of kL_setStart rfl (fun B hB => ?_)
    refine hB [] 1000 _ _ _ _ _ ?_
    repeat' (first | exact lFx t (by decide) (by assumption) (by assumption) | (intro x z2 hz2; obtain ⟨rfl, q1, q2⟩ := hz2) | refine Or.inr (Or.inl ⟨⟨Nat.le_refl _, Nat.le_refl _⟩, uX cx ?_⟩) | refine And.intro ?_ ?_ | (intro hh; first | exact absurd hh (by decide) | exact absurd rfl hh | (exfalso; omega) | skip) | fail)
    all_goals first | omega | (exact rfl)
theorem lT_addLeg {x1 x2 x3 : Int} {R : aRes} (hd : 5 ≤ d) (c : cOp [0, 1] l g nX6_addLeg (d - 1) [.inr (.inr (.inl (0, 0, 0))), .inl x1, .inl x2, .inl x3] z R) (ht : R.1 = 0 ∨ R.1 = 1 ∨ R.1 = 2) (hv : R.1 = 0 → aIR R.2.1) : lOp l g nL_addLeg d [.inr (.inr (.inl (0, 0, 0))), .inl x1, .inl x2, .inl x3, .inr (.inr (.inl (18, 0, 0)))] z (lQ z R) := by
  rcases ht with t | t | t
  · have cm := c.1 t
    have vv := hv t
    refine aL_of kL_addLeg rfl (fun B hB => ?_)
    refine hB [] 1000 _ _ _ _ _ ?_
    repeat' (first | exact lF0 t rfl (by assumption) (by assumption) | (intro r z2 hz2; obtain ⟨rfl, q1, q2⟩ := hz2) | refine And.intro ?_ ?_ | (intro hh; first | exact absurd hh (by decide) | exact absurd rfl hh | (exfalso; omega) | skip) | refine Or.inl (uA cm ?_) | fail)
    all_goals first | omega | (exact rfl) | (exact vv) | (exact vv.1) | (exact vv.2)
  · have cx : aMX l g nX6_addLeg (d - 1) [.inr (.inr (.inl (0, 0, 0))), .inl x1, .inl x2, .inl x3] z (fun x z' => x = 0 ∧ RelC z' R.2.2 ∧ fC z z') := by
      have := c.2 (by omega)
      rw [t] at this
      exact this
    refine aL_of kL_addLeg rfl (fun B hB => ?_)
    refine hB [] 1000 _ _ _ _ _ ?_
    repeat' (first | exact lFx t (by decide) (by assumption) (by assumption) | (intro x z2 hz2; obtain ⟨rfl, q1, q2⟩ := hz2) | refine Or.inr (Or.inl ⟨⟨Nat.le_refl _, Nat.le_refl _⟩, uX cx ?_⟩) | refine And.intro ?_ ?_ | (intro hh; first | exact absurd hh (by decide) | exact absurd rfl hh | (exfalso; omega) | skip) | fail)
    all_goals first | omega | (exact rfl)
  · have cx : aMX l g nX6_addLeg (d - 1) [.inr (.inr (.inl (0, 0, 0))), .inl x1, .inl x2, .inl x3] z (fun x z' => x = 1 ∧ RelC z' R.2.2 ∧ fC z z') := by
      have := c.2 (by omega)
      rw [t] at this
      exact this
    refine aL_of kL_addLeg rfl (fun B hB => ?_)
    refine hB [] 1000 _ _ _ _ _ ?_
    repeat' (first | exact lFx t (by decide) (by assumption) (by assumption) | (intro x z2 hz2; obtain ⟨rfl, q1, q2⟩ := hz2) | refine Or.inr (Or.inl ⟨⟨Nat.le_refl _, Nat.le_refl _⟩, uX cx ?_⟩) | refine And.intro ?_ ?_ | (intro hh; first | exact absurd hh (by decide) | exact absurd rfl hh | (exfalso; omega) | skip) | fail)
    all_goals first | omega | (exact rfl)
theorem lT_addGate {x1 x2 x3 x4 x5 : Int} {R : aRes} (hd : 5 ≤ d) (c : cOp [2, 0, 1] l g nX6_addGate (d - 1) [.inr (.inr (.inl (0, 0, 0))), .inl x1, .inl x2, .inl x3, .inl x4, .inl x5] z R) (ht : R.1 = 0 ∨ R.1 = 1 ∨ R.1 = 2 ∨ R.1 = 3) (hv : R.1 = 0 → aIR R.2.1) : lOp l g nL_addGate d [.inr (.inr (.inl (0, 0, 0))), .inl x1, .inl x2, .inl x3, .inl x4, .inl x5, .inr (.inr (.inl (18, 0, 0)))] z (lQ z R) := by
  rcases ht with t | t | t | t
  · have cm := c.1 t
    have vv := hv t
    refine aL_of kL_addGate rfl (fun B hB => ?_)
    refine hB [] 1000 _ _ _ _ _ ?_
    repeat' (first | exact lF0 t rfl (by assumption) (by assumption) | (intro r z2 hz2; obtain ⟨rfl, q1, q2⟩ := hz2) | refine And.intro ?_ ?_ | (intro hh; first | exact absurd hh (by decide) | exact absurd rfl hh | (exfalso; omega) | skip) | refine Or.inl (uA cm ?_) | fail)
    all_goals first | omega | (exact rfl) | (exact vv) | (exact vv.1) | (exact vv.2)
  · have cx : aMX l g nX6_addGate (d - 1) [.inr (.inr (.inl (0, 0, 0))), .inl x1, .inl x2, .inl x3, .inl x4, .inl x5] z (fun x z' => x = 2 ∧ RelC z' R.2.2 ∧ fC z z') := by
      have := c.2 (by omega)
      rw [t] at this
      exact this
    refine aL_of kL_addGate rfl (fun B hB => ?_)
    refine hB [] 1000 _ _ _ _ _ ?_
    repeat' (first | exact lFx t (by decide) (by assumption) (by assumption) | (intro x z2 hz2; obtain ⟨rfl, q1, q2⟩ := hz2) | refine Or.inr (Or.inl ⟨⟨Nat.le_refl _, Nat.le_refl _⟩, uX cx ?_⟩) | refine And.intro ?_ ?_ | (intro hh; first | exact absurd hh (by decide) | exact absurd rfl hh | (exfalso; omega) | skip) | fail)
    all_goals first | omega | (exact rfl)
  · have cx : aMX l g nX6_addGate (d - 1) [.inr (.inr (.inl (0, 0, 0))), .inl x1, .inl x2, .inl x3, .inl x4, .inl x5] z (fun x z' => x = 0 ∧ RelC z' R.2.2 ∧ fC z z') := by
      have := c.2 (by omega)
      rw [t] at this
      exact this
    refine aL_of kL_addGate rfl (fun B hB => ?_)
    refine hB [] 1000 _ _ _ _ _ ?_
    repeat' (first | exact lFx t (by decide) (by assumption) (by assumption) | (intro x z2 hz2; obtain ⟨rfl, q1, q2⟩ := hz2) | refine Or.inr (Or.inl ⟨⟨Nat.le_refl _, Nat.le_refl _⟩, uX cx ?_⟩) | refine And.intro ?_ ?_ | (intro hh; first | exact absurd hh (by decide) | exact absurd rfl hh | (exfalso; omega) | skip) | fail)
    all_goals first | omega | (exact rfl)
  · have cx : aMX l g nX6_addGate (d - 1) [.inr (.inr (.inl (0, 0, 0))), .inl x1, .inl x2, .inl x3, .inl x4, .inl x5] z (fun x z' => x = 1 ∧ RelC z' R.2.2 ∧ fC z z') := by
      have := c.2 (by omega)
      rw [t] at this
      exact this
    refine aL_of kL_addGate rfl (fun B hB => ?_)
    refine hB [] 1000 _ _ _ _ _ ?_
    repeat' (first | exact lFx t (by decide) (by assumption) (by assumption) | (intro x z2 hz2; obtain ⟨rfl, q1, q2⟩ := hz2) | refine Or.inr (Or.inl ⟨⟨Nat.le_refl _, Nat.le_refl _⟩, uX cx ?_⟩) | refine And.intro ?_ ?_ | (intro hh; first | exact absurd hh (by decide) | exact absurd rfl hh | (exfalso; omega) | skip) | fail)
    all_goals first | omega | (exact rfl)
theorem lT_setTolerance {x1 : Int} {R : aRes} (hd : 5 ≤ d) (c : cOp [0, 1] l g nX6_setTolerance (d - 1) [.inr (.inr (.inl (0, 0, 0))), .inl x1] z R) (ht : R.1 = 0 ∨ R.1 = 1 ∨ R.1 = 2) (hv : R.1 = 0 → aIR R.2.1) : lOp l g nL_setTolerance d [.inr (.inr (.inl (0, 0, 0))), .inl x1, .inr (.inr (.inl (18, 0, 0)))] z (lQ z R) := by
  rcases ht with t | t | t
  · have cm := c.1 t
    have vv := hv t
    refine aL_of kL_setTolerance rfl (fun B hB => ?_)
    refine hB [] 1000 _ _ _ _ _ ?_
    repeat' (first | exact lF0 t rfl (by assumption) (by assumption) | (intro r z2 hz2; obtain ⟨rfl, q1, q2⟩ := hz2) | refine And.intro ?_ ?_ | (intro hh; first | exact absurd hh (by decide) | exact absurd rfl hh | (exfalso; omega) | skip) | refine Or.inl (uA cm ?_) | fail)
    all_goals first | omega | (exact rfl) | (exact vv) | (exact vv.1) | (exact vv.2)
  · have cx : aMX l g nX6_setTolerance (d - 1) [.inr (.inr (.inl (0, 0, 0))), .inl x1] z (fun x z' => x = 0 ∧ RelC z' R.2.2 ∧ fC z z') := by
      have := c.2 (by omega)
      rw [t] at this
      exact this
    refine aL_of kL_setTolerance rfl (fun B hB => ?_)
    refine hB [] 1000 _ _ _ _ _ ?_
    repeat' (first | exact lFx t (by decide) (by assumption) (by assumption) | (intro x z2 hz2; obtain ⟨rfl, q1, q2⟩ := hz2) | refine Or.inr (Or.inl ⟨⟨Nat.le_refl _, Nat.le_refl _⟩, uX cx ?_⟩) | refine And.intro ?_ ?_ | (intro hh; first | exact absurd hh (by decide) | exact absurd rfl hh | (exfalso; omega) | skip) | fail)
    all_goals first | omega | (exact rfl)
  · have cx : aMX l g nX6_setTolerance (d - 1) [.inr (.inr (.inl (0, 0, 0))), .inl x1] z (fun x z' => x = 1 ∧ RelC z' R.2.2 ∧ fC z z') := by
      have := c.2 (by omega)
      rw [t] at this
      exact this
    refine aL_of kL_setTolerance rfl (fun B hB => ?_)
    refine hB [] 1000 _ _ _ _ _ ?_
    repeat' (first | exact lFx t (by decide) (by assumption) (by assumption) | (intro x z2 hz2; obtain ⟨rfl, q1, q2⟩ := hz2) | refine Or.inr (Or.inl ⟨⟨Nat.le_refl _, Nat.le_refl _⟩, uX cx ?_⟩) | refine And.intro ?_ ?_ | (intro hh; first | exact absurd hh (by decide) | exact absurd rfl hh | (exfalso; omega) | skip) | fail)
    all_goals first | omega | (exact rfl)
theorem lT_setTimeLimit {x1 : Int} {R : aRes} (hd : 5 ≤ d) (c : cOp [0, 1] l g nX6_setTimeLimit (d - 1) [.inr (.inr (.inl (0, 0, 0))), .inl x1] z R) (ht : R.1 = 0 ∨ R.1 = 1 ∨ R.1 = 2) (hv : R.1 = 0 → aIR R.2.1) : lOp l g nL_setTimeLimit d [.inr (.inr (.inl (0, 0, 0))), .inl x1, .inr (.inr (.inl (18, 0, 0)))] z (lQ z R) := by
  rcases ht with t | t | t
  · have cm := c.1 t
    have vv := hv t
    refine aL_of kL_setTimeLimit rfl (fun B hB => ?_)
    refine hB [] 1000 _ _ _ _ _ ?_
    repeat' (first | exact lF0 t rfl (by assumption) (by assumption) | (intro r z2 hz2; obtain ⟨rfl, q1, q2⟩ := hz2) | refine And.intro ?_ ?_ | (intro hh; first | exact absurd hh (by decide) | exact absurd rfl hh | (exfalso; omega) | skip) | refine Or.inl (uA cm ?_) | fail)
    all_goals first | omega | (exact rfl) | (exact vv) | (exact vv.1) | (exact vv.2)
  · have cx : aMX l g nX6_setTimeLimit (d - 1) [.inr (.inr (.inl (0, 0, 0))), .inl x1] z (fun x z' => x = 0 ∧ RelC z' R.2.2 ∧ fC z z') := by
      have := c.2 (by omega)
      rw [t] at this
      exact this
    refine aL_of kL_setTimeLimit rfl (fun B hB => ?_)
    refine hB [] 1000 _ _ _ _ _ ?_
    repeat' (first | exact lFx t (by decide) (by assumption) (by assumption) | (intro x z2 hz2; obtain ⟨rfl, q1, q2⟩ := hz2) | refine Or.inr (Or.inl ⟨⟨Nat.le_refl _, Nat.le_refl _⟩, uX cx ?_⟩) | refine And.intro ?_ ?_ | (intro hh; first | exact absurd hh (by decide) | exact absurd rfl hh | (exfalso; omega) | skip) | fail)
    all_goals first | omega | (exact rfl)
  · have cx : aMX l g nX6_setTimeLimit (d - 1) [.inr (.inr (.inl (0, 0, 0))), .inl x1] z (fun x z' => x = 1 ∧ RelC z' R.2.2 ∧ fC z z') := by
      have := c.2 (by omega)
      rw [t] at this
      exact this
    refine aL_of kL_setTimeLimit rfl (fun B hB => ?_)
    refine hB [] 1000 _ _ _ _ _ ?_
    repeat' (first | exact lFx t (by decide) (by assumption) (by assumption) | (intro x z2 hz2; obtain ⟨rfl, q1, q2⟩ := hz2) | refine Or.inr (Or.inl ⟨⟨Nat.le_refl _, Nat.le_refl _⟩, uX cx ?_⟩) | refine And.intro ?_ ?_ | (intro hh; first | exact absurd hh (by decide) | exact absurd rfl hh | (exfalso; omega) | skip) | fail)
    all_goals first | omega | (exact rfl)
theorem lT_startRun {R : aRes} (hd : 5 ≤ d) (c : cOp [1] l g nX6_startRun (d - 1) [.inr (.inr (.inl (0, 0, 0)))] z R) (ht : R.1 = 0 ∨ R.1 = 1) (hv : R.1 = 0 → aIR R.2.1) : lOp l g nL_startRun d [.inr (.inr (.inl (0, 0, 0))), .inr (.inr (.inl (18, 0, 0)))] z (lQ z R) := by
  rcases ht with t | t
  · have cm := c.1 t
    have vv := hv t
    refine aL_of kL_startRun rfl (fun B hB => ?_)
    refine hB [] 1000 _ _ _ _ _ ?_
    repeat' (first | exact lF0 t rfl (by assumption) (by assumption) | (intro r z2 hz2; obtain ⟨rfl, q1, q2⟩ := hz2) | refine And.intro ?_ ?_ | (intro hh; first | exact absurd hh (by decide) | exact absurd rfl hh | (exfalso; omega) | skip) | refine Or.inl (uA cm ?_) | fail)
    all_goals first | omega | (exact rfl) | (exact vv) | (exact vv.1) | (exact vv.2)
  · have cx : aMX l g nX6_startRun (d - 1) [.inr (.inr (.inl (0, 0, 0)))] z (fun x z' => x = 1 ∧ RelC z' R.2.2 ∧ fC z z') := by
      have := c.2 (by omega)
      rw [t] at this
      exact this
    refine aL_of kL_startRun rfl (fun B hB => ?_)
    refine hB [] 1000 _ _ _ _ _ ?_
    repeat' (first | exact lFx t (by decide) (by assumption) (by assumption) | (intro x z2 hz2; obtain ⟨rfl, q1, q2⟩ := hz2) | refine Or.inr (Or.inl ⟨⟨Nat.le_refl _, Nat.le_refl _⟩, uX cx ?_⟩) | refine And.intro ?_ ?_ | (intro hh; first | exact absurd hh (by decide) | exact absurd rfl hh | (exfalso; omega) | skip) | fail)
    all_goals first | omega | (exact rfl)
theorem lT_walk {x1 x2 x3 : Int} {R : aRes} (hd : 5 ≤ d) (c : cOp [0, 1] l g nX6_walk (d - 1) [.inr (.inr (.inl (0, 0, 0))), .inl x1, .inl x2, .inl x3] z R) (ht : R.1 = 0 ∨ R.1 = 1 ∨ R.1 = 2) (hv : R.1 = 0 → aIR R.2.1) : lOp l g nL_walk d [.inr (.inr (.inl (0, 0, 0))), .inl x1, .inl x2, .inl x3, .inr (.inr (.inl (18, 0, 0)))] z (lQ z R) := by
  rcases ht with t | t | t
  · have cm := c.1 t
    have vv := hv t
    refine aL_of kL_walk rfl (fun B hB => ?_)
    refine hB [] 1000 _ _ _ _ _ ?_
    repeat' (first | exact lF0 t rfl (by assumption) (by assumption) | (intro r z2 hz2; obtain ⟨rfl, q1, q2⟩ := hz2) | refine And.intro ?_ ?_ | (intro hh; first | exact absurd hh (by decide) | exact absurd rfl hh | (exfalso; omega) | skip) | refine Or.inl (uA cm ?_) | fail)
    all_goals first | omega | (exact rfl) | (exact vv) | (exact vv.1) | (exact vv.2)
  · have cx : aMX l g nX6_walk (d - 1) [.inr (.inr (.inl (0, 0, 0))), .inl x1, .inl x2, .inl x3] z (fun x z' => x = 0 ∧ RelC z' R.2.2 ∧ fC z z') := by
      have := c.2 (by omega)
      rw [t] at this
      exact this
    refine aL_of kL_walk rfl (fun B hB => ?_)
    refine hB [] 1000 _ _ _ _ _ ?_
    repeat' (first | exact lFx t (by decide) (by assumption) (by assumption) | (intro x z2 hz2; obtain ⟨rfl, q1, q2⟩ := hz2) | refine Or.inr (Or.inl ⟨⟨Nat.le_refl _, Nat.le_refl _⟩, uX cx ?_⟩) | refine And.intro ?_ ?_ | (intro hh; first | exact absurd hh (by decide) | exact absurd rfl hh | (exfalso; omega) | skip) | fail)
    all_goals first | omega | (exact rfl)
  · have cx : aMX l g nX6_walk (d - 1) [.inr (.inr (.inl (0, 0, 0))), .inl x1, .inl x2, .inl x3] z (fun x z' => x = 1 ∧ RelC z' R.2.2 ∧ fC z z') := by
      have := c.2 (by omega)
      rw [t] at this
      exact this
    refine aL_of kL_walk rfl (fun B hB => ?_)
    refine hB [] 1000 _ _ _ _ _ ?_
    repeat' (first | exact lFx t (by decide) (by assumption) (by assumption) | (intro x z2 hz2; obtain ⟨rfl, q1, q2⟩ := hz2) | refine Or.inr (Or.inl ⟨⟨Nat.le_refl _, Nat.le_refl _⟩, uX cx ?_⟩) | refine And.intro ?_ ?_ | (intro hh; first | exact absurd hh (by decide) | exact absurd rfl hh | (exfalso; omega) | skip) | fail)
    all_goals first | omega | (exact rfl)
theorem lT_fault {x1 : Int} {R : aRes} (hd : 5 ≤ d) (c : cOp [0, 1] l g nX6_fault (d - 1) [.inr (.inr (.inl (0, 0, 0))), .inl x1] z R) (ht : R.1 = 0 ∨ R.1 = 1 ∨ R.1 = 2) (hv : R.1 = 0 → aIR R.2.1) : lOp l g nL_fault d [.inr (.inr (.inl (0, 0, 0))), .inl x1, .inr (.inr (.inl (18, 0, 0)))] z (lQ z R) := by
  rcases ht with t | t | t
  · have cm := c.1 t
    have vv := hv t
    refine aL_of kL_fault rfl (fun B hB => ?_)
    refine hB [] 1000 _ _ _ _ _ ?_
    repeat' (first | exact lF0 t rfl (by assumption) (by assumption) | (intro r z2 hz2; obtain ⟨rfl, q1, q2⟩ := hz2) | refine And.intro ?_ ?_ | (intro hh; first | exact absurd hh (by decide) | exact absurd rfl hh | (exfalso; omega) | skip) | refine Or.inl (uA cm ?_) | fail)
    all_goals first | omega | (exact rfl) | (exact vv) | (exact vv.1) | (exact vv.2)
  · have cx : aMX l g nX6_fault (d - 1) [.inr (.inr (.inl (0, 0, 0))), .inl x1] z (fun x z' => x = 0 ∧ RelC z' R.2.2 ∧ fC z z') := by
      have := c.2 (by omega)
      rw [t] at this
      exact this
    refine aL_of kL_fault rfl (fun B hB => ?_)
    refine hB [] 1000 _ _ _ _ _ ?_
    repeat' (first | exact lFx t (by decide) (by assumption) (by assumption) | (intro x z2 hz2; obtain ⟨rfl, q1, q2⟩ := hz2) | refine Or.inr (Or.inl ⟨⟨Nat.le_refl _, Nat.le_refl _⟩, uX cx ?_⟩) | refine And.intro ?_ ?_ | (intro hh; first | exact absurd hh (by decide) | exact absurd rfl hh | (exfalso; omega) | skip) | fail)
    all_goals first | omega | (exact rfl)
  · have cx : aMX l g nX6_fault (d - 1) [.inr (.inr (.inl (0, 0, 0))), .inl x1] z (fun x z' => x = 1 ∧ RelC z' R.2.2 ∧ fC z z') := by
      have := c.2 (by omega)
      rw [t] at this
      exact this
    refine aL_of kL_fault rfl (fun B hB => ?_)
    refine hB [] 1000 _ _ _ _ _ ?_
    repeat' (first | exact lFx t (by decide) (by assumption) (by assumption) | (intro x z2 hz2; obtain ⟨rfl, q1, q2⟩ := hz2) | refine Or.inr (Or.inl ⟨⟨Nat.le_refl _, Nat.le_refl _⟩, uX cx ?_⟩) | refine And.intro ?_ ?_ | (intro hh; first | exact absurd hh (by decide) | exact absurd rfl hh | (exfalso; omega) | skip) | fail)
    all_goals first | omega | (exact rfl)
theorem lT_retire {R : aRes} (hd : 5 ≤ d) (c : cOp [1] l g nX6_retire (d - 1) [.inr (.inr (.inl (0, 0, 0)))] z R) (ht : R.1 = 0 ∨ R.1 = 1) (hv : R.1 = 0 → aIR R.2.1) : lOp l g nL_retire d [.inr (.inr (.inl (0, 0, 0))), .inr (.inr (.inl (18, 0, 0)))] z (lQ z R) := by
  rcases ht with t | t
  · have cm := c.1 t
    have vv := hv t
    refine aL_of kL_retire rfl (fun B hB => ?_)
    refine hB [] 1000 _ _ _ _ _ ?_
    repeat' (first | exact lF0 t rfl (by assumption) (by assumption) | (intro r z2 hz2; obtain ⟨rfl, q1, q2⟩ := hz2) | refine And.intro ?_ ?_ | (intro hh; first | exact absurd hh (by decide) | exact absurd rfl hh | (exfalso; omega) | skip) | refine Or.inl (uA cm ?_) | fail)
    all_goals first | omega | (exact rfl) | (exact vv) | (exact vv.1) | (exact vv.2)
  · have cx : aMX l g nX6_retire (d - 1) [.inr (.inr (.inl (0, 0, 0)))] z (fun x z' => x = 1 ∧ RelC z' R.2.2 ∧ fC z z') := by
      have := c.2 (by omega)
      rw [t] at this
      exact this
    refine aL_of kL_retire rfl (fun B hB => ?_)
    refine hB [] 1000 _ _ _ _ _ ?_
    repeat' (first | exact lFx t (by decide) (by assumption) (by assumption) | (intro x z2 hz2; obtain ⟨rfl, q1, q2⟩ := hz2) | refine Or.inr (Or.inl ⟨⟨Nat.le_refl _, Nat.le_refl _⟩, uX cx ?_⟩) | refine And.intro ?_ ?_ | (intro hh; first | exact absurd hh (by decide) | exact absurd rfl hh | (exfalso; omega) | skip) | fail)
    all_goals first | omega | (exact rfl)
theorem lT_legPoints {x1 : Int} {R : aRes} (hd : 5 ≤ d) (c : cOp [2] l g nX6_legPoints (d - 1) [.inr (.inr (.inl (0, 0, 0))), .inl x1] z R) (ht : R.1 = 0 ∨ R.1 = 1) (hv : R.1 = 0 → aIR R.2.1) : lOp l g nL_legPoints d [.inr (.inr (.inl (0, 0, 0))), .inl x1, .inr (.inr (.inl (18, 0, 0)))] z (lQ z R) := by
  rcases ht with t | t
  · have cm := c.1 t
    have vv := hv t
    refine aL_of kL_legPoints rfl (fun B hB => ?_)
    refine hB [] 1000 _ _ _ _ _ ?_
    repeat' (first | exact lF0 t rfl (by assumption) (by assumption) | (intro r z2 hz2; obtain ⟨rfl, q1, q2⟩ := hz2) | refine And.intro ?_ ?_ | (intro hh; first | exact absurd hh (by decide) | exact absurd rfl hh | (exfalso; omega) | skip) | refine Or.inl (uA cm ?_) | fail)
    all_goals first | omega | (exact rfl) | (exact vv) | (exact vv.1) | (exact vv.2)
  · have cx : aMX l g nX6_legPoints (d - 1) [.inr (.inr (.inl (0, 0, 0))), .inl x1] z (fun x z' => x = 2 ∧ RelC z' R.2.2 ∧ fC z z') := by
      have := c.2 (by omega)
      rw [t] at this
      exact this
    refine aL_of kL_legPoints rfl (fun B hB => ?_)
    refine hB [] 1000 _ _ _ _ _ ?_
    repeat' (first | exact lFx t (by decide) (by assumption) (by assumption) | (intro x z2 hz2; obtain ⟨rfl, q1, q2⟩ := hz2) | refine Or.inr (Or.inl ⟨⟨Nat.le_refl _, Nat.le_refl _⟩, uX cx ?_⟩) | refine And.intro ?_ ?_ | (intro hh; first | exact absurd hh (by decide) | exact absurd rfl hh | (exfalso; omega) | skip) | fail)
    all_goals first | omega | (exact rfl)
theorem lT_legOf {x1 : Int} {R : aRes} (hd : 5 ≤ d) (c : cOp [2] l g nX6_legOf (d - 1) [.inr (.inr (.inl (0, 0, 0))), .inl x1] z R) (ht : R.1 = 0 ∨ R.1 = 1) (hv : R.1 = 0 → aIR R.2.1) : lOp l g nL_legOf d [.inr (.inr (.inl (0, 0, 0))), .inl x1, .inr (.inr (.inl (18, 0, 0)))] z (lQ z R) := by
  rcases ht with t | t
  · have cm := c.1 t
    have vv := hv t
    refine aL_of kL_legOf rfl (fun B hB => ?_)
    refine hB [] 1000 _ _ _ _ _ ?_
    repeat' (first | exact lF0 t rfl (by assumption) (by assumption) | (intro r z2 hz2; obtain ⟨rfl, q1, q2⟩ := hz2) | refine And.intro ?_ ?_ | (intro hh; first | exact absurd hh (by decide) | exact absurd rfl hh | (exfalso; omega) | skip) | refine Or.inl (uA cm ?_) | fail)
    all_goals first | omega | (exact rfl) | (exact vv) | (exact vv.1) | (exact vv.2)
  · have cx : aMX l g nX6_legOf (d - 1) [.inr (.inr (.inl (0, 0, 0))), .inl x1] z (fun x z' => x = 2 ∧ RelC z' R.2.2 ∧ fC z z') := by
      have := c.2 (by omega)
      rw [t] at this
      exact this
    refine aL_of kL_legOf rfl (fun B hB => ?_)
    refine hB [] 1000 _ _ _ _ _ ?_
    repeat' (first | exact lFx t (by decide) (by assumption) (by assumption) | (intro x z2 hz2; obtain ⟨rfl, q1, q2⟩ := hz2) | refine Or.inr (Or.inl ⟨⟨Nat.le_refl _, Nat.le_refl _⟩, uX cx ?_⟩) | refine And.intro ?_ ?_ | (intro hh; first | exact absurd hh (by decide) | exact absurd rfl hh | (exfalso; omega) | skip) | fail)
    all_goals first | omega | (exact rfl)
theorem lT_isOnLine {x1 : Int} {R : aRes} (hd : 5 ≤ d) (c : cOp [2] l g nX6_isOnLine (d - 1) [.inr (.inr (.inl (0, 0, 0))), .inl x1] z R) (ht : R.1 = 0 ∨ R.1 = 1) (hv : R.1 = 0 → R.2.1 = 0 ∨ R.2.1 = 1) : lOp l g nL_isOnLine d [.inr (.inr (.inl (0, 0, 0))), .inl x1, .inr (.inr (.inl (18, 0, 0)))] z (lQ z R) := by
  rcases ht with t | t
  · have cm := c.1 t
    have vv := hv t
    refine aL_of kL_isOnLine rfl (fun B hB => ?_)
    refine hB [] 1000 _ _ _ _ _ ?_
    repeat' (first | exact lF0 t (by omega) (by assumption) (by assumption) | (intro r z2 hz2; obtain ⟨rfl, q1, q2⟩ := hz2) | refine And.intro ?_ ?_ | (intro hh; first | exact absurd hh (by decide) | exact absurd rfl hh | (exfalso; omega) | skip) | refine Or.inl (uA cm ?_) | fail)
    all_goals first | omega | (exact rfl) | (exact vv) | (exact vv.1) | (exact vv.2)
  · have cx : aMX l g nX6_isOnLine (d - 1) [.inr (.inr (.inl (0, 0, 0))), .inl x1] z (fun x z' => x = 2 ∧ RelC z' R.2.2 ∧ fC z z') := by
      have := c.2 (by omega)
      rw [t] at this
      exact this
    refine aL_of kL_isOnLine rfl (fun B hB => ?_)
    refine hB [] 1000 _ _ _ _ _ ?_
    repeat' (first | exact lFx t (by decide) (by assumption) (by assumption) | (intro x z2 hz2; obtain ⟨rfl, q1, q2⟩ := hz2) | refine Or.inr (Or.inl ⟨⟨Nat.le_refl _, Nat.le_refl _⟩, uX cx ?_⟩) | refine And.intro ?_ ?_ | (intro hh; first | exact absurd hh (by decide) | exact absurd rfl hh | (exfalso; omega) | skip) | fail)
    all_goals first | omega | (exact rfl)
theorem lT_presentLeg {R : aRes} (hd : 5 ≤ d) (c : cOp [1] l g nX6_presentLeg (d - 1) [.inr (.inr (.inl (0, 0, 0)))] z R) (ht : R.1 = 0 ∨ R.1 = 1) (hv : R.1 = 0 → aIR R.2.1) : lOp l g nL_presentLeg d [.inr (.inr (.inl (0, 0, 0))), .inr (.inr (.inl (18, 0, 0)))] z (lQ z R) := by
  rcases ht with t | t
  · have cm := c.1 t
    have vv := hv t
    refine aL_of kL_presentLeg rfl (fun B hB => ?_)
    refine hB [] 1000 _ _ _ _ _ ?_
    repeat' (first | exact lF0 t rfl (by assumption) (by assumption) | (intro r z2 hz2; obtain ⟨rfl, q1, q2⟩ := hz2) | refine And.intro ?_ ?_ | (intro hh; first | exact absurd hh (by decide) | exact absurd rfl hh | (exfalso; omega) | skip) | refine Or.inl (uA cm ?_) | fail)
    all_goals first | omega | (exact rfl) | (exact vv) | (exact vv.1) | (exact vv.2)
  · have cx : aMX l g nX6_presentLeg (d - 1) [.inr (.inr (.inl (0, 0, 0)))] z (fun x z' => x = 1 ∧ RelC z' R.2.2 ∧ fC z z') := by
      have := c.2 (by omega)
      rw [t] at this
      exact this
    refine aL_of kL_presentLeg rfl (fun B hB => ?_)
    refine hB [] 1000 _ _ _ _ _ ?_
    repeat' (first | exact lFx t (by decide) (by assumption) (by assumption) | (intro x z2 hz2; obtain ⟨rfl, q1, q2⟩ := hz2) | refine Or.inr (Or.inl ⟨⟨Nat.le_refl _, Nat.le_refl _⟩, uX cx ?_⟩) | refine And.intro ?_ ?_ | (intro hh; first | exact absurd hh (by decide) | exact absurd rfl hh | (exfalso; omega) | skip) | fail)
    all_goals first | omega | (exact rfl)
theorem lT_flockX {R : aRes} (hd : 5 ≤ d) (c : cOp [1] l g nX6_flockX (d - 1) [.inr (.inr (.inl (0, 0, 0)))] z R) (ht : R.1 = 0 ∨ R.1 = 1) (hv : R.1 = 0 → aIR R.2.1) : lOp l g nL_flockX d [.inr (.inr (.inl (0, 0, 0))), .inr (.inr (.inl (18, 0, 0)))] z (lQ z R) := by
  rcases ht with t | t
  · have cm := c.1 t
    have vv := hv t
    refine aL_of kL_flockX rfl (fun B hB => ?_)
    refine hB [] 1000 _ _ _ _ _ ?_
    repeat' (first | exact lF0 t rfl (by assumption) (by assumption) | (intro r z2 hz2; obtain ⟨rfl, q1, q2⟩ := hz2) | refine And.intro ?_ ?_ | (intro hh; first | exact absurd hh (by decide) | exact absurd rfl hh | (exfalso; omega) | skip) | refine Or.inl (uA cm ?_) | fail)
    all_goals first | omega | (exact rfl) | (exact vv) | (exact vv.1) | (exact vv.2)
  · have cx : aMX l g nX6_flockX (d - 1) [.inr (.inr (.inl (0, 0, 0)))] z (fun x z' => x = 1 ∧ RelC z' R.2.2 ∧ fC z z') := by
      have := c.2 (by omega)
      rw [t] at this
      exact this
    refine aL_of kL_flockX rfl (fun B hB => ?_)
    refine hB [] 1000 _ _ _ _ _ ?_
    repeat' (first | exact lFx t (by decide) (by assumption) (by assumption) | (intro x z2 hz2; obtain ⟨rfl, q1, q2⟩ := hz2) | refine Or.inr (Or.inl ⟨⟨Nat.le_refl _, Nat.le_refl _⟩, uX cx ?_⟩) | refine And.intro ?_ ?_ | (intro hh; first | exact absurd hh (by decide) | exact absurd rfl hh | (exfalso; omega) | skip) | fail)
    all_goals first | omega | (exact rfl)
theorem lT_flockY {R : aRes} (hd : 5 ≤ d) (c : cOp [1] l g nX6_flockY (d - 1) [.inr (.inr (.inl (0, 0, 0)))] z R) (ht : R.1 = 0 ∨ R.1 = 1) (hv : R.1 = 0 → aIR R.2.1) : lOp l g nL_flockY d [.inr (.inr (.inl (0, 0, 0))), .inr (.inr (.inl (18, 0, 0)))] z (lQ z R) := by
  rcases ht with t | t
  · have cm := c.1 t
    have vv := hv t
    refine aL_of kL_flockY rfl (fun B hB => ?_)
    refine hB [] 1000 _ _ _ _ _ ?_
    repeat' (first | exact lF0 t rfl (by assumption) (by assumption) | (intro r z2 hz2; obtain ⟨rfl, q1, q2⟩ := hz2) | refine And.intro ?_ ?_ | (intro hh; first | exact absurd hh (by decide) | exact absurd rfl hh | (exfalso; omega) | skip) | refine Or.inl (uA cm ?_) | fail)
    all_goals first | omega | (exact rfl) | (exact vv) | (exact vv.1) | (exact vv.2)
  · have cx : aMX l g nX6_flockY (d - 1) [.inr (.inr (.inl (0, 0, 0)))] z (fun x z' => x = 1 ∧ RelC z' R.2.2 ∧ fC z z') := by
      have := c.2 (by omega)
      rw [t] at this
      exact this
    refine aL_of kL_flockY rfl (fun B hB => ?_)
    refine hB [] 1000 _ _ _ _ _ ?_
    repeat' (first | exact lFx t (by decide) (by assumption) (by assumption) | (intro x z2 hz2; obtain ⟨rfl, q1, q2⟩ := hz2) | refine Or.inr (Or.inl ⟨⟨Nat.le_refl _, Nat.le_refl _⟩, uX cx ?_⟩) | refine And.intro ?_ ?_ | (intro hh; first | exact absurd hh (by decide) | exact absurd rfl hh | (exfalso; omega) | skip) | fail)
    all_goals first | omega | (exact rfl)
theorem lT_nextGate {R : aRes} (hd : 5 ≤ d) (c : cOp [1, 3] l g nX6_nextGate (d - 1) [.inr (.inr (.inl (0, 0, 0)))] z R) (ht : R.1 = 0 ∨ R.1 = 1 ∨ R.1 = 2) (hv : R.1 = 0 → aIR R.2.1) : lOp l g nL_nextGate d [.inr (.inr (.inl (0, 0, 0))), .inr (.inr (.inl (18, 0, 0)))] z (lQ z R) := by
  rcases ht with t | t | t
  · have cm := c.1 t
    have vv := hv t
    refine aL_of kL_nextGate rfl (fun B hB => ?_)
    refine hB [] 1000 _ _ _ _ _ ?_
    repeat' (first | exact lF0 t rfl (by assumption) (by assumption) | (intro r z2 hz2; obtain ⟨rfl, q1, q2⟩ := hz2) | refine And.intro ?_ ?_ | (intro hh; first | exact absurd hh (by decide) | exact absurd rfl hh | (exfalso; omega) | skip) | refine Or.inl (uA cm ?_) | fail)
    all_goals first | omega | (exact rfl) | (exact vv) | (exact vv.1) | (exact vv.2)
  · have cx : aMX l g nX6_nextGate (d - 1) [.inr (.inr (.inl (0, 0, 0)))] z (fun x z' => x = 1 ∧ RelC z' R.2.2 ∧ fC z z') := by
      have := c.2 (by omega)
      rw [t] at this
      exact this
    refine aL_of kL_nextGate rfl (fun B hB => ?_)
    refine hB [] 1000 _ _ _ _ _ ?_
    repeat' (first | exact lFx t (by decide) (by assumption) (by assumption) | (intro x z2 hz2; obtain ⟨rfl, q1, q2⟩ := hz2) | refine Or.inr (Or.inl ⟨⟨Nat.le_refl _, Nat.le_refl _⟩, uX cx ?_⟩) | refine And.intro ?_ ?_ | (intro hh; first | exact absurd hh (by decide) | exact absurd rfl hh | (exfalso; omega) | skip) | fail)
    all_goals first | omega | (exact rfl)
  · have cx : aMX l g nX6_nextGate (d - 1) [.inr (.inr (.inl (0, 0, 0)))] z (fun x z' => x = 3 ∧ RelC z' R.2.2 ∧ fC z z') := by
      have := c.2 (by omega)
      rw [t] at this
      exact this
    refine aL_of kL_nextGate rfl (fun B hB => ?_)
    refine hB [] 1000 _ _ _ _ _ ?_
    repeat' (first | exact lFx t (by decide) (by assumption) (by assumption) | (intro x z2 hz2; obtain ⟨rfl, q1, q2⟩ := hz2) | refine Or.inr (Or.inl ⟨⟨Nat.le_refl _, Nat.le_refl _⟩, uX cx ?_⟩) | refine And.intro ?_ ?_ | (intro hh; first | exact absurd hh (by decide) | exact absurd rfl hh | (exfalso; omega) | skip) | fail)
    all_goals first | omega | (exact rfl)
theorem lT_gatesPassedTo {x1 x2 : Int} {R : aRes} (hd : 5 ≤ d) (c : cOp [0, 1] l g nX6_gatesPassedTo (d - 1) [.inr (.inr (.inl (0, 0, 0))), .inl x1, .inl x2] z R) (ht : R.1 = 0 ∨ R.1 = 1 ∨ R.1 = 2) (hv : R.1 = 0 → aIR R.2.1) : lOp l g nL_gatesPassedTo d [.inr (.inr (.inl (0, 0, 0))), .inl x1, .inl x2, .inr (.inr (.inl (18, 0, 0)))] z (lQ z R) := by
  rcases ht with t | t | t
  · have cm := c.1 t
    have vv := hv t
    refine aL_of kL_gatesPassedTo rfl (fun B hB => ?_)
    refine hB [] 1000 _ _ _ _ _ ?_
    repeat' (first | exact lF0 t rfl (by assumption) (by assumption) | (intro r z2 hz2; obtain ⟨rfl, q1, q2⟩ := hz2) | refine And.intro ?_ ?_ | (intro hh; first | exact absurd hh (by decide) | exact absurd rfl hh | (exfalso; omega) | skip) | refine Or.inl (uA cm ?_) | fail)
    all_goals first | omega | (exact rfl) | (exact vv) | (exact vv.1) | (exact vv.2)
  · have cx : aMX l g nX6_gatesPassedTo (d - 1) [.inr (.inr (.inl (0, 0, 0))), .inl x1, .inl x2] z (fun x z' => x = 0 ∧ RelC z' R.2.2 ∧ fC z z') := by
      have := c.2 (by omega)
      rw [t] at this
      exact this
    refine aL_of kL_gatesPassedTo rfl (fun B hB => ?_)
    refine hB [] 1000 _ _ _ _ _ ?_
    repeat' (first | exact lFx t (by decide) (by assumption) (by assumption) | (intro x z2 hz2; obtain ⟨rfl, q1, q2⟩ := hz2) | refine Or.inr (Or.inl ⟨⟨Nat.le_refl _, Nat.le_refl _⟩, uX cx ?_⟩) | refine And.intro ?_ ?_ | (intro hh; first | exact absurd hh (by decide) | exact absurd rfl hh | (exfalso; omega) | skip) | fail)
    all_goals first | omega | (exact rfl)
  · have cx : aMX l g nX6_gatesPassedTo (d - 1) [.inr (.inr (.inl (0, 0, 0))), .inl x1, .inl x2] z (fun x z' => x = 1 ∧ RelC z' R.2.2 ∧ fC z z') := by
      have := c.2 (by omega)
      rw [t] at this
      exact this
    refine aL_of kL_gatesPassedTo rfl (fun B hB => ?_)
    refine hB [] 1000 _ _ _ _ _ ?_
    repeat' (first | exact lFx t (by decide) (by assumption) (by assumption) | (intro x z2 hz2; obtain ⟨rfl, q1, q2⟩ := hz2) | refine Or.inr (Or.inl ⟨⟨Nat.le_refl _, Nat.le_refl _⟩, uX cx ?_⟩) | refine And.intro ?_ ?_ | (intro hh; first | exact absurd hh (by decide) | exact absurd rfl hh | (exfalso; omega) | skip) | fail)
    all_goals first | omega | (exact rfl)
theorem lT_isOffLine {x1 x2 : Int} {R : aRes} (hd : 5 ≤ d) (c : cOp [0, 1] l g nX6_isOffLine (d - 1) [.inr (.inr (.inl (0, 0, 0))), .inl x1, .inl x2] z R) (ht : R.1 = 0 ∨ R.1 = 1 ∨ R.1 = 2) (hv : R.1 = 0 → R.2.1 = 0 ∨ R.2.1 = 1) : lOp l g nL_isOffLine d [.inr (.inr (.inl (0, 0, 0))), .inl x1, .inl x2, .inr (.inr (.inl (18, 0, 0)))] z (lQ z R) := by
  rcases ht with t | t | t
  · have cm := c.1 t
    have vv := hv t
    refine aL_of kL_isOffLine rfl (fun B hB => ?_)
    refine hB [] 1000 _ _ _ _ _ ?_
    repeat' (first | exact lF0 t (by omega) (by assumption) (by assumption) | (intro r z2 hz2; obtain ⟨rfl, q1, q2⟩ := hz2) | refine And.intro ?_ ?_ | (intro hh; first | exact absurd hh (by decide) | exact absurd rfl hh | (exfalso; omega) | skip) | refine Or.inl (uA cm ?_) | fail)
    all_goals first | omega | (exact rfl) | (exact vv) | (exact vv.1) | (exact vv.2)
  · have cx : aMX l g nX6_isOffLine (d - 1) [.inr (.inr (.inl (0, 0, 0))), .inl x1, .inl x2] z (fun x z' => x = 0 ∧ RelC z' R.2.2 ∧ fC z z') := by
      have := c.2 (by omega)
      rw [t] at this
      exact this
    refine aL_of kL_isOffLine rfl (fun B hB => ?_)
    refine hB [] 1000 _ _ _ _ _ ?_
    repeat' (first | exact lFx t (by decide) (by assumption) (by assumption) | (intro x z2 hz2; obtain ⟨rfl, q1, q2⟩ := hz2) | refine Or.inr (Or.inl ⟨⟨Nat.le_refl _, Nat.le_refl _⟩, uX cx ?_⟩) | refine And.intro ?_ ?_ | (intro hh; first | exact absurd hh (by decide) | exact absurd rfl hh | (exfalso; omega) | skip) | fail)
    all_goals first | omega | (exact rfl)
  · have cx : aMX l g nX6_isOffLine (d - 1) [.inr (.inr (.inl (0, 0, 0))), .inl x1, .inl x2] z (fun x z' => x = 1 ∧ RelC z' R.2.2 ∧ fC z z') := by
      have := c.2 (by omega)
      rw [t] at this
      exact this
    refine aL_of kL_isOffLine rfl (fun B hB => ?_)
    refine hB [] 1000 _ _ _ _ _ ?_
    repeat' (first | exact lFx t (by decide) (by assumption) (by assumption) | (intro x z2 hz2; obtain ⟨rfl, q1, q2⟩ := hz2) | refine Or.inr (Or.inl ⟨⟨Nat.le_refl _, Nat.le_refl _⟩, uX cx ?_⟩) | refine And.intro ?_ ?_ | (intro hh; first | exact absurd hh (by decide) | exact absurd rfl hh | (exfalso; omega) | skip) | fail)
    all_goals first | omega | (exact rfl)
theorem lT_lossOfStep {x1 x2 x3 : Int} {R : aRes} (hd : 5 ≤ d) (c : cOp [0, 1] l g nX6_lossOfStep (d - 1) [.inr (.inr (.inl (0, 0, 0))), .inl x1, .inl x2, .inl x3] z R) (ht : R.1 = 0 ∨ R.1 = 1 ∨ R.1 = 2) (hv : R.1 = 0 → aIR R.2.1) : lOp l g nL_lossOfStep d [.inr (.inr (.inl (0, 0, 0))), .inl x1, .inl x2, .inl x3, .inr (.inr (.inl (18, 0, 0)))] z (lQ z R) := by
  rcases ht with t | t | t
  · have cm := c.1 t
    have vv := hv t
    refine aL_of kL_lossOfStep rfl (fun B hB => ?_)
    refine hB [] 1000 _ _ _ _ _ ?_
    repeat' (first | exact lF0 t rfl (by assumption) (by assumption) | (intro r z2 hz2; obtain ⟨rfl, q1, q2⟩ := hz2) | refine And.intro ?_ ?_ | (intro hh; first | exact absurd hh (by decide) | exact absurd rfl hh | (exfalso; omega) | skip) | refine Or.inl (uA cm ?_) | fail)
    all_goals first | omega | (exact rfl) | (exact vv) | (exact vv.1) | (exact vv.2)
  · have cx : aMX l g nX6_lossOfStep (d - 1) [.inr (.inr (.inl (0, 0, 0))), .inl x1, .inl x2, .inl x3] z (fun x z' => x = 0 ∧ RelC z' R.2.2 ∧ fC z z') := by
      have := c.2 (by omega)
      rw [t] at this
      exact this
    refine aL_of kL_lossOfStep rfl (fun B hB => ?_)
    refine hB [] 1000 _ _ _ _ _ ?_
    repeat' (first | exact lFx t (by decide) (by assumption) (by assumption) | (intro x z2 hz2; obtain ⟨rfl, q1, q2⟩ := hz2) | refine Or.inr (Or.inl ⟨⟨Nat.le_refl _, Nat.le_refl _⟩, uX cx ?_⟩) | refine And.intro ?_ ?_ | (intro hh; first | exact absurd hh (by decide) | exact absurd rfl hh | (exfalso; omega) | skip) | fail)
    all_goals first | omega | (exact rfl)
  · have cx : aMX l g nX6_lossOfStep (d - 1) [.inr (.inr (.inl (0, 0, 0))), .inl x1, .inl x2, .inl x3] z (fun x z' => x = 1 ∧ RelC z' R.2.2 ∧ fC z z') := by
      have := c.2 (by omega)
      rw [t] at this
      exact this
    refine aL_of kL_lossOfStep rfl (fun B hB => ?_)
    refine hB [] 1000 _ _ _ _ _ ?_
    repeat' (first | exact lFx t (by decide) (by assumption) (by assumption) | (intro x z2 hz2; obtain ⟨rfl, q1, q2⟩ := hz2) | refine Or.inr (Or.inl ⟨⟨Nat.le_refl _, Nat.le_refl _⟩, uX cx ?_⟩) | refine And.intro ?_ ?_ | (intro hh; first | exact absurd hh (by decide) | exact absurd rfl hh | (exfalso; omega) | skip) | fail)
    all_goals first | omega | (exact rfl)
theorem lT_isComplete {x1 : Int} {R : aRes} (hd : 5 ≤ d) (c : cOp [2] l g nX6_isComplete (d - 1) [.inr (.inr (.inl (0, 0, 0))), .inl x1] z R) (ht : R.1 = 0 ∨ R.1 = 1) (hv : R.1 = 0 → R.2.1 = 0 ∨ R.2.1 = 1) : lOp l g nL_isComplete d [.inr (.inr (.inl (0, 0, 0))), .inl x1, .inr (.inr (.inl (18, 0, 0)))] z (lQ z R) := by
  rcases ht with t | t
  · have cm := c.1 t
    have vv := hv t
    refine aL_of kL_isComplete rfl (fun B hB => ?_)
    refine hB [] 1000 _ _ _ _ _ ?_
    repeat' (first | exact lF0 t (by omega) (by assumption) (by assumption) | (intro r z2 hz2; obtain ⟨rfl, q1, q2⟩ := hz2) | refine And.intro ?_ ?_ | (intro hh; first | exact absurd hh (by decide) | exact absurd rfl hh | (exfalso; omega) | skip) | refine Or.inl (uA cm ?_) | fail)
    all_goals first | omega | (exact rfl) | (exact vv) | (exact vv.1) | (exact vv.2)
  · have cx : aMX l g nX6_isComplete (d - 1) [.inr (.inr (.inl (0, 0, 0))), .inl x1] z (fun x z' => x = 2 ∧ RelC z' R.2.2 ∧ fC z z') := by
      have := c.2 (by omega)
      rw [t] at this
      exact this
    refine aL_of kL_isComplete rfl (fun B hB => ?_)
    refine hB [] 1000 _ _ _ _ _ ?_
    repeat' (first | exact lFx t (by decide) (by assumption) (by assumption) | (intro x z2 hz2; obtain ⟨rfl, q1, q2⟩ := hz2) | refine Or.inr (Or.inl ⟨⟨Nat.le_refl _, Nat.le_refl _⟩, uX cx ?_⟩) | refine And.intro ?_ ?_ | (intro hh; first | exact absurd hh (by decide) | exact absurd rfl hh | (exfalso; omega) | skip) | fail)
    all_goals first | omega | (exact rfl)
theorem lT_time {x1 : Int} {R : aRes} (hd : 5 ≤ d) (c : cOp [2] l g nX6_time (d - 1) [.inr (.inr (.inl (0, 0, 0))), .inl x1] z R) (ht : R.1 = 0 ∨ R.1 = 1) (hv : R.1 = 0 → aIR R.2.1) : lOp l g nL_time d [.inr (.inr (.inl (0, 0, 0))), .inl x1, .inr (.inr (.inl (18, 0, 0)))] z (lQ z R) := by
  rcases ht with t | t
  · have cm := c.1 t
    have vv := hv t
    refine aL_of kL_time rfl (fun B hB => ?_)
    refine hB [] 1000 _ _ _ _ _ ?_
    repeat' (first | exact lF0 t rfl (by assumption) (by assumption) | (intro r z2 hz2; obtain ⟨rfl, q1, q2⟩ := hz2) | refine And.intro ?_ ?_ | (intro hh; first | exact absurd hh (by decide) | exact absurd rfl hh | (exfalso; omega) | skip) | refine Or.inl (uA cm ?_) | fail)
    all_goals first | omega | (exact rfl) | (exact vv) | (exact vv.1) | (exact vv.2)
  · have cx : aMX l g nX6_time (d - 1) [.inr (.inr (.inl (0, 0, 0))), .inl x1] z (fun x z' => x = 2 ∧ RelC z' R.2.2 ∧ fC z z') := by
      have := c.2 (by omega)
      rw [t] at this
      exact this
    refine aL_of kL_time rfl (fun B hB => ?_)
    refine hB [] 1000 _ _ _ _ _ ?_
    repeat' (first | exact lFx t (by decide) (by assumption) (by assumption) | (intro x z2 hz2; obtain ⟨rfl, q1, q2⟩ := hz2) | refine Or.inr (Or.inl ⟨⟨Nat.le_refl _, Nat.le_refl _⟩, uX cx ?_⟩) | refine And.intro ?_ ?_ | (intro hh; first | exact absurd hh (by decide) | exact absurd rfl hh | (exfalso; omega) | skip) | fail)
    all_goals first | omega | (exact rfl)
theorem lT_hasPassed {x1 x2 : Int} {R : aRes} (hd : 5 ≤ d) (c : cOp [2] l g nX6_hasPassed (d - 1) [.inr (.inr (.inl (0, 0, 0))), .inl x1, .inl x2] z R) (ht : R.1 = 0 ∨ R.1 = 1) (hv : R.1 = 0 → R.2.1 = 0 ∨ R.2.1 = 1) : lOp l g nL_hasPassed d [.inr (.inr (.inl (0, 0, 0))), .inl x1, .inl x2, .inr (.inr (.inl (18, 0, 0)))] z (lQ z R) := by
  rcases ht with t | t
  · have cm := c.1 t
    have vv := hv t
    refine aL_of kL_hasPassed rfl (fun B hB => ?_)
    refine hB [] 1000 _ _ _ _ _ ?_
    repeat' (first | exact lF0 t (by omega) (by assumption) (by assumption) | (intro r z2 hz2; obtain ⟨rfl, q1, q2⟩ := hz2) | refine And.intro ?_ ?_ | (intro hh; first | exact absurd hh (by decide) | exact absurd rfl hh | (exfalso; omega) | skip) | refine Or.inl (uA cm ?_) | fail)
    all_goals first | omega | (exact rfl) | (exact vv) | (exact vv.1) | (exact vv.2)
  · have cx : aMX l g nX6_hasPassed (d - 1) [.inr (.inr (.inl (0, 0, 0))), .inl x1, .inl x2] z (fun x z' => x = 2 ∧ RelC z' R.2.2 ∧ fC z z') := by
      have := c.2 (by omega)
      rw [t] at this
      exact this
    refine aL_of kL_hasPassed rfl (fun B hB => ?_)
    refine hB [] 1000 _ _ _ _ _ ?_
    repeat' (first | exact lFx t (by decide) (by assumption) (by assumption) | (intro x z2 hz2; obtain ⟨rfl, q1, q2⟩ := hz2) | refine Or.inr (Or.inl ⟨⟨Nat.le_refl _, Nat.le_refl _⟩, uX cx ?_⟩) | refine And.intro ?_ ?_ | (intro hh; first | exact absurd hh (by decide) | exact absurd rfl hh | (exfalso; omega) | skip) | fail)
    all_goals first | omega | (exact rfl)
theorem lT_pointsOn {x1 x2 : Int} {R : aRes} (hd : 5 ≤ d) (c : cOp [2] l g nX6_pointsOn (d - 1) [.inr (.inr (.inl (0, 0, 0))), .inl x1, .inl x2] z R) (ht : R.1 = 0 ∨ R.1 = 1) (hv : R.1 = 0 → aIR R.2.1) : lOp l g nL_pointsOn d [.inr (.inr (.inl (0, 0, 0))), .inl x1, .inl x2, .inr (.inr (.inl (18, 0, 0)))] z (lQ z R) := by
  rcases ht with t | t
  · have cm := c.1 t
    have vv := hv t
    refine aL_of kL_pointsOn rfl (fun B hB => ?_)
    refine hB [] 1000 _ _ _ _ _ ?_
    repeat' (first | exact lF0 t rfl (by assumption) (by assumption) | (intro r z2 hz2; obtain ⟨rfl, q1, q2⟩ := hz2) | refine And.intro ?_ ?_ | (intro hh; first | exact absurd hh (by decide) | exact absurd rfl hh | (exfalso; omega) | skip) | refine Or.inl (uA cm ?_) | fail)
    all_goals first | omega | (exact rfl) | (exact vv) | (exact vv.1) | (exact vv.2)
  · have cx : aMX l g nX6_pointsOn (d - 1) [.inr (.inr (.inl (0, 0, 0))), .inl x1, .inl x2] z (fun x z' => x = 2 ∧ RelC z' R.2.2 ∧ fC z z') := by
      have := c.2 (by omega)
      rw [t] at this
      exact this
    refine aL_of kL_pointsOn rfl (fun B hB => ?_)
    refine hB [] 1000 _ _ _ _ _ ?_
    repeat' (first | exact lFx t (by decide) (by assumption) (by assumption) | (intro x z2 hz2; obtain ⟨rfl, q1, q2⟩ := hz2) | refine Or.inr (Or.inl ⟨⟨Nat.le_refl _, Nat.le_refl _⟩, uX cx ?_⟩) | refine And.intro ?_ ?_ | (intro hh; first | exact absurd hh (by decide) | exact absurd rfl hh | (exfalso; omega) | skip) | fail)
    all_goals first | omega | (exact rfl)
theorem lT_score {x1 : Int} {R : aRes} (hd : 5 ≤ d) (c : cOp [2] l g nX6_score (d - 1) [.inr (.inr (.inl (0, 0, 0))), .inl x1] z R) (ht : R.1 = 0 ∨ R.1 = 1) (hv : R.1 = 0 → aIR R.2.1) : lOp l g nL_score d [.inr (.inr (.inl (0, 0, 0))), .inl x1, .inr (.inr (.inl (18, 0, 0)))] z (lQ z R) := by
  rcases ht with t | t
  · have cm := c.1 t
    have vv := hv t
    refine aL_of kL_score rfl (fun B hB => ?_)
    refine hB [] 1000 _ _ _ _ _ ?_
    repeat' (first | exact lF0 t rfl (by assumption) (by assumption) | (intro r z2 hz2; obtain ⟨rfl, q1, q2⟩ := hz2) | refine And.intro ?_ ?_ | (intro hh; first | exact absurd hh (by decide) | exact absurd rfl hh | (exfalso; omega) | skip) | refine Or.inl (uA cm ?_) | fail)
    all_goals first | omega | (exact rfl) | (exact vv) | (exact vv.1) | (exact vv.2)
  · have cx : aMX l g nX6_score (d - 1) [.inr (.inr (.inl (0, 0, 0))), .inl x1] z (fun x z' => x = 2 ∧ RelC z' R.2.2 ∧ fC z z') := by
      have := c.2 (by omega)
      rw [t] at this
      exact this
    refine aL_of kL_score rfl (fun B hB => ?_)
    refine hB [] 1000 _ _ _ _ _ ?_
    repeat' (first | exact lFx t (by decide) (by assumption) (by assumption) | (intro x z2 hz2; obtain ⟨rfl, q1, q2⟩ := hz2) | refine Or.inr (Or.inl ⟨⟨Nat.le_refl _, Nat.le_refl _⟩, uX cx ?_⟩) | refine And.intro ?_ ?_ | (intro hh; first | exact absurd hh (by decide) | exact absurd rfl hh | (exfalso; omega) | skip) | fail)
    all_goals first | omega | (exact rfl)
theorem lT_scoreByLosses {x1 : Int} {R : aRes} (hd : 5 ≤ d) (c : cOp [2] l g nX6_scoreByLosses (d - 1) [.inr (.inr (.inl (0, 0, 0))), .inl x1] z R) (ht : R.1 = 0 ∨ R.1 = 1) (hv : R.1 = 0 → aIR R.2.1) : lOp l g nL_scoreByLosses d [.inr (.inr (.inl (0, 0, 0))), .inl x1, .inr (.inr (.inl (18, 0, 0)))] z (lQ z R) := by
  rcases ht with t | t
  · have cm := c.1 t
    have vv := hv t
    refine aL_of kL_scoreByLosses rfl (fun B hB => ?_)
    refine hB [] 1000 _ _ _ _ _ ?_
    repeat' (first | exact lF0 t rfl (by assumption) (by assumption) | (intro r z2 hz2; obtain ⟨rfl, q1, q2⟩ := hz2) | refine And.intro ?_ ?_ | (intro hh; first | exact absurd hh (by decide) | exact absurd rfl hh | (exfalso; omega) | skip) | refine Or.inl (uA cm ?_) | fail)
    all_goals first | omega | (exact rfl) | (exact vv) | (exact vv.1) | (exact vv.2)
  · have cx : aMX l g nX6_scoreByLosses (d - 1) [.inr (.inr (.inl (0, 0, 0))), .inl x1] z (fun x z' => x = 2 ∧ RelC z' R.2.2 ∧ fC z z') := by
      have := c.2 (by omega)
      rw [t] at this
      exact this
    refine aL_of kL_scoreByLosses rfl (fun B hB => ?_)
    refine hB [] 1000 _ _ _ _ _ ?_
    repeat' (first | exact lFx t (by decide) (by assumption) (by assumption) | (intro x z2 hz2; obtain ⟨rfl, q1, q2⟩ := hz2) | refine Or.inr (Or.inl ⟨⟨Nat.le_refl _, Nat.le_refl _⟩, uX cx ?_⟩) | refine And.intro ?_ ?_ | (intro hh; first | exact absurd hh (by decide) | exact absurd rfl hh | (exfalso; omega) | skip) | fail)
    all_goals first | omega | (exact rfl)
theorem lT_lineLoss {x1 : Int} {R : aRes} (hd : 5 ≤ d) (c : cOp [2] l g nX6_lineLoss (d - 1) [.inr (.inr (.inl (0, 0, 0))), .inl x1] z R) (ht : R.1 = 0 ∨ R.1 = 1) (hv : R.1 = 0 → aIR R.2.1) : lOp l g nL_lineLoss d [.inr (.inr (.inl (0, 0, 0))), .inl x1, .inr (.inr (.inl (18, 0, 0)))] z (lQ z R) := by
  rcases ht with t | t
  · have cm := c.1 t
    have vv := hv t
    refine aL_of kL_lineLoss rfl (fun B hB => ?_)
    refine hB [] 1000 _ _ _ _ _ ?_
    repeat' (first | exact lF0 t rfl (by assumption) (by assumption) | (intro r z2 hz2; obtain ⟨rfl, q1, q2⟩ := hz2) | refine And.intro ?_ ?_ | (intro hh; first | exact absurd hh (by decide) | exact absurd rfl hh | (exfalso; omega) | skip) | refine Or.inl (uA cm ?_) | fail)
    all_goals first | omega | (exact rfl) | (exact vv) | (exact vv.1) | (exact vv.2)
  · have cx : aMX l g nX6_lineLoss (d - 1) [.inr (.inr (.inl (0, 0, 0))), .inl x1] z (fun x z' => x = 2 ∧ RelC z' R.2.2 ∧ fC z z') := by
      have := c.2 (by omega)
      rw [t] at this
      exact this
    refine aL_of kL_lineLoss rfl (fun B hB => ?_)
    refine hB [] 1000 _ _ _ _ _ ?_
    repeat' (first | exact lFx t (by decide) (by assumption) (by assumption) | (intro x z2 hz2; obtain ⟨rfl, q1, q2⟩ := hz2) | refine Or.inr (Or.inl ⟨⟨Nat.le_refl _, Nat.le_refl _⟩, uX cx ?_⟩) | refine And.intro ?_ ?_ | (intro hh; first | exact absurd hh (by decide) | exact absurd rfl hh | (exfalso; omega) | skip) | fail)
    all_goals first | omega | (exact rfl)
theorem lT_gateLoss {x1 : Int} {R : aRes} (hd : 5 ≤ d) (c : cOp [2] l g nX6_gateLoss (d - 1) [.inr (.inr (.inl (0, 0, 0))), .inl x1] z R) (ht : R.1 = 0 ∨ R.1 = 1) (hv : R.1 = 0 → aIR R.2.1) : lOp l g nL_gateLoss d [.inr (.inr (.inl (0, 0, 0))), .inl x1, .inr (.inr (.inl (18, 0, 0)))] z (lQ z R) := by
  rcases ht with t | t
  · have cm := c.1 t
    have vv := hv t
    refine aL_of kL_gateLoss rfl (fun B hB => ?_)
    refine hB [] 1000 _ _ _ _ _ ?_
    repeat' (first | exact lF0 t rfl (by assumption) (by assumption) | (intro r z2 hz2; obtain ⟨rfl, q1, q2⟩ := hz2) | refine And.intro ?_ ?_ | (intro hh; first | exact absurd hh (by decide) | exact absurd rfl hh | (exfalso; omega) | skip) | refine Or.inl (uA cm ?_) | fail)
    all_goals first | omega | (exact rfl) | (exact vv) | (exact vv.1) | (exact vv.2)
  · have cx : aMX l g nX6_gateLoss (d - 1) [.inr (.inr (.inl (0, 0, 0))), .inl x1] z (fun x z' => x = 2 ∧ RelC z' R.2.2 ∧ fC z z') := by
      have := c.2 (by omega)
      rw [t] at this
      exact this
    refine aL_of kL_gateLoss rfl (fun B hB => ?_)
    refine hB [] 1000 _ _ _ _ _ ?_
    repeat' (first | exact lFx t (by decide) (by assumption) (by assumption) | (intro x z2 hz2; obtain ⟨rfl, q1, q2⟩ := hz2) | refine Or.inr (Or.inl ⟨⟨Nat.le_refl _, Nat.le_refl _⟩, uX cx ?_⟩) | refine And.intro ?_ ?_ | (intro hh; first | exact absurd hh (by decide) | exact absurd rfl hh | (exfalso; omega) | skip) | fail)
    all_goals first | omega | (exact rfl)
theorem lT_faultLoss {x1 : Int} {R : aRes} (hd : 5 ≤ d) (c : cOp [2] l g nX6_faultLoss (d - 1) [.inr (.inr (.inl (0, 0, 0))), .inl x1] z R) (ht : R.1 = 0 ∨ R.1 = 1) (hv : R.1 = 0 → aIR R.2.1) : lOp l g nL_faultLoss d [.inr (.inr (.inl (0, 0, 0))), .inl x1, .inr (.inr (.inl (18, 0, 0)))] z (lQ z R) := by
  rcases ht with t | t
  · have cm := c.1 t
    have vv := hv t
    refine aL_of kL_faultLoss rfl (fun B hB => ?_)
    refine hB [] 1000 _ _ _ _ _ ?_
    repeat' (first | exact lF0 t rfl (by assumption) (by assumption) | (intro r z2 hz2; obtain ⟨rfl, q1, q2⟩ := hz2) | refine And.intro ?_ ?_ | (intro hh; first | exact absurd hh (by decide) | exact absurd rfl hh | (exfalso; omega) | skip) | refine Or.inl (uA cm ?_) | fail)
    all_goals first | omega | (exact rfl) | (exact vv) | (exact vv.1) | (exact vv.2)
  · have cx : aMX l g nX6_faultLoss (d - 1) [.inr (.inr (.inl (0, 0, 0))), .inl x1] z (fun x z' => x = 2 ∧ RelC z' R.2.2 ∧ fC z z') := by
      have := c.2 (by omega)
      rw [t] at this
      exact this
    refine aL_of kL_faultLoss rfl (fun B hB => ?_)
    refine hB [] 1000 _ _ _ _ _ ?_
    repeat' (first | exact lFx t (by decide) (by assumption) (by assumption) | (intro x z2 hz2; obtain ⟨rfl, q1, q2⟩ := hz2) | refine Or.inr (Or.inl ⟨⟨Nat.le_refl _, Nat.le_refl _⟩, uX cx ?_⟩) | refine And.intro ?_ ?_ | (intro hh; first | exact absurd hh (by decide) | exact absurd rfl hh | (exfalso; omega) | skip) | fail)
    all_goals first | omega | (exact rfl)
theorem lT_timeLoss {x1 : Int} {R : aRes} (hd : 5 ≤ d) (c : cOp [2] l g nX6_timeLoss (d - 1) [.inr (.inr (.inl (0, 0, 0))), .inl x1] z R) (ht : R.1 = 0 ∨ R.1 = 1) (hv : R.1 = 0 → aIR R.2.1) : lOp l g nL_timeLoss d [.inr (.inr (.inl (0, 0, 0))), .inl x1, .inr (.inr (.inl (18, 0, 0)))] z (lQ z R) := by
  rcases ht with t | t
  · have cm := c.1 t
    have vv := hv t
    refine aL_of kL_timeLoss rfl (fun B hB => ?_)
    refine hB [] 1000 _ _ _ _ _ ?_
    repeat' (first | exact lF0 t rfl (by assumption) (by assumption) | (intro r z2 hz2; obtain ⟨rfl, q1, q2⟩ := hz2) | refine And.intro ?_ ?_ | (intro hh; first | exact absurd hh (by decide) | exact absurd rfl hh | (exfalso; omega) | skip) | refine Or.inl (uA cm ?_) | fail)
    all_goals first | omega | (exact rfl) | (exact vv) | (exact vv.1) | (exact vv.2)
  · have cx : aMX l g nX6_timeLoss (d - 1) [.inr (.inr (.inl (0, 0, 0))), .inl x1] z (fun x z' => x = 2 ∧ RelC z' R.2.2 ∧ fC z z') := by
      have := c.2 (by omega)
      rw [t] at this
      exact this
    refine aL_of kL_timeLoss rfl (fun B hB => ?_)
    refine hB [] 1000 _ _ _ _ _ ?_
    repeat' (first | exact lFx t (by decide) (by assumption) (by assumption) | (intro x z2 hz2; obtain ⟨rfl, q1, q2⟩ := hz2) | refine Or.inr (Or.inl ⟨⟨Nat.le_refl _, Nat.le_refl _⟩, uX cx ?_⟩) | refine And.intro ?_ ?_ | (intro hh; first | exact absurd hh (by decide) | exact absurd rfl hh | (exfalso; omega) | skip) | fail)
    all_goals first | omega | (exact rfl)
theorem lT_runAt {x1 : Int} {R : aRes} (hd : 5 ≤ d) (c : cOp [3] l g nX6_runAt (d - 1) [.inr (.inr (.inl (0, 0, 0))), .inl x1] z R) (ht : R.1 = 0 ∨ R.1 = 1) (hv : R.1 = 0 → aIR R.2.1) : lOp l g nL_runAt d [.inr (.inr (.inl (0, 0, 0))), .inl x1, .inr (.inr (.inl (18, 0, 0)))] z (lQ z R) := by
  rcases ht with t | t
  · have cm := c.1 t
    have vv := hv t
    refine aL_of kL_runAt rfl (fun B hB => ?_)
    refine hB [] 1000 _ _ _ _ _ ?_
    repeat' (first | exact lF0 t rfl (by assumption) (by assumption) | (intro r z2 hz2; obtain ⟨rfl, q1, q2⟩ := hz2) | refine And.intro ?_ ?_ | (intro hh; first | exact absurd hh (by decide) | exact absurd rfl hh | (exfalso; omega) | skip) | refine Or.inl (uA cm ?_) | fail)
    all_goals first | omega | (exact rfl) | (exact vv) | (exact vv.1) | (exact vv.2)
  · have cx : aMX l g nX6_runAt (d - 1) [.inr (.inr (.inl (0, 0, 0))), .inl x1] z (fun x z' => x = 3 ∧ RelC z' R.2.2 ∧ fC z z') := by
      have := c.2 (by omega)
      rw [t] at this
      exact this
    refine aL_of kL_runAt rfl (fun B hB => ?_)
    refine hB [] 1000 _ _ _ _ _ ?_
    repeat' (first | exact lFx t (by decide) (by assumption) (by assumption) | (intro x z2 hz2; obtain ⟨rfl, q1, q2⟩ := hz2) | refine Or.inr (Or.inl ⟨⟨Nat.le_refl _, Nat.le_refl _⟩, uX cx ?_⟩) | refine And.intro ?_ ?_ | (intro hh; first | exact absurd hh (by decide) | exact absurd rfl hh | (exfalso; omega) | skip) | fail)
    all_goals first | omega | (exact rfl)
theorem lT_rankOf {x1 : Int} {R : aRes} (hd : 5 ≤ d) (c : cOp [2] l g nX6_rankOf (d - 1) [.inr (.inr (.inl (0, 0, 0))), .inl x1] z R) (ht : R.1 = 0 ∨ R.1 = 1) (hv : R.1 = 0 → aIR R.2.1) : lOp l g nL_rankOf d [.inr (.inr (.inl (0, 0, 0))), .inl x1, .inr (.inr (.inl (18, 0, 0)))] z (lQ z R) := by
  rcases ht with t | t
  · have cm := c.1 t
    have vv := hv t
    refine aL_of kL_rankOf rfl (fun B hB => ?_)
    refine hB [] 1000 _ _ _ _ _ ?_
    repeat' (first | exact lF0 t rfl (by assumption) (by assumption) | (intro r z2 hz2; obtain ⟨rfl, q1, q2⟩ := hz2) | refine And.intro ?_ ?_ | (intro hh; first | exact absurd hh (by decide) | exact absurd rfl hh | (exfalso; omega) | skip) | refine Or.inl (uA cm ?_) | fail)
    all_goals first | omega | (exact rfl) | (exact vv) | (exact vv.1) | (exact vv.2)
  · have cx : aMX l g nX6_rankOf (d - 1) [.inr (.inr (.inl (0, 0, 0))), .inl x1] z (fun x z' => x = 2 ∧ RelC z' R.2.2 ∧ fC z z') := by
      have := c.2 (by omega)
      rw [t] at this
      exact this
    refine aL_of kL_rankOf rfl (fun B hB => ?_)
    refine hB [] 1000 _ _ _ _ _ ?_
    repeat' (first | exact lFx t (by decide) (by assumption) (by assumption) | (intro x z2 hz2; obtain ⟨rfl, q1, q2⟩ := hz2) | refine Or.inr (Or.inl ⟨⟨Nat.le_refl _, Nat.le_refl _⟩, uX cx ?_⟩) | refine And.intro ?_ ?_ | (intro hh; first | exact absurd hh (by decide) | exact absurd rfl hh | (exfalso; omega) | skip) | fail)
    all_goals first | omega | (exact rfl)
theorem lT_bestOn {x1 : Int} {R : aRes} (hd : 5 ≤ d) (c : cOp [2, 3] l g nX6_bestOn (d - 1) [.inr (.inr (.inl (0, 0, 0))), .inl x1] z R) (ht : R.1 = 0 ∨ R.1 = 1 ∨ R.1 = 2) (hv : R.1 = 0 → aIR R.2.1) : lOp l g nL_bestOn d [.inr (.inr (.inl (0, 0, 0))), .inl x1, .inr (.inr (.inl (18, 0, 0)))] z (lQ z R) := by
  rcases ht with t | t | t
  · have cm := c.1 t
    have vv := hv t
    refine aL_of kL_bestOn rfl (fun B hB => ?_)
    refine hB [] 1000 _ _ _ _ _ ?_
    repeat' (first | exact lF0 t rfl (by assumption) (by assumption) | (intro r z2 hz2; obtain ⟨rfl, q1, q2⟩ := hz2) | refine And.intro ?_ ?_ | (intro hh; first | exact absurd hh (by decide) | exact absurd rfl hh | (exfalso; omega) | skip) | refine Or.inl (uA cm ?_) | fail)
    all_goals first | omega | (exact rfl) | (exact vv) | (exact vv.1) | (exact vv.2)
  · have cx : aMX l g nX6_bestOn (d - 1) [.inr (.inr (.inl (0, 0, 0))), .inl x1] z (fun x z' => x = 2 ∧ RelC z' R.2.2 ∧ fC z z') := by
      have := c.2 (by omega)
      rw [t] at this
      exact this
    refine aL_of kL_bestOn rfl (fun B hB => ?_)
    refine hB [] 1000 _ _ _ _ _ ?_
    repeat' (first | exact lFx t (by decide) (by assumption) (by assumption) | (intro x z2 hz2; obtain ⟨rfl, q1, q2⟩ := hz2) | refine Or.inr (Or.inl ⟨⟨Nat.le_refl _, Nat.le_refl _⟩, uX cx ?_⟩) | refine And.intro ?_ ?_ | (intro hh; first | exact absurd hh (by decide) | exact absurd rfl hh | (exfalso; omega) | skip) | fail)
    all_goals first | omega | (exact rfl)
  · have cx : aMX l g nX6_bestOn (d - 1) [.inr (.inr (.inl (0, 0, 0))), .inl x1] z (fun x z' => x = 3 ∧ RelC z' R.2.2 ∧ fC z z') := by
      have := c.2 (by omega)
      rw [t] at this
      exact this
    refine aL_of kL_bestOn rfl (fun B hB => ?_)
    refine hB [] 1000 _ _ _ _ _ ?_
    repeat' (first | exact lFx t (by decide) (by assumption) (by assumption) | (intro x z2 hz2; obtain ⟨rfl, q1, q2⟩ := hz2) | refine Or.inr (Or.inl ⟨⟨Nat.le_refl _, Nat.le_refl _⟩, uX cx ?_⟩) | refine And.intro ?_ ?_ | (intro hh; first | exact absurd hh (by decide) | exact absurd rfl hh | (exfalso; omega) | skip) | fail)
    all_goals first | omega | (exact rfl)
theorem lT_meanScore {R : Int × UInt64 × aAb} (hd : 5 ≤ d) (c : cOpD [4] l g nX6_meanScore (d - 1) [.inr (.inr (.inl (0, 0, 0)))] z R) (ht : R.1 = 0 ∨ R.1 = 1)  : lOp l g nL_meanScore d [.inr (.inr (.inl (0, 0, 0))), .inr (.inr (.inl (19, 0, 0)))] z (lQD z R) := by
  rcases ht with t | t
  · have cm := c.1 t
    refine aL_of kL_meanScore rfl (fun B hB => ?_)
    refine hB [] 1000 _ _ _ _ _ ?_
    repeat' (first | exact lF0D t (by assumption) (by assumption) | (intro r z2 hz2; obtain ⟨rfl, q1, q2⟩ := hz2) | refine And.intro ?_ ?_ | (intro hh; first | exact absurd hh (by decide) | exact absurd rfl hh | (exfalso; omega) | skip) | refine Or.inl (uA cm ?_) | fail)
    all_goals first | omega | (exact rfl)
  · have cx : aMX l g nX6_meanScore (d - 1) [.inr (.inr (.inl (0, 0, 0)))] z (fun x z' => x = 4 ∧ RelC z' R.2.2 ∧ fC z z') := by
      have := c.2 (by omega)
      rw [t] at this
      exact this
    refine aL_of kL_meanScore rfl (fun B hB => ?_)
    refine hB [] 1000 _ _ _ _ _ ?_
    repeat' (first | exact lFxD t (by decide) (by assumption) (by assumption) | (intro x z2 hz2; obtain ⟨rfl, q1, q2⟩ := hz2) | refine Or.inr (Or.inl ⟨⟨Nat.le_refl _, Nat.le_refl _⟩, uX cx ?_⟩) | refine And.intro ?_ ?_ | (intro hh; first | exact absurd hh (by decide) | exact absurd rfl hh | (exfalso; omega) | skip) | fail)
    all_goals first | omega | (exact rfl)
theorem lT_passRate {x1 : Int} {R : Int × UInt32 × aAb} (hd : 5 ≤ d) (c : cOpF [2, 4] l g nX6_passRate (d - 1) [.inr (.inr (.inl (0, 0, 0))), .inl x1] z R) (ht : R.1 = 0 ∨ R.1 = 1 ∨ R.1 = 2) (hv : R.1 = 0 → vf_n64 (FP.f2d R.2.1)) : lOp l g nL_passRate d [.inr (.inr (.inl (0, 0, 0))), .inl x1, .inr (.inr (.inl (19, 0, 0)))] z (lQF z R) := by
  rcases ht with t | t | t
  · have cm := c.1 t
    have vv := hv t
    refine aL_of kL_passRate rfl (fun B hB => ?_)
    refine hB [] 1000 _ _ _ _ _ ?_
    repeat' (first | exact lF0F t (by assumption) (by assumption) | (intro r z2 hz2; obtain ⟨rfl, q1, q2⟩ := hz2) | refine And.intro ?_ ?_ | (intro hh; first | exact absurd hh (by decide) | exact absurd rfl hh | (exfalso; omega) | skip) | refine Or.inl (uA cm ?_) | fail)
    all_goals first | omega | (exact rfl) | (exact vv) | (exact vv.1) | (exact vv.2)
  · have cx : aMX l g nX6_passRate (d - 1) [.inr (.inr (.inl (0, 0, 0))), .inl x1] z (fun x z' => x = 2 ∧ RelC z' R.2.2 ∧ fC z z') := by
      have := c.2 (by omega)
      rw [t] at this
      exact this
    refine aL_of kL_passRate rfl (fun B hB => ?_)
    refine hB [] 1000 _ _ _ _ _ ?_
    repeat' (first | exact lFxF t (by decide) (by assumption) (by assumption) | (intro x z2 hz2; obtain ⟨rfl, q1, q2⟩ := hz2) | refine Or.inr (Or.inl ⟨⟨Nat.le_refl _, Nat.le_refl _⟩, uX cx ?_⟩) | refine And.intro ?_ ?_ | (intro hh; first | exact absurd hh (by decide) | exact absurd rfl hh | (exfalso; omega) | skip) | fail)
    all_goals first | omega | (exact rfl)
  · have cx : aMX l g nX6_passRate (d - 1) [.inr (.inr (.inl (0, 0, 0))), .inl x1] z (fun x z' => x = 4 ∧ RelC z' R.2.2 ∧ fC z z') := by
      have := c.2 (by omega)
      rw [t] at this
      exact this
    refine aL_of kL_passRate rfl (fun B hB => ?_)
    refine hB [] 1000 _ _ _ _ _ ?_
    repeat' (first | exact lFxF t (by decide) (by assumption) (by assumption) | (intro x z2 hz2; obtain ⟨rfl, q1, q2⟩ := hz2) | refine Or.inr (Or.inl ⟨⟨Nat.le_refl _, Nat.le_refl _⟩, uX cx ?_⟩) | refine And.intro ?_ ?_ | (intro hh; first | exact absurd hh (by decide) | exact absurd rfl hh | (exfalso; omega) | skip) | fail)
    all_goals first | omega | (exact rfl)
theorem lT_writeRun {x1 : Int} {R : aRes} (hd : 5 ≤ d) (c : cOp [2] l g nX6_writeRun (d - 1) [.inr (.inr (.inl (0, 0, 0))), .inl x1] z R) (ht : R.1 = 0 ∨ R.1 = 1) (hv : R.1 = 0 → aIR R.2.1) : lOp l g nL_writeRun d [.inr (.inr (.inl (0, 0, 0))), .inl x1, .inr (.inr (.inl (18, 0, 0)))] z (lQ z R) := by
  rcases ht with t | t
  · have cm := c.1 t
    have vv := hv t
    refine aL_of kL_writeRun rfl (fun B hB => ?_)
    refine hB [] 1000 _ _ _ _ _ ?_
    repeat' (first | exact lF0 t rfl (by assumption) (by assumption) | (intro r z2 hz2; obtain ⟨rfl, q1, q2⟩ := hz2) | refine And.intro ?_ ?_ | (intro hh; first | exact absurd hh (by decide) | exact absurd rfl hh | (exfalso; omega) | skip) | refine Or.inl (uA cm ?_) | fail)
    all_goals first | omega | (exact rfl) | (exact vv) | (exact vv.1) | (exact vv.2)
  · have cx : aMX l g nX6_writeRun (d - 1) [.inr (.inr (.inl (0, 0, 0))), .inl x1] z (fun x z' => x = 2 ∧ RelC z' R.2.2 ∧ fC z z') := by
      have := c.2 (by omega)
      rw [t] at this
      exact this
    refine aL_of kL_writeRun rfl (fun B hB => ?_)
    refine hB [] 1000 _ _ _ _ _ ?_
    repeat' (first | exact lFx t (by decide) (by assumption) (by assumption) | (intro x z2 hz2; obtain ⟨rfl, q1, q2⟩ := hz2) | refine Or.inr (Or.inl ⟨⟨Nat.le_refl _, Nat.le_refl _⟩, uX cx ?_⟩) | refine And.intro ?_ ?_ | (intro hh; first | exact absurd hh (by decide) | exact absurd rfl hh | (exfalso; omega) | skip) | fail)
    all_goals first | omega | (exact rfl)
theorem lT_charAt {x1 : Int} {R : aRes} (hd : 5 ≤ d) (c : cOp [2] l g nX6_charAt (d - 1) [.inr (.inr (.inl (0, 0, 0))), .inl x1] z R) (ht : R.1 = 0 ∨ R.1 = 1) (hv : R.1 = 0 → aIR R.2.1) : lOp l g nL_charAt d [.inr (.inr (.inl (0, 0, 0))), .inl x1, .inr (.inr (.inl (18, 0, 0)))] z (lQ z R) := by
  rcases ht with t | t
  · have cm := c.1 t
    have vv := hv t
    refine aL_of kL_charAt rfl (fun B hB => ?_)
    refine hB [] 1000 _ _ _ _ _ ?_
    repeat' (first | exact lF0 t rfl (by assumption) (by assumption) | (intro r z2 hz2; obtain ⟨rfl, q1, q2⟩ := hz2) | refine And.intro ?_ ?_ | (intro hh; first | exact absurd hh (by decide) | exact absurd rfl hh | (exfalso; omega) | skip) | refine Or.inl (uA cm ?_) | fail)
    all_goals first | omega | (exact rfl) | (exact vv) | (exact vv.1) | (exact vv.2)
  · have cx : aMX l g nX6_charAt (d - 1) [.inr (.inr (.inl (0, 0, 0))), .inl x1] z (fun x z' => x = 2 ∧ RelC z' R.2.2 ∧ fC z z') := by
      have := c.2 (by omega)
      rw [t] at this
      exact this
    refine aL_of kL_charAt rfl (fun B hB => ?_)
    refine hB [] 1000 _ _ _ _ _ ?_
    repeat' (first | exact lFx t (by decide) (by assumption) (by assumption) | (intro x z2 hz2; obtain ⟨rfl, q1, q2⟩ := hz2) | refine Or.inr (Or.inl ⟨⟨Nat.le_refl _, Nat.le_refl _⟩, uX cx ?_⟩) | refine And.intro ?_ ?_ | (intro hh; first | exact absurd hh (by decide) | exact absurd rfl hh | (exfalso; omega) | skip) | fail)
    all_goals first | omega | (exact rfl)
theorem lT_type {x1 : Int} {R : aRes} (hd : 5 ≤ d) (c : cOp [1] l g nX6_type (d - 1) [.inr (.inr (.inl (0, 0, 0))), .inl x1] z R) (ht : R.1 = 0 ∨ R.1 = 1) (hv : R.1 = 0 → aIR R.2.1) : lOp l g nL_type d [.inr (.inr (.inl (0, 0, 0))), .inl x1, .inr (.inr (.inl (18, 0, 0)))] z (lQ z R) := by
  rcases ht with t | t
  · have cm := c.1 t
    have vv := hv t
    refine aL_of kL_type rfl (fun B hB => ?_)
    refine hB [] 1000 _ _ _ _ _ ?_
    repeat' (first | exact lF0 t rfl (by assumption) (by assumption) | (intro r z2 hz2; obtain ⟨rfl, q1, q2⟩ := hz2) | refine And.intro ?_ ?_ | (intro hh; first | exact absurd hh (by decide) | exact absurd rfl hh | (exfalso; omega) | skip) | refine Or.inl (uA cm ?_) | fail)
    all_goals first | omega | (exact rfl) | (exact vv) | (exact vv.1) | (exact vv.2)
  · have cx : aMX l g nX6_type (d - 1) [.inr (.inr (.inl (0, 0, 0))), .inl x1] z (fun x z' => x = 1 ∧ RelC z' R.2.2 ∧ fC z z') := by
      have := c.2 (by omega)
      rw [t] at this
      exact this
    refine aL_of kL_type rfl (fun B hB => ?_)
    refine hB [] 1000 _ _ _ _ _ ?_
    repeat' (first | exact lFx t (by decide) (by assumption) (by assumption) | (intro x z2 hz2; obtain ⟨rfl, q1, q2⟩ := hz2) | refine Or.inr (Or.inl ⟨⟨Nat.le_refl _, Nat.le_refl _⟩, uX cx ?_⟩) | refine And.intro ?_ ?_ | (intro hh; first | exact absurd hh (by decide) | exact absurd rfl hh | (exfalso; omega) | skip) | fail)
    all_goals first | omega | (exact rfl)
theorem lT_execute {R : aRes} (hd : 5 ≤ d) (c : cOp [0, 5] l g nX6_execute (d - 1) [.inr (.inr (.inl (0, 0, 0)))] z R) (ht : R.1 = 0 ∨ R.1 = 1 ∨ R.1 = 2) (hv : R.1 = 0 → aIR R.2.1) : lOp l g nL_execute d [.inr (.inr (.inl (0, 0, 0))), .inr (.inr (.inl (18, 0, 0)))] z (lQ z R) := by
  rcases ht with t | t | t
  · have cm := c.1 t
    have vv := hv t
    refine aL_of kL_execute rfl (fun B hB => ?_)
    refine hB [] 1000 _ _ _ _ _ ?_
    repeat' (first | exact lF0 t rfl (by assumption) (by assumption) | (intro r z2 hz2; obtain ⟨rfl, q1, q2⟩ := hz2) | refine And.intro ?_ ?_ | (intro hh; first | exact absurd hh (by decide) | exact absurd rfl hh | (exfalso; omega) | skip) | refine Or.inl (uA cm ?_) | fail)
    all_goals first | omega | (exact rfl) | (exact vv) | (exact vv.1) | (exact vv.2)
  · have cx : aMX l g nX6_execute (d - 1) [.inr (.inr (.inl (0, 0, 0)))] z (fun x z' => x = 0 ∧ RelC z' R.2.2 ∧ fC z z') := by
      have := c.2 (by omega)
      rw [t] at this
      exact this
    refine aL_of kL_execute rfl (fun B hB => ?_)
    refine hB [] 1000 _ _ _ _ _ ?_
    repeat' (first | exact lFx t (by decide) (by assumption) (by assumption) | (intro x z2 hz2; obtain ⟨rfl, q1, q2⟩ := hz2) | refine Or.inr (Or.inl ⟨⟨Nat.le_refl _, Nat.le_refl _⟩, uX cx ?_⟩) | refine And.intro ?_ ?_ | (intro hh; first | exact absurd hh (by decide) | exact absurd rfl hh | (exfalso; omega) | skip) | fail)
    all_goals first | omega | (exact rfl)
  · have cx : aMX l g nX6_execute (d - 1) [.inr (.inr (.inl (0, 0, 0)))] z (fun x z' => x = 5 ∧ RelC z' R.2.2 ∧ fC z z') := by
      have := c.2 (by omega)
      rw [t] at this
      exact this
    refine aL_of kL_execute rfl (fun B hB => ?_)
    refine hB [] 1000 _ _ _ _ _ ?_
    repeat' (first | exact lFx t (by decide) (by assumption) (by assumption) | (intro x z2 hz2; obtain ⟨rfl, q1, q2⟩ := hz2) | refine Or.inr (Or.inl ⟨⟨Nat.le_refl _, Nat.le_refl _⟩, uX cx ?_⟩) | refine And.intro ?_ ?_ | (intro hh; first | exact absurd hh (by decide) | exact absurd rfl hh | (exfalso; omega) | skip) | fail)
    all_goals first | omega | (exact rfl)
theorem lT_errorPosition {R : aRes} (hd : 5 ≤ d) (c : cOp [3] l g nX6_errorPosition (d - 1) [.inr (.inr (.inl (0, 0, 0)))] z R) (ht : R.1 = 0 ∨ R.1 = 1) (hv : R.1 = 0 → aIR R.2.1) : lOp l g nL_errorPosition d [.inr (.inr (.inl (0, 0, 0))), .inr (.inr (.inl (18, 0, 0)))] z (lQ z R) := by
  rcases ht with t | t
  · have cm := c.1 t
    have vv := hv t
    refine aL_of kL_errorPosition rfl (fun B hB => ?_)
    refine hB [] 1000 _ _ _ _ _ ?_
    repeat' (first | exact lF0 t rfl (by assumption) (by assumption) | (intro r z2 hz2; obtain ⟨rfl, q1, q2⟩ := hz2) | refine And.intro ?_ ?_ | (intro hh; first | exact absurd hh (by decide) | exact absurd rfl hh | (exfalso; omega) | skip) | refine Or.inl (uA cm ?_) | fail)
    all_goals first | omega | (exact rfl) | (exact vv) | (exact vv.1) | (exact vv.2)
  · have cx : aMX l g nX6_errorPosition (d - 1) [.inr (.inr (.inl (0, 0, 0)))] z (fun x z' => x = 3 ∧ RelC z' R.2.2 ∧ fC z z') := by
      have := c.2 (by omega)
      rw [t] at this
      exact this
    refine aL_of kL_errorPosition rfl (fun B hB => ?_)
    refine hB [] 1000 _ _ _ _ _ ?_
    repeat' (first | exact lFx t (by decide) (by assumption) (by assumption) | (intro x z2 hz2; obtain ⟨rfl, q1, q2⟩ := hz2) | refine Or.inr (Or.inl ⟨⟨Nat.le_refl _, Nat.le_refl _⟩, uX cx ?_⟩) | refine And.intro ?_ ?_ | (intro hh; first | exact absurd hh (by decide) | exact absurd rfl hh | (exfalso; omega) | skip) | fail)
    all_goals first | omega | (exact rfl)
theorem lT_failedCommand {R : aRes} (hd : 5 ≤ d) (c : cOp [3] l g nX6_failedCommand (d - 1) [.inr (.inr (.inl (0, 0, 0)))] z R) (ht : R.1 = 0 ∨ R.1 = 1) (hv : R.1 = 0 → aIR R.2.1) : lOp l g nL_failedCommand d [.inr (.inr (.inl (0, 0, 0))), .inr (.inr (.inl (18, 0, 0)))] z (lQ z R) := by
  rcases ht with t | t
  · have cm := c.1 t
    have vv := hv t
    refine aL_of kL_failedCommand rfl (fun B hB => ?_)
    refine hB [] 1000 _ _ _ _ _ ?_
    repeat' (first | exact lF0 t rfl (by assumption) (by assumption) | (intro r z2 hz2; obtain ⟨rfl, q1, q2⟩ := hz2) | refine And.intro ?_ ?_ | (intro hh; first | exact absurd hh (by decide) | exact absurd rfl hh | (exfalso; omega) | skip) | refine Or.inl (uA cm ?_) | fail)
    all_goals first | omega | (exact rfl) | (exact vv) | (exact vv.1) | (exact vv.2)
  · have cx : aMX l g nX6_failedCommand (d - 1) [.inr (.inr (.inl (0, 0, 0)))] z (fun x z' => x = 3 ∧ RelC z' R.2.2 ∧ fC z z') := by
      have := c.2 (by omega)
      rw [t] at this
      exact this
    refine aL_of kL_failedCommand rfl (fun B hB => ?_)
    refine hB [] 1000 _ _ _ _ _ ?_
    repeat' (first | exact lFx t (by decide) (by assumption) (by assumption) | (intro x z2 hz2; obtain ⟨rfl, q1, q2⟩ := hz2) | refine Or.inr (Or.inl ⟨⟨Nat.le_refl _, Nat.le_refl _⟩, uX cx ?_⟩) | refine And.intro ?_ ?_ | (intro hh; first | exact absurd hh (by decide) | exact absurd rfl hh | (exfalso; omega) | skip) | fail)
    all_goals first | omega | (exact rfl)
theorem lT_undo {R : aRes} (hd : 5 ≤ d) (c : cOp [1] l g nX6_undo (d - 1) [.inr (.inr (.inl (0, 0, 0)))] z R) (ht : R.1 = 0 ∨ R.1 = 1) (hv : R.1 = 0 → aIR R.2.1) : lOp l g nL_undo d [.inr (.inr (.inl (0, 0, 0))), .inr (.inr (.inl (18, 0, 0)))] z (lQ z R) := by
  rcases ht with t | t
  · have cm := c.1 t
    have vv := hv t
    refine aL_of kL_undo rfl (fun B hB => ?_)
    refine hB [] 1000 _ _ _ _ _ ?_
    repeat' (first | exact lF0 t rfl (by assumption) (by assumption) | (intro r z2 hz2; obtain ⟨rfl, q1, q2⟩ := hz2) | refine And.intro ?_ ?_ | (intro hh; first | exact absurd hh (by decide) | exact absurd rfl hh | (exfalso; omega) | skip) | refine Or.inl (uA cm ?_) | fail)
    all_goals first | omega | (exact rfl) | (exact vv) | (exact vv.1) | (exact vv.2)
  · have cx : aMX l g nX6_undo (d - 1) [.inr (.inr (.inl (0, 0, 0)))] z (fun x z' => x = 1 ∧ RelC z' R.2.2 ∧ fC z z') := by
      have := c.2 (by omega)
      rw [t] at this
      exact this
    refine aL_of kL_undo rfl (fun B hB => ?_)
    refine hB [] 1000 _ _ _ _ _ ?_
    repeat' (first | exact lFx t (by decide) (by assumption) (by assumption) | (intro x z2 hz2; obtain ⟨rfl, q1, q2⟩ := hz2) | refine Or.inr (Or.inl ⟨⟨Nat.le_refl _, Nat.le_refl _⟩, uX cx ?_⟩) | refine And.intro ?_ ?_ | (intro hh; first | exact absurd hh (by decide) | exact absurd rfl hh | (exfalso; omega) | skip) | fail)
    all_goals first | omega | (exact rfl)
theorem lT_restore {R : aRes} (hd : 5 ≤ d) (c : cOp [1] l g nX6_restore (d - 1) [.inr (.inr (.inl (0, 0, 0)))] z R) (ht : R.1 = 0 ∨ R.1 = 1) (hv : R.1 = 0 → aIR R.2.1) : lOp l g nL_restore d [.inr (.inr (.inl (0, 0, 0))), .inr (.inr (.inl (18, 0, 0)))] z (lQ z R) := by
  rcases ht with t | t
  · have cm := c.1 t
    have vv := hv t
    refine aL_of kL_restore rfl (fun B hB => ?_)
    refine hB [] 1000 _ _ _ _ _ ?_
    repeat' (first | exact lF0 t rfl (by assumption) (by assumption) | (intro r z2 hz2; obtain ⟨rfl, q1, q2⟩ := hz2) | refine And.intro ?_ ?_ | (intro hh; first | exact absurd hh (by decide) | exact absurd rfl hh | (exfalso; omega) | skip) | refine Or.inl (uA cm ?_) | fail)
    all_goals first | omega | (exact rfl) | (exact vv) | (exact vv.1) | (exact vv.2)
  · have cx : aMX l g nX6_restore (d - 1) [.inr (.inr (.inl (0, 0, 0)))] z (fun x z' => x = 1 ∧ RelC z' R.2.2 ∧ fC z z') := by
      have := c.2 (by omega)
      rw [t] at this
      exact this
    refine aL_of kL_restore rfl (fun B hB => ?_)
    refine hB [] 1000 _ _ _ _ _ ?_
    repeat' (first | exact lFx t (by decide) (by assumption) (by assumption) | (intro x z2 hz2; obtain ⟨rfl, q1, q2⟩ := hz2) | refine Or.inr (Or.inl ⟨⟨Nat.le_refl _, Nat.le_refl _⟩, uX cx ?_⟩) | refine And.intro ?_ ?_ | (intro hh; first | exact absurd hh (by decide) | exact absurd rfl hh | (exfalso; omega) | skip) | fail)
    all_goals first | omega | (exact rfl)

end K19
