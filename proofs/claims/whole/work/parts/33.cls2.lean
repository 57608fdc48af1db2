/-! THE CLASS: copies, and what runs lose (printed by wip/whole/cls2.py) -/
theorem aCp_0 {z : aM} {p q : aP} {k : Int} (k0 : 0 ≤ k) (k1 : k < 6) : aCp z p 0 q 0 6 q k = z p k := by
  unfold aCp
  rw [if_pos ⟨rfl, k0, by omega⟩]
  congr 1
  omega
theorem aCp_n {z : aM} {p q q' : aP} (h : q' ≠ q) : aCp z p 0 q 0 6 q' = z q' := by
  funext j
  unfold aCp
  rw [if_neg (fun w => h w.1)]
section K2
variable {l : Launch} {g : aG} {d : Nat} {z : aM} {s t r : Int}
theorem cK_ccopy (n : s ≠ t) (hd : 1 ≤ d) : aM1 l g nX0_copyFrom d [.inr (.inr (.inl (2, s, 0))), .inr (.inr (.inl (2, t, 0)))] z (aRv0 (fun z' => (∀ a, InvC a → SimC z t a → SimC z' s a) ∧ (∀ q : aP, q ≠ (2, s, 0) → (∀ j, q ≠ (3, s, j)) → z' q = z q))) := by
  obtain ⟨z1, e1⟩ : ∃ w, w = aWr z (2, s, 0) 0 (z (2, t, 0) 0) := ⟨_, rfl⟩
  have f1 : ∀ q : aP, q ≠ (2, s, 0) → z1 q = z q := fun q h => by rw [e1]; exact aWr_ne2 h
  have g1 : ∀ j, j ≠ 0 → z1 (2, s, 0) j = z (2, s, 0) j := fun j h => by rw [e1]; exact aWr_j h
  have h1 : z1 (2, s, 0) 0 = z (2, t, 0) 0 := by rw [e1]; exact aWr_k _ _ _ _
  obtain ⟨z2, e2⟩ : ∃ w, w = aWr z1 (2, s, 0) 1 (z1 (2, t, 0) 1) := ⟨_, rfl⟩
  have f2 : ∀ q : aP, q ≠ (2, s, 0) → z2 q = z1 q := fun q h => by rw [e2]; exact aWr_ne2 h
  have g2 : ∀ j, j ≠ 1 → z2 (2, s, 0) j = z1 (2, s, 0) j := fun j h => by rw [e2]; exact aWr_j h
  have h2 : z2 (2, s, 0) 1 = z1 (2, t, 0) 1 := by rw [e2]; exact aWr_k _ _ _ _
  obtain ⟨z3, e3⟩ : ∃ w, w = aWr z2 (2, s, 0) 2 (z2 (2, t, 0) 2) := ⟨_, rfl⟩
  have f3 : ∀ q : aP, q ≠ (2, s, 0) → z3 q = z2 q := fun q h => by rw [e3]; exact aWr_ne2 h
  have g3 : ∀ j, j ≠ 2 → z3 (2, s, 0) j = z2 (2, s, 0) j := fun j h => by rw [e3]; exact aWr_j h
  have h3 : z3 (2, s, 0) 2 = z2 (2, t, 0) 2 := by rw [e3]; exact aWr_k _ _ _ _
  obtain ⟨z4, e4⟩ : ∃ w, w = aWr z3 (2, s, 0) 3 (z3 (2, t, 0) 3) := ⟨_, rfl⟩
  have f4 : ∀ q : aP, q ≠ (2, s, 0) → z4 q = z3 q := fun q h => by rw [e4]; exact aWr_ne2 h
  have g4 : ∀ j, j ≠ 3 → z4 (2, s, 0) j = z3 (2, s, 0) j := fun j h => by rw [e4]; exact aWr_j h
  have h4 : z4 (2, s, 0) 3 = z3 (2, t, 0) 3 := by rw [e4]; exact aWr_k _ _ _ _
  obtain ⟨z5, e5⟩ : ∃ w, w = aWr z4 (2, s, 0) 4 (z4 (2, t, 0) 4) := ⟨_, rfl⟩
  have f5 : ∀ q : aP, q ≠ (2, s, 0) → z5 q = z4 q := fun q h => by rw [e5]; exact aWr_ne2 h
  have g5 : ∀ j, j ≠ 4 → z5 (2, s, 0) j = z4 (2, s, 0) j := fun j h => by rw [e5]; exact aWr_j h
  have h5 : z5 (2, s, 0) 4 = z4 (2, t, 0) 4 := by rw [e5]; exact aWr_k _ _ _ _
  obtain ⟨z6, e6⟩ : ∃ w, w = aCp z5 (3, t, 0) 0 (3, s, 0) 0 6 := ⟨_, rfl⟩
  have f6 : ∀ q : aP, q ≠ (3, s, 0) → z6 q = z5 q := fun q h => by rw [e6]; exact aCp_n h
  have h6 : ∀ k, 0 ≤ k → k < 6 → z6 (3, s, 0) k = z5 (3, t, 0) k := fun k k0 k1 => by rw [e6]; exact aCp_0 k0 k1
  obtain ⟨z7, e7⟩ : ∃ w, w = aCp z6 (3, t, 1) 0 (3, s, 1) 0 6 := ⟨_, rfl⟩
  have f7 : ∀ q : aP, q ≠ (3, s, 1) → z7 q = z6 q := fun q h => by rw [e7]; exact aCp_n h
  have h7 : ∀ k, 0 ≤ k → k < 6 → z7 (3, s, 1) k = z6 (3, t, 1) k := fun k k0 k1 => by rw [e7]; exact aCp_0 k0 k1
  obtain ⟨z8, e8⟩ : ∃ w, w = aCp z7 (3, t, 2) 0 (3, s, 2) 0 6 := ⟨_, rfl⟩
  have f8 : ∀ q : aP, q ≠ (3, s, 2) → z8 q = z7 q := fun q h => by rw [e8]; exact aCp_n h
  have h8 : ∀ k, 0 ≤ k → k < 6 → z8 (3, s, 2) k = z7 (3, t, 2) k := fun k k0 k1 => by rw [e8]; exact aCp_0 k0 k1
  obtain ⟨z9, e9⟩ : ∃ w, w = aWr z8 (2, s, 0) 8 (z8 (2, t, 0) 8) := ⟨_, rfl⟩
  have f9 : ∀ q : aP, q ≠ (2, s, 0) → z9 q = z8 q := fun q h => by rw [e9]; exact aWr_ne2 h
  have g9 : ∀ j, j ≠ 8 → z9 (2, s, 0) j = z8 (2, s, 0) j := fun j h => by rw [e9]; exact aWr_j h
  have h9 : z9 (2, s, 0) 8 = z8 (2, t, 0) 8 := by rw [e9]; exact aWr_k _ _ _ _
  obtain ⟨z10, e10⟩ : ∃ w, w = aCp z9 (3, t, 3) 0 (3, s, 3) 0 6 := ⟨_, rfl⟩
  have f10 : ∀ q : aP, q ≠ (3, s, 3) → z10 q = z9 q := fun q h => by rw [e10]; exact aCp_n h
  have h10 : ∀ k, 0 ≤ k → k < 6 → z10 (3, s, 3) k = z9 (3, t, 3) k := fun k k0 k1 => by rw [e10]; exact aCp_0 k0 k1
  obtain ⟨z11, e11⟩ : ∃ w, w = aCp z10 (3, t, 4) 0 (3, s, 4) 0 6 := ⟨_, rfl⟩
  have f11 : ∀ q : aP, q ≠ (3, s, 4) → z11 q = z10 q := fun q h => by rw [e11]; exact aCp_n h
  have h11 : ∀ k, 0 ≤ k → k < 6 → z11 (3, s, 4) k = z10 (3, t, 4) k := fun k k0 k1 => by rw [e11]; exact aCp_0 k0 k1
  obtain ⟨z12, e12⟩ : ∃ w, w = aCp z11 (3, t, 5) 0 (3, s, 5) 0 6 := ⟨_, rfl⟩
  have f12 : ∀ q : aP, q ≠ (3, s, 5) → z12 q = z11 q := fun q h => by rw [e12]; exact aCp_n h
  have h12 : ∀ k, 0 ≤ k → k < 6 → z12 (3, s, 5) k = z11 (3, t, 5) k := fun k k0 k1 => by rw [e12]; exact aCp_0 k0 k1
  obtain ⟨z13, e13⟩ : ∃ w, w = aCp z12 (3, t, 6) 0 (3, s, 6) 0 6 := ⟨_, rfl⟩
  have f13 : ∀ q : aP, q ≠ (3, s, 6) → z13 q = z12 q := fun q h => by rw [e13]; exact aCp_n h
  have h13 : ∀ k, 0 ≤ k → k < 6 → z13 (3, s, 6) k = z12 (3, t, 6) k := fun k k0 k1 => by rw [e13]; exact aCp_0 k0 k1
  obtain ⟨z14, e14⟩ : ∃ w, w = aCp z13 (3, t, 7) 0 (3, s, 7) 0 6 := ⟨_, rfl⟩
  have f14 : ∀ q : aP, q ≠ (3, s, 7) → z14 q = z13 q := fun q h => by rw [e14]; exact aCp_n h
  have h14 : ∀ k, 0 ≤ k → k < 6 → z14 (3, s, 7) k = z13 (3, t, 7) k := fun k k0 k1 => by rw [e14]; exact aCp_0 k0 k1
  have r0 : z14 (2, s, 0) 0 = z (2, t, 0) 0 := by rw [f14 _ (pne (by show (2 : Nat) ≠ 3; decide)), f13 _ (pne (by show (2 : Nat) ≠ 3; decide)), f12 _ (pne (by show (2 : Nat) ≠ 3; decide)), f11 _ (pne (by show (2 : Nat) ≠ 3; decide)), f10 _ (pne (by show (2 : Nat) ≠ 3; decide)), g9 _ (by decide), f8 _ (pne (by show (2 : Nat) ≠ 3; decide)), f7 _ (pne (by show (2 : Nat) ≠ 3; decide)), f6 _ (pne (by show (2 : Nat) ≠ 3; decide)), g5 _ (by decide), g4 _ (by decide), g3 _ (by decide), g2 _ (by decide), h1]
  have r1 : z14 (2, s, 0) 1 = z (2, t, 0) 1 := by rw [f14 _ (pne (by show (2 : Nat) ≠ 3; decide)), f13 _ (pne (by show (2 : Nat) ≠ 3; decide)), f12 _ (pne (by show (2 : Nat) ≠ 3; decide)), f11 _ (pne (by show (2 : Nat) ≠ 3; decide)), f10 _ (pne (by show (2 : Nat) ≠ 3; decide)), g9 _ (by decide), f8 _ (pne (by show (2 : Nat) ≠ 3; decide)), f7 _ (pne (by show (2 : Nat) ≠ 3; decide)), f6 _ (pne (by show (2 : Nat) ≠ 3; decide)), g5 _ (by decide), g4 _ (by decide), g3 _ (by decide), h2, f1 _ (pns (Ne.symm n))]
  have r2 : z14 (2, s, 0) 2 = z (2, t, 0) 2 := by rw [f14 _ (pne (by show (2 : Nat) ≠ 3; decide)), f13 _ (pne (by show (2 : Nat) ≠ 3; decide)), f12 _ (pne (by show (2 : Nat) ≠ 3; decide)), f11 _ (pne (by show (2 : Nat) ≠ 3; decide)), f10 _ (pne (by show (2 : Nat) ≠ 3; decide)), g9 _ (by decide), f8 _ (pne (by show (2 : Nat) ≠ 3; decide)), f7 _ (pne (by show (2 : Nat) ≠ 3; decide)), f6 _ (pne (by show (2 : Nat) ≠ 3; decide)), g5 _ (by decide), g4 _ (by decide), h3, f2 _ (pns (Ne.symm n)), f1 _ (pns (Ne.symm n))]
  have r3 : z14 (2, s, 0) 3 = z (2, t, 0) 3 := by rw [f14 _ (pne (by show (2 : Nat) ≠ 3; decide)), f13 _ (pne (by show (2 : Nat) ≠ 3; decide)), f12 _ (pne (by show (2 : Nat) ≠ 3; decide)), f11 _ (pne (by show (2 : Nat) ≠ 3; decide)), f10 _ (pne (by show (2 : Nat) ≠ 3; decide)), g9 _ (by decide), f8 _ (pne (by show (2 : Nat) ≠ 3; decide)), f7 _ (pne (by show (2 : Nat) ≠ 3; decide)), f6 _ (pne (by show (2 : Nat) ≠ 3; decide)), g5 _ (by decide), h4, f3 _ (pns (Ne.symm n)), f2 _ (pns (Ne.symm n)), f1 _ (pns (Ne.symm n))]
  have r4 : z14 (2, s, 0) 4 = z (2, t, 0) 4 := by rw [f14 _ (pne (by show (2 : Nat) ≠ 3; decide)), f13 _ (pne (by show (2 : Nat) ≠ 3; decide)), f12 _ (pne (by show (2 : Nat) ≠ 3; decide)), f11 _ (pne (by show (2 : Nat) ≠ 3; decide)), f10 _ (pne (by show (2 : Nat) ≠ 3; decide)), g9 _ (by decide), f8 _ (pne (by show (2 : Nat) ≠ 3; decide)), f7 _ (pne (by show (2 : Nat) ≠ 3; decide)), f6 _ (pne (by show (2 : Nat) ≠ 3; decide)), h5, f4 _ (pns (Ne.symm n)), f3 _ (pns (Ne.symm n)), f2 _ (pns (Ne.symm n)), f1 _ (pns (Ne.symm n))]
  have r8 : z14 (2, s, 0) 8 = z (2, t, 0) 8 := by rw [f14 _ (pne (by show (2 : Nat) ≠ 3; decide)), f13 _ (pne (by show (2 : Nat) ≠ 3; decide)), f12 _ (pne (by show (2 : Nat) ≠ 3; decide)), f11 _ (pne (by show (2 : Nat) ≠ 3; decide)), f10 _ (pne (by show (2 : Nat) ≠ 3; decide)), h9, f8 _ (pne (by show (2 : Nat) ≠ 3; decide)), f7 _ (pne (by show (2 : Nat) ≠ 3; decide)), f6 _ (pne (by show (2 : Nat) ≠ 3; decide)), f5 _ (pns (Ne.symm n)), f4 _ (pns (Ne.symm n)), f3 _ (pns (Ne.symm n)), f2 _ (pns (Ne.symm n)), f1 _ (pns (Ne.symm n))]
  have p0 : ∀ k, 0 ≤ k → k < 6 → z14 (3, s, 0) k = z (3, t, 0) k := fun k k0 k1 => by rw [f14 _ (pnj (by decide)), f13 _ (pnj (by decide)), f12 _ (pnj (by decide)), f11 _ (pnj (by decide)), f10 _ (pnj (by decide)), f9 _ (pne (by show (3 : Nat) ≠ 2; decide)), f8 _ (pnj (by decide)), f7 _ (pnj (by decide)), h6 k k0 k1, f5 _ (pne (by show (3 : Nat) ≠ 2; decide)), f4 _ (pne (by show (3 : Nat) ≠ 2; decide)), f3 _ (pne (by show (3 : Nat) ≠ 2; decide)), f2 _ (pne (by show (3 : Nat) ≠ 2; decide)), f1 _ (pne (by show (3 : Nat) ≠ 2; decide))]
  have p1 : ∀ k, 0 ≤ k → k < 6 → z14 (3, s, 1) k = z (3, t, 1) k := fun k k0 k1 => by rw [f14 _ (pnj (by decide)), f13 _ (pnj (by decide)), f12 _ (pnj (by decide)), f11 _ (pnj (by decide)), f10 _ (pnj (by decide)), f9 _ (pne (by show (3 : Nat) ≠ 2; decide)), f8 _ (pnj (by decide)), h7 k k0 k1, f6 _ (pns (Ne.symm n)), f5 _ (pne (by show (3 : Nat) ≠ 2; decide)), f4 _ (pne (by show (3 : Nat) ≠ 2; decide)), f3 _ (pne (by show (3 : Nat) ≠ 2; decide)), f2 _ (pne (by show (3 : Nat) ≠ 2; decide)), f1 _ (pne (by show (3 : Nat) ≠ 2; decide))]
  have p2 : ∀ k, 0 ≤ k → k < 6 → z14 (3, s, 2) k = z (3, t, 2) k := fun k k0 k1 => by rw [f14 _ (pnj (by decide)), f13 _ (pnj (by decide)), f12 _ (pnj (by decide)), f11 _ (pnj (by decide)), f10 _ (pnj (by decide)), f9 _ (pne (by show (3 : Nat) ≠ 2; decide)), h8 k k0 k1, f7 _ (pns (Ne.symm n)), f6 _ (pns (Ne.symm n)), f5 _ (pne (by show (3 : Nat) ≠ 2; decide)), f4 _ (pne (by show (3 : Nat) ≠ 2; decide)), f3 _ (pne (by show (3 : Nat) ≠ 2; decide)), f2 _ (pne (by show (3 : Nat) ≠ 2; decide)), f1 _ (pne (by show (3 : Nat) ≠ 2; decide))]
  have p3 : ∀ k, 0 ≤ k → k < 6 → z14 (3, s, 3) k = z (3, t, 3) k := fun k k0 k1 => by rw [f14 _ (pnj (by decide)), f13 _ (pnj (by decide)), f12 _ (pnj (by decide)), f11 _ (pnj (by decide)), h10 k k0 k1, f9 _ (pne (by show (3 : Nat) ≠ 2; decide)), f8 _ (pns (Ne.symm n)), f7 _ (pns (Ne.symm n)), f6 _ (pns (Ne.symm n)), f5 _ (pne (by show (3 : Nat) ≠ 2; decide)), f4 _ (pne (by show (3 : Nat) ≠ 2; decide)), f3 _ (pne (by show (3 : Nat) ≠ 2; decide)), f2 _ (pne (by show (3 : Nat) ≠ 2; decide)), f1 _ (pne (by show (3 : Nat) ≠ 2; decide))]
  have p4 : ∀ k, 0 ≤ k → k < 6 → z14 (3, s, 4) k = z (3, t, 4) k := fun k k0 k1 => by rw [f14 _ (pnj (by decide)), f13 _ (pnj (by decide)), f12 _ (pnj (by decide)), h11 k k0 k1, f10 _ (pns (Ne.symm n)), f9 _ (pne (by show (3 : Nat) ≠ 2; decide)), f8 _ (pns (Ne.symm n)), f7 _ (pns (Ne.symm n)), f6 _ (pns (Ne.symm n)), f5 _ (pne (by show (3 : Nat) ≠ 2; decide)), f4 _ (pne (by show (3 : Nat) ≠ 2; decide)), f3 _ (pne (by show (3 : Nat) ≠ 2; decide)), f2 _ (pne (by show (3 : Nat) ≠ 2; decide)), f1 _ (pne (by show (3 : Nat) ≠ 2; decide))]
  have p5 : ∀ k, 0 ≤ k → k < 6 → z14 (3, s, 5) k = z (3, t, 5) k := fun k k0 k1 => by rw [f14 _ (pnj (by decide)), f13 _ (pnj (by decide)), h12 k k0 k1, f11 _ (pns (Ne.symm n)), f10 _ (pns (Ne.symm n)), f9 _ (pne (by show (3 : Nat) ≠ 2; decide)), f8 _ (pns (Ne.symm n)), f7 _ (pns (Ne.symm n)), f6 _ (pns (Ne.symm n)), f5 _ (pne (by show (3 : Nat) ≠ 2; decide)), f4 _ (pne (by show (3 : Nat) ≠ 2; decide)), f3 _ (pne (by show (3 : Nat) ≠ 2; decide)), f2 _ (pne (by show (3 : Nat) ≠ 2; decide)), f1 _ (pne (by show (3 : Nat) ≠ 2; decide))]
  have p6 : ∀ k, 0 ≤ k → k < 6 → z14 (3, s, 6) k = z (3, t, 6) k := fun k k0 k1 => by rw [f14 _ (pnj (by decide)), h13 k k0 k1, f12 _ (pns (Ne.symm n)), f11 _ (pns (Ne.symm n)), f10 _ (pns (Ne.symm n)), f9 _ (pne (by show (3 : Nat) ≠ 2; decide)), f8 _ (pns (Ne.symm n)), f7 _ (pns (Ne.symm n)), f6 _ (pns (Ne.symm n)), f5 _ (pne (by show (3 : Nat) ≠ 2; decide)), f4 _ (pne (by show (3 : Nat) ≠ 2; decide)), f3 _ (pne (by show (3 : Nat) ≠ 2; decide)), f2 _ (pne (by show (3 : Nat) ≠ 2; decide)), f1 _ (pne (by show (3 : Nat) ≠ 2; decide))]
  have p7 : ∀ k, 0 ≤ k → k < 6 → z14 (3, s, 7) k = z (3, t, 7) k := fun k k0 k1 => by rw [h14 k k0 k1, f13 _ (pns (Ne.symm n)), f12 _ (pns (Ne.symm n)), f11 _ (pns (Ne.symm n)), f10 _ (pns (Ne.symm n)), f9 _ (pne (by show (3 : Nat) ≠ 2; decide)), f8 _ (pns (Ne.symm n)), f7 _ (pns (Ne.symm n)), f6 _ (pns (Ne.symm n)), f5 _ (pne (by show (3 : Nat) ≠ 2; decide)), f4 _ (pne (by show (3 : Nat) ≠ 2; decide)), f3 _ (pne (by show (3 : Nat) ≠ 2; decide)), f2 _ (pne (by show (3 : Nat) ≠ 2; decide)), f1 _ (pne (by show (3 : Nat) ≠ 2; decide))]
  have fin : (∀ a, InvC a → SimC z t a → SimC z14 s a) ∧ (∀ q : aP, q ≠ (2, s, 0) → (∀ j, q ≠ (3, s, j)) → z14 q = z q) := by
    refine ⟨fun a hI h => ?_, fun q q2 q3 => ?_⟩
    · have cc := hI.1
      obtain ⟨h1, h2, h3⟩ := h
      unfold SimC
      rw [r0, r1, r2, r3, r4, r8]
      refine ⟨h1, fun k k0 k1 => ?_, fun k k0 k1 => ?_⟩
      · rw [p0 k k0 (by omega), p1 k k0 (by omega), p2 k k0 (by omega)]; exact h2 k k0 k1
      · rw [p3 k k0 (by omega), p4 k k0 (by omega), p5 k k0 (by omega), p6 k k0 (by omega), p7 k k0 (by omega)]; exact h3 k k0 k1
    · rw [f14 _ (q3 _), f13 _ (q3 _), f12 _ (q3 _), f11 _ (q3 _), f10 _ (q3 _), f9 _ q2, f8 _ (q3 _), f7 _ (q3 _), f6 _ (q3 _), f5 _ q2, f4 _ q2, f3 _ q2, f2 _ q2, f1 _ q2]
  clear f1 h1 g1 f2 h2 g2 f3 h3 g3 f4 h4 g4 f5 h5 g5 f6 h6 f7 h7 f8 h8 f9 h9 g9 f10 h10 f11 h11 f12 h12 f13 h13 f14 h14 r0 r1 r2 r3 r4 r8 p0 p1 p2 p3 p4 p5 p6 p7
  subst e14 e13 e12 e11 e10 e9 e8 e7 e6 e5 e4 e3 e2 e1
  refine aM1_of kX0_copyFrom rfl (fun B hB => ?_)
  refine hB [] 1000 _ _ _ _ _ ?_
  repeat' (first | exact fin | refine And.intro ?_ ?_ | fail)
  all_goals first | omega | (exact rfl)

theorem cK_rcopy (n : s ≠ t) (hd : 1 ≤ d) (hb : z (5, t, r) 1 = 0 ∨ z (5, t, r) 1 = 1) : aM1 l g nX4_copyFrom d [.inr (.inr (.inl (5, s, r))), .inr (.inr (.inl (5, t, r)))] z (aRv0 (fun z' => (∀ a, a 0 ≤ 6 → SimR z t a r → SimR z' s a r) ∧ (∀ q : aP, q ≠ (5, s, r) → q ≠ (6, s, r) → z' q = z q))) := by
  obtain ⟨z1, e1⟩ : ∃ w, w = aWr z (5, s, r) 0 (z (5, t, r) 0) := ⟨_, rfl⟩
  have f1 : ∀ q : aP, q ≠ (5, s, r) → z1 q = z q := fun q h => by rw [e1]; exact aWr_ne2 h
  have g1 : ∀ j, j ≠ 0 → z1 (5, s, r) j = z (5, s, r) j := fun j h => by rw [e1]; exact aWr_j h
  have h1 : z1 (5, s, r) 0 = z (5, t, r) 0 := by rw [e1]; exact aWr_k _ _ _ _
  obtain ⟨z2, e2⟩ : ∃ w, w = aWr z1 (5, s, r) 1 (z1 (5, t, r) 1) := ⟨_, rfl⟩
  have f2 : ∀ q : aP, q ≠ (5, s, r) → z2 q = z1 q := fun q h => by rw [e2]; exact aWr_ne2 h
  have g2 : ∀ j, j ≠ 1 → z2 (5, s, r) j = z1 (5, s, r) j := fun j h => by rw [e2]; exact aWr_j h
  have h2 : z2 (5, s, r) 1 = z1 (5, t, r) 1 := by rw [e2]; exact aWr_k _ _ _ _
  obtain ⟨z3, e3⟩ : ∃ w, w = aWr z2 (5, s, r) 2 (z2 (5, t, r) 2) := ⟨_, rfl⟩
  have f3 : ∀ q : aP, q ≠ (5, s, r) → z3 q = z2 q := fun q h => by rw [e3]; exact aWr_ne2 h
  have g3 : ∀ j, j ≠ 2 → z3 (5, s, r) j = z2 (5, s, r) j := fun j h => by rw [e3]; exact aWr_j h
  have h3 : z3 (5, s, r) 2 = z2 (5, t, r) 2 := by rw [e3]; exact aWr_k _ _ _ _
  obtain ⟨z4, e4⟩ : ∃ w, w = aCp z3 (6, t, r) 0 (6, s, r) 0 6 := ⟨_, rfl⟩
  have f4 : ∀ q : aP, q ≠ (6, s, r) → z4 q = z3 q := fun q h => by rw [e4]; exact aCp_n h
  have h4 : ∀ k, 0 ≤ k → k < 6 → z4 (6, s, r) k = z3 (6, t, r) k := fun k k0 k1 => by rw [e4]; exact aCp_0 k0 k1
  obtain ⟨z5, e5⟩ : ∃ w, w = aWr z4 (5, s, r) 4 (z4 (5, t, r) 4) := ⟨_, rfl⟩
  have f5 : ∀ q : aP, q ≠ (5, s, r) → z5 q = z4 q := fun q h => by rw [e5]; exact aWr_ne2 h
  have g5 : ∀ j, j ≠ 4 → z5 (5, s, r) j = z4 (5, s, r) j := fun j h => by rw [e5]; exact aWr_j h
  have h5 : z5 (5, s, r) 4 = z4 (5, t, r) 4 := by rw [e5]; exact aWr_k _ _ _ _
  obtain ⟨z6, e6⟩ : ∃ w, w = aWr z5 (5, s, r) 5 (z5 (5, t, r) 5) := ⟨_, rfl⟩
  have f6 : ∀ q : aP, q ≠ (5, s, r) → z6 q = z5 q := fun q h => by rw [e6]; exact aWr_ne2 h
  have g6 : ∀ j, j ≠ 5 → z6 (5, s, r) j = z5 (5, s, r) j := fun j h => by rw [e6]; exact aWr_j h
  have h6 : z6 (5, s, r) 5 = z5 (5, t, r) 5 := by rw [e6]; exact aWr_k _ _ _ _
  obtain ⟨z7, e7⟩ : ∃ w, w = aWr z6 (5, s, r) 6 (z6 (5, t, r) 6) := ⟨_, rfl⟩
  have f7 : ∀ q : aP, q ≠ (5, s, r) → z7 q = z6 q := fun q h => by rw [e7]; exact aWr_ne2 h
  have g7 : ∀ j, j ≠ 6 → z7 (5, s, r) j = z6 (5, s, r) j := fun j h => by rw [e7]; exact aWr_j h
  have h7 : z7 (5, s, r) 6 = z6 (5, t, r) 6 := by rw [e7]; exact aWr_k _ _ _ _
  obtain ⟨z8, e8⟩ : ∃ w, w = aWr z7 (5, s, r) 7 (z7 (5, t, r) 7) := ⟨_, rfl⟩
  have f8 : ∀ q : aP, q ≠ (5, s, r) → z8 q = z7 q := fun q h => by rw [e8]; exact aWr_ne2 h
  have g8 : ∀ j, j ≠ 7 → z8 (5, s, r) j = z7 (5, s, r) j := fun j h => by rw [e8]; exact aWr_j h
  have h8 : z8 (5, s, r) 7 = z7 (5, t, r) 7 := by rw [e8]; exact aWr_k _ _ _ _
  obtain ⟨z9, e9⟩ : ∃ w, w = aWr z8 (5, s, r) 8 (z8 (5, t, r) 8) := ⟨_, rfl⟩
  have f9 : ∀ q : aP, q ≠ (5, s, r) → z9 q = z8 q := fun q h => by rw [e9]; exact aWr_ne2 h
  have g9 : ∀ j, j ≠ 8 → z9 (5, s, r) j = z8 (5, s, r) j := fun j h => by rw [e9]; exact aWr_j h
  have h9 : z9 (5, s, r) 8 = z8 (5, t, r) 8 := by rw [e9]; exact aWr_k _ _ _ _
  have r0 : z9 (5, s, r) 0 = z (5, t, r) 0 := by rw [g9 _ (by decide), g8 _ (by decide), g7 _ (by decide), g6 _ (by decide), g5 _ (by decide), f4 _ (pne (by show (5 : Nat) ≠ 6; decide)), g3 _ (by decide), g2 _ (by decide), h1]
  have r1 : z9 (5, s, r) 1 = z (5, t, r) 1 := by rw [g9 _ (by decide), g8 _ (by decide), g7 _ (by decide), g6 _ (by decide), g5 _ (by decide), f4 _ (pne (by show (5 : Nat) ≠ 6; decide)), g3 _ (by decide), h2, f1 _ (pns (Ne.symm n))]
  have r2 : z9 (5, s, r) 2 = z (5, t, r) 2 := by rw [g9 _ (by decide), g8 _ (by decide), g7 _ (by decide), g6 _ (by decide), g5 _ (by decide), f4 _ (pne (by show (5 : Nat) ≠ 6; decide)), h3, f2 _ (pns (Ne.symm n)), f1 _ (pns (Ne.symm n))]
  have r4 : z9 (5, s, r) 4 = z (5, t, r) 4 := by rw [g9 _ (by decide), g8 _ (by decide), g7 _ (by decide), g6 _ (by decide), h5, f4 _ (pne (by show (5 : Nat) ≠ 6; decide)), f3 _ (pns (Ne.symm n)), f2 _ (pns (Ne.symm n)), f1 _ (pns (Ne.symm n))]
  have r5 : z9 (5, s, r) 5 = z (5, t, r) 5 := by rw [g9 _ (by decide), g8 _ (by decide), g7 _ (by decide), h6, f5 _ (pns (Ne.symm n)), f4 _ (pne (by show (5 : Nat) ≠ 6; decide)), f3 _ (pns (Ne.symm n)), f2 _ (pns (Ne.symm n)), f1 _ (pns (Ne.symm n))]
  have r6 : z9 (5, s, r) 6 = z (5, t, r) 6 := by rw [g9 _ (by decide), g8 _ (by decide), h7, f6 _ (pns (Ne.symm n)), f5 _ (pns (Ne.symm n)), f4 _ (pne (by show (5 : Nat) ≠ 6; decide)), f3 _ (pns (Ne.symm n)), f2 _ (pns (Ne.symm n)), f1 _ (pns (Ne.symm n))]
  have r7 : z9 (5, s, r) 7 = z (5, t, r) 7 := by rw [g9 _ (by decide), h8, f7 _ (pns (Ne.symm n)), f6 _ (pns (Ne.symm n)), f5 _ (pns (Ne.symm n)), f4 _ (pne (by show (5 : Nat) ≠ 6; decide)), f3 _ (pns (Ne.symm n)), f2 _ (pns (Ne.symm n)), f1 _ (pns (Ne.symm n))]
  have r8 : z9 (5, s, r) 8 = z (5, t, r) 8 := by rw [h9, f8 _ (pns (Ne.symm n)), f7 _ (pns (Ne.symm n)), f6 _ (pns (Ne.symm n)), f5 _ (pns (Ne.symm n)), f4 _ (pne (by show (5 : Nat) ≠ 6; decide)), f3 _ (pns (Ne.symm n)), f2 _ (pns (Ne.symm n)), f1 _ (pns (Ne.symm n))]
  have p0 : ∀ k, 0 ≤ k → k < 6 → z9 (6, s, r) k = z (6, t, r) k := fun k k0 k1 => by rw [f9 _ (pne (by show (6 : Nat) ≠ 5; decide)), f8 _ (pne (by show (6 : Nat) ≠ 5; decide)), f7 _ (pne (by show (6 : Nat) ≠ 5; decide)), f6 _ (pne (by show (6 : Nat) ≠ 5; decide)), f5 _ (pne (by show (6 : Nat) ≠ 5; decide)), h4 k k0 k1, f3 _ (pne (by show (6 : Nat) ≠ 5; decide)), f2 _ (pne (by show (6 : Nat) ≠ 5; decide)), f1 _ (pne (by show (6 : Nat) ≠ 5; decide))]
  have b1 : z1 (5, t, r) 1 = z (5, t, r) 1 := by rw [f1 _ (pns (Ne.symm n))]
  rw [← b1] at hb
  have fin : (∀ a, a 0 ≤ 6 → SimR z t a r → SimR z9 s a r) ∧ (∀ q : aP, q ≠ (5, s, r) → q ≠ (6, s, r) → z9 q = z q) := by
    refine ⟨fun a h6 h => ?_, fun q q5 q6 => ?_⟩
    · obtain ⟨h1, h2, h3⟩ := h
      unfold SimR
      rw [r0, r1, r2, r4, r5, r6, r7, r8]
      refine ⟨h1, h2, fun k k0 k1 => ?_⟩
      rw [p0 k k0 (by omega)]; exact h3 k k0 k1
    · rw [f9 _ q5, f8 _ q5, f7 _ q5, f6 _ q5, f5 _ q5, f4 _ q6, f3 _ q5, f2 _ q5, f1 _ q5]
  clear b1 f1 h1 g1 f2 h2 g2 f3 h3 g3 f4 h4 f5 h5 g5 f6 h6 g6 f7 h7 g7 f8 h8 g8 f9 h9 g9 r0 r1 r2 r4 r5 r6 r7 r8 p0
  subst e9 e8 e7 e6 e5 e4 e3 e2 e1
  refine aM1_of kX4_copyFrom rfl (fun B hB => ?_)
  refine hB [] 1000 _ _ _ _ _ ?_
  repeat' (first | exact fin | refine And.intro ?_ ?_ | fail)
  all_goals first | omega | (exact rfl) | (exact Or.inl rfl) | (exact Or.inr rfl) | (exact hb)

theorem cK_begin (hd : 1 ≤ d) : aM1 l g nX4_begin d [.inr (.inr (.inl (5, s, r))), .inr (.inr (.inl (2, s, 0)))] z (aRv0 (fun z' => ((z' (5, s, r) 0 = 0 ∧ z' (5, s, r) 1 = 0) ∧ (z' (5, s, r) 2 = z (2, s, 0) 4 ∧ z' (5, s, r) 4 = 0) ∧ (z' (5, s, r) 5 = 0 ∧ z' (5, s, r) 6 = 0) ∧ (z' (5, s, r) 7 = 0 ∧ z' (5, s, r) 8 = 0)) ∧ (∀ k, 0 ≤ k → k < 6 → z' (6, s, r) k = z (3, s, 2) k) ∧ (∀ q : aP, q ≠ (5, s, r) → q ≠ (6, s, r) → z' q = z q))) := by
  obtain ⟨z1, e1⟩ : ∃ w, w = aWr z (5, s, r) 0 (0) := ⟨_, rfl⟩
  have f1 : ∀ q : aP, q ≠ (5, s, r) → z1 q = z q := fun q h => by rw [e1]; exact aWr_ne2 h
  have g1 : ∀ j, j ≠ 0 → z1 (5, s, r) j = z (5, s, r) j := fun j h => by rw [e1]; exact aWr_j h
  have h1 : z1 (5, s, r) 0 = 0 := by rw [e1]; exact aWr_k _ _ _ _
  obtain ⟨z2, e2⟩ : ∃ w, w = aWr z1 (5, s, r) 1 (0) := ⟨_, rfl⟩
  have f2 : ∀ q : aP, q ≠ (5, s, r) → z2 q = z1 q := fun q h => by rw [e2]; exact aWr_ne2 h
  have g2 : ∀ j, j ≠ 1 → z2 (5, s, r) j = z1 (5, s, r) j := fun j h => by rw [e2]; exact aWr_j h
  have h2 : z2 (5, s, r) 1 = 0 := by rw [e2]; exact aWr_k _ _ _ _
  obtain ⟨z3, e3⟩ : ∃ w, w = aWr z2 (5, s, r) 2 (z2 (2, s, 0) 4) := ⟨_, rfl⟩
  have f3 : ∀ q : aP, q ≠ (5, s, r) → z3 q = z2 q := fun q h => by rw [e3]; exact aWr_ne2 h
  have g3 : ∀ j, j ≠ 2 → z3 (5, s, r) j = z2 (5, s, r) j := fun j h => by rw [e3]; exact aWr_j h
  have h3 : z3 (5, s, r) 2 = z2 (2, s, 0) 4 := by rw [e3]; exact aWr_k _ _ _ _
  obtain ⟨z4, e4⟩ : ∃ w, w = aCp z3 (3, s, 2) 0 (6, s, r) 0 6 := ⟨_, rfl⟩
  have f4 : ∀ q : aP, q ≠ (6, s, r) → z4 q = z3 q := fun q h => by rw [e4]; exact aCp_n h
  have h4 : ∀ k, 0 ≤ k → k < 6 → z4 (6, s, r) k = z3 (3, s, 2) k := fun k k0 k1 => by rw [e4]; exact aCp_0 k0 k1
  obtain ⟨z5, e5⟩ : ∃ w, w = aWr z4 (5, s, r) 4 (0) := ⟨_, rfl⟩
  have f5 : ∀ q : aP, q ≠ (5, s, r) → z5 q = z4 q := fun q h => by rw [e5]; exact aWr_ne2 h
  have g5 : ∀ j, j ≠ 4 → z5 (5, s, r) j = z4 (5, s, r) j := fun j h => by rw [e5]; exact aWr_j h
  have h5 : z5 (5, s, r) 4 = 0 := by rw [e5]; exact aWr_k _ _ _ _
  obtain ⟨z6, e6⟩ : ∃ w, w = aWr z5 (5, s, r) 5 (0) := ⟨_, rfl⟩
  have f6 : ∀ q : aP, q ≠ (5, s, r) → z6 q = z5 q := fun q h => by rw [e6]; exact aWr_ne2 h
  have g6 : ∀ j, j ≠ 5 → z6 (5, s, r) j = z5 (5, s, r) j := fun j h => by rw [e6]; exact aWr_j h
  have h6 : z6 (5, s, r) 5 = 0 := by rw [e6]; exact aWr_k _ _ _ _
  obtain ⟨z7, e7⟩ : ∃ w, w = aWr z6 (5, s, r) 6 (0) := ⟨_, rfl⟩
  have f7 : ∀ q : aP, q ≠ (5, s, r) → z7 q = z6 q := fun q h => by rw [e7]; exact aWr_ne2 h
  have g7 : ∀ j, j ≠ 6 → z7 (5, s, r) j = z6 (5, s, r) j := fun j h => by rw [e7]; exact aWr_j h
  have h7 : z7 (5, s, r) 6 = 0 := by rw [e7]; exact aWr_k _ _ _ _
  obtain ⟨z8, e8⟩ : ∃ w, w = aWr z7 (5, s, r) 7 (0) := ⟨_, rfl⟩
  have f8 : ∀ q : aP, q ≠ (5, s, r) → z8 q = z7 q := fun q h => by rw [e8]; exact aWr_ne2 h
  have g8 : ∀ j, j ≠ 7 → z8 (5, s, r) j = z7 (5, s, r) j := fun j h => by rw [e8]; exact aWr_j h
  have h8 : z8 (5, s, r) 7 = 0 := by rw [e8]; exact aWr_k _ _ _ _
  obtain ⟨z9, e9⟩ : ∃ w, w = aWr z8 (5, s, r) 8 (0) := ⟨_, rfl⟩
  have f9 : ∀ q : aP, q ≠ (5, s, r) → z9 q = z8 q := fun q h => by rw [e9]; exact aWr_ne2 h
  have g9 : ∀ j, j ≠ 8 → z9 (5, s, r) j = z8 (5, s, r) j := fun j h => by rw [e9]; exact aWr_j h
  have h9 : z9 (5, s, r) 8 = 0 := by rw [e9]; exact aWr_k _ _ _ _
  have r0 : z9 (5, s, r) 0 = 0 := by rw [g9 _ (by decide), g8 _ (by decide), g7 _ (by decide), g6 _ (by decide), g5 _ (by decide), f4 _ (pne (by show (5 : Nat) ≠ 6; decide)), g3 _ (by decide), g2 _ (by decide), h1]
  have r1 : z9 (5, s, r) 1 = 0 := by rw [g9 _ (by decide), g8 _ (by decide), g7 _ (by decide), g6 _ (by decide), g5 _ (by decide), f4 _ (pne (by show (5 : Nat) ≠ 6; decide)), g3 _ (by decide), h2]
  have r2 : z9 (5, s, r) 2 = z (2, s, 0) 4 := by rw [g9 _ (by decide), g8 _ (by decide), g7 _ (by decide), g6 _ (by decide), g5 _ (by decide), f4 _ (pne (by show (5 : Nat) ≠ 6; decide)), h3, f2 _ (pne (by show (2 : Nat) ≠ 5; decide)), f1 _ (pne (by show (2 : Nat) ≠ 5; decide))]
  have r4 : z9 (5, s, r) 4 = 0 := by rw [g9 _ (by decide), g8 _ (by decide), g7 _ (by decide), g6 _ (by decide), h5]
  have r5 : z9 (5, s, r) 5 = 0 := by rw [g9 _ (by decide), g8 _ (by decide), g7 _ (by decide), h6]
  have r6 : z9 (5, s, r) 6 = 0 := by rw [g9 _ (by decide), g8 _ (by decide), h7]
  have r7 : z9 (5, s, r) 7 = 0 := by rw [g9 _ (by decide), h8]
  have r8 : z9 (5, s, r) 8 = 0 := by rw [h9]
  have p0 : ∀ k, 0 ≤ k → k < 6 → z9 (6, s, r) k = z (3, s, 2) k := fun k k0 k1 => by rw [f9 _ (pne (by show (6 : Nat) ≠ 5; decide)), f8 _ (pne (by show (6 : Nat) ≠ 5; decide)), f7 _ (pne (by show (6 : Nat) ≠ 5; decide)), f6 _ (pne (by show (6 : Nat) ≠ 5; decide)), f5 _ (pne (by show (6 : Nat) ≠ 5; decide)), h4 k k0 k1, f3 _ (pne (by show (3 : Nat) ≠ 5; decide)), f2 _ (pne (by show (3 : Nat) ≠ 5; decide)), f1 _ (pne (by show (3 : Nat) ≠ 5; decide))]
  have fin : ((z9 (5, s, r) 0 = 0 ∧ z9 (5, s, r) 1 = 0) ∧ (z9 (5, s, r) 2 = z (2, s, 0) 4 ∧ z9 (5, s, r) 4 = 0) ∧ (z9 (5, s, r) 5 = 0 ∧ z9 (5, s, r) 6 = 0) ∧ (z9 (5, s, r) 7 = 0 ∧ z9 (5, s, r) 8 = 0)) ∧ (∀ k, 0 ≤ k → k < 6 → z9 (6, s, r) k = z (3, s, 2) k) ∧ (∀ q : aP, q ≠ (5, s, r) → q ≠ (6, s, r) → z9 q = z q) := by
    refine ⟨⟨⟨r0, r1⟩, ⟨r2, r4⟩, ⟨r5, r6⟩, r7, r8⟩, p0, fun q q5 q6 => ?_⟩
    rw [f9 _ q5, f8 _ q5, f7 _ q5, f6 _ q5, f5 _ q5, f4 _ q6, f3 _ q5, f2 _ q5, f1 _ q5]
  clear f1 h1 g1 f2 h2 g2 f3 h3 g3 f4 h4 f5 h5 g5 f6 h6 g6 f7 h7 g7 f8 h8 g8 f9 h9 g9 r0 r1 r2 r4 r5 r6 r7 r8 p0
  subst e9 e8 e7 e6 e5 e4 e3 e2 e1
  refine aM1_of kX4_begin rfl (fun B hB => ?_)
  refine hB [] 1000 _ _ _ _ _ ?_
  repeat' (first | exact fin | refine And.intro ?_ ?_ | fail)
  all_goals first | omega | (exact rfl) | (exact Or.inl rfl) | (exact Or.inr rfl)

theorem cK_scopy {a : Int → Int} (n : s ≠ t) (hd : 2 ≤ d) (h : Sim z t a) (hI : Inv0 a) : aM1 l g nX5_copyFrom d [.inr (.inr (.inl (1, s, 0))), .inr (.inr (.inl (1, t, 0)))] z (aRv0 (fun z' => Sim z' s a ∧ fS s z z')) := by
  have cc := hI.1.1
  refine aM1_of kX5_copyFrom rfl (fun B hB => ?_)
  have tail : ∀ (z1 : aM) (L : List (Option aV)), SimC z1 s a → (∀ r, 0 ≤ r → r < a 2 → SimR z1 s a r) → z1 (1, s, 0) 2 = a 2 → fS s z z1 → L = [some (.inr (.inr (.inl (1, s, 0)))), some (.inr (.inr (.inl (1, t, 0)))), some (.inl (a 2))] → B (none, 0, 0) z1 50 L [] := by
    intro z1 L h1 h2 h3 hF eL
    subst eL
    have hT := h.fr (Ne.symm n) hF
    have b3 := hT.2.2.1.2
    have b3' : z1 (1, t, 0) 3 = 0 ∨ z1 (1, t, 0) 3 = 1 := by
      rw [b3]
      by_cases q : a 7 = -1
      · rw [if_pos q]; exact Or.inl rfl
      · rw [if_neg q]; exact Or.inr rfl
    obtain ⟨y1, e1⟩ : ∃ y, y = aWr z1 (1, s, 0) 3 (z1 (1, t, 0) 3) := ⟨_, rfl⟩
    obtain ⟨y2, e2⟩ : ∃ y, y = aWr y1 (1, s, 0) 4 (y1 (1, t, 0) 4) := ⟨_, rfl⟩
    obtain ⟨y3, e3⟩ : ∃ y, y = aWr y2 (1, s, 0) 5 (y2 (1, t, 0) 5) := ⟨_, rfl⟩
    obtain ⟨y4, e4⟩ : ∃ y, y = aWr y3 (1, s, 0) 6 (y3 (1, t, 0) 6) := ⟨_, rfl⟩
    have n1 : ((1 : Nat), t, (0 : Int)) ≠ (1, s, 0) := pns (Ne.symm n)
    have t1 : y1 (1, t, 0) = z1 (1, t, 0) := by rw [e1]; exact aWr_ne2 n1
    have t2 : y2 (1, t, 0) = z1 (1, t, 0) := by rw [e2, aWr_ne2 n1, t1]
    have t3 : y3 (1, t, 0) = z1 (1, t, 0) := by rw [e3, aWr_ne2 n1, t2]
    have q6 : y4 (1, s, 0) 6 = z1 (1, t, 0) 6 := by rw [e4, aWr_k, t3]
    have q5 : y4 (1, s, 0) 5 = z1 (1, t, 0) 5 := by rw [e4, aWr_j (by decide), e3, aWr_k, t2]
    have q4 : y4 (1, s, 0) 4 = z1 (1, t, 0) 4 := by rw [e4, aWr_j (by decide), e3, aWr_j (by decide), e2, aWr_k, t1]
    have q3 : y4 (1, s, 0) 3 = z1 (1, t, 0) 3 := by rw [e4, aWr_j (by decide), e3, aWr_j (by decide), e2, aWr_j (by decide), e1, aWr_k]
    have q2 : y4 (1, s, 0) 2 = a 2 := by rw [e4, aWr_j (by decide), e3, aWr_j (by decide), e2, aWr_j (by decide), e1, aWr_j (by decide), h3]
    have qo : ∀ q : aP, q ≠ (1, s, 0) → y4 q = z1 q := fun q hq => by rw [e4, aWr_ne2 hq, e3, aWr_ne2 hq, e2, aWr_ne2 hq, e1, aWr_ne2 hq]
    have fin : Sim y4 s a ∧ fS s z y4 := by
      refine ⟨⟨h1.cg (by omega) (fun _ _ _ _ _ => rfl) (qo _ (pne (by show (2 : Nat) ≠ 1; decide))) (fun j => qo _ (pne (by show (3 : Nat) ≠ 1; decide))), fun r r0 r1 => (h2 r r0 r1).cg rfl (by omega) (fun _ _ _ => rfl) (qo _ (pne (by show (5 : Nat) ≠ 1; decide))) (qo _ (pne (by show (6 : Nat) ≠ 1; decide))), ?_⟩, ?_⟩
      · unfold SimS
        rw [q2, q3, q4, q5, q6]
        exact ⟨⟨rfl, hT.2.2.1.2⟩, hT.2.2.2⟩
      · rw [e4, e3, e2, e1]
        exact (((hF.wr (by decide) (by decide)).wr (by decide) (by decide)).wr (by decide) (by decide)).wr (by decide) (by decide)
    clear q6 q5 q4 q3 q2 qo t1 t2 t3
    subst e4 e3 e2 e1
    refine hB [] 1000 _ _ _ _ _ ?_
    repeat' (first | exact fin | refine And.intro ?_ ?_ | fail)
    all_goals first | omega | (exact rfl) | (exact b3')
  have loop : ∀ (m : Nat) (z1 : aM) (r : Int), r + (m : Int) = a 2 → 0 ≤ r → SimC z1 s a → (∀ r', 0 ≤ r' → r' < r → SimR z1 s a r') → z1 (1, s, 0) 2 = a 2 → fS s z z1 → B (none, 0, 0) z1 21 [some (.inr (.inr (.inl (1, s, 0)))), some (.inr (.inr (.inl (1, t, 0)))), some (.inl r)] [] := by
    intro m
    induction m with
    | zero =>
      intro z1 r hm r0 h1 h2 h3 hF
      have er : r = a 2 := by omega
      subst er
      have tl := tail z1 _ h1 h2 h3 hF rfl
      refine hB [50] 1000 _ _ _ _ _ ?_
      repeat' (first | exact tl | refine And.intro ?_ ?_ | (intro hh; first | exact absurd hh (by decide) | exact absurd rfl hh | (exfalso; omega) | skip) | fail)
      all_goals first | omega | (exact rfl)
    | succ m ih =>
      intro z1 r hm r0 h1 h2 h3 hF
      have hT := h.fr (Ne.symm n) hF
      have hRt := hT.2.1 r r0 (by omega)
      have ok := (hI.2.2.1 r r0 (by omega)).1.1
      have hb : z1 (5, t, r) 1 = 0 ∨ z1 (5, t, r) 1 = 1 := by rw [hRt.1.1.2]; omega
      have rc := cK_rcopy (l := l) (g := g) (d := d - 1) (z := z1) (r := r) n (by omega) hb
      refine hB [21] 1000 _ _ _ _ _ ?_
      repeat' (first | refine And.intro ?_ ?_ | (intro hh; first | exact absurd hh (by decide) | exact absurd rfl hh | (exfalso; omega) | skip) | refine Or.inl (uV rc ?_) | fail)
      all_goals first | omega | (exact rfl) | skip
      all_goals (
        show B (none, 0, 0) _ 21 _ _
        rename_i hh
        obtain ⟨c1, c2⟩ := hh
        refine ih _ (r + 1) (by omega) (by omega) ?_ ?_ ?_ ?_
        · exact h1.cg (by omega) (fun _ _ _ _ _ => rfl) (c2 _ (pne (by show (2 : Nat) ≠ 5; decide)) (pne (by show (2 : Nat) ≠ 6; decide))) (fun j => c2 _ (pne (by show (3 : Nat) ≠ 5; decide)) (pne (by show (3 : Nat) ≠ 6; decide)))
        · intro r' r0' r1'
          by_cases e : r' = r
          · rw [e]; exact c1 a (by omega) hRt
          · exact (h2 r' r0' (by omega)).cg rfl (by omega) (fun _ _ _ => rfl) (c2 _ (pnj e) (pne (by show (5 : Nat) ≠ 6; decide))) (c2 _ (pne (by show (6 : Nat) ≠ 5; decide)) (pnj e))
        · rw [c2 _ (pne (by show (1 : Nat) ≠ 5; decide)) (pne (by show (1 : Nat) ≠ 6; decide))]; exact h3
        · exact fun q hq => (c2 q (fun e => hq (by rw [e]; exact ⟨⟨by show 1 ≤ 5; decide, by show 5 ≤ 6; decide⟩, rfl⟩)) (fun e => hq (by rw [e]; exact ⟨⟨by show 1 ≤ 6; decide, by show 6 ≤ 6; decide⟩, rfl⟩))).trans (hF q hq))
  have ccp := cK_ccopy (l := l) (g := g) (d := d - 1) (z := z) n (by omega)
  have e2t := h.2.2.1.1
  refine hB [21] 1000 _ _ _ _ _ ?_
  refine And.intro (by exact ⟨⟨rfl, rfl⟩, by omega⟩) (Or.inl (uV ccp ?_))
  intro z1 hz1
  obtain ⟨c1, c2⟩ := hz1
  show B (none, 0, 0) (aWr z1 (1, s, 0) 2 (z1 (1, t, 0) 2)) 21 _ _
  have e2 : z1 (1, t, 0) 2 = a 2 := by rw [c2 _ (pne (by show (1 : Nat) ≠ 2; decide)) (fun j => pne (by show (1 : Nat) ≠ 3; decide))]; exact e2t
  rw [e2]
  have hF1 : fS s z z1 := fun q hq => c2 q (fun e => hq (by rw [e]; exact ⟨⟨by show 1 ≤ 2; decide, by show 2 ≤ 6; decide⟩, rfl⟩)) (fun j e => hq (by rw [e]; exact ⟨⟨by show 1 ≤ 3; decide, by show 3 ≤ 6; decide⟩, rfl⟩))
  refine loop (a 2).toNat _ 0 (by omega) (by omega) ((c1 a hI.1 h.1).cg (by omega) (fun _ _ _ _ _ => rfl) (aWr_ne2 (pne (by show (2 : Nat) ≠ 1; decide))) (fun j => aWr_ne2 (pne (by show (3 : Nat) ≠ 1; decide)))) (fun r' r0' r1' => by omega) (aWr_k _ _ _ _) (hF1.wr (by decide) (by decide))

/-- all points from a leg on -/
def zPs (f : Int → Int) (leg : Int) (n : Nat) : Int → Int := fun k => if leg ≤ k ∧ k < leg + (n : Int) then 0 else f k
theorem cK_deductFrom {k : Int} (hd : 2 ≤ d) (c0 : k ≤ z (5, s, r) 2) (c1 : z (5, s, r) 2 ≤ 6) (k0 : 0 ≤ k) (hp : ∀ i, 0 ≤ i → i < z (5, s, r) 2 → 0 ≤ z (6, s, r) i ∧ z (6, s, r) i ≤ 30) : aE1 l g nX4_deductFrom d [.inr (.inr (.inl (5, s, r))), .inl k] z (sN (fun i => z (6, s, r) (k + i)) (z (5, s, r) 2 - k).toNat) (pS z (6, s, r) (zPs (z (6, s, r)) k (z (5, s, r) 2 - k).toNat)) := by
  refine aM1_of kX4_deductFrom rfl (fun B hB => ?_)
  have loop : ∀ (n : Nat) (m : Nat) (i acc : Int), i + (n : Int) = z (5, s, r) 2 → i = k + (m : Int) → acc = sN (fun i => z (6, s, r) (k + i)) m → B (none, 0, 0) (pS z (6, s, r) (zPs (z (6, s, r)) k m)) 4 [some (.inr (.inr (.inl (5, s, r)))), some (.inl k), some (.inl acc), some (.inl i)] [] := by
    intro n
    induction n with
    | zero =>
      intro m i acc h1 h2 h3
      have em : m = (z (5, s, r) 2 - k).toNat := by omega
      subst em
      have e5 : pS z (6, s, r) (zPs (z (6, s, r)) k (z (5, s, r) 2 - k).toNat) (5, s, r) = z (5, s, r) := pS_ne (pne (by show (5 : Nat) ≠ 6; decide))
      have e52 : pS z (6, s, r) (zPs (z (6, s, r)) k (z (5, s, r) 2 - k).toNat) (5, s, r) 2 = z (5, s, r) 2 := by rw [e5]
      refine hB [] 1000 _ _ _ _ _ ?_
      repeat' (first | refine And.intro ?_ ?_ | (intro hh; first | exact absurd hh (by decide) | exact absurd rfl hh | (exfalso; omega) | skip) | fail)
      all_goals first | omega | (exact sI h3) | (exact rfl)
    | succ n ih =>
      intro m i acc h1 h2 h3
      obtain ⟨y, ey⟩ : ∃ y, y = pS z (6, s, r) (zPs (z (6, s, r)) k m) := ⟨_, rfl⟩
      have y5 : y (5, s, r) = z (5, s, r) := by rw [ey]; exact pS_ne (pne (by show (5 : Nat) ≠ 6; decide))
      have y52 : y (5, s, r) 2 = z (5, s, r) 2 := by rw [y5]
      have y6 : y (6, s, r) i = z (6, s, r) i := by rw [ey, pS_at]; unfold zPs; rw [if_neg (by omega)]
      have b := hp i (by omega) (by omega)
      have dd := cK_deduct (l := l) (g := g) (d := d - 1) (z := y) (s := s) (r := r) (k := i) (p := y (6, s, r) i) (by omega) (by omega) (by omega) (by unfold aIR; omega) (by omega) (by omega)
      rw [Int.min_self, Int.sub_self] at dd
      have e2 : aWr y (6, s, r) i 0 = pS z (6, s, r) (zPs (z (6, s, r)) k (m + 1)) := by
        rw [ey, aWr_pS, pS_pS, pS_at]
        congr 1
        funext j
        unfold ud zPs
        by_cases e : j = i
        · rw [if_pos e, if_pos (by omega)]
        · rw [if_neg e]
          by_cases e3 : k ≤ j ∧ j < k + (m : Int)
          · rw [if_pos e3, if_pos (by omega)]
          · rw [if_neg e3, if_neg (by omega)]
      have nx := ih (m + 1) (i + 1) (acc + y (6, s, r) i) (by omega) (by omega) (by
        rw [h3, y6, h2]; rfl)
      rw [← e2] at nx
      rw [← ey]
      refine hB [4] 1000 _ _ _ _ _ ?_
      repeat' (first | exact nx | refine And.intro ?_ ?_ | (intro hh; first | exact absurd hh (by decide) | exact absurd rfl hh | (exfalso; omega) | skip) | refine Or.inl (uE dd ?_) | fail)
      all_goals first | omega | (exact rfl)
  have st := loop (z (5, s, r) 2 - k).toNat 0 k 0 (by omega) (by omega) rfl
  have e0 : zPs (z (6, s, r)) k 0 = z (6, s, r) := by
    funext j
    unfold zPs
    rw [if_neg (by omega)]
  rw [e0, pS_id] at st
  refine hB [4] 1000 _ _ _ _ _ ?_
  repeat' (first | exact st | refine And.intro ?_ ?_ | (intro hh; first | exact absurd hh (by decide) | exact absurd rfl hh | (exfalso; omega) | skip) | fail)
  all_goals first | omega | (exact rfl)

end K2
