/-! THE CLASS: how its memory holds a state; runs and courses (printed by wip/whole/cls1.py) -/
theorem pne {p q : aP} (h : p.1 ≠ q.1) : p ≠ q := fun e => h (congrArg Prod.fst e)
theorem pnj {k : Nat} {s : Int} {j j' : Int} (h : j ≠ j') : ((k, s, j) : aP) ≠ (k, s, j') := fun e => h (congrArg (fun p : aP => p.2.2) e)
theorem pns {k : Nat} {s s' j j' : Int} (h : s ≠ s') : ((k, s, j) : aP) ≠ (k, s', j') := fun e => h (congrArg (fun p : aP => p.2.1) e)
theorem aWr_a (z : aM) (p : aP) (k x j : Int) : aWr z p k x p j = ud (z p) k x j := by rw [aWr_pS, pS_at]
theorem aWr_k (z : aM) (p : aP) (k x : Int) : aWr z p k x p k = x := by rw [aWr_a, ud_at]
theorem aWr_j {z : aM} {p : aP} {k x j : Int} (h : j ≠ k) : aWr z p k x p j = z p j := by rw [aWr_a, ud_ne h]
def SimC (z : aM) (s : Int) (a : Int → Int) : Prop :=
  ((z (2, s, 0) 0 = a 3 ∧ z (2, s, 0) 1 = a 4) ∧ (z (2, s, 0) 2 = a 5 ∧ z (2, s, 0) 3 = a 6) ∧ (z (2, s, 0) 4 = a 0 ∧ z (2, s, 0) 8 = a 1)) ∧
  (∀ k, 0 ≤ k → k < a 0 → z (3, s, 0) k = a (11 + 3 * k) ∧ z (3, s, 1) k = a (11 + 3 * k + 1) ∧ z (3, s, 2) k = a (11 + 3 * k + 2)) ∧
  (∀ k, 0 ≤ k → k < a 1 → z (3, s, 3) k = a (29 + 5 * k) ∧ z (3, s, 4) k = a (29 + 5 * k + 1) ∧ z (3, s, 5) k = a (29 + 5 * k + 2) ∧ z (3, s, 6) k = a (29 + 5 * k + 3) ∧ z (3, s, 7) k = a (29 + 5 * k + 4))
def SimR (z : aM) (s : Int) (a : Int → Int) (r : Int) : Prop :=
  ((z (5, s, r) 0 = a (59 + 13 * r + 1) ∧ z (5, s, r) 1 = a (59 + 13 * r)) ∧ (z (5, s, r) 2 = a 0 ∧ z (5, s, r) 4 = a (59 + 13 * r + 6))) ∧
  ((z (5, s, r) 5 = a (59 + 13 * r + 2) ∧ z (5, s, r) 6 = a (59 + 13 * r + 3)) ∧ (z (5, s, r) 7 = a (59 + 13 * r + 4) ∧ z (5, s, r) 8 = a (59 + 13 * r + 5))) ∧
  ∀ k, 0 ≤ k → k < a 0 → z (6, s, r) k = a (59 + 13 * r + 7 + k)
def SimS (z : aM) (s : Int) (a : Int → Int) : Prop :=
  (z (1, s, 0) 2 = a 2 ∧ z (1, s, 0) 3 = (if a 7 = -1 then 0 else 1)) ∧ (a 7 ≠ -1 → z (1, s, 0) 4 = a 8 ∧ z (1, s, 0) 5 = a 9 ∧ z (1, s, 0) 6 = a 10)
def Sim (z : aM) (s : Int) (a : Int → Int) : Prop := SimC z s a ∧ (∀ r, 0 ≤ r → r < a 2 → SimR z s a r) ∧ SimS z s a
/-- only things of state s differ -/
def fS (s : Int) (z z' : aM) : Prop := ∀ q : aP, ¬ ((1 ≤ q.1 ∧ q.1 ≤ 6) ∧ q.2.1 = s) → z' q = z q
theorem fS.rf (s : Int) (z : aM) : fS s z z := fun _ _ => rfl
theorem fS.tr {s : Int} {z z' z'' : aM} (h : fS s z z') (h' : fS s z' z'') : fS s z z'' := fun q hq => (h' q hq).trans (h q hq)
theorem fS.wr {s : Int} {z z' : aM} {k : Nat} {j i x : Int} (h : fS s z z') (k0 : 1 ≤ k) (k1 : k ≤ 6) : fS s z (aWr z' (k, s, j) i x) := fun q hq => by
  rw [aWr_ne2 (fun e => hq (by rw [e]; exact ⟨⟨k0, k1⟩, rfl⟩))]
  exact h q hq
theorem SimR.cg {z z' : aM} {s r : Int} {a a' : Int → Int} (h : SimR z s a r) (e0 : a' 0 = a 0) (h6 : a 0 ≤ 6) (ea : ∀ k, 0 ≤ k → k < 13 → a' (59 + 13 * r + k) = a (59 + 13 * r + k)) (e5 : z' (5, s, r) = z (5, s, r)) (e6 : z' (6, s, r) = z (6, s, r)) : SimR z' s a' r := by
  obtain ⟨⟨⟨h1, h2⟩, h3, h4⟩, ⟨⟨h5, h7⟩, h8, h9⟩, h10⟩ := h
  have q0 : a' (59 + 13 * r) = a (59 + 13 * r) := by have := ea 0 (by decide) (by decide); rw [Int.add_zero] at this; exact this
  unfold SimR
  rw [e5, e6, e0, ea 1 (by decide) (by decide), ea 2 (by decide) (by decide), ea 3 (by decide) (by decide), ea 4 (by decide) (by decide), ea 5 (by decide) (by decide), ea 6 (by decide) (by decide), q0]
  refine ⟨⟨⟨h1, h2⟩, h3, h4⟩, ⟨⟨h5, h7⟩, h8, h9⟩, fun k k0 k1 => ?_⟩
  have := ea (7 + k) (by omega) (by omega)
  rw [show 59 + 13 * r + 7 + k = 59 + 13 * r + (7 + k) by omega, this, show 59 + 13 * r + (7 + k) = 59 + 13 * r + 7 + k by omega]
  exact h10 k k0 k1
theorem SimC.cg {z z' : aM} {s : Int} {a a' : Int → Int} (h : SimC z s a) (h6 : a 0 ≤ 6 ∧ a 1 ≤ 6) (ea : ∀ j, 0 ≤ j → j ≤ 58 → (j < 2 ∨ 2 < j) → (j < 7 ∨ 10 < j) → a' j = a j) (e2 : z' (2, s, 0) = z (2, s, 0)) (e3 : ∀ j, z' (3, s, j) = z (3, s, j)) : SimC z' s a' := by
  obtain ⟨⟨⟨h1, h2⟩, ⟨h3, h4⟩, h5, h7⟩, h8, h9⟩ := h
  unfold SimC
  rw [e2, ea 0 (by decide) (by decide) (by decide) (by decide), ea 1 (by decide) (by decide) (by decide) (by decide), ea 3 (by decide) (by decide) (by decide) (by decide), ea 4 (by decide) (by decide) (by decide) (by decide), ea 5 (by decide) (by decide) (by decide) (by decide), ea 6 (by decide) (by decide) (by decide) (by decide)]
  refine ⟨⟨⟨h1, h2⟩, ⟨h3, h4⟩, h5, h7⟩, fun k k0 k1 => ?_, fun k k0 k1 => ?_⟩
  · rw [e3, e3, e3, ea _ (by omega) (by omega) (by omega) (by omega), ea _ (by omega) (by omega) (by omega) (by omega), ea _ (by omega) (by omega) (by omega) (by omega)]
    exact h8 k k0 k1
  · rw [e3, e3, e3, e3, e3, ea (29 + 5 * k) (by omega) (by omega) (by omega) (by omega), ea (29 + 5 * k + 1) (by omega) (by omega) (by omega) (by omega), ea (29 + 5 * k + 2) (by omega) (by omega) (by omega) (by omega), ea (29 + 5 * k + 3) (by omega) (by omega) (by omega) (by omega), ea (29 + 5 * k + 4) (by omega) (by omega) (by omega) (by omega)]
    exact h9 k k0 k1
/-- a run's own numbers are changed -/
theorem Sim.blk {z z' : aM} {s r : Int} {a a' : Int → Int} (h : Sim z s a) (hI : InvC a) (r0 : 0 ≤ r) (hz : ∀ q : aP, q ≠ (5, s, r) → q ≠ (6, s, r) → z' q = z q) (ha : ∀ j, (j < 59 + 13 * r ∨ 59 + 13 * r + 13 ≤ j) → a' j = a j) (hr : SimR z' s a' r) : Sim z' s a' := by
  have cc := hI.1
  obtain ⟨h1, h2, ⟨h3, h4⟩, h5⟩ := h
  refine ⟨h1.cg (by omega) (fun j j0 j1 _ _ => ha j (by omega)) (hz _ (pne (by show (2 : Nat) ≠ 5; decide)) (pne (by show (2 : Nat) ≠ 6; decide))) (fun j => hz _ (pne (by show (3 : Nat) ≠ 5; decide)) (pne (by show (3 : Nat) ≠ 6; decide))), fun r' r0' r1' => ?_, ?_⟩
  · by_cases e : r' = r
    · rw [e]; exact hr
    · rw [ha 2 (by omega)] at r1'
      exact (h2 r' r0' r1').cg (ha 0 (by omega)) (by omega) (fun k k0 k1 => ha _ (by omega)) (hz _ (pnj e) (pne (by show (5 : Nat) ≠ 6; decide))) (hz _ (pne (by show (6 : Nat) ≠ 5; decide)) (pnj e))
  · unfold SimS
    rw [hz (1, s, 0) (pne (by show (1 : Nat) ≠ 5; decide)) (pne (by show (1 : Nat) ≠ 6; decide)), ha 2 (by omega), ha 7 (by omega), ha 8 (by omega), ha 9 (by omega), ha 10 (by omega)]
    exact ⟨⟨h3, h4⟩, h5⟩
/-- the run's place is changed -/
theorem Sim.pl {z z' : aM} {s : Int} {a a' : Int → Int} (h : Sim z s a) (hI : InvC a) (hz : ∀ q : aP, q ≠ (1, s, 0) → z' q = z q) (ha : ∀ j, (j < 7 ∨ 10 < j) → a' j = a j) (hs : SimS z' s a') : Sim z' s a' := by
  have cc := hI.1
  obtain ⟨h1, h2, h3⟩ := h
  refine ⟨h1.cg (by omega) (fun j j0 j1 _ j2 => ha j j2) (hz _ (pne (by show (2 : Nat) ≠ 1; decide))) (fun j => hz _ (pne (by show (3 : Nat) ≠ 1; decide))), fun r r0 r1 => ?_, hs⟩
  rw [ha 2 (by omega)] at r1
  exact (h2 r r0 r1).cg (ha 0 (by omega)) (by omega) (fun k k0 k1 => ha _ (by omega)) (hz _ (pne (by show (5 : Nat) ≠ 1; decide))) (hz _ (pne (by show (6 : Nat) ≠ 1; decide)))
/-- the same memory of the state -/
theorem Sim.fr {z z' : aM} {s s' : Int} {a : Int → Int} (h : Sim z s a) (n : s ≠ s') (hf : fS s' z z') : Sim z' s a := by
  have e : ∀ (k : Nat) (j : Int), z' (k, s, j) = z (k, s, j) := fun k j => hf _ (fun q => n q.2)
  obtain ⟨h1, h2, h3⟩ := h
  refine ⟨?_, fun r r0 r1 => ?_, ?_⟩
  · unfold SimC at *; simp only [e]; exact h1
  · have := h2 r r0 r1
    unfold SimR at *; simp only [e]; exact this
  · unfold SimS at *; simp only [e]; exact h3
theorem bit_ok : ∀ p : Nat, p < 64 → ∀ k : Nat, k < 6 → ((iZ (p : Int) &&& iZ (1 * 2 ^ k)).toInt ≠ 0 ↔ (iZ ((p : Int) / 2 ^ k) &&& iZ 1).toInt = 1) := by decide +kernel
theorem bit_ok' {p k : Int} (p0 : 0 ≤ p) (p1 : p < 64) (k0 : 0 ≤ k) (k1 : k < 6) : ((iZ p &&& iZ (1 * 2 ^ k.toNat)).toInt ≠ 0 ↔ sBit p k) := by
  have := bit_ok p.toNat (by omega) k.toNat (by omega)
  rw [Int.toNat_of_nonneg p0] at this
  exact this
section K1
variable {l : Launch} {g : aG} {d : Nat} {z : aM} {s r : Int}
theorem cK_isWithin {v lo hi : Int} (hv : aIR v) (h1 : aIR lo) (h2 : aIR hi) : aEb l g nX6_isWithin d [.inl v, .inl lo, .inl hi] z (lo ≤ v ∧ v ≤ hi) := by
  unfold aIR at *
  refine aM1_of kX6_isWithin rfl (fun B hB => ?_)
  refine hB [] 1000 _ _ _ _ _ ?_
  repeat' (first | refine And.intro ?_ ?_ | (intro hh; first | exact absurd hh (by decide) | exact absurd rfl hh | (exfalso; omega) | skip) | fail)
  all_goals first | omega | (exact rfl) | (exact Or.inl rfl) | (exact Or.inr rfl) | (exact sI (by omega)) | (exact Or.inl ⟨rfl, by omega⟩) | (exact Or.inr ⟨rfl, by omega⟩) | fail "left"

theorem cK_isPoint {x y : Int} (hd : 1 ≤ d) (hx : aIR x) (hy : aIR y) : aEb l g nX6_isPoint d [.inl x, .inl y] z (sPt x y) := by
  unfold aIR sPt at *
  refine aM1_of kX6_isPoint rfl (fun B hB => ?_)
  refine hB [] 1000 _ _ _ _ _ ?_
  repeat' (first | refine And.intro ?_ ?_ | (intro hh; first | exact absurd hh (by decide) | exact absurd rfl hh | (exfalso; omega) | skip) | refine Or.inl (uB (cK_isWithin ?_ ?_ ?_) ?_ ?_) | fail)
  all_goals first | omega | (exact rfl) | (exact Or.inl rfl) | (exact Or.inr rfl) | (exact sI (by omega)) | (exact Or.inl ⟨rfl, by omega⟩) | (exact Or.inr ⟨rfl, by omega⟩) | fail "left"

theorem cK_hasLeg {x : Int} (hx : aIR x) (h0 : 0 ≤ z (2, s, 0) 4) (h1 : z (2, s, 0) 4 ≤ 6) : aEb l g nX0_hasLeg d [.inr (.inr (.inl (2, s, 0))), .inl x] z (0 ≤ x ∧ x < z (2, s, 0) 4) := by
  unfold aIR at *
  refine aM1_of kX0_hasLeg rfl (fun B hB => ?_)
  refine hB [] 1000 _ _ _ _ _ ?_
  repeat' (first | refine And.intro ?_ ?_ | (intro hh; first | exact absurd hh (by decide) | exact absurd rfl hh | (exfalso; omega) | skip) | fail)
  all_goals first | omega | (exact rfl) | (exact Or.inl rfl) | (exact Or.inr rfl) | (exact sI (by omega)) | (exact Or.inl ⟨rfl, by omega⟩) | (exact Or.inr ⟨rfl, by omega⟩) | fail "left"

theorem cK_side {ax ay bx b_y cx cy : Int} : aE1 l g nX0_side d [.inl ax, .inl ay, .inl bx, .inl b_y, .inl cx, .inl cy] z (sCr ax ay bx b_y cx cy) z := by
  refine aM1_of kX0_side rfl (fun B hB => ?_)
  refine hB [] 1000 _ _ _ _ _ ?_
  repeat' (first | refine And.intro ?_ ?_ | (intro hh; first | exact absurd hh (by decide) | exact absurd rfl hh | (exfalso; omega) | skip) | fail)
  all_goals first | omega | (exact rfl) | (exact Or.inl rfl) | (exact Or.inr rfl) | (exact sI (by omega)) | (exact Or.inl ⟨rfl, by omega⟩) | (exact Or.inr ⟨rfl, by omega⟩) | fail "left"

theorem cK_sqd {x y u v : Int} : aE1 l g nX0_squareOfDistance d [.inl x, .inl y, .inl u, .inl v] z ((u - x) * (u - x) + (v - y) * (v - y)) z := by
  refine aM1_of kX0_squareOfDistance rfl (fun B hB => ?_)
  refine hB [] 1000 _ _ _ _ _ ?_
  repeat' (first | refine And.intro ?_ ?_ | (intro hh; first | exact absurd hh (by decide) | exact absurd rfl hh | (exfalso; omega) | skip) | fail)
  all_goals first | omega | (exact rfl) | (exact Or.inl rfl) | (exact Or.inr rfl) | (exact sI (by omega)) | (exact Or.inl ⟨rfl, by omega⟩) | (exact Or.inr ⟨rfl, by omega⟩) | fail "left"

theorem cK_begX {k : Int} {a : Int → Int} (h : SimC z s a) (hI : InvC a) (k0 : 0 ≤ k) (k1 : k < a 0) : aE1 l g nX0_legBeginX d [.inr (.inr (.inl (2, s, 0))), .inl k] z (a (sBeg k)) z := by
  have cc := hI.1
  have e0 := h.1.1.1
  have e1 : k ≠ 0 → z (3, s, 0) (k - 1) = a (11 + 3 * (k - 1)) := fun n => (h.2.1 (k - 1) (by omega) (by omega)).1
  refine aM1_of kX0_legBeginX rfl (fun B hB => ?_)
  refine hB [] 1000 _ _ _ _ _ ?_
  repeat' (first | refine And.intro ?_ ?_ | (intro hh; first | exact absurd hh (by decide) | exact absurd rfl hh | (exfalso; omega) | skip) | fail)
  all_goals first | omega | (exact rfl) | (exact Or.inl rfl) | (exact Or.inr rfl) | (exact sI (by omega)) | (exact Or.inl ⟨rfl, by omega⟩) | (exact Or.inr ⟨rfl, by omega⟩) | (unfold sBeg; rw [if_pos (by omega)]; exact sI e0) | (unfold sBeg; rw [if_neg (by omega)]; exact sI (e1 (by omega))) | fail "left"

theorem cK_begY {k : Int} {a : Int → Int} (h : SimC z s a) (hI : InvC a) (k0 : 0 ≤ k) (k1 : k < a 0) : aE1 l g nX0_legBeginY d [.inr (.inr (.inl (2, s, 0))), .inl k] z (a (sBeg k + 1)) z := by
  have cc := hI.1
  have e0 := h.1.1.2
  have e1 : k ≠ 0 → z (3, s, 1) (k - 1) = a (11 + 3 * (k - 1) + 1) := fun n => (h.2.1 (k - 1) (by omega) (by omega)).2.1
  refine aM1_of kX0_legBeginY rfl (fun B hB => ?_)
  refine hB [] 1000 _ _ _ _ _ ?_
  repeat' (first | refine And.intro ?_ ?_ | (intro hh; first | exact absurd hh (by decide) | exact absurd rfl hh | (exfalso; omega) | skip) | fail)
  all_goals first | omega | (exact rfl) | (exact Or.inl rfl) | (exact Or.inr rfl) | (exact sI (by omega)) | (exact Or.inl ⟨rfl, by omega⟩) | (exact Or.inr ⟨rfl, by omega⟩) | (unfold sBeg; rw [if_pos (by omega)]; exact sI e0) | (unfold sBeg; rw [if_neg (by omega)]; exact sI (e1 (by omega))) | fail "left"

theorem aEb.cg {y : Nat} {as : List aV} {c c' : Prop} (h : aEb l g y d as z c) (e : c ↔ c') : aEb l g y d as z c' := h.mono (fun r s' z' q => ⟨q.1, q.2.1, q.2.2.imp (fun q => ⟨q.1, e.mp q.2⟩) (fun q => ⟨q.1, fun w => q.2 (e.mpr w)⟩)⟩) (fun _ _ _ q => q)
theorem cK_gateMeets0 {k ax ay bx b_y cx cy dx dy : Int} (hd : 2 ≤ d) (k0 : 0 ≤ k) (k1 : k < 6) (ecx : z (3, s, 4) k = cx) (ecy : z (3, s, 5) k = cy) (edx : z (3, s, 6) k = dx) (edy : z (3, s, 7) k = dy) (h1 : sPt ax ay) (h2 : sPt bx b_y) (h3 : sPt cx cy) (h4 : sPt dx dy) : aEb l g nX0_gateMeets d [.inr (.inr (.inl (2, s, 0))), .inl k, .inl ax, .inl ay, .inl bx, .inl b_y] z (sBB ax ay bx b_y cx cy dx dy ∧ (sCr ax ay bx b_y cx cy * sCr ax ay bx b_y dx dy ≤ 0 ∧ sCr cx cy dx dy ax ay * sCr cx cy dx dy bx b_y ≤ 0)) := by
  have b1 := sCr_B h1 h2 h3
  have b2 := sCr_B h1 h2 h4
  have b3 := sCr_B h3 h4 h1
  have b4 := sCr_B h3 h4 h2
  have m1 := mulB b1.1 b1.2 b2.1 b2.2
  have m2 := mulB b3.1 b3.2 b4.1 b4.2
  have c1 := cK_side (l := l) (g := g) (d := d - 1) (z := z) (ax := ax) (ay := ay) (bx := bx) (b_y := b_y) (cx := cx) (cy := cy)
  have c2 := cK_side (l := l) (g := g) (d := d - 1) (z := z) (ax := ax) (ay := ay) (bx := bx) (b_y := b_y) (cx := dx) (cy := dy)
  have c3 := cK_side (l := l) (g := g) (d := d - 1) (z := z) (ax := cx) (ay := cy) (bx := dx) (b_y := dy) (cx := ax) (cy := ay)
  have c4 := cK_side (l := l) (g := g) (d := d - 1) (z := z) (ax := cx) (ay := cy) (bx := dx) (b_y := dy) (cx := bx) (cy := b_y)
  obtain ⟨S1, e1⟩ : ∃ S1, S1 = sCr ax ay bx b_y cx cy := ⟨_, rfl⟩
  obtain ⟨S2, e2⟩ : ∃ S2, S2 = sCr ax ay bx b_y dx dy := ⟨_, rfl⟩
  obtain ⟨S3, e3⟩ : ∃ S3, S3 = sCr cx cy dx dy ax ay := ⟨_, rfl⟩
  obtain ⟨S4, e4⟩ : ∃ S4, S4 = sCr cx cy dx dy bx b_y := ⟨_, rfl⟩
  rw [← e1] at c1 b1 m1 ⊢
  rw [← e2] at c2 b2 m1 ⊢
  rw [← e3] at c3 b3 m2 ⊢
  rw [← e4] at c4 b4 m2 ⊢
  clear e1 e2 e3 e4
  obtain ⟨M1, f1⟩ : ∃ M1, M1 = S1 * S2 := ⟨_, rfl⟩
  obtain ⟨M2, f2⟩ : ∃ M2, M2 = S3 * S4 := ⟨_, rfl⟩
  rw [← f1] at m1
  rw [← f2] at m2
  have f1' := f1.symm
  have f2' := f2.symm
  subst ecx ecy edx edy
  unfold sPt at *
  refine aM1_of kX0_gateMeets rfl (fun B hB => ?_)
  have s160 : ∀ q : sBB ax ay bx b_y (z (3, s, 4) k) (z (3, s, 5) k) (z (3, s, 6) k) (z (3, s, 7) k), B (none, 0, 0) z 98 [some (.inr (.inr (.inl (2, s, 0)))), some (.inl k), some (.inl ax), some (.inl ay), some (.inl bx), some (.inl b_y), some (.inl (z (3, s, 4) k)), some (.inl (z (3, s, 5) k)), some (.inl (z (3, s, 6) k)), some (.inl (z (3, s, 7) k)), none, none, none, none] [] := by
    intro q
    refine hB [] 1000 _ _ _ _ _ ?_
    repeat' (first | refine And.intro ?_ ?_ | (intro hh; rw [f1'] at hh) | (intro hh; rw [f2'] at hh) | (intro hh; first | exact absurd hh (by decide) | exact absurd rfl hh | (exfalso; omega) | skip) | refine Or.inl (uE c1 ?_) | refine Or.inl (uE c2 ?_) | refine Or.inl (uE c3 ?_) | refine Or.inl (uE c4 ?_) | fail)
    all_goals (try rw [f1']) <;> (try rw [f2']) <;> first | omega | (exact rfl) | (exact Or.inl rfl) | (exact Or.inr rfl) | (exact Or.inl ⟨rfl, q, by omega, by omega⟩) | (exact Or.inr ⟨rfl, fun w => by have w1 := w.2.1; have w2 := w.2.2; omega⟩) | fail "left"
  refine hB [98] 1000 _ _ _ _ _ ?_
  repeat' (first | refine And.intro ?_ ?_ | (intro hh; first | exact absurd hh (by decide) | exact absurd rfl hh | (exfalso; omega) | skip) | fail)
  all_goals first | omega | (exact rfl) | (exact Or.inl rfl) | (exact Or.inr ⟨rfl, fun w => by have w1 := w.1.1; have w2 := w.1.2; omega⟩) | (exact s160 ⟨⟨by omega, by omega⟩, by omega, by omega⟩) | fail "left"
theorem cK_gateMeets {k ax ay bx b_y : Int} {a : Int → Int} (hd : 2 ≤ d) (h : SimC z s a) (hI : InvC a) (k0 : 0 ≤ k) (k1 : k < a 1) (h1 : sPt ax ay) (h2 : sPt bx b_y) : aEb l g nX0_gateMeets d [.inr (.inr (.inl (2, s, 0))), .inl k, .inl ax, .inl ay, .inl bx, .inl b_y] z (sMe a ax ay bx b_y k) := by
  have cc := hI.1
  have e := h.2.2 k k0 k1
  have p := hI.2.2.2 k k0 k1
  exact (cK_gateMeets0 hd k0 (by omega) e.2.1 e.2.2.1 e.2.2.2.1 e.2.2.2.2 h1 h2 p.2.1 p.2.2).cg geo.symm

theorem cK_gateMeetsItsLeg {k : Int} {a : Int → Int} (hd : 3 ≤ d) (h : SimC z s a) (hI : InvC a) (k0 : 0 ≤ k) (k1 : k < a 1) : aEb l g nX0_gateMeetsItsLeg d [.inr (.inr (.inl (2, s, 0))), .inl k] z (sMe a (a (sBeg (a (29 + 5 * k)))) (a (sBeg (a (29 + 5 * k)) + 1)) (a (11 + 3 * a (29 + 5 * k))) (a (11 + 3 * a (29 + 5 * k) + 1)) k) := by
  have cc := hI.1
  have hg := hI.2.2.2 k k0 k1
  have hb := hI.beg hg.1.1 hg.1.2
  have he := (hI.2.2.1 _ hg.1.1 hg.1.2).1
  have e3 : z (3, s, 3) k = a (29 + 5 * k) := (h.2.2 k k0 k1).1
  have ex : z (3, s, 0) (a (29 + 5 * k)) = a (11 + 3 * a (29 + 5 * k)) := (h.2.1 _ hg.1.1 hg.1.2).1
  have ey : z (3, s, 1) (a (29 + 5 * k)) = a (11 + 3 * a (29 + 5 * k) + 1) := (h.2.1 _ hg.1.1 hg.1.2).2.1
  have cX := cK_begX (l := l) (g := g) (d := d - 1) h hI hg.1.1 hg.1.2
  have cY := cK_begY (l := l) (g := g) (d := d - 1) h hI hg.1.1 hg.1.2
  have cG := cK_gateMeets (l := l) (g := g) (d := d - 1) (by omega) h hI k0 k1 hb he
  rw [← e3] at cX cY
  have e4 : ∀ X Y U V : Int, (X = a (sBeg (a (29 + 5 * k))) ∧ Y = a (sBeg (a (29 + 5 * k)) + 1)) ∧ (U = a (11 + 3 * a (29 + 5 * k)) ∧ V = a (11 + 3 * a (29 + 5 * k) + 1)) → aEb l g nX0_gateMeets (d - 1) [.inr (.inr (.inl (2, s, 0))), .inl k, .inl X, .inl Y, .inl U, .inl V] z (sMe a (a (sBeg (a (29 + 5 * k)))) (a (sBeg (a (29 + 5 * k)) + 1)) (a (11 + 3 * a (29 + 5 * k))) (a (11 + 3 * a (29 + 5 * k) + 1)) k) := fun X Y U V e => by
    rw [e.1.1, e.1.2, e.2.1, e.2.2]; exact cG
  refine aM1_of kX0_gateMeetsItsLeg rfl (fun B hB => ?_)
  refine hB [] 1000 _ _ _ _ _ ?_
  repeat' (first | refine And.intro ?_ ?_ | (intro hh; first | exact absurd hh (by decide) | exact absurd rfl hh | (exfalso; omega) | skip) | refine Or.inl (uE cX ?_) | refine Or.inl (uE cY ?_) | refine Or.inl (uB (e4 _ _ _ _ ⟨⟨?_, ?_⟩, ?_, ?_⟩) ?_ ?_) | fail)
  all_goals first | omega | (exact rfl) | (exact Or.inl rfl) | (exact Or.inr rfl) | (exact Or.inl ⟨rfl, by assumption⟩) | (exact Or.inr ⟨rfl, by assumption⟩) | (rw [e3]; done) | (rw [e3]; exact ex) | (rw [e3]; exact ey) | fail "left"
theorem cK_isNearEnd {k x y : Int} {a : Int → Int} (hd : 1 ≤ d) (h : SimC z s a) (hI : InvC a) (k0 : 0 ≤ k) (k1 : k < a 0) (hp : sPt x y) : aEb l g nX0_isNearEnd d [.inr (.inr (.inl (2, s, 0))), .inl k, .inl x, .inl y] z ((x - a (11 + 3 * k)) * (x - a (11 + 3 * k)) + (y - a (11 + 3 * k + 1)) * (y - a (11 + 3 * k + 1)) ≤ 9) := by
  have cc := hI.1
  have e := h.2.1 k k0 k1
  have he := (hI.2.2.1 k k0 k1).1
  have s1 := sqB (x := x - a (11 + 3 * k)) (A := 99) (by unfold sPt at *; omega) (by unfold sPt at *; omega)
  have s2 := sqB (x := y - a (11 + 3 * k + 1)) (A := 99) (by unfold sPt at *; omega) (by unfold sPt at *; omega)
  have f1 : ∀ u v : Int, (v - u) * (v - u) = (u - v) * (u - v) := fun u v => by rw [← Int.neg_mul_neg, Int.neg_sub]
  obtain ⟨E, eE⟩ : ∃ E, E = (x - a (11 + 3 * k)) * (x - a (11 + 3 * k)) + (y - a (11 + 3 * k + 1)) * (y - a (11 + 3 * k + 1)) := ⟨_, rfl⟩
  have eE2 : (z (3, s, 0) k - x) * (z (3, s, 0) k - x) + (z (3, s, 1) k - y) * (z (3, s, 1) k - y) = E := by
    rw [e.1, e.2.1, f1 x, f1 y, eE]
  have bE : 0 ≤ E ∧ E ≤ 19602 := by omega
  have cq := cK_sqd (l := l) (g := g) (d := d - 1) (z := z) (x := x) (y := y) (u := z (3, s, 0) k) (v := z (3, s, 1) k)
  rw [eE2] at cq
  rw [← eE]
  clear s1 s2 eE eE2 f1
  refine aM1_of kX0_isNearEnd rfl (fun B hB => ?_)
  refine hB [] 1000 _ _ _ _ _ ?_
  repeat' (first | refine And.intro ?_ ?_ | (intro hh; first | exact absurd hh (by decide) | exact absurd rfl hh | (exfalso; omega) | skip) | refine Or.inl (uE cq ?_) | fail)
  all_goals first | omega | (exact rfl) | (exact Or.inl rfl) | (exact Or.inr rfl) | (exact Or.inl ⟨rfl, by omega⟩) | (exact Or.inr ⟨rfl, by omega⟩) | fail "left"
theorem cK_isOffLeg {k x y : Int} {a : Int → Int} (hd : 2 ≤ d) (h : SimC z s a) (hI : InvC a) (k0 : 0 ≤ k) (k1 : k < a 0) (hp : sPt x y) : aEb l g nX0_isOffLeg d [.inr (.inr (.inl (2, s, 0))), .inl k, .inl x, .inl y] z (sFq (a (sBeg k)) (a (sBeg k + 1)) (a (11 + 3 * k)) (a (11 + 3 * k + 1)) x y (a 5)) := by
  have cc := hI.1
  have ct := hI.2.1.2.1
  have e := h.2.1 k k0 k1
  have et := h.1.2.1.1
  have he := (hI.2.2.1 k k0 k1).1
  have hb := hI.beg k0 k1
  have cX := cK_begX (l := l) (g := g) (d := d - 1) h hI k0 k1
  have cY := cK_begY (l := l) (g := g) (d := d - 1) h hI k0 k1
  have ex := e.1
  have ey := e.2.1
  obtain ⟨bx, ebx⟩ : ∃ bx, bx = a (sBeg k) := ⟨_, rfl⟩
  obtain ⟨b_y, eby⟩ : ∃ b_y, b_y = a (sBeg k + 1) := ⟨_, rfl⟩
  obtain ⟨X, eX⟩ : ∃ X, X = a (11 + 3 * k) := ⟨_, rfl⟩
  obtain ⟨Y, eY⟩ : ∃ Y, Y = a (11 + 3 * k + 1) := ⟨_, rfl⟩
  obtain ⟨t, ett⟩ : ∃ t, t = a 5 := ⟨_, rfl⟩
  rw [← ebx] at hb cX ⊢
  rw [← eby] at hb cY ⊢
  rw [← eX] at ex he ⊢
  rw [← eY] at ey he ⊢
  rw [← ett] at et ct ⊢
  clear ebx eby eX eY ett e h
  have s1 := sqB (x := X - bx) (A := 99) (by unfold sPt at *; omega) (by unfold sPt at *; omega)
  have s2 := sqB (x := Y - b_y) (A := 99) (by unfold sPt at *; omega) (by unfold sPt at *; omega)
  have s3 := sqB (x := x - bx) (A := 99) (by unfold sPt at *; omega) (by unfold sPt at *; omega)
  have s4 := sqB (x := y - b_y) (A := 99) (by unfold sPt at *; omega) (by unfold sPt at *; omega)
  have s5 := sqB (x := x - X) (A := 99) (by unfold sPt at *; omega) (by unfold sPt at *; omega)
  have s6 := sqB (x := y - Y) (A := 99) (by unfold sPt at *; omega) (by unfold sPt at *; omega)
  have p1 := mulB (x := X - bx) (y := x - bx) (A := 99) (B := 99) (by unfold sPt at *; omega) (by unfold sPt at *; omega) (by unfold sPt at *; omega) (by unfold sPt at *; omega)
  have p2 := mulB (x := Y - b_y) (y := y - b_y) (A := 99) (B := 99) (by unfold sPt at *; omega) (by unfold sPt at *; omega) (by unfold sPt at *; omega) (by unfold sPt at *; omega)
  have tt := sqB (x := t) (A := 20) (by omega) (by omega)
  have cb := sCr_B hb he hp
  have c2 := sqB cb.1 cb.2
  have f1 : ∀ u v : Int, (v - u) * (v - u) = (u - v) * (u - v) := fun u v => by rw [← Int.neg_mul_neg, Int.neg_sub]
  obtain ⟨AL, eAL⟩ : ∃ AL, AL = (X - bx) * (x - bx) + (Y - b_y) * (y - b_y) := ⟨_, rfl⟩
  obtain ⟨LE, eLE⟩ : ∃ LE, LE = (X - bx) * (X - bx) + (Y - b_y) * (Y - b_y) := ⟨_, rfl⟩
  obtain ⟨CR, eCR⟩ : ∃ CR, CR = sCr bx b_y X Y x y := ⟨_, rfl⟩
  obtain ⟨D1, eD1⟩ : ∃ D1, D1 = (x - bx) * (x - bx) + (y - b_y) * (y - b_y) := ⟨_, rfl⟩
  obtain ⟨D2, eD2⟩ : ∃ D2, D2 = (x - X) * (x - X) + (y - Y) * (y - Y) := ⟨_, rfl⟩
  obtain ⟨TT, eTT⟩ : ∃ TT, TT = t * t := ⟨_, rfl⟩
  have spec : sFq bx b_y X Y x y t ↔ ((AL ≤ 0 ∧ TT < D1) ∨ ((0 < AL ∧ LE ≤ AL) ∧ TT < D2) ∨ ((0 < AL ∧ AL < LE) ∧ TT * LE < CR * CR)) := by
    unfold sFq
    dsimp only
    rw [← eAL, ← eLE, ← eCR, ← eD1, ← eD2, ← eTT]
  have bTL := mulB (x := TT) (y := LE) (A := 400) (B := 19602) (by omega) (by omega) (by omega) (by omega)
  rw [← eCR] at c2 cb
  have cq1 := cK_sqd (l := l) (g := g) (d := d - 1) (z := z) (x := bx) (y := b_y) (u := X) (v := Y)
  have cq2 := cK_sqd (l := l) (g := g) (d := d - 1) (z := z) (x := x) (y := y) (u := bx) (v := b_y)
  have cq3 := cK_sqd (l := l) (g := g) (d := d - 1) (z := z) (x := x) (y := y) (u := X) (v := Y)
  have csd := cK_side (l := l) (g := g) (d := d - 1) (z := z) (ax := bx) (ay := b_y) (bx := X) (b_y := Y) (cx := x) (cy := y)
  rw [← eLE] at cq1
  rw [f1 x bx, f1 y b_y, ← eD1] at cq2
  rw [f1 x X, f1 y Y, ← eD2] at cq3
  rw [← eCR] at csd
  obtain ⟨QQ, eQQ⟩ : ∃ QQ, QQ = CR * CR := ⟨_, rfl⟩
  obtain ⟨TL, eTL⟩ : ∃ TL, TL = TT * LE := ⟨_, rfl⟩
  rw [← eQQ] at c2
  rw [← eTL] at bTL
  rw [← eQQ, ← eTL] at spec
  have w1 : (x - bx) * (X - bx) + (y - b_y) * (Y - b_y) = AL := by rw [eAL, Int.mul_comm (x - bx), Int.mul_comm (y - b_y)]
  have w2 : z (2, s, 0) 2 * z (2, s, 0) 2 = TT := by rw [et, eTT]
  have w3 : CR * CR = QQ := eQQ.symm
  have w4 : z (2, s, 0) 2 * z (2, s, 0) 2 * LE = TL := by rw [w2, eTL]
  have bAL : -19602 ≤ AL ∧ AL ≤ 19602 := by omega
  have bLE : 0 ≤ LE ∧ LE ≤ 19602 := by omega
  have bD1 : 0 ≤ D1 ∧ D1 ≤ 19602 := by omega
  have bD2 : 0 ≤ D2 ∧ D2 ≤ 19602 := by omega
  have bTT : 0 ≤ TT ∧ TT ≤ 400 := by omega
  clear s1 s2 s3 s4 s5 s6 p1 p2 tt eAL eLE eD1 eD2 f1 eTT eQQ eTL eCR
  refine aEb.cg ?_ spec.symm
  subst ex ey
  refine aM1_of kX0_isOffLeg rfl (fun B hB => ?_)
  have s66 : B (none, 0, 0) z 66 [some (.inr (.inr (.inl (2, s, 0)))), some (.inl k), some (.inl x), some (.inl y), some (.inl bx), some (.inl b_y), some (.inl (z (3, s, 0) k)), some (.inl (z (3, s, 1) k)), some (.inl LE), some (.inl AL), none] [] := by
    refine hB [] 1000 _ _ _ _ _ ?_
    repeat' (first | refine And.intro ?_ ?_ | (intro hh; first | rw [w4, w3] at hh | rw [w3, w4] at hh | rw [w2] at hh) | (intro hh; first | exact absurd hh (by decide) | exact absurd rfl hh | (exfalso; omega) | skip) | refine Or.inl (uE cq2 ?_) | refine Or.inl (uE cq3 ?_) | refine Or.inl (uE csd ?_) | fail)
    all_goals (try rw [w4]) <;> (try rw [w3]) <;> (try rw [w2]) <;> first | omega | (exact rfl) | (exact Or.inl rfl) | (exact Or.inr rfl) | (exact Or.inl ⟨rfl, by omega⟩) | (exact Or.inr ⟨rfl, by omega⟩) | fail "left"
  refine hB [66] 1000 _ _ _ _ _ ?_
  repeat' (first | refine And.intro ?_ ?_ | (intro hh; first | exact absurd hh (by decide) | exact absurd rfl hh | (exfalso; omega) | skip) | refine Or.inl (uE cX ?_) | refine Or.inl (uE cY ?_) | refine Or.inl (uE cq1 ?_) | fail)
  all_goals first | omega | (exact rfl) | skip
  show B (none, 0, 0) z 66 [some (.inr (.inr (.inl (2, s, 0)))), some (.inl k), some (.inl x), some (.inl y), some (.inl bx), some (.inl b_y), some (.inl (z (3, s, 0) k)), some (.inl (z (3, s, 1) k)), some (.inl LE), some (.inl ((x - bx) * (z (3, s, 0) k - bx) + (y - b_y) * (z (3, s, 1) k - b_y))), none] []
  rw [w1]
  exact s66

theorem cK_csum (h0 : 0 ≤ z (2, s, 0) 4) (h1 : z (2, s, 0) 4 ≤ 6) : aE1 l g nX0_sumOfPoints d [.inr (.inr (.inl (2, s, 0)))] z (sN (z (3, s, 2)) (z (2, s, 0) 4).toNat) z := by
  refine aM1_of kX0_sumOfPoints rfl (fun B hB => ?_)
  have loop : ∀ (n : Nat) (k acc : Int), 0 ≤ k → k + (n : Int) = z (2, s, 0) 4 → acc = sN (z (3, s, 2)) k.toNat → B (none, 0, 0) z 4 [some (.inr (.inr (.inl (2, s, 0)))), some (.inl acc), some (.inl k)] [] := by
    intro n
    induction n with
    | zero =>
      intro k acc k0 k1 e
      have ek : k = z (2, s, 0) 4 := by omega
      subst ek
      refine hB [] 1000 _ _ _ _ _ ?_
      repeat' (first | refine And.intro ?_ ?_ | (intro hh; first | exact absurd hh (by decide) | exact absurd rfl hh | (exfalso; omega) | skip) | fail)
      all_goals first | omega | (exact rfl) | (exact sI e)
    | succ n ih =>
      intro k acc k0 k1 e
      refine hB [4] 1000 _ _ _ _ _ ?_
      repeat' (first | refine And.intro ?_ ?_ | (intro hh; first | exact absurd hh (by decide) | exact absurd rfl hh | (exfalso; omega) | skip) | fail)
      all_goals first | omega | (exact rfl) | skip
      refine ih _ _ (by omega) (by omega) ?_
      rw [sN_s k0, e]
  refine hB [4] 1000 _ _ _ _ _ ?_
  repeat' (first | refine And.intro ?_ ?_ | (intro hh; first | exact absurd hh (by decide) | exact absurd rfl hh | (exfalso; omega) | skip) | fail)
  all_goals first | omega | (exact rfl) | skip
  exact loop (z (2, s, 0) 4).toNat 0 0 (by omega) (by omega) rfl

theorem cK_rsum (h0 : 0 ≤ z (5, s, r) 2) (h1 : z (5, s, r) 2 ≤ 6) : aE1 l g nX4_sumOfPoints d [.inr (.inr (.inl (5, s, r)))] z (sN (z (6, s, r)) (z (5, s, r) 2).toNat) z := by
  refine aM1_of kX4_sumOfPoints rfl (fun B hB => ?_)
  have loop : ∀ (n : Nat) (k acc : Int), 0 ≤ k → k + (n : Int) = z (5, s, r) 2 → acc = sN (z (6, s, r)) k.toNat → B (none, 0, 0) z 4 [some (.inr (.inr (.inl (5, s, r)))), some (.inl acc), some (.inl k)] [] := by
    intro n
    induction n with
    | zero =>
      intro k acc k0 k1 e
      have ek : k = z (5, s, r) 2 := by omega
      subst ek
      refine hB [] 1000 _ _ _ _ _ ?_
      repeat' (first | refine And.intro ?_ ?_ | (intro hh; first | exact absurd hh (by decide) | exact absurd rfl hh | (exfalso; omega) | skip) | fail)
      all_goals first | omega | (exact rfl) | (exact sI e)
    | succ n ih =>
      intro k acc k0 k1 e
      refine hB [4] 1000 _ _ _ _ _ ?_
      repeat' (first | refine And.intro ?_ ?_ | (intro hh; first | exact absurd hh (by decide) | exact absurd rfl hh | (exfalso; omega) | skip) | fail)
      all_goals first | omega | (exact rfl) | skip
      refine ih _ _ (by omega) (by omega) ?_
      rw [sN_s k0, e]
  refine hB [4] 1000 _ _ _ _ _ ?_
  repeat' (first | refine And.intro ?_ ?_ | (intro hh; first | exact absurd hh (by decide) | exact absurd rfl hh | (exfalso; omega) | skip) | fail)
  all_goals first | omega | (exact rfl) | skip
  exact loop (z (5, s, r) 2).toNat 0 0 (by omega) (by omega) rfl

theorem cK_losses  : aE1 l g nX4_sumOfLosses d [.inr (.inr (.inl (5, s, r)))] z (z (5, s, r) 5 + z (5, s, r) 6 + z (5, s, r) 7 + z (5, s, r) 8) z := by
  refine aM1_of kX4_sumOfLosses rfl (fun B hB => ?_)
  refine hB [] 1000 _ _ _ _ _ ?_
  repeat' (first | refine And.intro ?_ ?_ | (intro hh; first | exact absurd hh (by decide) | exact absurd rfl hh | (exfalso; omega) | skip) | fail)
  all_goals first | omega | (exact rfl) | (exact Or.inl rfl) | (exact Or.inr rfl) | (exact sI (by omega)) | (exact Or.inl ⟨rfl, by omega⟩) | (exact Or.inr ⟨rfl, by omega⟩) | fail "left"

theorem cK_isGatePassed {k : Int} (p0 : 0 ≤ z (5, s, r) 4) (p1 : z (5, s, r) 4 < 64) (k0 : 0 ≤ k) (k1 : k < 6) : aEb l g nX4_isGatePassed d [.inr (.inr (.inl (5, s, r))), .inl k] z (sBit (z (5, s, r) 4) k) := by
  have bo := bit_ok' p0 p1 k0 k1
  have p2 := p2B (k := k) k0 k1
  have ib := Int32.le_toInt (iZ (z (5, s, r) 4) &&& iZ (1 * 2 ^ k.toNat))
  have ib2 := Int32.toInt_lt (iZ (z (5, s, r) 4) &&& iZ (1 * 2 ^ k.toNat))
  refine aM1_of kX4_isGatePassed rfl (fun B hB => ?_)
  refine hB [] 1000 _ _ _ _ _ ?_
  repeat' (first | refine And.intro ?_ ?_ | (intro hh; first | exact absurd hh (by decide) | exact absurd rfl hh | (exfalso; omega) | skip) | fail)
  all_goals first | omega | (exact rfl) | (exact Or.inl rfl) | (exact Or.inr rfl) | (exact sI (by omega)) | (exact Or.inl ⟨rfl, by omega⟩) | (exact Or.inr ⟨rfl, by omega⟩) | (exact Or.inl ⟨rfl, bo.mp (by assumption)⟩) | (exact Or.inr ⟨rfl, fun w => bo.mpr w (by assumption)⟩) | (unfold aIR; omega) | fail "left"

theorem cK_passGate {k : Int} (k0 : 0 ≤ k) (k1 : k < 6) : aE0 l g nX4_passGate d [.inr (.inr (.inl (5, s, r))), .inl k] z (aWr z (5, s, r) 4 (orI (z (5, s, r) 4) (1 * 2 ^ k.toNat))) := by
  have p2 := p2B (k := k) k0 k1
  refine aM1_of kX4_passGate rfl (fun B hB => ?_)
  refine hB [] 1000 _ _ _ _ _ ?_
  repeat' (first | refine And.intro ?_ ?_ | (intro hh; first | exact absurd hh (by decide) | exact absurd rfl hh | (exfalso; omega) | skip) | fail)
  all_goals first | omega | (exact rfl) | (exact Or.inl rfl) | (exact Or.inr rfl) | (exact sI (by omega)) | (exact Or.inl ⟨rfl, by omega⟩) | (exact Or.inr ⟨rfl, by omega⟩) | fail "left"

theorem cK_deduct {k p : Int} (hd : 1 ≤ d) (k0 : 0 ≤ k) (k1 : k < 6) (hp : aIR p) (h0 : 0 ≤ z (6, s, r) k) (h1 : z (6, s, r) k ≤ 30) : aE1 l g nX4_deduct d [.inr (.inr (.inl (5, s, r))), .inl k, .inl p] z (min p (z (6, s, r) k)) (aWr z (6, s, r) k (z (6, s, r) k - min p (z (6, s, r) k))) := by
  unfold aIR at *
  refine aM1_of kX4_deduct rfl (fun B hB => ?_)
  refine hB [] 1000 _ _ _ _ _ ?_
  repeat' (first | refine And.intro ?_ ?_ | (intro hh; first | exact absurd hh (by decide) | exact absurd rfl hh | (exfalso; omega) | skip) | fail)
  all_goals first | omega | (exact rfl) | (exact Or.inl rfl) | (exact Or.inr rfl) | (exact sI (by omega)) | (exact Or.inl ⟨rfl, by omega⟩) | (exact Or.inr ⟨rfl, by omega⟩) | fail "left"

end K1
