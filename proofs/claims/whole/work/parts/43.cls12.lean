/-! THE CLASS: the trial and its world (printed by wip/whole/cls12.py) -/
def slot (z : aM) (c i : Int) : Int := 3 + (z (7, 0, 0) 1 + 8 - c + i) % 8
def RelC (z : aM) (A : aAb) : Prop :=
  (Sim z 0 (wM A) ∧ z (0, 0, 0) 3 = wSv A ∧ (wSv A = 1 → Sim z 2 (wS A))) ∧
  (z (7, 0, 0) 2 = wC A ∧ (0 ≤ z (7, 0, 0) 1 ∧ z (7, 0, 0) 1 < 8) ∧ ∀ i, 0 ≤ i → i < wC A → Sim z (slot z (wC A) i) (wH A i)) ∧
  (z (0, 0, 0) 8 = wE A ∧ z (0, 0, 0) 9 = wF A) ∧
  (z (12, 0, 0) 1 = wPn A ∧ ∀ k, 0 ≤ k → k < wPn A → z (13, 0, 0) k = wPt A k) ∧
  (z (10, 0, 0) 1 = wLn A ∧ ∀ k, 0 ≤ k → k < wLn A → z (11, 0, 0) k = wLt A k)
/-- nothing outside the class differs -/
def fC (z z' : aM) : Prop := ∀ q : aP, 16 ≤ q.1 → z' q = z q
theorem fC.rf (z : aM) : fC z z := fun _ _ => rfl
theorem fC.tr {z z' z'' : aM} (h : fC z z') (h' : fC z' z'') : fC z z'' := fun q hq => (h' q hq).trans (h q hq)
theorem fC.wr {z z' : aM} {p : aP} {i x : Int} (h : fC z z') (hp : p.1 < 16) : fC z (aWr z' p i x) := fun q hq => by
  rw [aWr_ne2 (fun e => by rw [e] at hq; omega)]
  exact h q hq
theorem fS.fC {s : Int} {z z' : aM} (h : fS s z z') : fC z z' := fun q hq => h q (fun w => by omega)
/-- other things than states are written -/
theorem Sim.o {z z' : aM} {s : Int} {a : Int → Int} (h : Sim z s a) (hz : ∀ q : aP, 1 ≤ q.1 → q.1 ≤ 6 → z' q = z q) : Sim z' s a := by
  have e : ∀ (k : Nat) (j : Int), 1 ≤ k → k ≤ 6 → z' (k, s, j) = z (k, s, j) := fun k j k0 k1 => hz _ k0 k1
  obtain ⟨h1, h2, h3⟩ := h
  refine ⟨?_, fun r r0 r1 => ?_, ?_⟩
  · unfold SimC at *; simp only [e 2 _ (by decide) (by decide), e 3 _ (by decide) (by decide)]; exact h1
  · have := h2 r r0 r1
    unfold SimR at *; simp only [e 5 _ (by decide) (by decide), e 6 _ (by decide) (by decide)]; exact this
  · unfold SimS at *; simp only [e 1 _ (by decide) (by decide)]; exact h3
theorem slot_B (z : aM) (c i : Int) : 3 ≤ slot z c i ∧ slot z c i ≤ 10 := by unfold slot; omega
theorem fS.n {s : Int} {z z' : aM} (h : fS s z z') (k : Nat) (hk : k = 0 ∨ 7 ≤ k) (i j : Int) : z' (k, i, j) = z (k, i, j) := h _ (fun w => by have := w.1; dsimp only at this; omega)
/-- the draft differs -/
theorem RelC.dr {z z' : aM} {A : aAb} (h : RelC z A) (hf : fS 1 z z') : RelC z' A := by
  obtain ⟨⟨h1, h2, h3⟩, ⟨h4, h5, h6⟩, ⟨h7, h8⟩, ⟨h9, h10⟩, h11, h12⟩ := h
  have es : ∀ c i, slot z' c i = slot z c i := fun c i => by unfold slot; rw [hf.n 7 (by decide)]
  unfold RelC
  rw [hf.n 0 (by decide), hf.n 7 (by decide), hf.n 12 (by decide), hf.n 13 (by decide), hf.n 10 (by decide), hf.n 11 (by decide)]
  refine ⟨⟨h1.fr (by decide) hf, h2, fun w => (h3 w).fr (by decide) hf⟩, ⟨h4, h5, fun i i0 i1 => ?_⟩, ⟨h7, h8⟩, ⟨h9, h10⟩, h11, h12⟩
  rw [es]
  exact (h6 i i0 i1).fr (by have := slot_B z (wC A) i; omega) hf
/-- the state of now differs -/
theorem RelC.nw {z z' : aM} {A : aAb} {a : Int → Int} (h : RelC z A) (hf : fS 0 z z') (hs : Sim z' 0 a) : RelC z' (a, A.2) := by
  obtain ⟨⟨h1, h2, h3⟩, ⟨h4, h5, h6⟩, ⟨h7, h8⟩, ⟨h9, h10⟩, h11, h12⟩ := h
  have es : ∀ c i, slot z' c i = slot z c i := fun c i => by unfold slot; rw [hf.n 7 (by decide)]
  unfold RelC
  rw [hf.n 0 (by decide), hf.n 7 (by decide), hf.n 12 (by decide), hf.n 13 (by decide), hf.n 10 (by decide), hf.n 11 (by decide)]
  refine ⟨⟨hs, h2, fun w => (h3 w).fr (by decide) hf⟩, ⟨h4, h5, fun i i0 i1 => ?_⟩, ⟨h7, h8⟩, ⟨h9, h10⟩, h11, h12⟩
  rw [es]
  exact (h6 i i0 i1).fr (by have := slot_B z (wC A) i; omega) hf
/-- a state is kept -/
theorem RelC.pu {z z' : aM} {A : aAb} (h : RelC z A) (hc : 0 ≤ wC A ∧ wC A ≤ 8) (hf : fS (3 + z (7, 0, 0) 1) z z') (hs : Sim z' (3 + z (7, 0, 0) 1) (wM A)) : RelC (aWr (aWr z' (7, 0, 0) 1 ((z (7, 0, 0) 1 + 1) % 8)) (7, 0, 0) 2 (min (wC A + 1) 8)) (A.1, A.2.1, (sCnt (wC A), hPush (wH A) (wC A) (wM A)), A.2.2.2) := by
  obtain ⟨⟨h1, h2, h3⟩, ⟨h4, h5, h6⟩, ⟨h7, h8⟩, ⟨h9, h10⟩, h11, h12⟩ := h
  obtain ⟨n, en⟩ : ∃ n, n = z (7, 0, 0) 1 := ⟨_, rfl⟩
  rw [← en] at hf hs h5 ⊢
  obtain ⟨y, ey⟩ : ∃ y, y = aWr (aWr z' (7, 0, 0) 1 ((n + 1) % 8)) (7, 0, 0) 2 (min (wC A + 1) 8) := ⟨_, rfl⟩
  rw [← ey]
  have e : ∀ q : aP, q ≠ (7, 0, 0) → y q = z' q := fun q hq => by rw [ey, aWr_ne2 hq, aWr_ne2 hq]
  have y1 : y (7, 0, 0) 1 = (n + 1) % 8 := by rw [ey, aWr_j (by decide), aWr_k]
  have y2 : y (7, 0, 0) 2 = min (wC A + 1) 8 := by rw [ey, aWr_k]
  have yS : ∀ {s : Int} {a : Int → Int}, Sim z' s a → Sim y s a := fun h => h.o (fun q q0 q1 => e q (pne (by show q.1 ≠ 7; omega)))
  unfold RelC
  rw [e (0, 0, 0) (by decide), e (12, 0, 0) (by decide), e (13, 0, 0) (by decide), e (10, 0, 0) (by decide), e (11, 0, 0) (by decide), hf.n 0 (by decide), hf.n 12 (by decide), hf.n 13 (by decide), hf.n 10 (by decide), hf.n 11 (by decide), y1, y2]
  refine ⟨⟨yS (h1.fr (by omega) hf), h2, fun w => yS ((h3 w).fr (by omega) hf)⟩, ⟨?_, by omega, fun i i0 i1 => ?_⟩, ⟨h7, h8⟩, ⟨h9, h10⟩, h11, h12⟩
  · show _ = sCnt (wC A)
    unfold sCnt
    split <;> omega
  · have i1' : i < sCnt (wC A) := i1
    show Sim y (slot y (sCnt (wC A)) i) (hPush (wH A) (wC A) (wM A) i)
    have old : ∀ i', 0 ≤ i' → i' < wC A → slot y (sCnt (wC A)) i = 3 + (n + 8 - wC A + i') % 8 → (n + 8 - wC A + i') % 8 ≠ n → Sim y (slot y (sCnt (wC A)) i) (wH A i') := by
      intro i' j0 j1 es ns
      have k := h6 i' j0 j1
      have es2 : slot z (wC A) i' = 3 + (n + 8 - wC A + i') % 8 := by unfold slot; rw [← en]
      rw [es]
      rw [es2] at k
      exact yS (k.fr (by omega) hf)
    unfold sCnt at i1'
    unfold hPush
    by_cases c8 : wC A = 8
    · rw [if_pos c8] at i1' ⊢
      by_cases i7 : i = 7
      · rw [if_pos i7]
        have es : slot y (sCnt (wC A)) i = 3 + n := by unfold slot sCnt; rw [y1, if_pos c8]; omega
        rw [es]
        exact yS hs
      · rw [if_neg i7]
        exact old (i + 1) (by omega) (by omega) (by unfold slot sCnt; rw [y1, if_pos c8]; omega) (by omega)
    · rw [if_neg c8] at i1' ⊢
      by_cases ic : i = wC A
      · rw [if_pos ic]
        have es : slot y (sCnt (wC A)) i = 3 + n := by unfold slot sCnt; rw [y1, if_neg c8]; omega
        rw [es]
        exact yS hs
      · rw [if_neg ic]
        exact old i i0 (by omega) (by unfold slot sCnt; rw [y1, if_neg c8]; omega) (by omega)
/-- a method of the class: what it answers or throws, and the world then -/
def cOp (E : List Nat) (l : Launch) (g : aG) (y d : Nat) (as : List aV) (z : aM) (R : aRes) : Prop := (R.1 = 0 → aM1 l g y d as z (fun r z' => r = some (.inl R.2.1) ∧ RelC z' R.2.2 ∧ fC z z')) ∧ (R.1 ≠ 0 → aMX l g y d as z (fun x z' => x = E.getD (R.1 - 1).toNat 0 ∧ RelC z' R.2.2 ∧ fC z z'))
theorem uX {l : Launch} {g : aG} {y d : Nat} {as : List aV} {z : aM} {X : Nat → aM → Prop} {G : Nat → aM → Prop} (h : aMX l g y d as z X) (k : ∀ x z', X x z' → G x z') : aCt l g y d 1 6 none as z (fun _ _ _ => False) (fun x s' z' => s' = none ∧ G x z') :=
  h.mono (fun _ _ _ q => q) (fun x s' z' q => ⟨q.1, k x z' q.2⟩)
theorem oCmd_C {E : List Nat} {l : Launch} {g : aG} {y d : Nat} {as : List aV} {z : aM} {A : aAb} {c : (Int → Int) → aCmd} (h0 : (c (wM A)).1 = 0 → aM1 l g y d as z (fun r z' => r = some (.inl (c (wM A)).2.1) ∧ RelC z' ((c (wM A)).2.2, A.2.1, (sCnt (wC A), hPush (wH A) (wC A) (wM A)), A.2.2.2) ∧ fC z z')) (h1 : (c (wM A)).1 ≠ 0 → aMX l g y d as z (fun x z' => x = E.getD ((c (wM A)).1 - 1).toNat 0 ∧ RelC z' A ∧ fC z z')) : cOp E l g y d as z (oCmd c A) := by
  unfold cOp oCmd
  by_cases e : (c (wM A)).1 = 0
  · rw [if_pos e]
    exact ⟨fun _ => h0 e, fun n => absurd rfl n⟩
  · rw [if_neg e]
    exact ⟨fun n => absurd n e, fun _ => h1 e⟩
def xOf (v : Int) : Nat := if v = -1 then 2 else if v = -2 then 0 else 1
section K12
variable {l : Launch} {g : aG} {d : Nat} {z : aM} {A : aAb} {a : Int → Int}
theorem cK_accepted {v : Int} (hv : aIR v) (v0 : 0 ≤ v) : aE1 l g nX6_accepted d [.inl v] z v z := by
  unfold aIR at *
  refine aM1_of kX6_accepted rfl (fun B hB => ?_)
  refine hB [] 1000 _ _ _ _ _ ?_
  repeat' (first | refine And.intro ?_ ?_ | (intro hh; first | exact absurd hh (by decide) | exact absurd rfl hh | (exfalso; omega) | skip) | fail)
  all_goals first | omega | (exact rfl)
theorem cK_acceptedX {v : Int} (v0 : v = -1 ∨ v = -2 ∨ v = -3) (hd : 6 ≤ d) : aMX l g nX6_accepted d [.inl v] z (fun x z' => x = xOf v ∧ z' = z) := by
  unfold xOf
  refine aMX_of kX6_accepted rfl (fun B hB => ?_)
  refine hB [] 1000 _ _ _ _ _ ?_
  rcases v0 with v0 | v0 | v0
  all_goals (
    subst v0
    repeat' (first | refine And.intro ?_ ?_ | (intro hh; first | exact absurd hh (by decide) | exact absurd rfl hh | skip) | fail)
    all_goals first | omega | (exact rfl) | decide | (exact hd) | (exact Nat.le_refl _))
theorem cK_freshDraft (hd : 3 ≤ d) (h : RelC z A) (hI : InvW A) : aM1 l g nX6_freshDraft d [.inr (.inr (.inl (0, 0, 0)))] z (aRp (fun q z' => q = (1, 1, 0) ∧ Sim z' 1 (wM A) ∧ fS 1 z z')) := by
  have cp := cK_scopy (l := l) (g := g) (d := d - 1) (z := z) (s := 1) (t := 0) (by decide) (by omega) h.1.1 hI.1.1.1
  refine aM1_of kX6_freshDraft rfl (fun B hB => ?_)
  refine hB [] 1000 _ _ _ _ _ ?_
  repeat' (first | (intro z1 hz1; refine ⟨rfl, _, rfl, rfl, ?_⟩; exact hz1) | refine And.intro ?_ ?_ | (intro hh; first | exact absurd hh (by decide) | exact absurd rfl hh | (exfalso; omega) | skip) | refine Or.inl (uV cp ?_) | fail)
  all_goals first | omega | (exact rfl)
theorem cK_push (hd : 3 ≤ d) (h : RelC z A) (hI : InvW A) : aM1 l g nX1_push d [.inr (.inr (.inl (7, 0, 0))), .inr (.inr (.inl (1, 0, 0)))] z (aRv0 (fun z' => RelC z' (A.1, A.2.1, (sCnt (wC A), hPush (wH A) (wC A) (wM A)), A.2.2.2) ∧ (Sim z 1 a → Sim z' 1 a) ∧ fC z z')) := by
  have cc := hI.2.1.1
  have nn := h.2.1.2.1
  have e2 := h.2.1.1
  have cp := cK_scopy (l := l) (g := g) (d := d - 1) (z := z) (s := 3 + z (7, 0, 0) 1) (t := 0) (by omega) (by omega) h.1.1 hI.1.1.1
  refine aM1_of kX1_push rfl (fun B hB => ?_)
  have l13 : ∀ z1, Sim z1 (3 + z (7, 0, 0) 1) (wM A) ∧ fS (3 + z (7, 0, 0) 1) z z1 → B (none, 0, 0) z1 13 [some (.inr (.inr (.inl (7, 0, 0)))), some (.inr (.inr (.inl (1, 0, 0))))] [] := by
    intro z1 hz1
    have n1 : z1 (7, 0, 0) 1 = z (7, 0, 0) 1 := by rw [hz1.2.n 7 (by decide)]
    have n2 : z1 (7, 0, 0) 2 = wC A := by rw [hz1.2.n 7 (by decide), e2]
    have n3 : aWr z1 (7, 0, 0) 1 ((z1 (7, 0, 0) 1 + 1) % 8) (7, 0, 0) 2 = wC A := by rw [aWr_j (by decide), n2]
    have fin : RelC (aWr (aWr z1 (7, 0, 0) 1 ((z1 (7, 0, 0) 1 + 1) % 8)) (7, 0, 0) 2 (min (aWr z1 (7, 0, 0) 1 ((z1 (7, 0, 0) 1 + 1) % 8) (7, 0, 0) 2 + 1) 8)) (A.1, A.2.1, (sCnt (wC A), hPush (wH A) (wC A) (wM A)), A.2.2.2) ∧ (Sim z 1 a → Sim (aWr (aWr z1 (7, 0, 0) 1 ((z1 (7, 0, 0) 1 + 1) % 8)) (7, 0, 0) 2 (min (aWr z1 (7, 0, 0) 1 ((z1 (7, 0, 0) 1 + 1) % 8) (7, 0, 0) 2 + 1) 8)) 1 a) ∧ fC z (aWr (aWr z1 (7, 0, 0) 1 ((z1 (7, 0, 0) 1 + 1) % 8)) (7, 0, 0) 2 (min (aWr z1 (7, 0, 0) 1 ((z1 (7, 0, 0) 1 + 1) % 8) (7, 0, 0) 2 + 1) 8)) := by
      rw [n3, n1]
      refine ⟨h.pu cc hz1.2 hz1.1, fun w => ?_, (hz1.2.fC.wr (by decide)).wr (by decide)⟩
      exact (w.fr (by omega) hz1.2).o (fun q q0 q1 => by rw [aWr_ne2 (pne (by show q.1 ≠ 7; omega)), aWr_ne2 (pne (by show q.1 ≠ 7; omega))])
    refine hB [] 1000 _ _ _ _ _ ?_
    repeat' (first | exact ⟨rfl, rfl, fin⟩ | refine And.intro ?_ ?_ | (intro hh; first | exact absurd hh (by decide) | exact absurd rfl hh | (exfalso; omega) | skip) | fail)
    all_goals first | omega | (exact rfl)
  refine hB [13] 1000 _ _ _ _ _ ?_
  repeat' (first | exact l13 | refine And.intro ?_ ?_ | (intro hh; first | exact absurd hh (by decide) | exact absurd rfl hh | (exfalso; omega) | skip) | refine Or.inl (uV cp ?_) | fail)
  all_goals first | omega | (exact rfl)
theorem cK_settle {v : Int} (hd : 4 ≤ d) (h : RelC z A) (hI : InvW A) (hs : Sim z 1 a) (ha : Inv a) (hv : aIR v) (v0 : 0 ≤ v) : aM1 l g nX6_settle d [.inr (.inr (.inl (0, 0, 0))), .inl v] z (fun r z' => r = some (.inl v) ∧ RelC z' (a, A.2.1, (sCnt (wC A), hPush (wH A) (wC A) (wM A)), A.2.2.2) ∧ fC z z') := by
  have ac := cK_accepted (l := l) (g := g) (d := d - 1) (z := z) hv v0
  have pu := cK_push (l := l) (g := g) (d := d - 1) (z := z) (A := A) (a := a) (by omega) h hI
  refine aM1_of kX6_settle rfl (fun B hB => ?_)
  have l16 : ∀ z1, RelC z1 (A.1, A.2.1, (sCnt (wC A), hPush (wH A) (wC A) (wM A)), A.2.2.2) ∧ (Sim z 1 a → Sim z1 1 a) ∧ fC z z1 → B (none, 0, 0) z1 16 [some (.inr (.inr (.inl (0, 0, 0)))), some (.inl v)] [] := by
    intro z1 hz1
    obtain ⟨q1, q2, q3⟩ := hz1
    have cp := cK_scopy (l := l) (g := g) (d := d - 1) (z := z1) (s := 0) (t := 1) (by decide) (by omega) (q2 hs) ha.1
    refine hB [] 1000 _ _ _ _ _ ?_
    repeat' (first | (intro z2 hz2; refine ⟨rfl, rfl, ?_⟩; exact ⟨q1.nw hz2.2 hz2.1, q3.tr hz2.2.fC⟩) | refine And.intro ?_ ?_ | (intro hh; first | exact absurd hh (by decide) | exact absurd rfl hh | (exfalso; omega) | skip) | refine Or.inl (uV cp ?_) | fail)
    all_goals first | omega | (exact rfl)
  refine hB [16] 1000 _ _ _ _ _ ?_
  repeat' (first | exact l16 | refine And.intro ?_ ?_ | (intro hh; first | exact absurd hh (by decide) | exact absurd rfl hh | (exfalso; omega) | skip) | refine Or.inl (uE ac ?_) | refine Or.inl (uV pu ?_) | fail)
  all_goals first | omega | (exact rfl)
theorem cK_settleX {v : Int} (hd : 7 ≤ d) (v0 : v = -1 ∨ v = -2 ∨ v = -3) : aMX l g nX6_settle d [.inr (.inr (.inl (0, 0, 0))), .inl v] z (fun x z' => x = xOf v ∧ z' = z) := by
  have ac := cK_acceptedX (l := l) (g := g) (d := d - 1) (z := z) v0 (by omega)
  refine aMX_of kX6_settle rfl (fun B hB => ?_)
  refine hB [] 1000 _ _ _ _ _ ?_
  repeat' (first | exact (Or.inr (Or.inl ⟨⟨Nat.le_refl _, Nat.le_refl _⟩, uX ac (fun x z' q => ⟨rfl, q⟩)⟩)) | refine And.intro ?_ ?_ | (intro hh; first | exact absurd hh (by decide) | exact absurd rfl hh | (exfalso; omega) | skip) | fail)
  all_goals first | omega | (exact rfl)

end K12
