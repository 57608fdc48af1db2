/-! THE CLASS: a program executed (printed by wip/whole/cls18.py) -/
section K18
variable {l : Launch} {g : aG} {d : Nat} {z : aM} {A : aAb} {a : Int → Int}
theorem Sim.e {z' : aM} {s : Int} (h : Sim z s a) (e : ∀ (k : Nat) (j : Int), 1 ≤ k → k ≤ 6 → z' (k, s, j) = z (k, s, j)) : Sim z' s a := by
  obtain ⟨h1, h2, h3⟩ := h
  refine ⟨?_, fun r r0 r1 => ?_, ?_⟩
  · unfold SimC at *; simp only [e 2 _ (by decide) (by decide), e 3 _ (by decide) (by decide)]; exact h1
  · have := h2 r r0 r1
    unfold SimR at *; simp only [e 5 _ (by decide) (by decide), e 6 _ (by decide) (by decide)]; exact this
  · unfold SimS at *; simp only [e 1 _ (by decide) (by decide)]; exact h3
theorem cK_pclear : aE0 l g nX3_clear d [.inr (.inr (.inl (12, 0, 0)))] z (aWr z (12, 0, 0) 1 0) := by
  refine aM1_of kX3_clear rfl (fun B hB => ?_)
  refine hB [] 1000 _ _ _ _ _ ?_
  repeat' (first | refine And.intro ?_ ?_ | fail)
  all_goals first | omega | (exact rfl)
theorem RelC.ex {y : aM} {e f : Int} (h : RelC z A) (y1 : y (12, 0, 0) 1 = 0) (y3 : y (0, 0, 0) 3 = z (0, 0, 0) 3) (y8 : y (0, 0, 0) 8 = e) (y9 : y (0, 0, 0) 9 = f) (eq : ∀ q : aP, q ≠ (0, 0, 0) → q ≠ (12, 0, 0) → q ≠ (14, 0, 0) → q ≠ (15, 0, 0) → ¬ ((1 ≤ q.1 ∧ q.1 ≤ 6) ∧ q.2.1 = 1) → y q = z q) : RelC y (A.1, A.2.1, A.2.2.1, (e, f), ((0 : Int), wPt A), A.2.2.2.2.2) := by
  obtain ⟨⟨h1, h2, h3⟩, ⟨h4, h5, h6⟩, ⟨h7, h8⟩, ⟨h9, h10⟩, h11, h12⟩ := h
  have e7 : y (7, 0, 0) = z (7, 0, 0) := eq _ (by decide) (by decide) (by decide) (by decide) (by show ¬ ((1 ≤ 7 ∧ 7 ≤ 6) ∧ _); omega)
  have e10 : y (10, 0, 0) = z (10, 0, 0) := eq _ (by decide) (by decide) (by decide) (by decide) (by show ¬ ((1 ≤ 10 ∧ 10 ≤ 6) ∧ _); omega)
  have e11 : y (11, 0, 0) = z (11, 0, 0) := eq _ (by decide) (by decide) (by decide) (by decide) (by show ¬ ((1 ≤ 11 ∧ 11 ≤ 6) ∧ _); omega)
  have yS : ∀ {s : Int} {a : Int → Int}, s ≠ 1 → Sim z s a → Sim y s a := fun {s a} ns h => h.e (fun k j k0 k1 => eq _ (pne (by show k ≠ 0; omega)) (pne (by show k ≠ 12; omega)) (pne (by show k ≠ 14; omega)) (pne (by show k ≠ 15; omega)) (fun w => ns w.2))
  have es : ∀ c i, slot y c i = slot z c i := fun c i => by unfold slot; rw [e7]
  unfold RelC
  rw [e7, e10, e11, y1, y3, y8, y9]
  refine ⟨⟨yS (by decide) h1, h2, fun w => yS (by decide) (h3 w)⟩, ⟨h4, h5, fun i i0 i1 => ?_⟩, ⟨rfl, rfl⟩, ⟨rfl, fun k k0 k1 => by have k2 : k < (0 : Int) := k1; omega⟩, h11, h12⟩
  rw [es]
  exact yS (fun w => by have w' : slot z (wC A) i = 1 := w; have := slot_B z (wC A) i; omega) (h6 i i0 i1)
/-- the memory behind parse and clear -/
def zPc (z : aM) (m : Int) (fk fa : Int → Int) (r : Int) : aM := aWr (pmem (aWr z (12, 0, 0) 2 m) fk fa r) (12, 0, 0) 1 0
theorem zPc_q (z : aM) (m : Int) (fk fa : Int → Int) (r : Int) {q : aP} (h1 : q ≠ (12, 0, 0)) (h2 : q ≠ (14, 0, 0)) (h3 : q ≠ (15, 0, 0)) : zPc z m fk fa r q = z q := by
  unfold zPc
  rw [aWr_ne2 h1, pm_q _ _ _ _ h1 h2 h3, aWr_ne2 h1]
theorem zPc_f (z : aM) (m : Int) (fk fa : Int → Int) (r : Int) : zPc z m fk fa r (12, 0, 0) 2 = m ∧ zPc z m fk fa r (12, 0, 0) 1 = 0 ∧ zPc z m fk fa r (14, 0, 0) = fk ∧ zPc z m fk fa r (15, 0, 0) = fa := by
  unfold zPc
  refine ⟨?_, aWr_k _ _ _ _, ?_, ?_⟩
  · rw [aWr_j (by decide), pm_o _ _ _ _ (by decide), aWr_k]
  · rw [aWr_ne2 (by decide), pm_14]
  · rw [aWr_ne2 (by decide), pm_15]
theorem q1x_C {E : List Nat} {y : Nat} {as : List aV} {v e : Int} {A' : aAb} (e0 : e ≠ 0) (h0 : aMX l g y d as z (fun x z' => x = E.getD (e - 1).toNat 0 ∧ RelC z' A' ∧ fC z z')) : cOp E l g y d as z (e, v, A') := ⟨fun n => absurd n e0, fun _ => h0⟩
theorem cT_execute (hd : 12 ≤ d) (hR : RelC z A) (hI : InvW A) : cOp [0, 5] l g nX6_execute d [.inr (.inr (.inl (0, 0, 0)))] z (qExec A) := by
  have bp := hI.2.2.2.1
  have e1 := hR.2.2.2.1.1
  have e13 := hR.2.2.2.1.2
  have hp : pOk z := ⟨by rw [e1]; exact bp.1, fun k k0 k1 => by rw [e1] at k1; rw [e13 k k0 k1]; exact bp.2 k k0 k1⟩
  have pa := cK_parse (l := l) (g := g) (d := d - 1) (by omega) hp
  obtain ⟨r, er⟩ : ∃ r, r = prs (wPt A) (wPn A) 16 0 0 cm0 := ⟨_, rfl⟩
  have kr := prs_B (t := wPt A) (n := wPn A) 16 0 0 cm0 (by omega) bp.1.1 (by omega) (by decide) (fun j j0 j1 => by omega)
  have te : tEq (z (13, 0, 0)) (wPt A) (wPn A) := e13
  rw [e1, prs_cg te 16 0 0 cm0 (Int.le_refl 0) bp.1.1, ← er] at pa
  rw [← er] at kr
  have b60 := bp.1
  obtain ⟨R, eR⟩ : ∃ R : aRes, R = qExec A := ⟨_, rfl⟩
  rw [← eR]
  have h0q := kr.2.1
  by_cases r1 : r.1 = 1
  · -- no program
    have hRq : R = (1, -1, (A.1, A.2.1, A.2.2.1, (r.2.1, wF A), ((0 : Int), wPt A), A.2.2.2.2.2)) := by
      rw [eR]; unfold qExec; rw [← er]; dsimp only; rw [if_pos r1]
    rw [hRq]
    refine q1x_C (by decide) ?_
    refine aMX_of kX6_execute rfl (fun B hB => ?_)
    have l7 : ∀ (m : Int) (fk fa : Int → Int) (q : Int), B (none, 0, 0) (pmem (aWr z (12, 0, 0) 2 m) fk fa q) 7 [some (.inr (.inr (.inl (0, 0, 0)))), none, none] [.inl r.2.1] := by
      intro m fk fa q
      have l15 : ∀ y, y = zPc z m fk fa q → B (none, 0, 0) y 15 [some (.inr (.inr (.inl (0, 0, 0)))), some (.inl r.2.1), none] [] := by
        intro y ey
        have f := zPc_f z m fk fa q
        have ff : ∀ q' : aP, q' ≠ (12, 0, 0) → q' ≠ (14, 0, 0) → q' ≠ (15, 0, 0) → y q' = z q' := fun q' q1 q2 q3 => by rw [ey]; exact zPc_q z m fk fa q q1 q2 q3
        have fin : RelC (aWr y (0, 0, 0) 8 r.2.1) (A.1, A.2.1, A.2.2.1, (r.2.1, wF A), ((0 : Int), wPt A), A.2.2.2.2.2) ∧ fC z (aWr y (0, 0, 0) 8 r.2.1) := by
          refine ⟨hR.ex ?_ ?_ ?_ ?_ (fun q' q0 q1 q2 q3 _ => ?_), fun q' hq => ?_⟩
          · rw [aWr_ne2 (by decide), ey]; exact f.2.1
          · rw [aWr_j (by decide), ff _ (by decide) (by decide) (by decide)]
          · rw [aWr_k]
          · rw [aWr_j (by decide), ff _ (by decide) (by decide) (by decide)]; exact hR.2.2.1.2
          · rw [aWr_ne2 q0]; exact ff q' q1 q2 q3
          · rw [aWr_ne2 (pne (by show q'.1 ≠ 0; omega))]; exact ff q' (pne (by show q'.1 ≠ 12; omega)) (pne (by show q'.1 ≠ 14; omega)) (pne (by show q'.1 ≠ 15; omega))
        refine hB [] 1000 _ _ _ _ _ ?_
        repeat' (first | exact ⟨rfl, rfl, fin⟩ | exact fin.1 | exact fin.2 | refine And.intro ?_ ?_ | (intro hh; first | exact absurd hh (by decide) | exact absurd rfl hh | (exfalso; omega) | skip) | fail)
        all_goals first | omega | (exact rfl) | (exact Nat.le_refl _)
      refine hB [15] 1000 _ _ _ _ _ ?_
      repeat' (first | exact l15 _ rfl | refine And.intro ?_ ?_ | (intro hh; first | exact absurd hh (by decide) | exact absurd rfl hh | (exfalso; omega) | skip) | refine Or.inl (uE0 cK_pclear ?_) | fail)
      all_goals first | omega | (exact rfl)
    refine hB [7] 1000 _ _ _ _ _ ?_
    repeat' (first | (intro r' z1 hz1; obtain ⟨⟨q1, -⟩, m, fk, fa, q, rfl, -⟩ := hz1; obtain rfl := q1 r1; exact l7 m fk fa q) | refine And.intro ?_ ?_ | (intro hh; first | exact absurd hh (by decide) | exact absurd rfl hh | (exfalso; omega) | skip) | refine Or.inl (uA pa ?_) | fail)
    all_goals first | omega | (exact rfl)
  · have r0 : r.1 = 0 := by have := kr.1; omega
    obtain ⟨m, em⟩ : ∃ m, m = r.2.2.1 := ⟨_, rfl⟩
    obtain ⟨cm, ecm⟩ : ∃ cm, cm = r.2.2.2 := ⟨_, rfl⟩
    have m1 : 0 ≤ m ∧ m ≤ 16 := by rw [em]; exact kr.2.2.1
    have kc : ∀ j, 0 ≤ j → j < m → cmR (cm j) := by rw [em, ecm]; exact kr.2.2.2 r0
    obtain ⟨X, eX⟩ : ∃ X, X = exA cm m.toNat 0 (wM A) := ⟨_, rfl⟩
    have xs := exA_s (cm := cm) m.toNat 0 (wM A) hI.1.1
    rw [← eX] at xs
    have hI1 : InvW (A.1, A.2.1, A.2.2.1, (wE A, wF A), ((0 : Int), wPt A), A.2.2.2.2.2) := by
      obtain ⟨i1, i2, i3, i4, i5⟩ := hI
      exact ⟨i1, i2, i3, ⟨(by show (0 : Int) ≤ 0 ∧ (0 : Int) ≤ 60; decide), fun k k0 k1 => by have k2 : k < (0 : Int) := k1; omega⟩, i5⟩
    -- up to the performing
    have start : ∀ (z1 : aM), (∃ fk fa q, z1 = zPc z m fk fa q ∧ cmG fk fa cm m) → RelC z1 (A.1, A.2.1, A.2.2.1, (wE A, wF A), ((0 : Int), wPt A), A.2.2.2.2.2) ∧ fC z z1 ∧ z1 (12, 0, 0) 2 = m ∧ cmG (z1 (14, 0, 0)) (z1 (15, 0, 0)) cm m ∧ z1 (12, 0, 0) 1 = 0 ∧ z1 (0, 0, 0) = z (0, 0, 0) ∧ (∀ q' : aP, q' ≠ (12, 0, 0) → q' ≠ (14, 0, 0) → q' ≠ (15, 0, 0) → z1 q' = z q') := by
      intro z1 hz
      obtain ⟨fk, fa, q, ey, hg⟩ := hz
      have f := zPc_f z m fk fa q
      have ff : ∀ q' : aP, q' ≠ (12, 0, 0) → q' ≠ (14, 0, 0) → q' ≠ (15, 0, 0) → z1 q' = z q' := fun q' q1 q2 q3 => by rw [ey]; exact zPc_q z m fk fa q q1 q2 q3
      have f0 : z1 (0, 0, 0) = z (0, 0, 0) := ff _ (by decide) (by decide) (by decide)
      refine ⟨hR.ex (by rw [ey]; exact f.2.1) (by rw [f0]) (by rw [f0]; exact hR.2.2.1.1) (by rw [f0]; exact hR.2.2.1.2) (fun q' _ q1 q2 q3 _ => ff q' q1 q2 q3), fun q' hq => ff q' (pne (by show q'.1 ≠ 12; omega)) (pne (by show q'.1 ≠ 14; omega)) (pne (by show q'.1 ≠ 15; omega)), by rw [ey]; exact f.1, by rw [ey, f.2.2.1, f.2.2.2]; exact hg, by rw [ey]; exact f.2.1, f0, ff⟩
    by_cases x1 : X.1 = 1
    · -- a command fails
      have hRq : R = (2, -1, (A.1, A.2.1, A.2.2.1, (wE A, X.2.1), ((0 : Int), wPt A), A.2.2.2.2.2)) := by
        rw [eR]; unfold qExec; rw [← er]; dsimp only; rw [if_neg (by omega), ← em, ← ecm, ← eX, if_pos x1]
      rw [hRq]
      refine q1x_C (by decide) ?_
      refine aMX_of kX6_execute rfl (fun B hB => ?_)
      have l47 : ∀ (z1 z2 z3 : aM), (∃ fk fa q, z1 = zPc z m fk fa q ∧ cmG fk fa cm m) → fS 1 z1 z2 → fS 1 z2 z3 → B (none, 0, 0) z3 47 [some (.inr (.inr (.inl (0, 0, 0)))), some (.inl (-1)), none] [.inl (X.2.1)] := by
        intro z1 z2 z3 hz f1 f2
        obtain ⟨st1, st2, st3, st4, st5, st6, st7⟩ := start z1 hz
        have hf := f1.tr f2
        have f0 : z3 (0, 0, 0) = z (0, 0, 0) := by rw [hf.n 0 (by decide), st6]
        have xb := xs.2.1
        have fin : RelC (aWr z3 (0, 0, 0) 9 X.2.1) (A.1, A.2.1, A.2.2.1, (wE A, X.2.1), ((0 : Int), wPt A), A.2.2.2.2.2) ∧ fC z (aWr z3 (0, 0, 0) 9 X.2.1) := by
          refine ⟨hR.ex ?_ ?_ ?_ ?_ (fun q' q0 q1 q2 q3 q4 => ?_), (st2.tr hf.fC).wr (by decide)⟩
          · rw [aWr_ne2 (by decide), hf.n 12 (by decide), st5]
          · rw [aWr_j (by decide), f0]
          · rw [aWr_j (by decide), f0]; exact hR.2.2.1.1
          · rw [aWr_k]
          · rw [aWr_ne2 q0, hf q' q4]; exact st7 q' q1 q2 q3
        refine hB [] 1000 _ _ _ _ _ ?_
        repeat' (first | exact ⟨rfl, rfl, fin⟩ | exact fin.1 | exact fin.2 | refine And.intro ?_ ?_ | (intro hh; first | exact absurd hh (by decide) | exact absurd rfl hh | (exfalso; omega) | skip) | fail)
        all_goals first | omega | (exact rfl) | (exact Nat.le_refl _)
      have l44 : ∀ (z1 z2 : aM), (∃ fk fa q, z1 = zPc z m fk fa q ∧ cmG fk fa cm m) → Sim z2 1 (wM A) → fS 1 z1 z2 → B (none, 0, 0) z2 44 [some (.inr (.inr (.inl (0, 0, 0)))), some (.inl (-1)), none] [.inr (.inr (.inl (1, 1, 0))), .inr (.inr (.inl (12, 0, 0)))] := by
        intro z1 z2 hz s2 f1
        obtain ⟨st1, st2, st3, st4, st5, st6, st7⟩ := start z1 hz
        have po := cK_performOn (l := l) (g := g) (d := d - 1) (z := z2) (s := 1) (a := wM A) (m := m) (cm := cm) (by decide) (by omega) s2 hI.1.1 (by rw [f1.n 12 (by decide), st3]) m1.1 m1.2 (by rw [f1.n 14 (by decide), f1.n 15 (by decide)]; exact st4) kc
        rw [← eX] at po
        refine hB [47] 1000 _ _ _ _ _ ?_
        repeat' (first | (intro r3 z3 hz3; obtain ⟨⟨q0, q1⟩, f2⟩ := hz3; obtain rfl := q1 x1; exact l47 z1 z2 z3 hz f1 f2) | refine And.intro ?_ ?_ | (intro hh; first | exact absurd hh (by decide) | exact absurd rfl hh | (exfalso; omega) | skip) | refine Or.inl (uA po ?_) | fail)
        all_goals first | omega | (exact rfl)
      have l15 : ∀ (z1 : aM), (∃ fk fa q, z1 = zPc z m fk fa q ∧ cmG fk fa cm m) → B (none, 0, 0) z1 15 [some (.inr (.inr (.inl (0, 0, 0)))), some (.inl (-1)), none] [] := by
        intro z1 hz
        have st1 := (start z1 hz).1
        have fd := cK_freshDraft (l := l) (g := g) (d := d - 1) (by omega) st1 hI1
        refine hB [44] 1000 _ _ _ _ _ ?_
        repeat' (first | (intro q2 z2 hz2; obtain ⟨rfl, s2, f1⟩ := hz2; exact l44 z1 z2 hz s2 f1) | refine And.intro ?_ ?_ | (intro hh; first | exact absurd hh (by decide) | exact absurd rfl hh | (exfalso; omega) | skip) | refine Or.inl (uP fd ?_) | fail)
        all_goals first | omega | (exact rfl)
      have l7 : ∀ (fk fa : Int → Int) (q : Int), cmG fk fa cm m → B (none, 0, 0) (pmem (aWr z (12, 0, 0) 2 m) fk fa q) 7 [some (.inr (.inr (.inl (0, 0, 0)))), none, none] [.inl (-1)] := by
        intro fk fa q hg
        have nx := l15 (zPc z m fk fa q) ⟨fk, fa, q, rfl, hg⟩
        refine hB [15] 1000 _ _ _ _ _ ?_
        repeat' (first | exact nx | refine And.intro ?_ ?_ | (intro hh; first | exact absurd hh (by decide) | exact absurd rfl hh | (exfalso; omega) | skip) | refine Or.inl (uE0 cK_pclear ?_) | fail)
        all_goals first | omega | (exact rfl)
      refine hB [7] 1000 _ _ _ _ _ ?_
      repeat' (first | (intro r' z1 hz1; obtain ⟨⟨-, q1⟩, m', fk, fa, q, rfl, hg⟩ := hz1; obtain rfl := q1 r0; obtain ⟨g1, g2⟩ := hg r0; rw [← em] at g1; rw [← ecm] at g2; subst g1; exact l7 fk fa q g2) | refine And.intro ?_ ?_ | (intro hh; first | exact absurd hh (by decide) | exact absurd rfl hh | (exfalso; omega) | skip) | refine Or.inl (uA pa ?_) | fail)
      all_goals first | omega | (exact rfl)

    · have x0 : X.1 = 0 := by have := xs.2.2; omega
      have hRq : R = (0, m, (X.2.2, A.2.1, (sCnt (wC A), hPush (wH A) (wC A) (wM A)), A.2.2.2.1, ((0 : Int), wPt A), A.2.2.2.2.2)) := by
        rw [eR]; unfold qExec; rw [← er]; dsimp only; rw [if_neg (by omega), ← em, ← ecm, ← eX, if_neg (by omega)]
      rw [hRq]
      refine q0_C ?_
      refine aM1_of kX6_execute rfl (fun B hB => ?_)
      have l47 : ∀ (z1 z2 z3 : aM), (∃ fk fa q, z1 = zPc z m fk fa q ∧ cmG fk fa cm m) → fS 1 z1 z2 → fS 1 z2 z3 → Sim z3 1 X.2.2 → B (none, 0, 0) z3 47 [some (.inr (.inr (.inl (0, 0, 0)))), some (.inl (-1)), none] [.inl (-1)] := by
        intro z1 z2 z3 hz f1 f2 s3
        obtain ⟨st1, st2, st3, st4, st5, st6, st7⟩ := start z1 hz
        have z32 : z3 (12, 0, 0) 2 = m := by rw [(f1.tr f2).n 12 (by decide), st3]
        have se := cK_settle (l := l) (g := g) (d := d - 1) (z := z3) (A := (A.1, A.2.1, A.2.2.1, (wE A, wF A), ((0 : Int), wPt A), A.2.2.2.2.2)) (a := X.2.2) (v := z3 (12, 0, 0) 2) (by omega) ((st1.dr f1).dr f2) hI1 s3 xs.1 (by rw [z32]; unfold aIR; omega) (by rw [z32]; exact m1.1)
        refine hB [] 1000 _ _ _ _ _ ?_
        repeat' (first | (intro r4 z4 hz4; obtain ⟨rfl, q1, q2⟩ := hz4; exact ⟨rfl, by rw [z32], q1, (st2.tr (f1.tr f2).fC).tr q2⟩) | refine And.intro ?_ ?_ | (intro hh; first | exact absurd hh (by decide) | exact absurd rfl hh | (exfalso; omega) | skip) | refine Or.inl (uA se ?_) | fail)
        all_goals first | omega | (exact rfl)
      have l44 : ∀ (z1 z2 : aM), (∃ fk fa q, z1 = zPc z m fk fa q ∧ cmG fk fa cm m) → Sim z2 1 (wM A) → fS 1 z1 z2 → B (none, 0, 0) z2 44 [some (.inr (.inr (.inl (0, 0, 0)))), some (.inl (-1)), none] [.inr (.inr (.inl (1, 1, 0))), .inr (.inr (.inl (12, 0, 0)))] := by
        intro z1 z2 hz s2 f1
        obtain ⟨st1, st2, st3, st4, st5, st6, st7⟩ := start z1 hz
        have po := cK_performOn (l := l) (g := g) (d := d - 1) (z := z2) (s := 1) (a := wM A) (m := m) (cm := cm) (by decide) (by omega) s2 hI.1.1 (by rw [f1.n 12 (by decide), st3]) m1.1 m1.2 (by rw [f1.n 14 (by decide), f1.n 15 (by decide)]; exact st4) kc
        rw [← eX] at po
        refine hB [47] 1000 _ _ _ _ _ ?_
        repeat' (first | (intro r3 z3 hz3; obtain ⟨⟨q0, q1⟩, f2⟩ := hz3; obtain ⟨rfl, s3⟩ := q0 x0; exact l47 z1 z2 z3 hz f1 f2 s3) | refine And.intro ?_ ?_ | (intro hh; first | exact absurd hh (by decide) | exact absurd rfl hh | (exfalso; omega) | skip) | refine Or.inl (uA po ?_) | fail)
        all_goals first | omega | (exact rfl)
      have l15 : ∀ (z1 : aM), (∃ fk fa q, z1 = zPc z m fk fa q ∧ cmG fk fa cm m) → B (none, 0, 0) z1 15 [some (.inr (.inr (.inl (0, 0, 0)))), some (.inl (-1)), none] [] := by
        intro z1 hz
        have st1 := (start z1 hz).1
        have fd := cK_freshDraft (l := l) (g := g) (d := d - 1) (by omega) st1 hI1
        refine hB [44] 1000 _ _ _ _ _ ?_
        repeat' (first | (intro q2 z2 hz2; obtain ⟨rfl, s2, f1⟩ := hz2; exact l44 z1 z2 hz s2 f1) | refine And.intro ?_ ?_ | (intro hh; first | exact absurd hh (by decide) | exact absurd rfl hh | (exfalso; omega) | skip) | refine Or.inl (uP fd ?_) | fail)
        all_goals first | omega | (exact rfl)
      have l7 : ∀ (fk fa : Int → Int) (q : Int), cmG fk fa cm m → B (none, 0, 0) (pmem (aWr z (12, 0, 0) 2 m) fk fa q) 7 [some (.inr (.inr (.inl (0, 0, 0)))), none, none] [.inl (-1)] := by
        intro fk fa q hg
        have nx := l15 (zPc z m fk fa q) ⟨fk, fa, q, rfl, hg⟩
        refine hB [15] 1000 _ _ _ _ _ ?_
        repeat' (first | exact nx | refine And.intro ?_ ?_ | (intro hh; first | exact absurd hh (by decide) | exact absurd rfl hh | (exfalso; omega) | skip) | refine Or.inl (uE0 cK_pclear ?_) | fail)
        all_goals first | omega | (exact rfl)
      refine hB [7] 1000 _ _ _ _ _ ?_
      repeat' (first | (intro r' z1 hz1; obtain ⟨⟨-, q1⟩, m', fk, fa, q, rfl, hg⟩ := hz1; obtain rfl := q1 r0; obtain ⟨g1, g2⟩ := hg r0; rw [← em] at g1; rw [← ecm] at g2; subst g1; exact l7 fk fa q g2) | refine And.intro ?_ ?_ | (intro hh; first | exact absurd hh (by decide) | exact absurd rfl hh | (exfalso; omega) | skip) | refine Or.inl (uA pa ?_) | fail)
      all_goals first | omega | (exact rfl)


end K18
