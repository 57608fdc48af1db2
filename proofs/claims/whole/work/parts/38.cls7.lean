/-! THE CLASS: ranks (printed by wip/whole/cls7.py) -/
theorem Sim.eq {z z' : aM} {s : Int} {a : Int → Int} (h : Sim z s a) (e : ∀ (k : Nat) (j : Int), 1 ≤ k → k ≤ 6 → z' (k, s, j) = z (k, s, j)) : Sim z' s a := by
  obtain ⟨h1, h2, h3⟩ := h
  refine ⟨?_, fun r r0 r1 => ?_, ?_⟩
  · unfold SimC at *; simp only [e 2 _ (by decide) (by decide), e 3 _ (by decide) (by decide)]; exact h1
  · have := h2 r r0 r1
    unfold SimR at *; simp only [e 5 _ (by decide) (by decide), e 6 _ (by decide) (by decide)]; exact this
  · unfold SimS at *; simp only [e 1 _ (by decide) (by decide)]; exact h3
theorem sBy_nz {a : Int → Int} {r o : Int} : ∀ (n : Nat) (k b : Int), b ≠ 0 → sBy a r o n k b = b
  | 0, _, _, _ => rfl
  | n + 1, k, b, h => by
    show sBy a r o n (k + 1) (if b = 0 then _ else b) = b
    rw [if_neg h]
    exact sBy_nz n (k + 1) b h
section K7
variable {l : Launch} {g : aG} {d : Nat} {z : aM} {s r o : Int} {a : Int → Int}
theorem cK_score (h : Sim z s a) (hI : Inv0 a) (r0 : 0 ≤ r) (r1 : r < a 2) : aE1 l g nX4_sumOfPoints d [.inr (.inr (.inl (5, s, r)))] z (sSum a r) z := by
  have cc := hI.1.1
  have hR := h.2.1 r r0 r1
  have e2 := hR.1.2.1
  have := cK_rsum (l := l) (g := g) (d := d) (z := z) (s := s) (r := r) (by omega) (by omega)
  rw [e2] at this
  have es : sN (z (6, s, r)) (a 0).toNat = sSum a r := sN_cgZ _ (fun k k0 k1 => hR.2.2 k k0 (by omega))
  rw [es] at this
  exact this
theorem cK_compare (hd : 1 ≤ d) (h : Sim z s a) (hI : Inv0 a) (r0 : 0 ≤ r) (r1 : r < a 2) (o0 : 0 ≤ o) (o1 : o < a 2) : aE1 l g nX4_compareForRank d [.inr (.inr (.inl (5, s, r))), .inr (.inr (.inl (5, s, o)))] z (sBy2 a o r) z := by
  have cc := hI.1.1
  have hR := h.2.1 r r0 r1
  have hO := h.2.1 o o0 o1
  have e2 := hR.1.2.1
  have sr := sSum_B hI r0 r1
  have so := sSum_B hI o0 o1
  have tr := (hI.2.2.1 r r0 r1).1
  have to := (hI.2.2.1 o o0 o1).1
  have t1 := hR.1.1.1
  have t2 := hO.1.1.1
  have c1 := cK_score (l := l) (g := g) (d := d - 1) h hI r0 r1
  have c2 := cK_score (l := l) (g := g) (d := d - 1) (r := o) h hI o0 o1
  have e9 : sBy2 a o r = (if sBy a o r (a 0).toNat 0 (sSum a o - sSum a r) = 0 then a (59 + 13 * r + 1) - a (59 + 13 * o + 1) else sBy a o r (a 0).toNat 0 (sSum a o - sSum a r)) := rfl
  obtain ⟨V, eV⟩ : ∃ V, V = sBy2 a o r := ⟨_, rfl⟩
  rw [← eV] at e9 ⊢
  obtain ⟨F, eF⟩ : ∃ F, F = sBy a o r (a 0).toNat 0 (sSum a o - sSum a r) := ⟨_, rfl⟩
  rw [← eF] at e9
  refine aM1_of kX4_compareForRank rfl (fun B hB => ?_)
  have end_ : ∀ (k b : Int), b = F → -180 ≤ b ∧ b ≤ 180 → B (none, 0, 0) z 44 [some (.inr (.inr (.inl (5, s, r)))), some (.inr (.inr (.inl (5, s, o)))), some (.inl b), some (.inl k)] [] := by
    intro k b hb hb2
    subst hb
    by_cases q : b = 0
    · rw [if_pos q] at e9
      refine hB [] 1000 _ _ _ _ _ ?_
      repeat' (first | refine And.intro ?_ ?_ | (intro hh; first | exact absurd hh (by decide) | exact absurd rfl hh | (exfalso; omega) | skip) | fail)
      all_goals first | omega | (exact rfl) | (exact sI (by omega))
    · rw [if_neg q] at e9
      refine hB [] 1000 _ _ _ _ _ ?_
      repeat' (first | refine And.intro ?_ ?_ | (intro hh; first | exact absurd hh (by decide) | exact absurd rfl hh | (exfalso; omega) | skip) | fail)
      all_goals first | omega | (exact rfl) | (exact sI (by omega))
  have loop : ∀ (n : Nat) (k b : Int), 0 ≤ k → k + (n : Int) = a 0 → -180 ≤ b ∧ b ≤ 180 → sBy a o r n k b = F → B (none, 0, 0) z 12 [some (.inr (.inr (.inl (5, s, r)))), some (.inr (.inr (.inl (5, s, o)))), some (.inl b), some (.inl k)] [] := by
    intro n
    induction n with
    | zero =>
      intro k b k0 k1 hb e
      have e' : b = F := e
      have en := end_ k b e' hb
      refine hB [44] 1000 _ _ _ _ _ ?_
      repeat' (first | exact en | refine And.intro ?_ ?_ | (intro hh; first | exact absurd hh (by decide) | exact absurd rfl hh | (exfalso; omega) | skip) | fail)
      all_goals first | omega | (exact rfl)
    | succ n ih =>
      intro k b k0 k1 hb e
      by_cases q : b = 0
      · have p1 := hR.2.2 k k0 (by omega)
        have p2 := hO.2.2 k k0 (by omega)
        have b1 := hI.pts r0 r1 k0 (show k < a 0 by omega)
        have b2 := hI.pts o0 o1 k0 (show k < a 0 by omega)
        have e' : sBy a o r n (k + 1) (if b = 0 then a (59 + 13 * o + 7 + k) - a (59 + 13 * r + 7 + k) else b) = F := e
        rw [if_pos q, ← p1, ← p2] at e'
        have nx := ih (k + 1) _ (by omega) (by omega) (by omega) e'
        refine hB [12] 1000 _ _ _ _ _ ?_
        repeat' (first | exact nx | refine And.intro ?_ ?_ | (intro hh; first | exact absurd hh (by decide) | exact absurd rfl hh | (exfalso; omega) | skip) | fail)
        all_goals first | omega | (exact rfl)
      · have en := end_ k b (by rw [← e]; exact (sBy_nz _ _ _ q).symm) hb
        refine hB [44] 1000 _ _ _ _ _ ?_
        repeat' (first | exact en | refine And.intro ?_ ?_ | (intro hh; first | exact absurd hh (by decide) | exact absurd rfl hh | (exfalso; omega) | skip) | fail)
        all_goals first | omega | (exact rfl)
  have st := loop (a 0).toNat 0 _ (by omega) (by omega) (by omega) eF.symm
  refine hB [12] 1000 _ _ _ _ _ ?_
  repeat' (first | exact st | refine And.intro ?_ ?_ | refine Or.inl (uE c1 ?_) | refine Or.inl (uE c2 ?_) | fail)
  all_goals first | omega | (exact rfl)
theorem sBy2_B (hI : Inv0 a) (r0 : 0 ≤ r) (r1 : r < a 2) (o0 : 0 ≤ o) (o1 : o < a 2) : -2000 ≤ sBy2 a r o ∧ sBy2 a r o ≤ 2000 := by
  have cc := hI.1.1
  have sr := sSum_B hI r0 r1
  have so := sSum_B hI o0 o1
  have tr := (hI.2.2.1 r r0 r1).1
  have to := (hI.2.2.1 o o0 o1).1
  have b := sBy_B hI r0 r1 o0 o1 (a 0).toNat 0 (sSum a r - sSum a o) (by omega) (by omega) (by omega)
  unfold sBy2
  dsimp only
  split <;> omega
theorem cK_isRankedBefore (hd : 2 ≤ d) (h : Sim z s a) (hI : Inv0 a) (r0 : 0 ≤ r) (r1 : r < a 2) (o0 : 0 ≤ o) (o1 : o < a 2) : aEb l g nX5_isRankedBefore d [.inr (.inr (.inl (1, s, 0))), .inl r, .inl o] z (sAhd a r o) := by
  have cc := hI.1.1
  have c1 := cK_compare (l := l) (g := g) (d := d - 1) (by omega) h hI r0 r1 o0 o1
  have bb := sBy2_B hI o0 o1 r0 r1
  have ng := sBy2_neg (a := a) (r := o) (o := r)
  unfold sAhd
  rw [ng]
  obtain ⟨V, eV⟩ : ∃ V, V = sBy2 a o r := ⟨_, rfl⟩
  rw [← eV] at c1 bb ⊢
  refine aM1_of kX5_isRankedBefore rfl (fun B hB => ?_)
  refine hB [] 1000 _ _ _ _ _ ?_
  repeat' (first | refine And.intro ?_ ?_ | (intro hh; first | exact absurd hh (by decide) | exact absurd rfl hh | (exfalso; omega) | skip) | refine Or.inl (uE c1 ?_) | fail)
  all_goals first | omega | (exact rfl) | (exact Or.inl rfl) | (exact Or.inr rfl) | (exact Or.inl ⟨rfl, by omega⟩) | (exact Or.inr ⟨rfl, by omega⟩) | fail "left"
theorem cK_countRunsBefore (hd : 3 ≤ d) (h : Sim z s a) (hI : Inv0 a) (r0 : 0 ≤ r) (r1 : r < a 2) : aE1 l g nX5_countRunsBefore d [.inr (.inr (.inl (1, s, 0))), .inl r] z (sRank a r) z := by
  have cc := hI.1.1
  have e2 := h.2.2.1.1
  refine aM1_of kX5_countRunsBefore rfl (fun B hB => ?_)
  have loop : ∀ (n : Nat) (k acc : Int), 0 ≤ k → k + (n : Int) = a 2 → sRk a r n k acc = sRank a r → B (none, 0, 0) z 4 [some (.inr (.inr (.inl (1, s, 0)))), some (.inl r), some (.inl acc), some (.inl k)] [] := by
    intro n
    induction n with
    | zero =>
      intro k acc k0 k1 e
      have e' : acc = sRank a r := e
      refine hB [] 1000 _ _ _ _ _ ?_
      repeat' (first | refine And.intro ?_ ?_ | (intro hh; first | exact absurd hh (by decide) | exact absurd rfl hh | (exfalso; omega) | skip) | fail)
      all_goals first | omega | (exact sI e') | (exact rfl)
    | succ n ih =>
      intro k acc k0 k1 e
      have e' : sRk a r n (k + 1) (acc + (if k ≠ r ∧ sAhd a k r then 1 else 0)) = sRank a r := e
      have c1 := cK_isRankedBefore (l := l) (g := g) (d := d - 1) (by omega) h hI k0 (show k < a 2 by omega) r0 r1
      by_cases q : sAhd a k r
      · rw [if_pos ⟨fun e => by rw [e] at q; exact sAhd_ir q, q⟩] at e'
        have nx := ih (k + 1) (acc + 1) (by omega) (by omega) e'
        refine hB [4] 1000 _ _ _ _ _ ?_
        repeat' (first | exact nx | refine And.intro ?_ ?_ | (intro hh; first | exact absurd q hh | exact absurd hh (by decide) | exact absurd rfl hh | (exfalso; omega) | skip) | refine Or.inl (uB c1 ?_ ?_) | fail)
        all_goals first | omega | (exact rfl)
      · rw [if_neg (fun w => q w.2), Int.add_zero] at e'
        have nx := ih (k + 1) acc (by omega) (by omega) e'
        refine hB [4] 1000 _ _ _ _ _ ?_
        repeat' (first | exact nx | refine And.intro ?_ ?_ | (intro hh; first | exact absurd hh q | exact absurd hh (by decide) | exact absurd rfl hh | (exfalso; omega) | skip) | refine Or.inl (uB c1 ?_ ?_) | fail)
        all_goals first | omega | (exact rfl)
  have st := loop (a 2).toNat 0 0 (by omega) (by omega) rfl
  refine hB [4] 1000 _ _ _ _ _ ?_
  repeat' (first | exact st | refine And.intro ?_ ?_ | fail)
  all_goals first | omega | (exact rfl)
theorem Sim.row {f : Int → Int} (h : Sim z s a) : Sim (pS z (9, 0, 0) f) s a := h.eq (fun k j k0 k1 => pS_ne (pne (by show k ≠ 9; omega)))
theorem cK_sortRuns (hd : 3 ≤ d) (h : Sim z s a) (hI : Inv0 a) : aE0 l g nX5_sortRuns d [.inr (.inr (.inl (1, s, 0))), .inr (.inr (.inl (9, 0, 0)))] z (pS z (9, 0, 0) (sSo a (a 2).toNat (z (9, 0, 0)) 0)) := by
  have cc := hI.1.1
  refine aM1_of kX5_sortRuns rfl (fun B hB => ?_)
  have inner : ∀ (m : Int) (n : Nat) (f : Int → Int) (p : Int), (n : Int) = p → p ≤ m → m < a 2 → (∀ i, 0 ≤ i → i ≤ m → i ≠ p → 0 ≤ f i ∧ f i < m) → (∀ p', B (none, 0, 0) (pS z (9, 0, 0) (sSh a m n f p)) 2 [some (.inr (.inr (.inl (1, s, 0)))), some (.inr (.inr (.inl (9, 0, 0)))), some (.inl (m + 1)), some (.inl p')] []) → B (none, 0, 0) (pS z (9, 0, 0) f) 12 [some (.inr (.inr (.inl (1, s, 0)))), some (.inr (.inr (.inl (9, 0, 0)))), some (.inl m), some (.inl p)] [] := by
    intro m n
    induction n with
    | zero =>
      intro f p hp p1 m1 hf nx
      have ep : p = 0 := by omega
      subst ep
      have nx' := nx 0
      have e1 : pS z (9, 0, 0) (sSh a m 0 f 0) = aWr (pS z (9, 0, 0) f) (9, 0, 0) 0 m := by rw [aWr_pS, pS_pS, pS_at]; rfl
      rw [e1] at nx'
      refine hB [2] 1000 _ _ _ _ _ ?_
      repeat' (first | exact nx' | refine And.intro ?_ ?_ | (intro hh; first | exact absurd hh (by decide) | exact absurd rfl hh | (exfalso; omega) | skip) | fail)
      all_goals first | omega | (exact rfl)
    | succ n ih =>
      intro f p hp p1 m1 hf nx
      have v := hf (p - 1) (by omega) (by omega) (by omega)
      have er : pS z (9, 0, 0) f (9, 0, 0) = f := pS_at _ _ _
      have er1 : pS z (9, 0, 0) f (9, 0, 0) (p - 1) = f (p - 1) := by rw [er]
      have c1 := cK_isRankedBefore (l := l) (g := g) (d := d - 1) (z := pS z (9, 0, 0) f) (r := m) (o := f (p - 1)) (by omega) h.row hI (by omega) m1 v.1 (by omega)
      rw [← er1] at c1
      by_cases q : sAhd a m (f (p - 1))
      · have e2 : sSh a m (n + 1) f p = sSh a m n (ud f p (f (p - 1))) (p - 1) := if_pos q
        rw [e2] at nx
        have nx' := ih (ud f p (f (p - 1))) (p - 1) (by omega) (by omega) m1 (fun i i0 i1 i2 => by
          by_cases e : i = p
          · rw [e, ud_at]; exact v
          · rw [ud_ne e]; exact hf i i0 i1 e) nx
        have e1 : pS z (9, 0, 0) (ud f p (f (p - 1))) = aWr (pS z (9, 0, 0) f) (9, 0, 0) p (pS z (9, 0, 0) f (9, 0, 0) (p - 1)) := by rw [aWr_pS, pS_pS, er]
        rw [e1] at nx'
        rw [← er1] at q
        refine hB [12] 1000 _ _ _ _ _ ?_
        repeat' (first | exact nx' | refine And.intro ?_ ?_ | (intro hh; first | exact absurd q hh | exact absurd hh (by decide) | exact absurd rfl hh | (exfalso; omega) | skip) | refine Or.inl (uB c1 ?_ ?_) | fail)
        all_goals first | omega | (exact rfl)
      · have e2 : sSh a m (n + 1) f p = ud f p m := if_neg q
        rw [e2] at nx
        have nx' := nx p
        have e1 : pS z (9, 0, 0) (ud f p m) = aWr (pS z (9, 0, 0) f) (9, 0, 0) p m := by rw [aWr_pS, pS_pS, er]
        rw [e1] at nx'
        rw [← er1] at q
        refine hB [2] 1000 _ _ _ _ _ ?_
        repeat' (first | exact nx' | refine And.intro ?_ ?_ | (intro hh; first | exact absurd hh q | exact absurd hh (by decide) | exact absurd rfl hh | (exfalso; omega) | skip) | refine Or.inl (uB c1 ?_ ?_) | fail)
        all_goals first | omega | (exact rfl)
  have outer : ∀ (n m : Nat) (f : Int → Int) (x : Option aV), (x = none ∨ ∃ p : Int, x = some (.inl p)) → (m : Int) + (n : Int) = a 2 → sGd a m f → pS z (9, 0, 0) (sSo a n f (m : Int)) = pS z (9, 0, 0) (sSo a (a 2).toNat (z (9, 0, 0)) 0) → B (none, 0, 0) (pS z (9, 0, 0) f) 2 [some (.inr (.inr (.inl (1, s, 0)))), some (.inr (.inr (.inl (9, 0, 0)))), some (.inl (m : Int)), x] [] := by
    intro n
    induction n with
    | zero =>
      intro m f x hx hm hG e
      have e2 := (h.row (f := f)).2.2.1.1
      have e' : pS z (9, 0, 0) f = pS z (9, 0, 0) (sSo a (a 2).toNat (z (9, 0, 0)) 0) := e
      rcases hx with rfl | ⟨p, rfl⟩
      · refine hB [] 1000 _ _ _ _ _ ?_
        repeat' (first | exact e' | refine And.intro ?_ ?_ | (intro hh; first | exact absurd hh (by decide) | exact absurd rfl hh | (exfalso; omega) | skip) | fail)
        all_goals first | omega | (exact rfl)
      · refine hB [] 1000 _ _ _ _ _ ?_
        repeat' (first | exact e' | refine And.intro ?_ ?_ | (intro hh; first | exact absurd hh (by decide) | exact absurd rfl hh | (exfalso; omega) | skip) | fail)
        all_goals first | omega | (exact rfl)
    | succ n ih =>
      intro m f x hx hm hG e
      have e2 := (h.row (f := f)).2.2.1.1
      have nG : sGd a (m + 1) (sSh a (m : Int) m f (m : Int)) := by
        have := sSo_G (a := a) 1 m f hG
        exact this
      have in_ := inner (m : Int) m f (m : Int) rfl (Int.le_refl _) (by omega) (fun i i0 i1 i2 => hG.1 i i0 (by omega)) (fun p' => by
        have := ih (m + 1) (sSh a (m : Int) m f (m : Int)) (some (.inl p')) (Or.inr ⟨p', rfl⟩) (by omega) nG (by rw [← e]; rfl)
        exact this)
      rcases hx with rfl | ⟨p, rfl⟩
      · refine hB [12] 1000 _ _ _ _ _ ?_
        repeat' (first | exact in_ | refine And.intro ?_ ?_ | (intro hh; first | exact absurd hh (by decide) | exact absurd rfl hh | (exfalso; omega) | skip) | fail)
        all_goals first | omega | (exact rfl)
      · refine hB [12] 1000 _ _ _ _ _ ?_
        repeat' (first | exact in_ | refine And.intro ?_ ?_ | (intro hh; first | exact absurd hh (by decide) | exact absurd rfl hh | (exfalso; omega) | skip) | fail)
        all_goals first | omega | (exact rfl)
  have st := outer (a 2).toNat 0 (z (9, 0, 0)) none (Or.inl rfl) (by omega) sGd_0 rfl
  rw [pS_id] at st
  refine hB [2] 1000 _ _ _ _ _ ?_
  repeat' (first | exact st | refine And.intro ?_ ?_ | fail)
  all_goals first | omega | (exact rfl)
theorem sSo_g (h0 : 0 ≤ a 2) (f : Int → Int) : sGd a (a 2).toNat (sSo a (a 2).toNat f 0) := by
  have := sSo_G (a := a) (a 2).toNat 0 f sGd_0
  rw [Nat.zero_add] at this
  exact this
theorem cK_isGoingOn (h : Sim z s a) (hI : Inv0 a) (r0 : 0 ≤ r) (r1 : r < a 2) : aEb l g nX5_isGoingOn d [.inr (.inr (.inl (1, s, 0))), .inl r] z (a 7 = r) := by
  have cc := hI.1.1
  have e2 := h.2.2.1.1
  have e3 := h.2.2.1.2
  have gg := hI.2.1
  have e3' : (a 7 = -1 ∧ z (1, s, 0) 3 = 0) ∨ (a 7 = a 2 - 1 ∧ z (1, s, 0) 3 = 1) := by
    by_cases q : a 7 = -1
    · rw [if_pos q] at e3; exact Or.inl ⟨q, e3⟩
    · rw [if_neg q] at e3; exact Or.inr ⟨by omega, e3⟩
  refine aM1_of kX5_isGoingOn rfl (fun B hB => ?_)
  refine hB [] 1000 _ _ _ _ _ ?_
  repeat' (first | refine And.intro ?_ ?_ | (intro hh; first | exact absurd hh (by decide) | exact absurd rfl hh | (exfalso; omega) | skip) | fail)
  all_goals first | omega | (exact rfl) | (exact Or.inl rfl) | (exact Or.inr rfl) | (exact Or.inl ⟨rfl, by omega⟩) | (exact Or.inr ⟨rfl, by omega⟩) | fail "left"
theorem cK_bestRunOn {k : Int} (h : Sim z s a) (hI : Inv0 a) (k0 : 0 ≤ k) (k1 : k < a 0) (h1 : 1 ≤ a 2) : aE1 l g nX5_bestRunOn d [.inr (.inr (.inl (1, s, 0))), .inl k] z (sBs a k ((a 2).toNat - 1) 1 0) z := by
  have cc := hI.1.1
  have e2 := h.2.2.1.1
  refine aM1_of kX5_bestRunOn rfl (fun B hB => ?_)
  have loop : ∀ (n : Nat) (r b : Int), 1 ≤ r → r + (n : Int) = a 2 → 0 ≤ b ∧ b < r → sBs a k n r b = sBs a k ((a 2).toNat - 1) 1 0 → B (none, 0, 0) z 4 [some (.inr (.inr (.inl (1, s, 0)))), some (.inl k), some (.inl b), some (.inl r)] [] := by
    intro n
    induction n with
    | zero =>
      intro r b r0 r1 hb e
      have e' : b = sBs a k ((a 2).toNat - 1) 1 0 := e
      refine hB [] 1000 _ _ _ _ _ ?_
      repeat' (first | refine And.intro ?_ ?_ | (intro hh; first | exact absurd hh (by decide) | exact absurd rfl hh | (exfalso; omega) | skip) | fail)
      all_goals first | omega | (exact sI e') | (exact rfl)
    | succ n ih =>
      intro r b r0 r1 hb e
      have p1 := (h.2.1 r (by omega) (by omega)).2.2 k k0 k1
      have p2 := (h.2.1 b (by omega) (by omega)).2.2 k k0 k1
      have q1 := hI.pts (r := r) (by omega) (by omega) k0 k1
      have q2 := hI.pts (r := b) (by omega) (by omega) k0 k1
      have e' : sBs a k n (r + 1) (if a (59 + 13 * b + 7 + k) < a (59 + 13 * r + 7 + k) then r else b) = sBs a k ((a 2).toNat - 1) 1 0 := e
      by_cases q : a (59 + 13 * b + 7 + k) < a (59 + 13 * r + 7 + k)
      · rw [if_pos q] at e'
        have nx := ih (r + 1) r (by omega) (by omega) (by omega) e'
        refine hB [4] 1000 _ _ _ _ _ ?_
        repeat' (first | exact nx | refine And.intro ?_ ?_ | (intro hh; first | exact absurd hh (by decide) | exact absurd rfl hh | (exfalso; omega) | skip) | fail)
        all_goals first | omega | (exact rfl)
      · rw [if_neg q] at e'
        have nx := ih (r + 1) b (by omega) (by omega) (by omega) e'
        refine hB [4] 1000 _ _ _ _ _ ?_
        repeat' (first | exact nx | refine And.intro ?_ ?_ | (intro hh; first | exact absurd hh (by decide) | exact absurd rfl hh | (exfalso; omega) | skip) | fail)
        all_goals first | omega | (exact rfl)
  have st := loop ((a 2).toNat - 1) 1 0 (by omega) (by omega) (by omega) rfl
  refine hB [4] 1000 _ _ _ _ _ ?_
  repeat' (first | exact st | refine And.intro ?_ ?_ | fail)
  all_goals first | omega | (exact rfl)
theorem cK_sumOfScores (hd : 1 ≤ d) (h : Sim z s a) (hI : Inv0 a) : aE1 l g nX5_sumOfScores d [.inr (.inr (.inl (1, s, 0)))] z (sSums a) z := by
  have cc := hI.1.1
  have e2 := h.2.2.1.1
  refine aM1_of kX5_sumOfScores rfl (fun B hB => ?_)
  have loop : ∀ (n : Nat) (k acc : Int), 0 ≤ k → k + (n : Int) = a 2 → acc = sN (fun k => sSum a k) k.toNat → B (none, 0, 0) z 4 [some (.inr (.inr (.inl (1, s, 0)))), some (.inl acc), some (.inl k)] [] := by
    intro n
    induction n with
    | zero =>
      intro k acc k0 k1 e
      have ek : k = a 2 := by omega
      subst ek
      have e' : acc = sSums a := e
      refine hB [] 1000 _ _ _ _ _ ?_
      repeat' (first | refine And.intro ?_ ?_ | (intro hh; first | exact absurd hh (by decide) | exact absurd rfl hh | (exfalso; omega) | skip) | fail)
      all_goals first | omega | (exact sI e') | (exact rfl)
    | succ n ih =>
      intro k acc k0 k1 e
      have c1 := cK_score (l := l) (g := g) (d := d - 1) (r := k) h hI k0 (by omega)
      have nx := ih (k + 1) (acc + sSum a k) (by omega) (by omega) (by rw [sN_s k0, e])
      refine hB [4] 1000 _ _ _ _ _ ?_
      repeat' (first | exact nx | refine And.intro ?_ ?_ | (intro hh; first | exact absurd hh (by decide) | exact absurd rfl hh | (exfalso; omega) | skip) | refine Or.inl (uE c1 ?_) | fail)
      all_goals first | omega | (exact rfl)
  have st := loop (a 2).toNat 0 0 (by omega) (by omega) rfl
  refine hB [4] 1000 _ _ _ _ _ ?_
  repeat' (first | exact st | refine And.intro ?_ ?_ | fail)
  all_goals first | omega | (exact rfl)
theorem cK_countRunsThrough {k : Int} (hd : 1 ≤ d) (h : Sim z s a) (hI : Inv0 a) (k0 : 0 ≤ k) (k1 : k < 6) : aE1 l g nX5_countRunsThrough d [.inr (.inr (.inl (1, s, 0))), .inl k] z (sThr a k (a 2).toNat 0 0) z := by
  have cc := hI.1.1
  have e2 := h.2.2.1.1
  refine aM1_of kX5_countRunsThrough rfl (fun B hB => ?_)
  have loop : ∀ (n : Nat) (r acc : Int), 0 ≤ r → r + (n : Int) = a 2 → sThr a k n r acc = sThr a k (a 2).toNat 0 0 → B (none, 0, 0) z 4 [some (.inr (.inr (.inl (1, s, 0)))), some (.inl k), some (.inl acc), some (.inl r)] [] := by
    intro n
    induction n with
    | zero =>
      intro r acc r0 r1 e
      have e' : acc = sThr a k (a 2).toNat 0 0 := e
      refine hB [] 1000 _ _ _ _ _ ?_
      repeat' (first | refine And.intro ?_ ?_ | (intro hh; first | exact absurd hh (by decide) | exact absurd rfl hh | (exfalso; omega) | skip) | fail)
      all_goals first | omega | (exact sI e') | (exact rfl)
    | succ n ih =>
      intro r acc r0 r1 e
      have eb := (h.2.1 r r0 (by omega)).1.2.2
      have ok := (hI.2.2.1 r r0 (by omega)).1.2.2
      have c1 := cK_isGatePassed (l := l) (g := g) (d := d - 1) (z := z) (s := s) (r := r) (k := k) (by omega) (by omega) k0 k1
      rw [eb] at c1
      have e' : sThr a k n (r + 1) (acc + sB (sBit (a (59 + 13 * r + 6)) k)) = sThr a k (a 2).toNat 0 0 := e
      by_cases q : sBit (a (59 + 13 * r + 6)) k
      · rw [sB_1 q] at e'
        have nx := ih (r + 1) (acc + 1) (by omega) (by omega) e'
        refine hB [4] 1000 _ _ _ _ _ ?_
        repeat' (first | exact nx | refine And.intro ?_ ?_ | (intro hh; first | exact absurd q hh | exact absurd hh (by decide) | exact absurd rfl hh | (exfalso; omega) | skip) | refine Or.inl (uB c1 ?_ ?_) | fail)
        all_goals first | omega | (exact rfl)
      · rw [sB_0 q, Int.add_zero] at e'
        have nx := ih (r + 1) acc (by omega) (by omega) e'
        refine hB [4] 1000 _ _ _ _ _ ?_
        repeat' (first | exact nx | refine And.intro ?_ ?_ | (intro hh; first | exact absurd hh q | exact absurd hh (by decide) | exact absurd rfl hh | (exfalso; omega) | skip) | refine Or.inl (uB c1 ?_ ?_) | fail)
        all_goals first | omega | (exact rfl)
  have st := loop (a 2).toNat 0 0 (by omega) (by omega) rfl
  refine hB [4] 1000 _ _ _ _ _ ?_
  repeat' (first | exact st | refine And.intro ?_ ?_ | fail)
  all_goals first | omega | (exact rfl)
theorem cK_csumA (h : Sim z s a) (hI : Inv0 a) : aE1 l g nX0_sumOfPoints d [.inr (.inr (.inl (2, s, 0)))] z (sTot a) z := by
  have cc := hI.1.1
  have e4 := h.1.1.2.2.1
  have := cK_csum (l := l) (g := g) (d := d) (z := z) (s := s) (by omega) (by omega)
  rw [e4] at this
  have es : sN (z (3, s, 2)) (a 0).toNat = sTot a := sN_cgZ _ (fun k k0 k1 => (h.1.2.1 k k0 (by omega)).2.2)
  rw [es] at this
  exact this
theorem cK_lossesA (h : Sim z s a) (r0 : 0 ≤ r) (r1 : r < a 2) : aE1 l g nX4_sumOfLosses d [.inr (.inr (.inl (5, s, r)))] z (a (59 + 13 * r + 2) + a (59 + 13 * r + 3) + a (59 + 13 * r + 4) + a (59 + 13 * r + 5)) z := by
  have hR := h.2.1 r r0 r1
  have := cK_losses (l := l) (g := g) (d := d) (z := z) (s := s) (r := r)
  rw [hR.2.1.1.1, hR.2.1.1.2, hR.2.1.2.1, hR.2.1.2.2] at this
  exact this
theorem cK_isSound (hd : 1 ≤ d) (h : Sim z s a) (hI : Inv a) (r0 : 0 ≤ r) (r1 : r < a 2) : aE1 l g nX5_isSound d [.inr (.inr (.inl (1, s, 0))), .inl r] z 1 z := by
  have cc := hI.1.1.1
  have e2 := h.2.2.1.1
  have e4 := h.1.1.2.2.1
  have hR := h.2.1 r r0 r1
  have ok := hI.1.2.2.1 r r0 r1
  have ec : z (5, s, r) 1 = a (59 + 13 * r) := hR.1.1.2
  have okc := ok.1.1
  have sb := sSum_B hI.1 r0 r1
  have cS := cK_score (l := l) (g := g) (d := d - 1) h hI.1 r0 r1
  have cT := cK_csumA (l := l) (g := g) (d := d - 1) h hI.1
  have cL := cK_lossesA (l := l) (g := g) (d := d - 1) h r0 r1
  have cG := cK_isGoingOn (l := l) (g := g) (d := d - 1) h hI.1 r0 r1
  have sum : sSum a r + (a (59 + 13 * r + 2) + a (59 + 13 * r + 3) + a (59 + 13 * r + 4) + a (59 + 13 * r + 5)) = sTot a := ok.2.2.2
  have gz : a 7 = r → a (59 + 13 * r) = 0 := fun e => by
    have := (hI.2 (by omega)).2
    rw [e] at this
    exact this
  refine aM1_of kX5_isSound rfl (fun B hB => ?_)
  have loop : ∀ (n : Nat) (k : Int), 0 ≤ k → k + (n : Int) = a 0 → B (none, 0, 0) z 9 [some (.inr (.inr (.inl (1, s, 0)))), some (.inl r), some (.inr (.inr (.inl (5, s, r)))), some (.inl k)] [] := by
    intro n
    induction n with
    | zero =>
      intro k k0 k1
      by_cases q : a 7 = r
      · have q2 := gz q
        refine hB [] 1000 _ _ _ _ _ ?_
        repeat' (first | refine And.intro ?_ ?_ | (intro hh; first | exact absurd q hh | exact absurd hh (by decide) | exact absurd rfl hh | (exfalso; omega) | skip) | refine Or.inl (uE cS ?_) | refine Or.inl (uE cT ?_) | refine Or.inl (uE cL ?_) | refine Or.inl (uB cG ?_ ?_) | fail)
        all_goals first | omega | (exact rfl) | (exact Or.inl rfl) | (exact Or.inr rfl) | (unfold aIR; omega)
      · refine hB [] 1000 _ _ _ _ _ ?_
        repeat' (first | refine And.intro ?_ ?_ | (intro hh; first | exact absurd hh q | exact absurd hh (by decide) | exact absurd rfl hh | (exfalso; omega) | skip) | refine Or.inl (uE cS ?_) | refine Or.inl (uE cT ?_) | refine Or.inl (uE cL ?_) | refine Or.inl (uB cG ?_ ?_) | fail)
        all_goals first | omega | (exact rfl) | (exact Or.inl rfl) | (exact Or.inr rfl) | (unfold aIR; omega)
    | succ n ih =>
      intro k k0 k1
      have p1 := hR.2.2 k k0 (by omega)
      have p2 := (h.1.2.1 k k0 (by omega)).2.2
      have p3 := ok.2.2.1 k k0 (by omega)
      have p4 := (hI.1.1.2.2.1 k k0 (by omega)).2
      have nx := ih (k + 1) (by omega) (by omega)
      refine hB [9] 1000 _ _ _ _ _ ?_
      repeat' (first | exact nx | refine And.intro ?_ ?_ | (intro hh; first | exact absurd hh (by decide) | exact absurd rfl hh | (exfalso; omega) | skip) | fail)
      all_goals first | omega | (exact rfl)
  have st := loop (a 0).toNat 0 (by omega) (by omega)
  refine hB [9] 1000 _ _ _ _ _ ?_
  repeat' (first | exact st | refine And.intro ?_ ?_ | fail)
  all_goals first | omega | (exact rfl)
end K7
