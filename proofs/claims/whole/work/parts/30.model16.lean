/-! THE MODEL'S METHODS: execute (printed by wip/whole/model16.py) -/
theorem RelM.of9 {z z' : aM} {A : aAb} (h : RelM z A) (e : ∀ j, 0 ≤ j → j ≤ 8 → z' (17, j, 0) = z (17, j, 0)) (e16 : ∀ k, k = 4 ∨ k = 6 ∨ k = 7 ∨ k = 8 ∨ k = 11 ∨ k = 13 → z' (16, 0, 0) k = z (16, 0, 0) k) : RelM z' A := by
  obtain ⟨⟨h1, h2, h3⟩, ⟨h4, h5⟩, ⟨h6, h7⟩, ⟨h8, h9⟩, ⟨h10, h11⟩, ⟨h12, h13⟩, h14, h15⟩ := h
  unfold RelM
  rw [e 0 (by decide) (by decide), e 1 (by decide) (by decide), e 2 (by decide) (by decide), e 3 (by decide) (by decide), e 4 (by decide) (by decide), e 5 (by decide) (by decide), e 6 (by decide) (by decide), e 7 (by decide) (by decide), e 8 (by decide) (by decide), e16 4 (by decide), e16 6 (by decide), e16 7 (by decide), e16 8 (by decide), e16 11 (by decide), e16 13 (by decide)]
  exact ⟨⟨h1, h2, h3⟩, ⟨h4, h5⟩, ⟨h6, h7⟩, ⟨h8, h9⟩, ⟨h10, h11⟩, ⟨h12, h13⟩, h14, h15⟩
theorem RelM.prog {z z' : aM} {A : aAb} (h : RelM z A) (hz : z' (16, 0, 0) 11 = 0) (e : ∀ j, 0 ≤ j → j ≤ 8 → z' (17, j, 0) = z (17, j, 0)) (e16 : ∀ k, k = 4 ∨ k = 6 ∨ k = 7 ∨ k = 8 ∨ k = 13 → z' (16, 0, 0) k = z (16, 0, 0) k) : RelM z' (A.1, A.2.1, A.2.2.1, A.2.2.2.1, ((0 : Int), wPt A), A.2.2.2.2.2) := by
  obtain ⟨⟨h1, h2, h3⟩, ⟨h4, h5⟩, ⟨h6, h7⟩, ⟨h8, h9⟩, ⟨h10, h11⟩, ⟨h12, h13⟩, h14, h15⟩ := h
  unfold RelM
  rw [e 0 (by decide) (by decide), e 1 (by decide) (by decide), e 2 (by decide) (by decide), e 3 (by decide) (by decide), e 4 (by decide) (by decide), e 5 (by decide) (by decide), e 6 (by decide) (by decide), e 7 (by decide) (by decide), e 8 (by decide) (by decide), e16 4 (by decide), e16 6 (by decide), e16 7 (by decide), e16 8 (by decide), hz, e16 13 (by decide)]
  exact ⟨⟨h1, h2, h3⟩, ⟨h4, h5⟩, ⟨h6, h7⟩, ⟨rfl, fun k k0 k1 => by have k2 : k < (0 : Int) := k1; omega⟩, ⟨h10, h11⟩, ⟨h12, h13⟩, h14, h15⟩
theorem RelM.errE {z : aM} {A : aAb} (h : RelM z A) (v : Int) : RelM (aWr z (16, 0, 0) 7 v) (A.1, A.2.1, A.2.2.1, (v, wF A), A.2.2.2.2) := by
  obtain ⟨⟨h1, h2, h3⟩, ⟨h4, h5⟩, ⟨h6, h7⟩, ⟨h8, h9⟩, ⟨h10, h11⟩, ⟨h12, h13⟩, h14, h15⟩ := h
  have e : ∀ q : aP, q ≠ (16, 0, 0) → aWr z (16, 0, 0) 7 v q = z q := fun q n => aWr_ne2 n
  have e16 : ∀ k, k ≠ 7 → aWr z (16, 0, 0) 7 v (16, 0, 0) k = z (16, 0, 0) k := fun k hk => by rw [aWr_pS, pS_at, ud_ne hk]
  have e7 : aWr z (16, 0, 0) 7 v (16, 0, 0) 7 = v := by rw [aWr_pS, pS_at, ud_at]
  unfold RelM
  rw [e (17, 0, 0) (by decide), e (17, 1, 0) (by decide), e (17, 2, 0) (by decide), e (17, 3, 0) (by decide), e (17, 4, 0) (by decide), e (17, 5, 0) (by decide), e (17, 6, 0) (by decide), e (17, 7, 0) (by decide), e (17, 8, 0) (by decide), e16 4 (by decide), e16 6 (by decide), e7, e16 8 (by decide), e16 11 (by decide), e16 13 (by decide)]
  exact ⟨⟨h1, h2, h3⟩, ⟨h4, h5⟩, ⟨rfl, h7⟩, ⟨h8, h9⟩, ⟨h10, h11⟩, ⟨h12, h13⟩, h14, h15⟩
theorem RelM.errF {z : aM} {A : aAb} (h : RelM z A) (v : Int) : RelM (aWr z (16, 0, 0) 8 v) (A.1, A.2.1, A.2.2.1, (wE A, v), A.2.2.2.2) := by
  obtain ⟨⟨h1, h2, h3⟩, ⟨h4, h5⟩, ⟨h6, h7⟩, ⟨h8, h9⟩, ⟨h10, h11⟩, ⟨h12, h13⟩, h14, h15⟩ := h
  have e : ∀ q : aP, q ≠ (16, 0, 0) → aWr z (16, 0, 0) 8 v q = z q := fun q n => aWr_ne2 n
  have e16 : ∀ k, k ≠ 8 → aWr z (16, 0, 0) 8 v (16, 0, 0) k = z (16, 0, 0) k := fun k hk => by rw [aWr_pS, pS_at, ud_ne hk]
  have e8 : aWr z (16, 0, 0) 8 v (16, 0, 0) 8 = v := by rw [aWr_pS, pS_at, ud_at]
  unfold RelM
  rw [e (17, 0, 0) (by decide), e (17, 1, 0) (by decide), e (17, 2, 0) (by decide), e (17, 3, 0) (by decide), e (17, 4, 0) (by decide), e (17, 5, 0) (by decide), e (17, 6, 0) (by decide), e (17, 7, 0) (by decide), e (17, 8, 0) (by decide), e16 4 (by decide), e16 6 (by decide), e16 7 (by decide), e8, e16 11 (by decide), e16 13 (by decide)]
  exact ⟨⟨h1, h2, h3⟩, ⟨h4, h5⟩, ⟨h6, rfl⟩, ⟨h8, h9⟩, ⟨h10, h11⟩, ⟨h12, h13⟩, h14, h15⟩
/-- the row of commands holds cm's first m -/
def cmF (f : Int → Int) (cm : Int → Int → Int) (m : Int) : Prop := ∀ j, 0 ≤ j → j < m → (f (6 * j) = cm j 0) ∧ ∀ i, 1 ≤ i → i ≤ nAr.getD (cm j 0).toNat 0 → f (6 * j + i) = cm j i
section M16
variable {l : Launch} {g : aG} {d : Nat} {z : aM} {A : aAb}
theorem cmF_s {f : Int → Int} {cm : Int → Int → Int} {m b : Int} {as : List Int} (h : cmF f cm m) (m0 : 0 ≤ m) (ha : (as.length : Int) = nAr.getD b.toNat 0) : cmF (udl (ud f (6 * m) b) (6 * m + 1) as) (cmI cm m b as) (m + 1) := by
  intro j j0 j1
  by_cases e : j = m
  · subst e
    have e0 : cmI cm j b as j = fun i => if i = 0 then b else as.getD (i - 1).toNat 0 := by unfold cmI; rw [if_pos rfl]
    rw [e0]
    refine ⟨?_, fun i i0 i1 => ?_⟩
    · rw [udl_lt _ _ _ _ (by omega), ud_at]
      rfl
    · have i2 : i ≤ nAr.getD b.toNat 0 := i1
      show _ = (if i = 0 then b else as.getD (i - 1).toNat 0)
      rw [if_neg (by omega)]
      have := udl_at as (ud f (6 * j) b) (6 * j + 1) (i - 1).toNat (by omega)
      rw [show 6 * j + 1 + ((i - 1).toNat : Int) = 6 * j + i by omega] at this
      exact this
  · have e0 : cmI cm m b as j = cm j := by unfold cmI; rw [if_neg e]
    rw [e0]
    have hb : ∀ as : List Int, (as.length : Int) = nAr.getD b.toNat 0 → True := fun _ _ => trivial
    have q := h j j0 (by omega)
    have bn : ∀ v : Int, nAr.getD v.toNat 0 ≤ 5 := fun v => by
      have key : ∀ k : Nat, k < 9 → nAr.getD k 0 ≤ 5 := by decide
      by_cases hv : v.toNat < 9
      · exact key _ hv
      · rw [List.getD_eq_getElem?_getD, List.getElem?_eq_none (by show nAr.length ≤ v.toNat; have : nAr.length = 9 := rfl; omega)]
        decide
    refine ⟨?_, fun i i0 i1 => ?_⟩
    · rw [udl_lt _ _ _ _ (by omega), ud_ne (by omega)]
      exact q.1
    · have := bn (cm j 0)
      rw [udl_lt _ _ _ _ (by omega), ud_ne (by omega)]
      exact q.2 i i0 i1
theorem cM_execute (hd : 7 ≤ d) (hR : RelM z A) (hI : InvW A) : mOp l g nX7_execute d [.inr (.inr (.inl (16, 0, 0)))] z (qExec A) := by
  obtain ⟨R, eR⟩ : ∃ R : aRes, R = qExec A := ⟨_, rfl⟩
  rw [← eR, mOp]
  have hv0 : vz (z (17, 0, 0)) := by rw [hR.1.1]; exact hI.1.1.1.2.2.2.2
  have hv1 := hR.2.2.2.2.2.1.1
  obtain ⟨r1, r2⟩ := hR.st hI
  have r9 := zSt_9 z
  have r17 : zSt z (17, 1, 0) = wM A := by unfold zSt; rw [pS_at]; exact hR.1.1
  refine aM1_of kX7_execute rfl (fun B hB => ?_)
  -- behind the beginning: the buffer is taken
  have h34 : ∀ z2 : aM, RelM z2 (A.1, A.2.1, A.2.2.1, A.2.2.2.1, ((0 : Int), wPt A), A.2.2.2.2.2) → fM z z2 → z2 (16, 0, 0) 9 = 0 → z2 (17, 1, 0) = wM A → z2 (16, 0, 0) 17 = 0 → z2 (16, 0, 0) 18 = 0 → z2 (16, 0, 0) 19 = wPn A → z2 (16, 0, 0) 20 = 0 → (∀ k, 0 ≤ k → k < wPn A → z2 (17, 5, 0) k = wPt A k) → B (none, 0, 0) z2 34 [some (.inr (.inr (.inl (16, 0, 0)))), some (.inl 1), none, none] [] := by
    intro z2 h2 hF f9 fa f17 f18 f19 f20 f5
    have bp := hI.2.2.2.1
    have hz2 : tOk z2 := ⟨by rw [f19]; exact bp.1, fun k k0 k1 => by rw [f19] at k1; rw [f5 k k0 k1]; exact bp.2 k k0 k1⟩
    have hk2 : wOk z2 := h2.2.2.2.2.2.2
    have hte : tEq (z2 (17, 5, 0)) (wPt A) (wPn A) := f5
    obtain ⟨r, er⟩ : ∃ r, r = prs (wPt A) (wPn A) 16 0 0 cm0 := ⟨_, rfl⟩
    have kr := prs_B (t := wPt A) (n := wPn A) 16 0 0 cm0 (by omega) bp.1.1 (by omega) (by decide) (fun j j0 j1 => by omega)
    rw [← er] at kr
    have er2 : prs (z2 (17, 5, 0)) (z2 (16, 0, 0) 19) 16 0 0 cm0 = r := by rw [f19, er]; exact prs_cg hte 16 0 0 cm0 (Int.le_refl 0) bp.1.1
    -- the ends
    have bad : ∀ (v m q : Int) (f : Int → Int) (L : List (Option aV)), r.1 = 1 → r.2.1 = q → 0 ≤ q → q ≤ 60 → L = [some (.inr (.inr (.inl (16, 0, 0)))), some (.inl 0), none, none] → B (none, 0, 0) (mem (aWr z2 (16, 0, 0) 17 m) f q 1) 34 L [] := by
      intro v m q f L q1 q2 q3 q4 eL
      subst eL
      have hRq : R = (1, -1, (A.1, A.2.1, A.2.2.1, (q, wF A), ((0 : Int), wPt A), A.2.2.2.2.2)) := by
        rw [eR]; unfold qExec; rw [← er]; dsimp only; rw [if_pos q1, q2]
      have e20 := mem_20 (aWr z2 (16, 0, 0) 17 m) f q 1
      have e18 := mem_18 (aWr z2 (16, 0, 0) 17 m) f q 1
      have hm : RelM (mem (aWr z2 (16, 0, 0) 17 m) f q 1) (A.1, A.2.1, A.2.2.1, A.2.2.2.1, ((0 : Int), wPt A), A.2.2.2.2.2) := h2.of9 (fun j j0 j1 => by rw [mem_q _ _ _ _ (by intro e; injection e with e _; cases e) (by intro e; injection e with _ e; injection e with e _; omega), aWr_ne2 (by intro e; injection e with e _; cases e)]) (fun k hk => by rw [mem_o _ _ _ _ (by omega) (by omega), aWr_pS, pS_at, ud_ne (by omega)])
      have hf : fM z (mem (aWr z2 (16, 0, 0) 17 m) f q 1) := by
        unfold mem
        exact ((hF.wr (Or.inl rfl)).pS (Or.inr rfl)).pS (Or.inl rfl)
      have hfin := (hm.errE q).thr 1
      have hfF : fM z (aWr (aWr (mem (aWr z2 (16, 0, 0) 17 m) f q 1) (16, 0, 0) 7 q) (16, 0, 0) 9 1) := (hf.wr (Or.inl rfl)).wr (Or.inl rfl)
      have fin : (some (.inl (-1)) : Option aV) = some (.inl R.2.1) ∧ (RelM (aWr (aWr (mem (aWr z2 (16, 0, 0) 17 m) f q 1) (16, 0, 0) 7 q) (16, 0, 0) 9 1) R.2.2 ∧ aWr (aWr (mem (aWr z2 (16, 0, 0) 17 m) f q 1) (16, 0, 0) 7 q) (16, 0, 0) 9 1 (16, 0, 0) 9 = R.1) ∧ fM z (aWr (aWr (mem (aWr z2 (16, 0, 0) 17 m) f q 1) (16, 0, 0) 7 q) (16, 0, 0) 9 1) := by
        rw [hRq]; exact ⟨rfl, ⟨hfin.1, hfin.2⟩, hfF⟩
      obtain ⟨y, ey⟩ : ∃ y, y = mem (aWr z2 (16, 0, 0) 17 m) f q 1 := ⟨_, rfl⟩
      rw [← ey] at fin e20 e18 ⊢
      have fin' : (some (.inl (-1)) : Option aV) = some (.inl R.2.1) ∧ (RelM (aWr (aWr y (16, 0, 0) 7 (y (16, 0, 0) 18)) (16, 0, 0) 9 1) R.2.2 ∧ aWr (aWr y (16, 0, 0) 7 (y (16, 0, 0) 18)) (16, 0, 0) 9 1 (16, 0, 0) 9 = R.1) ∧ fM z (aWr (aWr y (16, 0, 0) 7 (y (16, 0, 0) 18)) (16, 0, 0) 9 1) := by rw [e18]; exact fin
      refine hB [] 1000 _ _ _ _ _ ?_
      repeat' (first | exact ⟨rfl, fin'⟩ | refine And.intro ?_ ?_ | (intro hh; first | exact absurd hh (by decide) | exact absurd rfl hh | (exfalso; omega) | skip) | refine Or.inl (uE cM_throwing ?_) | fail)
      all_goals first | omega | (exact rfl)
    have good : ∀ (m q : Int) (f : Int → Int) (cm : Int → Int → Int) (L : List (Option aV)), r = (0, q, m, cm) → cmF f cm m → L = [some (.inr (.inr (.inl (16, 0, 0)))), some (.inl 0), none, none] → B (none, 0, 0) (mem (aWr z2 (16, 0, 0) 17 m) f q 0) 34 L [] := by
      intro m q f cm L q1 q2 eL
      subst eL
      rw [q1] at kr
      have m1 : 0 ≤ m ∧ m ≤ 16 := kr.2.2.1
      have q3 : 0 ≤ q ∧ q ≤ wPn A := kr.2.1
      have kc : ∀ j, 0 ≤ j → j < m → cmR (cm j) := kr.2.2.2 rfl
      obtain ⟨y, ey⟩ : ∃ y, y = mem (aWr z2 (16, 0, 0) 17 m) f q 0 := ⟨_, rfl⟩
      have e20 := mem_20 (aWr z2 (16, 0, 0) 17 m) f q 0
      have e17 : mem (aWr z2 (16, 0, 0) 17 m) f q 0 (16, 0, 0) 17 = m := by rw [mem_o _ _ _ _ (by decide) (by decide), aWr_pS, pS_at, ud_at]
      have e9 : mem (aWr z2 (16, 0, 0) 17 m) f q 0 (16, 0, 0) 9 = 0 := by rw [mem_o _ _ _ _ (by decide) (by decide), aWr_pS, pS_at, ud_ne (by decide), f9]
      have hm : RelM (mem (aWr z2 (16, 0, 0) 17 m) f q 0) (A.1, A.2.1, A.2.2.1, A.2.2.2.1, ((0 : Int), wPt A), A.2.2.2.2.2) := h2.of9 (fun j j0 j1 => by rw [mem_q _ _ _ _ (by intro e; injection e with e _; cases e) (by intro e; injection e with _ e; injection e with e _; omega), aWr_ne2 (by intro e; injection e with e _; cases e)]) (fun k hk => by rw [mem_o _ _ _ _ (by omega) (by omega), aWr_pS, pS_at, ud_ne (by omega)])
      have hf : fM z (mem (aWr z2 (16, 0, 0) 17 m) f q 0) := by
        unfold mem
        exact ((hF.wr (Or.inl rfl)).pS (Or.inr rfl)).pS (Or.inl rfl)
      have y1 : mem (aWr z2 (16, 0, 0) 17 m) f q 0 (17, 1, 0) = wM A := by rw [mem_q _ _ _ _ (by decide) (by decide), aWr_ne2 (by decide), fa]
      have y9 : mem (aWr z2 (16, 0, 0) 17 m) f q 0 (17, 9, 0) = f := mem_9 _ _ _ _
      rw [← ey] at e20 e17 e9 hm hf y1 y9 ⊢
      have hI1 : InvW (A.1, A.2.1, A.2.2.1, A.2.2.2.1, ((0 : Int), wPt A), A.2.2.2.2.2) := by
        obtain ⟨i1, i2, i3, i4, i5⟩ := hI
        exact ⟨i1, i2, i3, ⟨(by show (0 : Int) ≤ 0 ∧ (0 : Int) ≤ 60; decide), fun k k0 k1 => by have k2 : k < (0 : Int) := k1; omega⟩, i5⟩
      have cc := hI.2.1.1
      have y6 : y (16, 0, 0) 6 = wC A := hm.2.1.1
      obtain ⟨X, eX⟩ : ∃ X, X = exA cm m.toNat 0 (wM A) := ⟨_, rfl⟩
      have loop : ∀ (n : Nat) (j : Int) (a : Int → Int), j + (n : Int) = m → 0 ≤ j → Inv a → exA cm n j a = X → B (none, 0, 0) (pS y (17, 0, 0) a) 115 [some (.inr (.inr (.inl (16, 0, 0)))), some (.inl 0), some (.inl j), none] [] := by
        intro n
        induction n with
        | zero =>
          intro j a hj j0 ha e
          have e' : (0, j, a) = X := e
          have ej : j = m := by omega
          have hRq : R = (0, m, (a, A.2.1, (sCnt (wC A), hPush (wH A) (wC A) (wM A)), A.2.2.2.1, ((0 : Int), wPt A), A.2.2.2.2.2)) := by
            rw [eR]; unfold qExec; rw [← er, q1]; dsimp only; rw [← eX, ← e']; dsimp only; rw [if_neg (by decide), if_neg (by decide)]
          obtain ⟨p1, p2, p3⟩ := hm.pu (a' := a) hI1 y1
          have fin : (some (.inl m) : Option aV) = some (.inl R.2.1) ∧ (RelM (zPu (pS y (17, 0, 0) a)) R.2.2 ∧ zPu (pS y (17, 0, 0) a) (16, 0, 0) 9 = R.1) ∧ fM z (zPu (pS y (17, 0, 0) a)) := by
            rw [hRq]; exact ⟨rfl, ⟨p1, by rw [p2, e9]⟩, hf.tr p3⟩
          have s16 : pS y (17, 0, 0) a (16, 0, 0) = y (16, 0, 0) := pS_ne (by decide)
          have s17 : pS y (17, 0, 0) a (16, 0, 0) 17 = m := by rw [s16]; exact e17
          have ch := cM_changed0 (l := l) (g := g) (d := d - 1) (z := pS y (17, 0, 0) a) (v := m) (by rw [s16]; omega) (by rw [s16]; omega) (by rw [s16]; exact e9) rfl
          have ch' : aE1 l g nX7_changed (d - 1) [.inr (.inr (.inl (16, 0, 0))), .inl (pS y (17, 0, 0) a (16, 0, 0) 17)] (pS y (17, 0, 0) a) m (zPu (pS y (17, 0, 0) a)) := by rw [s17]; exact ch
          refine hB [] 1000 _ _ _ _ _ ?_
          repeat' (first | exact ⟨rfl, fin⟩ | refine And.intro ?_ ?_ | (intro hh; first | exact absurd hh (by decide) | exact absurd rfl hh | (exfalso; omega) | skip) | refine Or.inl (uE ch' ?_) | fail)
          all_goals first | omega | (exact rfl)
        | succ n ih =>
          intro j a hj j0 ha e
          have s0 : pS y (17, 0, 0) a (17, 0, 0) = a := pS_at _ _ _
          have s9 : pS y (17, 0, 0) a (17, 9, 0) = f := by rw [pS_ne (by decide)]; exact y9
          have s17 : pS y (17, 0, 0) a (16, 0, 0) 17 = m := by rw [pS_ne (by decide)]; exact e17
          have qj := q2 j j0 (by omega)
          have rj := kc j j0 (by omega)
          have ex : exC (fun i => f (6 * j + i)) a = exC (cm j) a := by
            refine exC_cg ?_ ?_ ?_
            · show f (6 * j + 0) = cm j 0
              rw [Int.add_zero]; exact qj.1
            · show 0 ≤ f (6 * j + 0) ∧ f (6 * j + 0) < 9
              rw [Int.add_zero, qj.1]; exact rj.1
            · intro i i0 i1
              have i2 : i ≤ nAr.getD (f (6 * j + 0)).toNat 0 := i1
              rw [Int.add_zero, qj.1] at i2
              exact qj.2 i i0 i2
          have hcr : cmR (fun i => f (6 * j + i)) := by
            refine ⟨?_, fun i i0 i1 => ?_⟩
            · show 0 ≤ f (6 * j + 0) ∧ f (6 * j + 0) < 9
              rw [Int.add_zero, qj.1]; exact rj.1
            · have i2 : i ≤ nAr.getD (f (6 * j + 0)).toNat 0 := i1
              rw [Int.add_zero, qj.1] at i2
              show 0 ≤ f (6 * j + i) ∧ f (6 * j + i) ≤ 999
              rw [qj.2 i i0 i2]
              exact rj.2 i i0 i2
          have dz := cM_does (l := l) (g := g) (d := d - 1) (z := pS y (17, 0, 0) a) (j := j) (c := fun i => f (6 * j + i)) (by omega) (by rw [s0]; exact ha) j0 (by omega) (fun i _ _ => by rw [s9]) hcr
          rw [s0, ex] at dz
          have tb := exC_t (c := cm j) (a := a)
          have hi := exC_I (c := cm j) ha
          have e' : (if (exC (cm j) a).1 = 0 then exA cm n (j + 1) (exC (cm j) a).2.2 else (1, j, a)) = X := e
          by_cases ht : (exC (cm j) a).1 = 0
          · rw [if_pos ht] at e'
            rw [ht, mR_0, pS_pS] at dz
            have nx := ih (j + 1) _ (by omega) (by omega) hi e'
            have t9 : pS y (17, 0, 0) (exC (cm j) a).2.2 (16, 0, 0) 9 = 0 := by rw [pS_ne (by decide)]; exact e9
            refine hB [115] 1000 _ _ _ _ _ ?_
            repeat' (first | exact nx | refine And.intro ?_ ?_ | (intro hh; first | exact absurd hh (by decide) | exact absurd rfl hh | (exfalso; omega) | skip) | refine Or.inl (uE0 dz ?_) | fail)
            all_goals first | omega | (exact rfl)
          · rw [if_neg ht] at e'
            rw [mR_t ht] at dz
            have hRq : R = (2, -1, (A.1, A.2.1, A.2.2.1, (wE A, j), ((0 : Int), wPt A), A.2.2.2.2.2)) := by
              rw [eR]; unfold qExec; rw [← er, q1]; dsimp only; rw [← eX, ← e', if_neg (by decide), if_pos rfl]
            obtain ⟨t, et⟩ : ∃ t, t = (exC (cm j) a).1 := ⟨_, rfl⟩
            rw [← et] at dz tb ht
            have t9 : aWr (pS y (17, 0, 0) a) (16, 0, 0) 9 t (16, 0, 0) 9 = t := by rw [aWr_pS, pS_at, ud_at]
            have t1 : aWr (pS y (17, 0, 0) a) (16, 0, 0) 9 t (17, 1, 0) = wM A := by rw [aWr_ne2 (by decide), pS_ne (by decide)]; exact y1
            have t0 : aWr (pS y (17, 0, 0) a) (16, 0, 0) 9 t (17, 0, 0) = a := by rw [aWr_ne2 (by decide)]; exact s0
            obtain ⟨y2, ey2⟩ : ∃ y2, y2 = aWr (pS y (17, 0, 0) a) (16, 0, 0) 9 t := ⟨_, rfl⟩
            rw [← ey2] at dz t9 t1 t0
            have hfin : RelM (pS y2 (17, 0, 0) (wM A)) (A.1, A.2.1, A.2.2.1, A.2.2.2.1, ((0 : Int), wPt A), A.2.2.2.2.2) := by
              have : pS y2 (17, 0, 0) (wM A) = aWr y (16, 0, 0) 9 t := by
                rw [ey2, aWr_pS, pS_ne (show ((16 : Nat), (0 : Int), (0 : Int)) ≠ (17, 0, 0) by decide), pS_sw (z := pS y (17, 0, 0) a) (p := (16, 0, 0)) (q := (17, 0, 0)) (by decide), pS_pS, aWr_pS]
                have e0 : wM A = y (17, 0, 0) := hm.1.1.symm
                rw [e0, pS_id]
              rw [this]
              exact (hm.thr t).1
            have fin2 := (hfin.errF j).thr 2
            have hf2 : fM z (aWr (aWr (pS y2 (17, 0, 0) (wM A)) (16, 0, 0) 8 j) (16, 0, 0) 9 2) := by
              rw [ey2]
              exact ((((hf.pS (Or.inr rfl)).wr (Or.inl rfl)).pS (Or.inr rfl)).wr (Or.inl rfl)).wr (Or.inl rfl)
            have fin : (some (.inl (-1)) : Option aV) = some (.inl R.2.1) ∧ (RelM (aWr (aWr (pS y2 (17, 0, 0) (wM A)) (16, 0, 0) 8 j) (16, 0, 0) 9 2) R.2.2 ∧ aWr (aWr (pS y2 (17, 0, 0) (wM A)) (16, 0, 0) 8 j) (16, 0, 0) 9 2 (16, 0, 0) 9 = R.1) ∧ fM z (aWr (aWr (pS y2 (17, 0, 0) (wM A)) (16, 0, 0) 8 j) (16, 0, 0) 9 2) := by
              rw [hRq]; exact ⟨rfl, ⟨fin2.1, fin2.2⟩, hf2⟩
            have lp : ∀ (n : Nat) (k : Int), (n : Int) = 163 - k → 0 ≤ k → B (none, 0, 0) (pS y2 (17, 0, 0) (cpy (y2 (17, 0, 0)) (y2 (17, 1, 0)) k)) 140 [some (.inr (.inr (.inl (16, 0, 0)))), some (.inl 0), some (.inl j), some (.inl k)] [] := by
              intro n
              induction n with
              | zero =>
                intro k k1 k0
                have hk : k = 163 := by omega
                subst hk
                rw [cpy_e (by rw [t0]; exact ha.1.2.2.2.2) (by rw [t1]; exact hI.1.1.1.2.2.2.2), t1]
                refine hB [] 1000 _ _ _ _ _ ?_
                repeat' (first | exact ⟨rfl, fin⟩ | refine And.intro ?_ ?_ | (intro hh; first | exact absurd hh (by decide) | exact absurd rfl hh | (exfalso; omega) | skip) | refine Or.inl (uE cM_throwing ?_) | fail)
                all_goals first | omega | (exact rfl)
              | succ n ih2 =>
                intro k k1 k0
                refine hB [140] 1000 _ _ _ _ _ ?_
                repeat' (first | refine And.intro ?_ ?_ | (intro hh; first | exact absurd hh (by decide) | exact absurd rfl hh | (exfalso; omega) | skip) | fail)
                all_goals first | omega | (exact rfl) | skip
                have e := ih2 (k + 1) (by omega) (by omega)
                show B (none, 0, 0) _ 140 _ _
                rw [aWr_pS, pS_pS, pS_at, pS_ne (by decide), cpy_s k0]
                exact e
            have e3 := lp 163 0 rfl (by omega)
            rw [cpy_0, pS_id] at e3
            refine hB [140] 1000 _ _ _ _ _ ?_
            repeat' (first | exact e3 | refine And.intro ?_ ?_ | (intro hh; first | exact absurd hh (by decide) | exact absurd rfl hh | (exfalso; omega) | skip) | refine Or.inl (uE0 dz ?_) | fail)
            all_goals first | omega | (exact rfl)
      have st := loop m.toNat 0 (wM A) (by omega) (by omega) hI.1.1 eX.symm
      have e0 : wM A = y (17, 0, 0) := hm.1.1.symm
      rw [e0, pS_id] at st
      refine hB [115] 1000 _ _ _ _ _ ?_
      repeat' (first | exact st | refine And.intro ?_ ?_ | (intro hh; first | exact absurd hh (by decide) | exact absurd rfl hh | (exfalso; omega) | skip) | fail)
      all_goals first | omega | (exact rfl)
    have loop : ∀ (n : Nat) (p m : Int) (f : Int → Int) (cm : Int → Int → Int), m + (n : Int) = 16 → 0 ≤ m → 4 * m ≤ p → p ≤ z2 (16, 0, 0) 19 → cmF f cm m → prs (z2 (17, 5, 0)) (z2 (16, 0, 0) 19) n p m cm = r → B (none, 0, 0) (mem (aWr z2 (16, 0, 0) 17 m) f p 0) 34 [some (.inr (.inr (.inl (16, 0, 0)))), some (.inl 1), none, none] [] := by
      intro n
      induction n with
      | zero =>
        intro p m f cm h1 h2 h3 h4 h5 e
        have := hz2.1
        omega
      | succ n ih =>
        intro p m f cm h1 h2 h3 h4 h5 e
        have n0 := hz2.1
        obtain ⟨zz, ezz⟩ : ∃ zz, zz = aWr z2 (16, 0, 0) 17 m := ⟨_, rfl⟩
        have k5 : zz (17, 5, 0) = z2 (17, 5, 0) := by rw [ezz]; exact aWr_ne2 (by decide)
        have k19 : zz (16, 0, 0) 19 = z2 (16, 0, 0) 19 := by rw [ezz, aWr_pS, pS_at, ud_ne (by decide)]
        have k17 : zz (16, 0, 0) 17 = m := by rw [ezz, aWr_pS, pS_at, ud_at]
        have kz : ∀ v, aWr zz (16, 0, 0) 17 v = aWr z2 (16, 0, 0) 17 v := fun v => by rw [ezz, aWr_pS, aWr_pS, aWr_pS, pS_pS, pS_at, ud_ud]
        have hzz : tOk zz := ⟨by rw [k19]; exact hz2.1, fun k k0 k1 => by rw [k19] at k1; rw [k5]; exact hz2.2 k k0 k1⟩
        have hkk : wOk zz := by rw [ezz]; exact ⟨fun k hk => by rw [aWr_ne2 (by decide)]; exact hk2.1 k hk, fun k hk => by rw [aWr_ne2 (by decide)]; exact hk2.2 k hk⟩
        obtain ⟨b, eb⟩ : ∃ b, b = bw (z2 (17, 5, 0)) (z2 (16, 0, 0) 19) p := ⟨_, rfl⟩
        obtain ⟨q, eq⟩ : ∃ q, q = p + lik (z2 (17, 5, 0)) (z2 (16, 0, 0) 19) p b := ⟨_, rfl⟩
        have bb := bw_B (z2 (17, 5, 0)) (z2 (16, 0, 0) 19) p
        rw [← eb] at bb
        have lb := lik_B (t := z2 (17, 5, 0)) (n := z2 (16, 0, 0) 19) (p := p) bb.1 bb.2
        have ln := lik_n (t := z2 (17, 5, 0)) (n := z2 (16, 0, 0) 19) (p := p) (b := b) h4
        have wb := wL_B bb.1 bb.2
        obtain ⟨u, eu⟩ : ∃ u, u = ags (z2 (17, 5, 0)) (z2 (16, 0, 0) 19) b q := ⟨_, rfl⟩
        have ab := xA_B (t := z2 (17, 5, 0)) (n := z2 (16, 0, 0) 19) (gks.getD b.toNat []) q 0 (by omega) (Or.inl rfl)
        have gn := gks_n bb.1 bb.2 (t := z2 (17, 5, 0)) (n := z2 (16, 0, 0) 19) (p := q) (w := 0)
        have ab' : (q ≤ u.2.1 ∧ u.2.1 ≤ z2 (16, 0, 0) 19) ∧ (u.2.2 = 0 ∨ u.2.2 = 1) := by rw [eu]; exact ⟨ab.1, ab.2.1⟩
        have gn' : (u.1.length : Int) = nAr.getD b.toNat 0 := by rw [eu]; exact gn
        have rc := cM_readCommand (l := l) (g := g) (d := d - 1) (z := zz) (f := f) (p := p) (m := m) (q := q) (by omega) hzz hkk (by omega) (by rw [k19]; exact h4) k17 h2 (by omega) (by rw [k5, k19, ← eb]; exact eq) rfl
        rw [k5, k19, ← eb, ← eu, kz] at rc
        unfold prs at e
        rw [← eb, ← eq, ← eu] at e
        rw [← ezz]
        by_cases hL : lik (z2 (17, 5, 0)) (z2 (16, 0, 0) 19) p b < wL b
        · rw [if_pos hL] at e rc
          have eb0 := bad 0 m q f _ (by rw [← e]) (by rw [← e]) (by omega) (by omega) rfl
          rw [← ezz] at eb0
          have g20 := mem_20 zz f q 1
          refine hB [34] 1000 _ _ _ _ _ ?_
          repeat' (first | exact eb0 | refine And.intro ?_ ?_ | (intro hh; first | exact absurd hh (by decide) | exact absurd rfl hh | (exfalso; omega) | skip) | refine Or.inl (uE0 rc ?_) | fail)
          all_goals first | omega | (exact rfl)
        · rw [if_neg hL] at e rc
          obtain ⟨F, eF⟩ : ∃ F, F = udl (ud f (6 * m) b) (6 * m + 1) u.1 := ⟨_, rfl⟩
          rw [← eF] at rc
          have g20 := mem_20 (aWr z2 (16, 0, 0) 17 (m + 1)) F u.2.1 u.2.2
          have g18 := mem_18 (aWr z2 (16, 0, 0) 17 (m + 1)) F u.2.1 u.2.2
          have g19 : mem (aWr z2 (16, 0, 0) 17 (m + 1)) F u.2.1 u.2.2 (16, 0, 0) 19 = z2 (16, 0, 0) 19 := by rw [mem_o _ _ _ _ (by decide) (by decide), aWr_pS, pS_at, ud_ne (by decide)]
          by_cases hw : u.2.2 = 1
          · rw [if_pos hw] at e
            have eb0 := bad 0 (m + 1) u.2.1 F _ (by rw [← e]) (by rw [← e]) (by omega) (by omega) rfl
            rw [hw] at rc g20 g18 g19
            refine hB [34] 1000 _ _ _ _ _ ?_
            repeat' (first | exact eb0 | refine And.intro ?_ ?_ | (intro hh; first | exact absurd hh (by decide) | exact absurd rfl hh | (exfalso; omega) | skip) | refine Or.inl (uE0 rc ?_) | fail)
            all_goals first | omega | (exact rfl)
          · have hw0 : u.2.2 = 0 := ab'.2.resolve_right hw
            rw [if_neg hw] at e
            rw [hw0] at rc g20 g18 g19
            have hc := cmF_s (b := b) (as := u.1) h5 h2 gn'
            rw [← eF] at hc
            by_cases hn : u.2.1 < z2 (16, 0, 0) 19
            · rw [if_pos hn] at e
              have k5' : aWr z2 (16, 0, 0) 17 (m + 1) (17, 5, 0) = z2 (17, 5, 0) := aWr_ne2 (by decide)
              have k19' : aWr z2 (16, 0, 0) 17 (m + 1) (16, 0, 0) 19 = z2 (16, 0, 0) 19 := by rw [aWr_pS, pS_at, ud_ne (by decide)]
              have hzz' : tOk (aWr z2 (16, 0, 0) 17 (m + 1)) := ⟨by rw [k19']; exact hz2.1, fun k k0 k1 => by rw [k19'] at k1; rw [k5']; exact hz2.2 k k0 k1⟩
              have xc := cM_expects (l := l) (g := g) (d := d - 1) (z := aWr z2 (16, 0, 0) 17 (m + 1)) (f := F) (p := u.2.1) (w := 0) (c := 59) (by omega) hzz' (by omega) (by rw [k19']; omega) (Or.inl rfl) (by decide) (by decide)
              rw [k5', k19'] at xc
              by_cases ht : z2 (17, 5, 0) u.2.1 = 59
              · rw [if_pos ht] at e
                rw [show xE (z2 (17, 5, 0)) (z2 (16, 0, 0) 19) 59 u.2.1 0 = (u.2.1 + 1, 0) from if_pos ⟨rfl, hn, ht⟩] at xc
                dsimp only at xc
                have nx := ih (u.2.1 + 1) (m + 1) F _ (by omega) (by omega) (by omega) (by omega) hc e
                have h20 := mem_20 (aWr z2 (16, 0, 0) 17 (m + 1)) F (u.2.1 + 1) 0
                refine hB [34] 1000 _ _ _ _ _ ?_
                repeat' (first | exact nx | refine And.intro ?_ ?_ | (intro hh; first | exact absurd hh (by decide) | exact absurd rfl hh | (exfalso; omega) | skip) | refine Or.inl (uE0 rc ?_) | refine Or.inl (uE0 xc ?_) | fail)
                all_goals first | omega | (exact rfl)
              · rw [if_neg ht] at e
                rw [show xE (z2 (17, 5, 0)) (z2 (16, 0, 0) 19) 59 u.2.1 0 = (u.2.1, 1) from if_neg (fun w => ht w.2.2)] at xc
                dsimp only at xc
                have eb0 := bad 0 (m + 1) u.2.1 F _ (by rw [← e]) (by rw [← e]) (by omega) (by omega) rfl
                have h20 := mem_20 (aWr z2 (16, 0, 0) 17 (m + 1)) F u.2.1 1
                refine hB [34] 1000 _ _ _ _ _ ?_
                repeat' (first | exact eb0 | refine And.intro ?_ ?_ | (intro hh; first | exact absurd hh (by decide) | exact absurd rfl hh | (exfalso; omega) | skip) | refine Or.inl (uE0 rc ?_) | refine Or.inl (uE0 xc ?_) | fail)
                all_goals first | omega | (exact rfl)
            · rw [if_neg hn] at e
              have eg := good (m + 1) u.2.1 F _ _ e.symm hc rfl
              refine hB [34] 1000 _ _ _ _ _ ?_
              repeat' (first | exact eg | refine And.intro ?_ ?_ | (intro hh; first | exact absurd hh (by decide) | exact absurd rfl hh | (exfalso; omega) | skip) | refine Or.inl (uE0 rc ?_) | fail)
              all_goals first | omega | (exact rfl)
    have st := loop 16 0 0 (z2 (17, 9, 0)) cm0 (by decide) (by decide) (by decide) (by have := hz2.1; omega) (fun j j0 j1 => by omega) er2
    have e17 : ∀ v, v = z2 (16, 0, 0) 17 → aWr z2 (16, 0, 0) 17 v = z2 := fun v e => by rw [e, aWr_pS, ud_id, pS_id]
    rw [e17 0 f17.symm] at st
    have ei := mem_id z2
    rw [f18, f20] at ei
    rw [ei] at st
    exact st
  -- the beginning
  obtain ⟨zs, ezs⟩ : ∃ zs, zs = zSt z := ⟨_, rfl⟩
  have hst : aE0 l g nX7_starts (d - 1) [.inr (.inr (.inl (16, 0, 0)))] z zs := by rw [ezs]; exact cM_starts hv0 hv1
  rw [← ezs] at r1 r2 r9 r17
  have r11 : zs (16, 0, 0) 11 = wPn A := r1.2.2.2.1.1
  obtain ⟨zf, ezf⟩ : ∃ zf, zf = aWr (aWr (aWr (aWr (aWr zs (16, 0, 0) 19 (zs (16, 0, 0) 11)) (16, 0, 0) 11 0) (16, 0, 0) 18 0) (16, 0, 0) 17 0) (16, 0, 0) 20 0 := ⟨_, rfl⟩
  have q17 : ∀ q : aP, q ≠ (16, 0, 0) → zf q = zs q := fun q n => by rw [ezf, aWr_ne2 n, aWr_ne2 n, aWr_ne2 n, aWr_ne2 n, aWr_ne2 n]
  have q16 : zf (16, 0, 0) = ud (ud (ud (ud (ud (zs (16, 0, 0)) 19 (wPn A)) 11 0) 18 0) 17 0) 20 0 := by
    rw [ezf, r11]
    simp only [aWr_pS, pS_at]
  have hfz : fM z zf := by
    rw [ezf]
    exact (((((r2.wr (Or.inl rfl)).wr (Or.inl rfl)).wr (Or.inl rfl)).wr (Or.inl rfl)).wr (Or.inl rfl))
  have go := h34 zf (r1.prog (by rw [q16]; simp (disch := decide) only [ud_ne, ud_at]) (fun j j0 j1 => q17 _ (by intro e; injection e with e _; cases e)) (fun k hk => by rw [q16]; simp (disch := omega) only [ud_ne])) hfz (by rw [q16]; simp (disch := decide) only [ud_ne]; exact r9) (by rw [q17 _ (by decide)]; exact r17) (by rw [q16]; simp (disch := decide) only [ud_ne, ud_at]) (by rw [q16]; simp (disch := decide) only [ud_ne, ud_at]) (by rw [q16]; simp (disch := decide) only [ud_ne, ud_at]) (by rw [q16]; simp (disch := decide) only [ud_ne, ud_at]) (fun k k0 k1 => by rw [q17 _ (by decide)]; exact r1.2.2.2.1.2 k k0 k1)
  rw [ezf] at go
  refine hB [34] 1000 _ _ _ _ _ ?_
  repeat' (first | exact go | refine And.intro ?_ ?_ | refine Or.inl (uE0 hst ?_) | fail)
  all_goals first | omega | (exact rfl) | (exact Or.inl rfl) | (exact Or.inr rfl)

end M16
