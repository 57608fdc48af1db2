/-! THE MODEL'S METHODS: queries that try, undo, save, numbers with a point (printed by wip/whole/model12.py) -/
theorem RelM.of {z z' : aM} {A : aAb} (h : RelM z A) (e : ∀ j, j ≠ 1 → j ≠ 2 → z' (17, j, 0) = z (17, j, 0)) (e16 : ∀ k, k = 4 ∨ k = 6 ∨ k = 7 ∨ k = 8 ∨ k = 11 ∨ k = 13 → z' (16, 0, 0) k = z (16, 0, 0) k) (v1 : vz (z' (17, 1, 0))) (v2 : vz (z' (17, 2, 0))) : RelM z' A := by
  obtain ⟨⟨h1, h2, h3⟩, ⟨h4, h5⟩, ⟨h6, h7⟩, ⟨h8, h9⟩, ⟨h10, h11⟩, ⟨h12, h13⟩, h14, h15⟩ := h
  unfold RelM
  rw [e 0 (by decide) (by decide), e 3 (by decide) (by decide), e 4 (by decide) (by decide), e 5 (by decide) (by decide), e 6 (by decide) (by decide), e 7 (by decide) (by decide), e 8 (by decide) (by decide), e16 4 (by decide), e16 6 (by decide), e16 7 (by decide), e16 8 (by decide), e16 11 (by decide), e16 13 (by decide)]
  exact ⟨⟨h1, h2, h3⟩, ⟨h4, h5⟩, ⟨h6, h7⟩, ⟨h8, h9⟩, ⟨h10, h11⟩, ⟨v1, v2⟩, h14, h15⟩
/-- the state is replaced -/
theorem RelM.set {z : aM} {A : aAb} (h : RelM z A) (f : Int → Int) : RelM (pS z (17, 0, 0) f) (f, A.2) := by
  obtain ⟨⟨h1, h2, h3⟩, ⟨h4, h5⟩, ⟨h6, h7⟩, ⟨h8, h9⟩, ⟨h10, h11⟩, ⟨h12, h13⟩, h14, h15⟩ := h
  have e : ∀ q : aP, q ≠ (17, 0, 0) → pS z (17, 0, 0) f q = z q := fun q n => pS_ne n
  unfold RelM
  rw [pS_at, e (16, 0, 0) (by decide), e (17, 1, 0) (by decide), e (17, 2, 0) (by decide), e (17, 3, 0) (by decide), e (17, 4, 0) (by decide), e (17, 5, 0) (by decide), e (17, 6, 0) (by decide), e (17, 7, 0) (by decide), e (17, 8, 0) (by decide)]
  exact ⟨⟨rfl, h2, h3⟩, ⟨h4, h5⟩, ⟨h6, h7⟩, ⟨h8, h9⟩, ⟨h10, h11⟩, ⟨h12, h13⟩, h14, h15⟩
theorem RelM.cnt {z : aM} {A : aAb} (h : RelM z A) {c : Int} (hc : c ≤ wC A) : RelM (aWr z (16, 0, 0) 6 c) (A.1, A.2.1, (c, wH A), A.2.2.2) := by
  obtain ⟨⟨h1, h2, h3⟩, ⟨h4, h5⟩, ⟨h6, h7⟩, ⟨h8, h9⟩, ⟨h10, h11⟩, ⟨h12, h13⟩, h14, h15⟩ := h
  have e : ∀ q : aP, q ≠ (16, 0, 0) → aWr z (16, 0, 0) 6 c q = z q := fun q n => aWr_ne2 n
  have e16 : ∀ k, k ≠ 6 → aWr z (16, 0, 0) 6 c (16, 0, 0) k = z (16, 0, 0) k := fun k hk => by rw [aWr_pS, pS_at, ud_ne hk]
  have e6 : aWr z (16, 0, 0) 6 c (16, 0, 0) 6 = c := by rw [aWr_pS, pS_at, ud_at]
  unfold RelM
  rw [e (17, 0, 0) (by decide), e (17, 1, 0) (by decide), e (17, 2, 0) (by decide), e (17, 3, 0) (by decide), e (17, 4, 0) (by decide), e (17, 5, 0) (by decide), e (17, 6, 0) (by decide), e (17, 7, 0) (by decide), e (17, 8, 0) (by decide), e16 4 (by decide), e6, e16 7 (by decide), e16 8 (by decide), e16 11 (by decide), e16 13 (by decide)]
  exact ⟨⟨h1, h2, h3⟩, ⟨rfl, fun i i0 i1 => h5 i i0 (Int.lt_of_lt_of_le i1 hc)⟩, ⟨h6, h7⟩, ⟨h8, h9⟩, ⟨h10, h11⟩, ⟨h12, h13⟩, h14, h15⟩
theorem cpy_f {t s f : Int → Int} (h1 : vz t) (h2 : vz f) (e : ∀ k, 0 ≤ k → k < 163 → s k = f k) : cpy t s 163 = f := by
  funext j
  unfold cpy
  by_cases h : 0 ≤ j ∧ j < 163
  · rw [if_pos h]; exact e j h.1 h.2
  · rw [if_neg h, h1 j (by omega), h2 j (by omega)]
def qUndo (A : aAb) : aRes := if wC A = 0 then (1, -1, A) else (0, wC A - 1, (wH A (wC A - 1), A.2.1, (wC A - 1, wH A), A.2.2.2))
def qSave (A : aAb) : aRes := (0, wM A 2, (wM A, (1, wM A), A.2.2))
def qRestore (A : aAb) : aRes := if wSv A = 0 then (1, -1, A) else (0, wS A 2, (wS A, A.2.1, (0, wH A), A.2.2.2))
def qChar (k : Int) (A : aAb) : aRes := if 0 ≤ k ∧ k < wLn A then (0, wLt A k, A) else (1, 65535, A)
def qType (c : Int) (A : aAb) : aRes := if wPn A = 60 then (1, -1, A) else (0, wPn A + 1, (A.1, A.2.1, A.2.2.1, A.2.2.2.1, (wPn A + 1, ud (wPt A) (wPn A) c), A.2.2.2.2.2))
theorem qUndo_I {A : aAb} (h : InvW A) : InvW (qUndo A).2.2 := by
  unfold qUndo
  split
  · exact h
  · obtain ⟨⟨h1, h2⟩, ⟨h3, h4⟩, h5⟩ := h
    exact ⟨⟨h4 _ (by omega) (by omega), h2⟩, ⟨by show 0 ≤ wC A - 1 ∧ wC A - 1 ≤ 8; omega, fun i i0 i1 => h4 i i0 (by have i2 : i < wC A - 1 := i1; omega)⟩, h5⟩
theorem qSave_I {A : aAb} (h : InvW A) : InvW (qSave A).2.2 := by
  obtain ⟨⟨h1, h2⟩, h3⟩ := h
  exact ⟨⟨h1, h1.1.2.2.2.2, Or.inr rfl, fun _ => h1⟩, h3⟩
theorem qRestore_I {A : aAb} (h : InvW A) : InvW (qRestore A).2.2 := by
  unfold qRestore
  split
  · exact h
  · next hn =>
    obtain ⟨⟨h1, h2, h6, h7⟩, ⟨h3, h4⟩, h5⟩ := h
    exact ⟨⟨h7 (h6.resolve_left hn), h2, h6, h7⟩, ⟨by show 0 ≤ (0 : Int) ∧ (0 : Int) ≤ 8; decide, fun i i0 i1 => by have i2 : i < 0 := i1; omega⟩, h5⟩
theorem qType_I {A : aAb} {c : Int} (h : InvW A) (c0 : 0 ≤ c) (c1 : c < 65536) : InvW (qType c A).2.2 := by
  unfold qType
  split
  · exact h
  · obtain ⟨h1, h2, h3, ⟨h4, h5⟩, h6⟩ := h
    refine ⟨h1, h2, h3, ⟨by show 0 ≤ wPn A + 1 ∧ wPn A + 1 ≤ 60; omega, fun k k0 k1 => ?_⟩, h6⟩
    have k2 : k < wPn A + 1 := k1
    show 0 ≤ ud (wPt A) (wPn A) c k ∧ ud (wPt A) (wPn A) c k < 65536
    by_cases e : k = wPn A
    · rw [e, ud_at]; exact ⟨c0, c1⟩
    · rw [ud_ne e]; exact h5 k k0 (by omega)
section M12
variable {l : Launch} {g : aG} {d : Nat} {z : aM} {A : aAb}
theorem cM_asks {x y : Int} (hd : 2 ≤ d) (hx : aIR x) (hy : aIR y) (h : Inv0 (z (17, 0, 0))) : aM1 l g nX7_asks d [.inr (.inr (.inl (16, 0, 0))), .inl x, .inl y] z (fun r z' => (r = some (.inl 1) ∧ (sPt x y ∧ z (17, 0, 0) 7 ≠ -1) ∧ z' = aWr z (16, 0, 0) 9 0) ∨ (r = some (.inl 0) ∧ ((¬ sPt x y ∧ z' = aWr (aWr z (16, 0, 0) 9 0) (16, 0, 0) 9 1) ∨ ((sPt x y ∧ z (17, 0, 0) 7 = -1) ∧ z' = aWr (aWr z (16, 0, 0) 9 0) (16, 0, 0) 9 2)))) := by
  unfold aIR at *
  have cc := h.1.1
  have ga : -1 ≤ z (17, 0, 0) 7 ∧ z (17, 0, 0) 7 < 8 := by rcases h.2.1 with q | q <;> omega
  have ey : aWr z (16, 0, 0) 9 0 (17, 0, 0) = z (17, 0, 0) := aWr_ne2 (by decide)
  have ey7 : aWr z (16, 0, 0) 9 0 (17, 0, 0) 7 = z (17, 0, 0) 7 := by rw [ey]
  have e9 : ∀ (w : aM) (t : Int), aWr w (16, 0, 0) 9 t (16, 0, 0) 9 = t := fun w t => by rw [aWr_pS, pS_at, ud_at]
  have a1 := e9 z 0
  have a2 := e9 (aWr z (16, 0, 0) 9 0) 1
  have a3 := e9 (aWr z (16, 0, 0) 9 0) 2
  refine aM1_of kX7_asks rfl (fun B hB => ?_)
  refine hB [] 1000 _ _ _ _ _ ?_
  repeat' (first | refine And.intro ?_ ?_ | (intro hh; first | exact absurd hh (by decide) | exact absurd rfl hh | (exfalso; omega) | skip) | refine Or.inl (uE cM_throwing ?_) | refine Or.inl (uB (cM_isPoint ?_ ?_ ?_) ?_ ?_) | fail)
  all_goals first | omega | (exact rfl) | (exact Or.inl rfl) | (exact Or.inr rfl) | (exact Or.inl ⟨rfl, ⟨by assumption, by omega⟩, rfl⟩) | (exact Or.inr ⟨rfl, Or.inl ⟨by assumption, rfl⟩⟩) | (exact Or.inr ⟨rfl, Or.inr ⟨⟨by assumption, by omega⟩, rfl⟩⟩) | fail "left"

theorem sPc_B (bits : Int) : ∀ (n : Nat) (k acc : Int), 0 ≤ k → k + (n : Int) ≤ 6 → 0 ≤ bits → bits < 64 → 0 ≤ acc → acc ≤ sPc bits n k acc ∧ sPc bits n k acc ≤ acc + (n : Int)
  | 0, k, acc, _, _, _, _, _ => ⟨Int.le_refl _, by show acc ≤ acc + ((0 : Nat) : Int); omega⟩
  | n + 1, k, acc, k0, k1, b0, b1, a0 => by
    have hb : 0 ≤ (iZ (bits / 2 ^ k.toNat) &&& iZ 1).toInt ∧ (iZ (bits / 2 ^ k.toNat) &&& iZ 1).toInt ≤ 1 := by
      have key : ∀ b : Nat, b < 64 → ∀ k : Nat, k < 6 → 0 ≤ (iZ ((b : Int) / 2 ^ k) &&& iZ 1).toInt ∧ (iZ ((b : Int) / 2 ^ k) &&& iZ 1).toInt ≤ 1 := by decide +kernel
      have := key bits.toNat (by omega) k.toNat (by omega)
      rw [Int.toNat_of_nonneg b0] at this
      exact this
    have := sPc_B bits n (k + 1) (acc + (iZ (bits / 2 ^ k.toNat) &&& iZ 1).toInt) (by omega) (by omega) b0 b1 (by omega)
    show acc ≤ sPc bits n (k + 1) (acc + (iZ (bits / 2 ^ k.toNat) &&& iZ 1).toInt) ∧ sPc bits n (k + 1) (acc + (iZ (bits / 2 ^ k.toNat) &&& iZ 1).toInt) ≤ acc + ((n + 1 : Nat) : Int)
    omega

theorem cM_gatesPassedTo {x y : Int} (hx : aIR x) (hy : aIR y) (hd : 5 ≤ d) (hR : RelM z A) (hI : InvW A) : mOp l g nX7_gatesPassedTo d [.inr (.inr (.inl (16, 0, 0))), .inl x, .inl y] z (qPassedTo x y A) := by
  obtain ⟨R, eR⟩ : ∃ R : aRes, R = qPassedTo x y A := ⟨_, rfl⟩
  rw [← eR, mOp]
  have hJz : Inv (z (17, 0, 0)) := by rw [hR.1.1]; exact hI.1.1
  have em0 := hR.1.1
  have g1 : ¬ sPt x y → R = (1, (-1), A) := fun h => by rw [eR]; exact if_neg h
  have g2 : sPt x y → z (17, 0, 0) 7 = -1 → R = (2, (-1), A) := fun h h' => by rw [eR]; refine (if_pos h).trans (if_pos ?_); show wM A 7 = -1; rw [← em0]; exact h'
  have f1 : ¬ sPt x y → (some (.inl ((-1))) : Option aV) = some (.inl R.2.1) ∧ (RelM (aWr (aWr z (16, 0, 0) 9 0) (16, 0, 0) 9 1) R.2.2 ∧ aWr (aWr z (16, 0, 0) 9 0) (16, 0, 0) 9 1 (16, 0, 0) 9 = R.1) ∧ fM z (aWr (aWr z (16, 0, 0) 9 0) (16, 0, 0) 9 1) := fun h => by
    rw [g1 h]; exact ⟨rfl, (hR.thr 0).1.thr 1, ((fM.rf z).wr (Or.inl rfl)).wr (Or.inl rfl)⟩
  have f2 : sPt x y → z (17, 0, 0) 7 = -1 → (some (.inl ((-1))) : Option aV) = some (.inl R.2.1) ∧ (RelM (aWr (aWr z (16, 0, 0) 9 0) (16, 0, 0) 9 2) R.2.2 ∧ aWr (aWr z (16, 0, 0) 9 0) (16, 0, 0) 9 2 (16, 0, 0) 9 = R.1) ∧ fM z (aWr (aWr z (16, 0, 0) 9 0) (16, 0, 0) 9 2) := fun h h' => by
    rw [g2 h h']; exact ⟨rfl, (hR.thr 0).1.thr 2, ((fM.rf z).wr (Or.inl rfl)).wr (Or.inl rfl)⟩
  refine aM1_of kX7_gatesPassedTo rfl (fun B hB => ?_)
  have h5 : ∀ z1 : aM, RelM z1 A → z1 (16, 0, 0) 9 = 0 → fM z z1 → sPt x y → z1 (17, 0, 0) 7 ≠ -1 → B (none, 0, 0) z1 11 [some (.inr (.inr (.inl (16, 0, 0)))), some (.inl x), some (.inl y), none, none, none] [] := by
    intro z1 h1 h9 hF hp n7
    clear hR hJz em0 g1 g2 f1 f2
    obtain ⟨m, T⟩ := A
    have em : z1 (17, 0, 0) = m := h1.1.1
    subst em
    have hJ : Inv (z1 (17, 0, 0)) := hI.1.1
    have cc := hJ.1.1.1
    have fin : ∀ v' : Int, v' = (sPc (sGT (z1 (17, 0, 0)) x y) (z1 (17, 0, 0) 1).toNat 0 0) → (some (.inl v') : Option aV) = some (.inl R.2.1) ∧ (RelM z1 R.2.2 ∧ z1 (16, 0, 0) 9 = R.1) ∧ fM z z1 := fun v' e9 => by
      have hRq : R = (0, (sPc (sGT (z1 (17, 0, 0)) x y) (z1 (17, 0, 0) 1).toNat 0 0), (z1 (17, 0, 0), T)) := by
        rw [eR]; exact (if_pos hp).trans (if_neg n7)
      rw [hRq, e9]
      exact ⟨rfl, ⟨h1, h9⟩, hF⟩
    have gb := sGa_B (a := z1 (17, 0, 0)) (x := x) (y := y) (z1 (17, 0, 0) 1).toNat 0 0 (by omega) (by omega) (by omega) (by omega)
    obtain ⟨bits, hbits⟩ : ∃ bits, bits = sGT (z1 (17, 0, 0)) x y := ⟨_, rfl⟩
    rw [← hbits] at fin
    have b0 : 0 ≤ bits ∧ bits < 64 := by rw [hbits]; exact gb
    have loop : ∀ (n : Nat) (k acc : Int), 0 ≤ k → k + (n : Int) = z1 (17, 0, 0) 1 → sPc bits n k acc = sPc bits (z1 (17, 0, 0) 1).toNat 0 0 → B (none, 0, 0) z1 24 [some (.inr (.inr (.inl (16, 0, 0)))), some (.inl x), some (.inl y), some (.inl bits), some (.inl acc), some (.inl k)] [] := by
      intro n
      induction n with
      | zero =>
        intro k acc k0 k1 e
        refine hB [] 1000 _ _ _ _ _ ?_
        repeat' (first | (refine ⟨rfl, fin _ ?_⟩) | refine And.intro ?_ ?_ | (intro hh; first | exact absurd hh (by decide) | exact absurd rfl hh | (exfalso; omega) | skip) | fail)
        all_goals first | omega | (exact rfl) | (exact e)
      | succ n ih =>
        intro k acc k0 k1 e
        refine hB [24] 1000 _ _ _ _ _ ?_
        repeat' (first | refine And.intro ?_ ?_ | (intro hh; first | exact absurd hh (by decide) | exact absurd rfl hh | (exfalso; omega) | skip) | fail)
        all_goals first | omega | (exact rfl) | skip
        exact ih _ _ (by omega) (by omega) e
    refine hB [24] 1000 _ _ _ _ _ ?_
    repeat' (first | refine And.intro ?_ ?_ | (intro hh; first | exact absurd hh (by decide) | exact absurd rfl hh | (exfalso; omega) | skip) | refine Or.inl (uE (cM_gatesTo (by omega) hJ.1 n7 hp) ?_) | fail)
    all_goals first | omega | (exact rfl) | skip
    rw [← hbits]
    exact loop (z1 (17, 0, 0) 1).toNat 0 0 (by omega) (by omega) rfl
  refine hB [11] 1000 _ _ _ _ _ ?_
  repeat' (first | refine And.intro ?_ ?_ | refine Or.inl (uA (cM_asks (by omega) hx hy hJz.1) ?_) | fail)
  all_goals first | (exact rfl) | omega | skip
  rintro r z' (⟨rfl, ⟨hp, n7⟩, rfl⟩ | ⟨rfl, ⟨hp, rfl⟩ | ⟨⟨hp, n7⟩, rfl⟩⟩)
  · have n7' : aWr z (16, 0, 0) 9 0 (17, 0, 0) 7 ≠ -1 := by rw [aWr_ne2 (by decide)]; exact n7
    repeat' (first | refine And.intro ?_ ?_ | (intro hh; first | exact absurd hh (by decide) | exact absurd rfl hh | (exfalso; omega) | skip) | fail)
    all_goals first | (exact rfl) | omega | (exact Or.inl rfl) | exact h5 _ (hR.thr 0).1 (hR.thr 0).2 ((fM.rf z).wr (Or.inl rfl)) hp n7'
  · repeat' (first | (exact ⟨rfl, f1 hp⟩) | refine And.intro ?_ ?_ | (intro hh; first | exact absurd hh (by decide) | exact absurd rfl hh | (exfalso; omega) | skip) | fail)
    all_goals first | (exact rfl) | omega | (exact Or.inl rfl)
  · repeat' (first | (exact ⟨rfl, f2 hp n7⟩) | refine And.intro ?_ ?_ | (intro hh; first | exact absurd hh (by decide) | exact absurd rfl hh | (exfalso; omega) | skip) | fail)
    all_goals first | (exact rfl) | omega | (exact Or.inl rfl)

theorem cM_isOffLine {x y : Int} (hx : aIR x) (hy : aIR y) (hd : 3 ≤ d) (hR : RelM z A) (hI : InvW A) : mOp l g nX7_isOffLine d [.inr (.inr (.inl (16, 0, 0))), .inl x, .inl y] z (qOff x y A) := by
  obtain ⟨R, eR⟩ : ∃ R : aRes, R = qOff x y A := ⟨_, rfl⟩
  rw [← eR, mOp]
  have hJz : Inv (z (17, 0, 0)) := by rw [hR.1.1]; exact hI.1.1
  have em0 := hR.1.1
  have g1 : ¬ sPt x y → R = (1, 0, A) := fun h => by rw [eR]; exact if_neg h
  have g2 : sPt x y → z (17, 0, 0) 7 = -1 → R = (2, 0, A) := fun h h' => by rw [eR]; refine (if_pos h).trans (if_pos ?_); show wM A 7 = -1; rw [← em0]; exact h'
  have f1 : ¬ sPt x y → (some (.inl (0)) : Option aV) = some (.inl R.2.1) ∧ (RelM (aWr (aWr z (16, 0, 0) 9 0) (16, 0, 0) 9 1) R.2.2 ∧ aWr (aWr z (16, 0, 0) 9 0) (16, 0, 0) 9 1 (16, 0, 0) 9 = R.1) ∧ fM z (aWr (aWr z (16, 0, 0) 9 0) (16, 0, 0) 9 1) := fun h => by
    rw [g1 h]; exact ⟨rfl, (hR.thr 0).1.thr 1, ((fM.rf z).wr (Or.inl rfl)).wr (Or.inl rfl)⟩
  have f2 : sPt x y → z (17, 0, 0) 7 = -1 → (some (.inl (0)) : Option aV) = some (.inl R.2.1) ∧ (RelM (aWr (aWr z (16, 0, 0) 9 0) (16, 0, 0) 9 2) R.2.2 ∧ aWr (aWr z (16, 0, 0) 9 0) (16, 0, 0) 9 2 (16, 0, 0) 9 = R.1) ∧ fM z (aWr (aWr z (16, 0, 0) 9 0) (16, 0, 0) 9 2) := fun h h' => by
    rw [g2 h h']; exact ⟨rfl, (hR.thr 0).1.thr 2, ((fM.rf z).wr (Or.inl rfl)).wr (Or.inl rfl)⟩
  refine aM1_of kX7_isOffLine rfl (fun B hB => ?_)
  have h5 : ∀ z1 : aM, RelM z1 A → z1 (16, 0, 0) 9 = 0 → fM z z1 → sPt x y → z1 (17, 0, 0) 7 ≠ -1 → B (none, 0, 0) z1 9 [some (.inr (.inr (.inl (16, 0, 0)))), some (.inl x), some (.inl y)] [] := by
    intro z1 h1 h9 hF hp n7
    clear hR hJz em0 g1 g2 f1 f2
    obtain ⟨m, T⟩ := A
    have em : z1 (17, 0, 0) = m := h1.1.1
    subst em
    have hJ : Inv (z1 (17, 0, 0)) := hI.1.1
    have cc := hJ.1.1.1
    have fin : ∀ v' : Int, v' = (sB (sFar (z1 (17, 0, 0)) x y)) → (some (.inl v') : Option aV) = some (.inl R.2.1) ∧ (RelM z1 R.2.2 ∧ z1 (16, 0, 0) 9 = R.1) ∧ fM z z1 := fun v' e9 => by
      have hRq : R = (0, (sB (sFar (z1 (17, 0, 0)) x y)), (z1 (17, 0, 0), T)) := by
        rw [eR]; exact (if_pos hp).trans (if_neg n7)
      rw [hRq, e9]
      exact ⟨rfl, ⟨h1, h9⟩, hF⟩
    refine hB [] 1000 _ _ _ _ _ ?_
    repeat' (first | (refine ⟨rfl, fin _ ?_⟩) | refine And.intro ?_ ?_ | (intro hh; first | exact absurd hh (by decide) | exact absurd rfl hh | (exfalso; omega) | skip) | refine Or.inl (uB (cM_isFar ?_ hJ.1 n7 hp) ?_ ?_) | fail)
    all_goals first | omega | (exact rfl) | (exact Or.inl rfl) | (exact Or.inr rfl) | (exact (sB_1 (by assumption)).symm) | (exact (sB_0 (by assumption)).symm) | fail "left"
  refine hB [9] 1000 _ _ _ _ _ ?_
  repeat' (first | refine And.intro ?_ ?_ | refine Or.inl (uA (cM_asks (by omega) hx hy hJz.1) ?_) | fail)
  all_goals first | (exact rfl) | omega | skip
  rintro r z' (⟨rfl, ⟨hp, n7⟩, rfl⟩ | ⟨rfl, ⟨hp, rfl⟩ | ⟨⟨hp, n7⟩, rfl⟩⟩)
  · have n7' : aWr z (16, 0, 0) 9 0 (17, 0, 0) 7 ≠ -1 := by rw [aWr_ne2 (by decide)]; exact n7
    repeat' (first | refine And.intro ?_ ?_ | (intro hh; first | exact absurd hh (by decide) | exact absurd rfl hh | (exfalso; omega) | skip) | fail)
    all_goals first | (exact rfl) | omega | (exact Or.inl rfl) | exact h5 _ (hR.thr 0).1 (hR.thr 0).2 ((fM.rf z).wr (Or.inl rfl)) hp n7'
  · repeat' (first | (exact ⟨rfl, f1 hp⟩) | refine And.intro ?_ ?_ | (intro hh; first | exact absurd hh (by decide) | exact absurd rfl hh | (exfalso; omega) | skip) | fail)
    all_goals first | (exact rfl) | omega | (exact Or.inl rfl)
  · repeat' (first | (exact ⟨rfl, f2 hp n7⟩) | refine And.intro ?_ ?_ | (intro hh; first | exact absurd hh (by decide) | exact absurd rfl hh | (exfalso; omega) | skip) | fail)
    all_goals first | (exact rfl) | omega | (exact Or.inl rfl)

theorem cM_lossOfStep {x y s : Int} (hx : aIR x) (hy : aIR y) (hs : aIR s) (hd : 6 ≤ d) (hR : RelM z A) (hI : InvW A) : mOp l g nX7_lossOfStep d [.inr (.inr (.inl (16, 0, 0))), .inl x, .inl y, .inl s] z (qLoss x y s A) := by
  obtain ⟨R, eR⟩ : ∃ R : aRes, R = qLoss x y s A := ⟨_, rfl⟩
  rw [← eR, mOp]
  refine aM1_of kX7_lossOfStep rfl (fun B hB => ?_)
  have h5 : ∀ z1 : aM, RelM z1 A → z1 (16, 0, 0) 9 = 0 → fM z z1 → B (none, 0, 0) z1 5 [some (.inr (.inr (.inl (16, 0, 0)))), some (.inl x), some (.inl y), some (.inl s), none, none] [] := by
    intro z1 h1 h9 hF
    clear hR
    obtain ⟨m, T⟩ := A
    have em : z1 (17, 0, 0) = m := h1.1.1
    subst em
    have hJ : Inv (z1 (17, 0, 0)) := hI.1.1
    have cw := cWalk_I (x := x) (y := y) (s := s) hJ
    -- behind the step: z2 has the step's state and what was thrown
    have l48 : ∀ (z2 : aM) (v : Int), vz (z2 (17, 0, 0)) → (∀ j, j ≠ 0 → j ≠ 2 → z2 (17, j, 0) = z1 (17, j, 0)) → z2 (17, 2, 0) = z1 (17, 0, 0) → (∀ k, k ≠ 9 → z2 (16, 0, 0) k = z1 (16, 0, 0) k) → z2 (16, 0, 0) 9 = R.1 → v = R.2.1 → fM z z2 → B (none, 0, 0) z2 48 [some (.inr (.inr (.inl (16, 0, 0)))), some (.inl x), some (.inl y), some (.inl s), some (.inl v), some (.inl 0)] [] := by
      intro z2 v q1 q2 q3 q4 q5 q6 q7
      have fin : RelM (pS z2 (17, 0, 0) (z1 (17, 0, 0))) R.2.2 := by
        rw [eR]
        refine h1.of (fun j j1 j2 => ?_) (fun k hk => ?_) ?_ ?_
        · by_cases j0 : j = 0
          · rw [j0, pS_at]
          · rw [pS_ne (by intro e; injection e with _ e; injection e with e _; exact j0 e)]
            exact q2 j j0 j2
        · rw [pS_ne (by decide)]
          exact q4 k (by omega)
        · rw [pS_ne (by decide), q2 1 (by decide) (by decide)]
          exact h1.2.2.2.2.2.1.1
        · rw [pS_ne (by decide), q3]
          exact hJ.1.2.2.2.2
      have l2 : ∀ (n : Nat) (k : Int), (n : Int) = 163 - k → 0 ≤ k → B (none, 0, 0) (pS z2 (17, 0, 0) (cpy (z2 (17, 0, 0)) (z2 (17, 2, 0)) k)) 48 [some (.inr (.inr (.inl (16, 0, 0)))), some (.inl x), some (.inl y), some (.inl s), some (.inl v), some (.inl k)] [] := by
        intro n
        induction n with
        | zero =>
          intro k k1 k0
          have hk : k = 163 := by omega
          subst hk
          rw [cpy_e q1 (by rw [q3]; exact hJ.1.2.2.2.2), q3]
          have finF : fM z (pS z2 (17, 0, 0) (z1 (17, 0, 0))) := q7.pS (Or.inr rfl)
          refine hB [] 1000 _ _ _ _ _ ?_
          repeat' (first | exact fin | exact finF | refine And.intro ?_ ?_ | (intro hh; first | exact absurd hh (by decide) | exact absurd rfl hh | (exfalso; omega) | skip) | fail)
          all_goals first | omega | (exact rfl) | (exact sI q6) | (rw [pS_ne (by decide)]; exact q5)
        | succ n ih =>
          intro k k1 k0
          refine hB [48] 1000 _ _ _ _ _ ?_
          repeat' (first | refine And.intro ?_ ?_ | (intro hh; first | exact absurd hh (by decide) | exact absurd rfl hh | (exfalso; omega) | skip) | fail)
          all_goals first | omega | (exact rfl) | skip
          have e := ih (k + 1) (by omega) (by omega)
          show B (none, 0, 0) _ 48 _ _
          rw [aWr_pS, pS_pS, pS_at, pS_ne (by decide), cpy_s k0]
          exact e
      have e := l2 163 0 rfl (by omega)
      rw [cpy_0, pS_id] at e
      exact e
    have l8 : ∀ (n : Nat) (k : Int), (n : Int) = 163 - k → 0 ≤ k → B (none, 0, 0) (pS z1 (17, 2, 0) (cpy (z1 (17, 2, 0)) (z1 (17, 0, 0)) k)) 8 [some (.inr (.inr (.inl (16, 0, 0)))), some (.inl x), some (.inl y), some (.inl s), some (.inl k), none] [] := by
      intro n
      induction n with
      | zero =>
        intro k k1 k0
        have hk : k = 163 := by omega
        subst hk
        rw [cpy_e h1.2.2.2.2.2.1.2 hJ.1.2.2.2.2]
        have f0 : pS z1 (17, 2, 0) (z1 (17, 0, 0)) (17, 0, 0) = z1 (17, 0, 0) := pS_ne (by decide)
        have hJ2 : Inv (pS z1 (17, 2, 0) (z1 (17, 0, 0)) (17, 0, 0)) := by rw [f0]; exact hJ
        have e1 : R.1 = (cWalk x y s (z1 (17, 0, 0))).1 := by rw [eR]; rfl
        have e2 : R.2.1 = (cWalk x y s (z1 (17, 0, 0))).2.1 := by rw [eR]; rfl
        refine hB [48] 1000 _ _ _ _ _ ?_
        repeat' (first | refine And.intro ?_ ?_ | (intro hh; first | exact absurd hh (by decide) | exact absurd rfl hh | (exfalso; omega) | skip) | refine Or.inl (uE (cM_walkIt (by omega) hJ2 hx hy hs) ?_) | fail)
        all_goals first | omega | (exact rfl) | skip
        show B (none, 0, 0) _ 48 _ _
        rw [f0]
        by_cases ht : (cWalk x y s (z1 (17, 0, 0))).1 = 0
        · rw [ht, mR_0]
          refine l48 _ _ ?_ ?_ ?_ ?_ ?_ e2.symm ?_
          · rw [pS_at]; exact cw.1.1.2.2.2.2
          · intro j j0 j2
            rw [pS_ne (by intro e; injection e with _ e; injection e with e _; exact j0 e), pS_ne (by intro e; injection e with _ e; injection e with e _; exact j2 e)]
          · rw [pS_ne (by decide), pS_at]
          · intro k hk
            rw [pS_ne (by decide), pS_ne (by decide)]
          · rw [pS_ne (by decide), pS_ne (by decide), h9, e1, ht]
          · exact (hF.pS (Or.inr rfl)).pS (Or.inr rfl)
        · rw [mR_t ht]
          refine l48 _ _ ?_ ?_ ?_ ?_ ?_ e2.symm ?_
          · rw [aWr_ne2 (by decide), f0]; exact hJ.1.2.2.2.2
          · intro j j0 j2
            rw [aWr_ne2 (by intro e; injection e with e _; cases e), pS_ne (by intro e; injection e with _ e; injection e with e _; exact j2 e)]
          · rw [aWr_ne2 (by decide), pS_at]
          · intro k hk
            rw [aWr_pS, pS_at, ud_ne hk, pS_ne (by decide)]
          · rw [aWr_pS, pS_at, ud_at, e1]
          · exact (hF.pS (Or.inr rfl)).wr (Or.inl rfl)
      | succ n ih =>
        intro k k1 k0
        refine hB [8] 1000 _ _ _ _ _ ?_
        repeat' (first | refine And.intro ?_ ?_ | (intro hh; first | exact absurd hh (by decide) | exact absurd rfl hh | (exfalso; omega) | skip) | fail)
        all_goals first | omega | (exact rfl) | skip
        have e := ih (k + 1) (by omega) (by omega)
        show B (none, 0, 0) _ 8 _ _
        rw [aWr_pS, pS_pS, pS_at, pS_ne (by decide), cpy_s k0]
        exact e
    have e := l8 163 0 rfl (by omega)
    rw [cpy_0, pS_id] at e
    refine hB [8] 1000 _ _ _ _ _ ?_
    repeat' (first | refine And.intro ?_ ?_ | (intro hh; first | exact absurd hh (by decide) | exact absurd rfl hh | (exfalso; omega) | skip) | fail)
    all_goals first | omega | (exact rfl) | exact e
  refine hB [5] 1000 _ _ _ _ _ ?_
  repeat' (first | refine And.intro ?_ ?_ | fail)
  all_goals first | (exact rfl) | (exact Or.inl rfl) | exact h5 _ (hR.thr 0).1 (hR.thr 0).2 ((fM.rf z).wr (Or.inl rfl))

theorem cM_undo  (hd : 1 ≤ d) (hR : RelM z A) (hI : InvW A) : mOp l g nX7_undo d [.inr (.inr (.inl (16, 0, 0)))] z (qUndo A) := by
  try unfold aIR at *
  obtain ⟨R, eR⟩ : ∃ R : aRes, R = qUndo A := ⟨_, rfl⟩
  rw [← eR, mOp]
  refine aM1_of kX7_undo rfl (fun B hB => ?_)
  have h5 : ∀ z1 : aM, RelM z1 A → z1 (16, 0, 0) 9 = 0 → fM z z1 → B (none, 0, 0) z1 5 [some (.inr (.inr (.inl (16, 0, 0)))), none] [] := by
    intro z1 h1 h9 hF
    clear hR
    obtain ⟨m, T⟩ := A
    have em : z1 (17, 0, 0) = m := h1.1.1
    subst em
    have hJ : Inv (z1 (17, 0, 0)) := hI.1.1
    have cc := hJ.1.1.1
    have ct := hJ.1.1.2.1
    have ga : -1 ≤ z1 (17, 0, 0) 7 ∧ z1 (17, 0, 0) 7 < 8 := by rcases hJ.1.2.1 with q | q <;> omega
    have eC : z1 (16, 0, 0) 6 = wC (z1 (17, 0, 0), T) := h1.2.1.1
    have bC := hI.2.1.1
    by_cases hc0 : wC (z1 (17, 0, 0), T) = 0
    · have fin : ∀ v' : Int, v' = (-1) → (some (.inl v') : Option aV) = some (.inl R.2.1) ∧ (RelM (aWr z1 (16, 0, 0) 9 1) R.2.2 ∧ (aWr z1 (16, 0, 0) 9 1) (16, 0, 0) 9 = R.1) ∧ fM z (aWr z1 (16, 0, 0) 9 1) := fun v' e9 => by
        have hRq : R = (1, (-1), (z1 (17, 0, 0), T)) := by
          rw [eR]; exact if_pos hc0
        rw [hRq, e9]
        exact ⟨rfl, h1.thr 1, hF.wr (Or.inl rfl)⟩
      refine hB [] 1000 _ _ _ _ _ ?_
      repeat' (first | (refine ⟨rfl, fin _ ?_⟩) | refine And.intro ?_ ?_ | (intro hh; first | exact absurd hh (by decide) | exact absurd rfl hh | (exfalso; omega) | skip) | refine Or.inl (uE cM_throwing ?_) | fail)
      all_goals first | omega | (exact rfl) | (exact Or.inl rfl) | (exact Or.inr rfl) | contradiction | (exact (sB_1 (by assumption)).symm) | (exact (sB_0 (by assumption)).symm) | fail "left"
    · obtain ⟨c, hc⟩ : ∃ c, c = wC (z1 (17, 0, 0), T) - 1 := ⟨_, rfl⟩
      have hz2 : RelM (aWr z1 (16, 0, 0) 6 c) (z1 (17, 0, 0), T.1, (c, wH (z1 (17, 0, 0), T)), T.2.2) := h1.cnt (by omega)
      have hH := hI.2.1.2 c (by omega) (by omega)
      have eH := h1.2.1.2 c (by omega) (by omega)
      have g6 : aWr z1 (16, 0, 0) 6 c (16, 0, 0) 6 = c := by rw [aWr_pS, pS_at, ud_at]
      have g4 : aWr z1 (16, 0, 0) 6 c (17, 4, 0) = z1 (17, 4, 0) := aWr_ne2 (by decide)
      have g0 : aWr z1 (16, 0, 0) 6 c (17, 0, 0) = z1 (17, 0, 0) := aWr_ne2 (by decide)
      have hRq : R = (0, c, (wH (z1 (17, 0, 0), T) c, T.1, (c, wH (z1 (17, 0, 0), T)), T.2.2)) := by rw [eR, hc]; exact if_neg hc0
      have fin : RelM (pS (aWr z1 (16, 0, 0) 6 c) (17, 0, 0) (wH (z1 (17, 0, 0), T) c)) R.2.2 ∧ pS (aWr z1 (16, 0, 0) 6 c) (17, 0, 0) (wH (z1 (17, 0, 0), T) c) (16, 0, 0) 9 = R.1 := by
        rw [hRq]
        exact ⟨hz2.set _, by rw [pS_ne (by decide), aWr_pS, pS_at, ud_ne (by decide)]; exact h9⟩
      have lp : ∀ (n : Nat) (k : Int), (n : Int) = 163 - k → 0 ≤ k → B (none, 0, 0) (pS (aWr z1 (16, 0, 0) 6 c) (17, 0, 0) (cpy ((aWr z1 (16, 0, 0) 6 c) (17, 0, 0)) (fun k => z1 (17, 4, 0) (163 * c + k)) k)) 30 [some (.inr (.inr (.inl (16, 0, 0)))), some (.inl k)] [] := by
        intro n
        induction n with
        | zero =>
          intro k k1 k0
          have hk : k = 163 := by omega
          subst hk
          rw [cpy_f (f := wH (z1 (17, 0, 0), T) c) (by rw [g0]; exact hJ.1.2.2.2.2) hH.1.2.2.2.2 eH]
          have f6 : pS (aWr z1 (16, 0, 0) 6 c) (17, 0, 0) (wH (z1 (17, 0, 0), T) c) (16, 0, 0) 6 = c := by rw [pS_ne (by decide), g6]
          have finF : fM z (pS (aWr z1 (16, 0, 0) 6 c) (17, 0, 0) (wH (z1 (17, 0, 0), T) c)) := (hF.wr (Or.inl rfl)).pS (Or.inr rfl)
          refine hB [] 1000 _ _ _ _ _ ?_
          repeat' (first | exact fin | exact finF | refine And.intro ?_ ?_ | (intro hh; first | exact absurd hh (by decide) | exact absurd rfl hh | (exfalso; omega) | skip) | fail)
          all_goals first | omega | (exact rfl) | (rw [f6, hRq])
        | succ n ih =>
          intro k k1 k0
          have f6 : pS (aWr z1 (16, 0, 0) 6 c) (17, 0, 0) (cpy (aWr z1 (16, 0, 0) 6 c (17, 0, 0)) (fun k => z1 (17, 4, 0) (163 * c + k)) k) (16, 0, 0) 6 = c := by rw [pS_ne (by decide), g6]
          have f4 : pS (aWr z1 (16, 0, 0) 6 c) (17, 0, 0) (cpy (aWr z1 (16, 0, 0) 6 c (17, 0, 0)) (fun k => z1 (17, 4, 0) (163 * c + k)) k) (17, 4, 0) = z1 (17, 4, 0) := by rw [pS_ne (by decide), g4]
          refine hB [30] 1000 _ _ _ _ _ ?_
          repeat' (first | refine And.intro ?_ ?_ | (intro hh; first | exact absurd hh (by decide) | exact absurd rfl hh | (exfalso; omega) | skip) | fail)
          all_goals first | omega | (exact rfl) | skip
          have e := ih (k + 1) (by omega) (by omega)
          show B (none, 0, 0) _ 30 _ _
          rw [f6, f4, aWr_pS, pS_pS, pS_at, show z1 (17, 4, 0) (163 * c + k) = (fun k => z1 (17, 4, 0) (163 * c + k)) k from rfl, cpy_s k0]
          exact e
      have e := lp 163 0 rfl (by omega)
      rw [cpy_0, pS_id] at e
      refine hB [30] 1000 _ _ _ _ _ ?_
      repeat' (first | refine And.intro ?_ ?_ | (intro hh; first | exact absurd hh (by decide) | exact absurd rfl hh | (exfalso; omega) | skip) | fail)
      all_goals first | omega | (exact rfl) | skip
      show B (none, 0, 0) (aWr z1 (16, 0, 0) 6 (z1 (16, 0, 0) 6 - 1)) _ _ _
      rw [show z1 (16, 0, 0) 6 - 1 = c by omega]
      exact e
  refine hB [5] 1000 _ _ _ _ _ ?_
  repeat' (first | refine And.intro ?_ ?_ | fail)
  all_goals first | (exact rfl) | (exact Or.inl rfl) | exact h5 _ (hR.thr 0).1 (hR.thr 0).2 ((fM.rf z).wr (Or.inl rfl))


theorem cM_save  (hd : 1 ≤ d) (hR : RelM z A) (hI : InvW A) : mOp l g nX7_save d [.inr (.inr (.inl (16, 0, 0)))] z (qSave A) := by
  try unfold aIR at *
  obtain ⟨R, eR⟩ : ∃ R : aRes, R = qSave A := ⟨_, rfl⟩
  rw [← eR, mOp]
  refine aM1_of kX7_save rfl (fun B hB => ?_)
  have h5 : ∀ z1 : aM, RelM z1 A → z1 (16, 0, 0) 9 = 0 → fM z z1 → B (none, 0, 0) z1 5 [some (.inr (.inr (.inl (16, 0, 0)))), none] [] := by
    intro z1 h1 h9 hF
    clear hR
    obtain ⟨m, T⟩ := A
    have em : z1 (17, 0, 0) = m := h1.1.1
    subst em
    have hJ : Inv (z1 (17, 0, 0)) := hI.1.1
    have cc := hJ.1.1.1
    have ct := hJ.1.1.2.1
    have ga : -1 ≤ z1 (17, 0, 0) 7 ∧ z1 (17, 0, 0) 7 < 8 := by rcases hJ.1.2.1 with q | q <;> omega
    have lp : ∀ (n : Nat) (k : Int), (n : Int) = 163 - k → 0 ≤ k → B (none, 0, 0) (pS (z1) (17, 3, 0) (cpy ((z1) (17, 3, 0)) (z1 (17, 0, 0)) k)) 7 [some (.inr (.inr (.inl (16, 0, 0)))), some (.inl k)] [] := by
      intro n
      induction n with
      | zero =>
        intro k k1 k0
        have hk : k = 163 := by omega
        subst hk
        have v3 : vz (z1 (17, 3, 0)) := by rw [h1.1.2.2]; exact hI.1.2.1
        rw [cpy_e v3 hJ.1.2.2.2.2]
        have fin : RelM (aWr (pS z1 (17, 3, 0) (z1 (17, 0, 0))) (16, 0, 0) 4 1) R.2.2 := by
          rw [eR]
          obtain ⟨⟨k1, k2, k3⟩, ⟨k4, k5⟩, ⟨k6, k7⟩, ⟨k8, k9⟩, ⟨k10, k11⟩, ⟨k12, k13⟩, k14, k15⟩ := h1
          have e17 : ∀ q : aP, q ≠ (17, 3, 0) → q ≠ (16, 0, 0) → aWr (pS z1 (17, 3, 0) (z1 (17, 0, 0))) (16, 0, 0) 4 1 q = z1 q := fun q n n' => by rw [aWr_ne2 n', pS_ne n]
          have e3 : aWr (pS z1 (17, 3, 0) (z1 (17, 0, 0))) (16, 0, 0) 4 1 (17, 3, 0) = z1 (17, 0, 0) := by rw [aWr_ne2 (by decide), pS_at]
          have e4 : aWr (pS z1 (17, 3, 0) (z1 (17, 0, 0))) (16, 0, 0) 4 1 (16, 0, 0) 4 = 1 := by rw [aWr_pS, pS_at, ud_at]
          have e16 : ∀ k, k ≠ 4 → aWr (pS z1 (17, 3, 0) (z1 (17, 0, 0))) (16, 0, 0) 4 1 (16, 0, 0) k = z1 (16, 0, 0) k := fun k hk => by rw [aWr_pS, pS_at, ud_ne hk, pS_ne (by decide)]
          unfold RelM
          rw [e17 (17, 0, 0) (by decide) (by decide), e17 (17, 1, 0) (by decide) (by decide), e17 (17, 2, 0) (by decide) (by decide), e3, e17 (17, 4, 0) (by decide) (by decide), e17 (17, 5, 0) (by decide) (by decide), e17 (17, 6, 0) (by decide) (by decide), e17 (17, 7, 0) (by decide) (by decide), e17 (17, 8, 0) (by decide) (by decide), e4, e16 6 (by decide), e16 7 (by decide), e16 8 (by decide), e16 11 (by decide), e16 13 (by decide)]
          exact ⟨⟨rfl, rfl, rfl⟩, ⟨k4, k5⟩, ⟨k6, k7⟩, ⟨k8, k9⟩, ⟨k10, k11⟩, ⟨k12, k13⟩, k14, k15⟩
        have fin9 : aWr (pS z1 (17, 3, 0) (z1 (17, 0, 0))) (16, 0, 0) 4 1 (16, 0, 0) 9 = R.1 := by rw [aWr_pS, pS_at, ud_ne (by decide), pS_ne (by decide), h9, eR]; rfl
        have finV : aWr (pS z1 (17, 3, 0) (z1 (17, 0, 0))) (16, 0, 0) 4 1 (17, 0, 0) = z1 (17, 0, 0) := by rw [aWr_ne2 (by decide), pS_ne (by decide)]
        have finF : fM z (aWr (pS z1 (17, 3, 0) (z1 (17, 0, 0))) (16, 0, 0) 4 1) := (hF.pS (Or.inr rfl)).wr (Or.inl rfl)
        refine hB [] 1000 _ _ _ _ _ ?_
        repeat' (first | exact fin | exact fin9 | exact finF | refine And.intro ?_ ?_ | (intro hh; first | exact absurd hh (by decide) | exact absurd rfl hh | (exfalso; omega) | skip) | fail)
        all_goals first | omega | (exact rfl) | (exact Or.inl rfl) | (exact Or.inr rfl) | (rw [finV, eR]; rfl)
      | succ n ih =>
        intro k k1 k0
        refine hB [7] 1000 _ _ _ _ _ ?_
        repeat' (first | refine And.intro ?_ ?_ | (intro hh; first | exact absurd hh (by decide) | exact absurd rfl hh | (exfalso; omega) | skip) | fail)
        all_goals first | omega | (exact rfl) | skip
        have e := ih (k + 1) (by omega) (by omega)
        show B (none, 0, 0) _ 7 _ _
        rw [aWr_pS, pS_pS, pS_at, pS_ne (by decide), cpy_s k0]
        exact e
    have e := lp 163 0 rfl (by omega)
    rw [cpy_0, pS_id] at e
    refine hB [7] 1000 _ _ _ _ _ ?_
    repeat' (first | refine And.intro ?_ ?_ | fail)
    all_goals first | omega | (exact rfl) | exact e
  refine hB [5] 1000 _ _ _ _ _ ?_
  repeat' (first | refine And.intro ?_ ?_ | fail)
  all_goals first | (exact rfl) | (exact Or.inl rfl) | exact h5 _ (hR.thr 0).1 (hR.thr 0).2 ((fM.rf z).wr (Or.inl rfl))


theorem cM_restore  (hd : 1 ≤ d) (hR : RelM z A) (hI : InvW A) : mOp l g nX7_restore d [.inr (.inr (.inl (16, 0, 0)))] z (qRestore A) := by
  try unfold aIR at *
  obtain ⟨R, eR⟩ : ∃ R : aRes, R = qRestore A := ⟨_, rfl⟩
  rw [← eR, mOp]
  refine aM1_of kX7_restore rfl (fun B hB => ?_)
  have h5 : ∀ z1 : aM, RelM z1 A → z1 (16, 0, 0) 9 = 0 → fM z z1 → B (none, 0, 0) z1 5 [some (.inr (.inr (.inl (16, 0, 0)))), none] [] := by
    intro z1 h1 h9 hF
    clear hR
    obtain ⟨m, T⟩ := A
    have em : z1 (17, 0, 0) = m := h1.1.1
    subst em
    have hJ : Inv (z1 (17, 0, 0)) := hI.1.1
    have cc := hJ.1.1.1
    have ct := hJ.1.1.2.1
    have ga : -1 ≤ z1 (17, 0, 0) 7 ∧ z1 (17, 0, 0) 7 < 8 := by rcases hJ.1.2.1 with q | q <;> omega
    have eS : z1 (16, 0, 0) 4 = wSv (z1 (17, 0, 0), T) := h1.1.2.1
    have bS := hI.1.2.2.1
    by_cases hc0 : wSv (z1 (17, 0, 0), T) = 0
    · have fin : ∀ v' : Int, v' = (-1) → (some (.inl v') : Option aV) = some (.inl R.2.1) ∧ (RelM (aWr z1 (16, 0, 0) 9 1) R.2.2 ∧ (aWr z1 (16, 0, 0) 9 1) (16, 0, 0) 9 = R.1) ∧ fM z (aWr z1 (16, 0, 0) 9 1) := fun v' e9 => by
        have hRq : R = (1, (-1), (z1 (17, 0, 0), T)) := by
          rw [eR]; exact if_pos hc0
        rw [hRq, e9]
        exact ⟨rfl, h1.thr 1, hF.wr (Or.inl rfl)⟩
      refine hB [] 1000 _ _ _ _ _ ?_
      repeat' (first | (refine ⟨rfl, fin _ ?_⟩) | refine And.intro ?_ ?_ | (intro hh; first | exact absurd hh (by decide) | exact absurd rfl hh | (exfalso; omega) | skip) | refine Or.inl (uE cM_throwing ?_) | fail)
      all_goals first | omega | (exact rfl) | (exact Or.inl rfl) | (exact Or.inr rfl) | contradiction | (exact (sB_1 (by assumption)).symm) | (exact (sB_0 (by assumption)).symm) | fail "left"
    · have e3 : z1 (17, 3, 0) = wS (z1 (17, 0, 0), T) := h1.1.2.2
      have v3 : vz (z1 (17, 3, 0)) := by rw [e3]; exact hI.1.2.1
      have lp : ∀ (n : Nat) (k : Int), (n : Int) = 163 - k → 0 ≤ k → B (none, 0, 0) (pS (z1) (17, 0, 0) (cpy ((z1) (17, 0, 0)) (z1 (17, 3, 0)) k)) 20 [some (.inr (.inr (.inl (16, 0, 0)))), some (.inl k)] [] := by
        intro n
        induction n with
        | zero =>
          intro k k1 k0
          have hk : k = 163 := by omega
          subst hk
          rw [cpy_e hJ.1.2.2.2.2 v3]
          have fin : RelM (aWr (pS z1 (17, 0, 0) (z1 (17, 3, 0))) (16, 0, 0) 6 0) R.2.2 := by
            have hRq : R = (0, wS (z1 (17, 0, 0), T) 2, (wS (z1 (17, 0, 0), T), T.1, (0, wH (z1 (17, 0, 0), T)), T.2.2)) := by rw [eR]; exact if_neg hc0
            rw [hRq, ← e3]
            exact (h1.set (z1 (17, 3, 0))).cnt (c := 0) hI.2.1.1.1
          have finV : some (.inl (aWr (pS z1 (17, 0, 0) (z1 (17, 3, 0))) (16, 0, 0) 6 0 (17, 0, 0) 2)) = (some (.inl R.2.1) : Option aV) := by
            have hRq : R = (0, wS (z1 (17, 0, 0), T) 2, (wS (z1 (17, 0, 0), T), T.1, (0, wH (z1 (17, 0, 0), T)), T.2.2)) := by rw [eR]; exact if_neg hc0
            rw [hRq, aWr_ne2 (by decide), pS_at, e3]
          have fin9 : aWr (pS z1 (17, 0, 0) (z1 (17, 3, 0))) (16, 0, 0) 6 0 (16, 0, 0) 9 = R.1 := by
            have hRq : R = (0, wS (z1 (17, 0, 0), T) 2, (wS (z1 (17, 0, 0), T), T.1, (0, wH (z1 (17, 0, 0), T)), T.2.2)) := by rw [eR]; exact if_neg hc0
            rw [hRq, aWr_pS, pS_at, ud_ne (by decide), pS_ne (by decide)]; exact h9
          have finF : fM z (aWr (pS z1 (17, 0, 0) (z1 (17, 3, 0))) (16, 0, 0) 6 0) := (hF.pS (Or.inr rfl)).wr (Or.inl rfl)
          refine hB [] 1000 _ _ _ _ _ ?_
          repeat' (first | exact fin | exact fin9 | exact finV | exact finF | refine And.intro ?_ ?_ | (intro hh; first | exact absurd hh (by decide) | exact absurd rfl hh | (exfalso; omega) | skip) | fail)
          all_goals first | omega | (exact rfl) | (exact Or.inl rfl) | (exact Or.inr rfl)
        | succ n ih =>
          intro k k1 k0
          refine hB [20] 1000 _ _ _ _ _ ?_
          repeat' (first | refine And.intro ?_ ?_ | (intro hh; first | exact absurd hh (by decide) | exact absurd rfl hh | (exfalso; omega) | skip) | fail)
          all_goals first | omega | (exact rfl) | skip
          have e := ih (k + 1) (by omega) (by omega)
          show B (none, 0, 0) _ 20 _ _
          rw [aWr_pS, pS_pS, pS_at, pS_ne (by decide), cpy_s k0]
          exact e
      have e := lp 163 0 rfl (by omega)
      rw [cpy_0, pS_id] at e
      refine hB [20] 1000 _ _ _ _ _ ?_
      repeat' (first | refine And.intro ?_ ?_ | (intro hh; first | exact absurd hh (by decide) | exact absurd rfl hh | (exfalso; omega) | skip) | fail)
      all_goals first | omega | (exact rfl) | exact e
  refine hB [5] 1000 _ _ _ _ _ ?_
  repeat' (first | refine And.intro ?_ ?_ | fail)
  all_goals first | (exact rfl) | (exact Or.inl rfl) | exact h5 _ (hR.thr 0).1 (hR.thr 0).2 ((fM.rf z).wr (Or.inl rfl))


theorem cM_charAt {k : Int} (hk : aIR k) (hd : 2 ≤ d) (hR : RelM z A) (hI : InvW A) : mOp l g nX7_charAt d [.inr (.inr (.inl (16, 0, 0))), .inl k] z (qChar k A) := by
  try unfold aIR at *
  obtain ⟨R, eR⟩ : ∃ R : aRes, R = qChar k A := ⟨_, rfl⟩
  rw [← eR, mOp]
  refine aM1_of kX7_charAt rfl (fun B hB => ?_)
  have h5 : ∀ z1 : aM, RelM z1 A → z1 (16, 0, 0) 9 = 0 → fM z z1 → B (none, 0, 0) z1 5 [some (.inr (.inr (.inl (16, 0, 0)))), some (.inl k)] [] := by
    intro z1 h1 h9 hF
    clear hR
    obtain ⟨m, T⟩ := A
    have em : z1 (17, 0, 0) = m := h1.1.1
    subst em
    have hJ : Inv (z1 (17, 0, 0)) := hI.1.1
    have cc := hJ.1.1.1
    have ct := hJ.1.1.2.1
    have ga : -1 ≤ z1 (17, 0, 0) 7 ∧ z1 (17, 0, 0) 7 < 8 := by rcases hJ.1.2.1 with q | q <;> omega
    have eL : z1 (16, 0, 0) 13 = wLn (z1 (17, 0, 0), T) := h1.2.2.2.2.1.1
    have bL := hI.2.2.2.2.1
    by_cases hc0 : 0 ≤ k ∧ k < wLn (z1 (17, 0, 0), T)
    · have eK : z1 (17, 6, 0) k = wLt (z1 (17, 0, 0), T) k := h1.2.2.2.2.1.2 k hc0.1 hc0.2
      have bK := hI.2.2.2.2.2 k hc0.1 hc0.2
      have fin : ∀ v' : Int, v' = (wLt (z1 (17, 0, 0), T) k) → (some (.inl v') : Option aV) = some (.inl R.2.1) ∧ (RelM z1 R.2.2 ∧ z1 (16, 0, 0) 9 = R.1) ∧ fM z z1 := fun v' e9 => by
        have hRq : R = (0, (wLt (z1 (17, 0, 0), T) k), (z1 (17, 0, 0), T)) := by
          rw [eR]; exact if_pos hc0
        rw [hRq, e9]
        exact ⟨rfl, ⟨h1, h9⟩, hF⟩
      refine hB [] 1000 _ _ _ _ _ ?_
      repeat' (first | (refine ⟨rfl, fin _ ?_⟩) | refine And.intro ?_ ?_ | (intro hh; first | exact absurd hh (by decide) | exact absurd rfl hh | (exfalso; omega) | skip) | refine Or.inl (uE cM_throwing ?_) | refine Or.inl (uB (cM_in ?_ ?_ ?_) ?_ ?_) | fail)
      all_goals first | omega | (exact rfl) | (exact Or.inl rfl) | (exact Or.inr rfl) | contradiction | (exact (sB_1 (by assumption)).symm) | (exact (sB_0 (by assumption)).symm) | (unfold aIR; omega) | fail "left"
    · have fin : ∀ v' : Int, v' = 65535 → (some (.inl v') : Option aV) = some (.inl R.2.1) ∧ (RelM (aWr z1 (16, 0, 0) 9 1) R.2.2 ∧ (aWr z1 (16, 0, 0) 9 1) (16, 0, 0) 9 = R.1) ∧ fM z (aWr z1 (16, 0, 0) 9 1) := fun v' e9 => by
        have hRq : R = (1, 65535, (z1 (17, 0, 0), T)) := by
          rw [eR]; exact if_neg hc0
        rw [hRq, e9]
        exact ⟨rfl, h1.thr 1, hF.wr (Or.inl rfl)⟩
      refine hB [] 1000 _ _ _ _ _ ?_
      repeat' (first | (refine ⟨rfl, fin _ ?_⟩) | refine And.intro ?_ ?_ | (intro hh; first | exact absurd hh (by decide) | exact absurd rfl hh | (exfalso; omega) | skip) | refine Or.inl (uE cM_throwing ?_) | refine Or.inl (uB (cM_in ?_ ?_ ?_) ?_ ?_) | fail)
      all_goals first | omega | (exact rfl) | (exact Or.inl rfl) | (exact Or.inr rfl) | contradiction | (exact (sB_1 (by assumption)).symm) | (exact (sB_0 (by assumption)).symm) | (unfold aIR; omega) | fail "left"
  refine hB [5] 1000 _ _ _ _ _ ?_
  repeat' (first | refine And.intro ?_ ?_ | fail)
  all_goals first | (exact rfl) | (exact Or.inl rfl) | exact h5 _ (hR.thr 0).1 (hR.thr 0).2 ((fM.rf z).wr (Or.inl rfl))


theorem cM_type {k : Int} (k0 : 0 ≤ k) (k1 : k < 65536) (hd : 1 ≤ d) (hR : RelM z A) (hI : InvW A) : mOp l g nX7_type d [.inr (.inr (.inl (16, 0, 0))), .inl k] z (qType k A) := by
  try unfold aIR at *
  obtain ⟨R, eR⟩ : ∃ R : aRes, R = qType k A := ⟨_, rfl⟩
  rw [← eR, mOp]
  refine aM1_of kX7_type rfl (fun B hB => ?_)
  have h5 : ∀ z1 : aM, RelM z1 A → z1 (16, 0, 0) 9 = 0 → fM z z1 → B (none, 0, 0) z1 5 [some (.inr (.inr (.inl (16, 0, 0)))), some (.inl k)] [] := by
    intro z1 h1 h9 hF
    clear hR
    obtain ⟨m, T⟩ := A
    have em : z1 (17, 0, 0) = m := h1.1.1
    subst em
    have hJ : Inv (z1 (17, 0, 0)) := hI.1.1
    have cc := hJ.1.1.1
    have ct := hJ.1.1.2.1
    have ga : -1 ≤ z1 (17, 0, 0) 7 ∧ z1 (17, 0, 0) 7 < 8 := by rcases hJ.1.2.1 with q | q <;> omega
    have eP : z1 (16, 0, 0) 11 = wPn (z1 (17, 0, 0), T) := h1.2.2.2.1.1
    have bP := hI.2.2.2.1.1
    by_cases hc0 : wPn (z1 (17, 0, 0), T) = 60
    · have fin : ∀ v' : Int, v' = (-1) → (some (.inl v') : Option aV) = some (.inl R.2.1) ∧ (RelM (aWr z1 (16, 0, 0) 9 1) R.2.2 ∧ (aWr z1 (16, 0, 0) 9 1) (16, 0, 0) 9 = R.1) ∧ fM z (aWr z1 (16, 0, 0) 9 1) := fun v' e9 => by
        have hRq : R = (1, (-1), (z1 (17, 0, 0), T)) := by
          rw [eR]; exact if_pos hc0
        rw [hRq, e9]
        exact ⟨rfl, h1.thr 1, hF.wr (Or.inl rfl)⟩
      refine hB [] 1000 _ _ _ _ _ ?_
      repeat' (first | (refine ⟨rfl, fin _ ?_⟩) | refine And.intro ?_ ?_ | (intro hh; first | exact absurd hh (by decide) | exact absurd rfl hh | (exfalso; omega) | skip) | refine Or.inl (uE cM_throwing ?_) | fail)
      all_goals first | omega | (exact rfl) | (exact Or.inl rfl) | (exact Or.inr rfl) | contradiction | (exact (sB_1 (by assumption)).symm) | (exact (sB_0 (by assumption)).symm) | fail "left"
    · have g11 : aWr z1 (17, 5, 0) (z1 (16, 0, 0) 11) k (16, 0, 0) 11 = z1 (16, 0, 0) 11 := by rw [aWr_ne2 (by decide)]
      have hRq : R = (0, wPn (z1 (17, 0, 0), T) + 1, (z1 (17, 0, 0), T.1, T.2.1, T.2.2.1, (wPn (z1 (17, 0, 0), T) + 1, ud (wPt (z1 (17, 0, 0), T)) (wPn (z1 (17, 0, 0), T)) k), T.2.2.2.2)) := by rw [eR]; exact if_neg hc0
      obtain ⟨z2, hz2⟩ : ∃ z2, z2 = aWr (aWr z1 (17, 5, 0) (z1 (16, 0, 0) 11) k) (16, 0, 0) 11 (aWr z1 (17, 5, 0) (z1 (16, 0, 0) 11) k (16, 0, 0) 11 + 1) := ⟨_, rfl⟩
      have e11 : z2 (16, 0, 0) 11 = wPn (z1 (17, 0, 0), T) + 1 := by rw [hz2, aWr_pS, pS_at, ud_at, g11, eP]
      have e16 : ∀ j, j ≠ 11 → z2 (16, 0, 0) j = z1 (16, 0, 0) j := fun j hj => by rw [hz2, aWr_pS, pS_at, ud_ne hj, aWr_ne2 (by decide)]
      have e17 : ∀ q : aP, q ≠ (17, 5, 0) → q ≠ (16, 0, 0) → z2 q = z1 q := fun q n n' => by rw [hz2, aWr_ne2 n', aWr_ne2 n]
      have e5 : z2 (17, 5, 0) = ud (z1 (17, 5, 0)) (wPn (z1 (17, 0, 0), T)) k := by rw [hz2, aWr_ne2 (by decide), aWr_pS, pS_at, eP]
      have fin : RelM z2 R.2.2 := by
        rw [hRq]
        obtain ⟨⟨k1, k2, k3⟩, ⟨k4, k5⟩, ⟨k6, k7⟩, ⟨k8, k9⟩, ⟨k10, k11⟩, ⟨k12, k13⟩, k14, k15⟩ := h1
        unfold RelM
        rw [e17 (17, 0, 0) (by decide) (by decide), e17 (17, 1, 0) (by decide) (by decide), e17 (17, 2, 0) (by decide) (by decide), e17 (17, 3, 0) (by decide) (by decide), e17 (17, 4, 0) (by decide) (by decide), e5, e17 (17, 6, 0) (by decide) (by decide), e17 (17, 7, 0) (by decide) (by decide), e17 (17, 8, 0) (by decide) (by decide), e16 4 (by decide), e16 6 (by decide), e16 7 (by decide), e16 8 (by decide), e11, e16 13 (by decide)]
        refine ⟨⟨k1, k2, k3⟩, ⟨k4, k5⟩, ⟨k6, k7⟩, ⟨rfl, fun i i0 i1 => ?_⟩, ⟨k10, k11⟩, ⟨k12, k13⟩, k14, k15⟩
        have i2 : i < wPn (z1 (17, 0, 0), T) + 1 := i1
        show ud (z1 (17, 5, 0)) (wPn (z1 (17, 0, 0), T)) k i = ud (wPt (z1 (17, 0, 0), T)) (wPn (z1 (17, 0, 0), T)) k i
        by_cases e : i = wPn (z1 (17, 0, 0), T)
        · rw [e, ud_at, ud_at]
        · rw [ud_ne e, ud_ne e]
          exact k9 i i0 (by omega)
      have fin9 : z2 (16, 0, 0) 9 = R.1 := by rw [e16 9 (by decide), h9, hRq]
      have finV : some (.inl (z2 (16, 0, 0) 11)) = (some (.inl R.2.1) : Option aV) := by rw [e11, hRq]
      have finF : fM z z2 := by rw [hz2]; exact (hF.wr (Or.inr rfl)).wr (Or.inl rfl)
      rw [hz2] at fin fin9 finV finF
      refine hB [] 1000 _ _ _ _ _ ?_
      repeat' (first | exact fin | exact fin9 | exact finV | exact finF | refine And.intro ?_ ?_ | (intro hh; first | exact absurd hh (by decide) | exact absurd rfl hh | (exfalso; omega) | skip) | fail)
      all_goals first | omega | (exact rfl) | (exact Or.inl rfl) | (exact Or.inr rfl)
  refine hB [5] 1000 _ _ _ _ _ ?_
  repeat' (first | refine And.intro ?_ ?_ | fail)
  all_goals first | (exact rfl) | (exact Or.inl rfl) | exact h5 _ (hR.thr 0).1 (hR.thr 0).2 ((fM.rf z).wr (Or.inl rfl))


theorem mean_ok : ∀ s : Nat, s < 1441 → ∀ c : Nat, c < 8 → ((FP.ddiv (FP.i2d (iZ (s : Int))) (FP.i2d (iZ ((c + 1 : Nat) : Int))) &&& 0x7fffffffffffffff ≤ 0x7ff0000000000000) ∧ FP.dcmp (FP.ddiv (FP.i2d (iZ (s : Int))) (FP.i2d (iZ ((c + 1 : Nat) : Int)))) (FP.ddiv (FP.i2d (iZ (s : Int))) (FP.i2d (iZ ((c + 1 : Nat) : Int)))) = some .eq) := by decide +kernel
theorem rate_ok : ∀ s : Nat, s < 9 → ∀ c : Nat, c < 8 → ((FP.fdiv (FP.i2f (iZ (s : Int))) (FP.i2f (iZ ((c + 1 : Nat) : Int))) &&& 0x7fffffff ≤ 0x7f800000) ∧ (FP.f2d (FP.fdiv (FP.i2f (iZ (s : Int))) (FP.i2f (iZ ((c + 1 : Nat) : Int)))) &&& 0x7fffffffffffffff ≤ 0x7ff0000000000000) ∧ FP.dcmp (FP.f2d (FP.fdiv (FP.i2f (iZ (s : Int))) (FP.i2f (iZ ((c + 1 : Nat) : Int))))) (FP.f2d (FP.fdiv (FP.i2f (iZ (s : Int))) (FP.i2f (iZ ((c + 1 : Nat) : Int))))) = some .eq) := by decide +kernel
def dMean (s c : Int) : UInt64 := FP.ddiv (FP.i2d (iZ s)) (FP.i2d (iZ c))
def fRate (s c : Int) : UInt32 := FP.fdiv (FP.i2f (iZ s)) (FP.i2f (iZ c))
theorem dMean_ok {s c : Int} (s0 : 0 ≤ s) (s1 : s ≤ 1440) (c0 : 1 ≤ c) (c1 : c ≤ 8) : vf_n64 (dMean s c) ∧ FP.dcmp (dMean s c) (dMean s c) = some .eq := by
  have := mean_ok s.toNat (by omega) (c - 1).toNat (by omega)
  rw [Int.toNat_of_nonneg s0, show (((c - 1).toNat + 1 : Nat) : Int) = c by omega] at this
  exact this
theorem fRate_ok {s c : Int} (s0 : 0 ≤ s) (s1 : s ≤ 8) (c0 : 1 ≤ c) (c1 : c ≤ 8) : vf_n32 (fRate s c) ∧ vf_n64 (FP.f2d (fRate s c)) ∧ FP.dcmp (FP.f2d (fRate s c)) (FP.f2d (fRate s c)) = some .eq := by
  have := rate_ok s.toNat (by omega) (c - 1).toNat (by omega)
  rw [Int.toNat_of_nonneg s0, show (((c - 1).toNat + 1 : Nat) : Int) = c by omega] at this
  exact this
abbrev qMean (A : aAb) : Int × UInt64 × aAb := if wM A 2 = 0 then (1, FP.dconst0, A) else (0, dMean (sSums (wM A)) (wM A 2), A)
abbrev qRate (k : Int) (A : aAb) : Int × UInt32 × aAb := if isG (wM A) k then (if wM A 2 = 0 then (2, FP.fconst0, A) else (0, fRate (sThr (wM A) k (wM A 2).toNat 0 0) (wM A 2), A)) else (1, FP.fconst0, A)
def mOpD (l : Launch) (g : aG) (y d : Nat) (as : List aV) (z : aM) (R : Int × UInt64 × aAb) : Prop := aM1 l g y d as z (fun r z' => r = some (.inr (.inr (.inr (.double R.2.1)))) ∧ (RelM z' R.2.2 ∧ z' (16, 0, 0) 9 = R.1) ∧ fM z z')
def mOpF (l : Launch) (g : aG) (y d : Nat) (as : List aV) (z : aM) (R : Int × UInt32 × aAb) : Prop := aM1 l g y d as z (fun r z' => r = some (.inr (.inr (.inr (.float R.2.1)))) ∧ (RelM z' R.2.2 ∧ z' (16, 0, 0) 9 = R.1) ∧ fM z z')
theorem sSums_B {a : Int → Int} (h : Inv0 a) : 0 ≤ sSums a ∧ sSums a ≤ 1440 := by
  have cc := h.1.1
  have := sN_B (f := fun k => sSum a k) (B := 180) (a 2).toNat (fun k hk => sSum_B h (by omega) (by omega))
  unfold sSums
  omega
theorem sThr_B {a : Int → Int} {k : Int} : ∀ (n : Nat) (r acc : Int), acc ≤ sThr a k n r acc ∧ sThr a k n r acc ≤ acc + (n : Int)
  | 0, r, acc => ⟨Int.le_refl _, by show acc ≤ acc + ((0 : Nat) : Int); omega⟩
  | n + 1, r, acc => by
    have hb : 0 ≤ sB (sBit (a (59 + 13 * r + 6)) k) ∧ sB (sBit (a (59 + 13 * r + 6)) k) ≤ 1 := by
      unfold sB
      split <;> omega
    have := sThr_B (a := a) (k := k) n (r + 1) (acc + sB (sBit (a (59 + 13 * r + 6)) k))
    show acc ≤ sThr a k n (r + 1) (acc + sB (sBit (a (59 + 13 * r + 6)) k)) ∧ sThr a k n (r + 1) (acc + sB (sBit (a (59 + 13 * r + 6)) k)) ≤ acc + ((n + 1 : Nat) : Int)
    omega

theorem cM_meanScore  (hd : 2 ≤ d) (hR : RelM z A) (hI : InvW A) : mOpD l g nX7_meanScore d [.inr (.inr (.inl (16, 0, 0)))] z (qMean A) := by
  try unfold aIR at *
  obtain ⟨R, eR⟩ : ∃ R : Int × UInt64 × aAb, R = qMean A := ⟨_, rfl⟩
  rw [← eR, mOpD]
  refine aM1_of kX7_meanScore rfl (fun B hB => ?_)
  have h5 : ∀ z1 : aM, RelM z1 A → z1 (16, 0, 0) 9 = 0 → fM z z1 → B (none, 0, 0) z1 5 [some (.inr (.inr (.inl (16, 0, 0)))), none, none] [] := by
    intro z1 h1 h9 hF
    clear hR
    obtain ⟨m, T⟩ := A
    have em : z1 (17, 0, 0) = m := h1.1.1
    subst em
    have hJ : Inv (z1 (17, 0, 0)) := hI.1.1
    have cc := hJ.1.1.1
    by_cases hc0 : z1 (17, 0, 0) 2 = 0
    · have hRq : R = (1, FP.dconst0, (z1 (17, 0, 0), T)) := by rw [eR]; exact if_pos hc0
      have fin : (some (.inr (.inr (.inr (.double FP.dconst0)))) : Option aV) = some (.inr (.inr (.inr (.double R.2.1)))) ∧ (RelM (aWr z1 (16, 0, 0) 9 1) R.2.2 ∧ aWr z1 (16, 0, 0) 9 1 (16, 0, 0) 9 = R.1) ∧ fM z (aWr z1 (16, 0, 0) 9 1) := by
        rw [hRq]; exact ⟨rfl, h1.thr 1, hF.wr (Or.inl rfl)⟩
      refine hB [] 1000 _ _ _ _ _ ?_
      repeat' (first | (exact ⟨rfl, fin⟩) | refine And.intro ?_ ?_ | (intro hh; first | exact absurd hh (by decide) | exact absurd rfl hh | (exfalso; omega) | skip) | refine Or.inl (uE cM_throwing ?_) | fail)
      all_goals first | omega | (exact rfl) | (exact Or.inl rfl) | contradiction
    · have bs := sSums_B hJ.1
      have ok := dMean_ok bs.1 bs.2 (c := z1 (17, 0, 0) 2) (by omega) (by omega)
      have hRq : R = (0, dMean (sSums (z1 (17, 0, 0))) (z1 (17, 0, 0) 2), (z1 (17, 0, 0), T)) := by rw [eR]; exact if_neg hc0
      have fin : (some (.inr (.inr (.inr (.double (dMean (sSums (z1 (17, 0, 0))) (z1 (17, 0, 0) 2)))))) : Option aV) = some (.inr (.inr (.inr (.double R.2.1)))) ∧ (RelM z1 R.2.2 ∧ z1 (16, 0, 0) 9 = R.1) ∧ fM z z1 := by
        rw [hRq]; exact ⟨rfl, ⟨h1, h9⟩, hF⟩
      have loop : ∀ (n : Nat) (k acc : Int), 0 ≤ k → k + (n : Int) = z1 (17, 0, 0) 2 → acc = sN (fun k => sSum (z1 (17, 0, 0)) k) k.toNat → B (none, 0, 0) z1 26 [some (.inr (.inr (.inl (16, 0, 0)))), some (.inl acc), some (.inl k)] [] := by
        intro n
        induction n with
        | zero =>
          intro k acc k0 k1 e
          have ek : k = z1 (17, 0, 0) 2 := by omega
          subst ek
          have e2 : acc = sSums (z1 (17, 0, 0)) := e
          subst e2
          refine hB [] 1000 _ _ _ _ _ ?_
          repeat' (first | (exact ⟨rfl, fin⟩) | (exact ok.1) | refine And.intro ?_ ?_ | (intro hh; first | exact absurd hh (by decide) | exact absurd rfl hh | (exfalso; omega) | skip) | fail)
          all_goals first | omega | (exact rfl)
        | succ n ih =>
          intro k acc k0 k1 e
          refine hB [26] 1000 _ _ _ _ _ ?_
          repeat' (first | refine And.intro ?_ ?_ | (intro hh; first | exact absurd hh (by decide) | exact absurd rfl hh | (exfalso; omega) | skip) | refine Or.inl (uE (cM_scoreOf (by omega) hJ.1 ?_ ?_) ?_) | fail)
          all_goals first | omega | (exact rfl) | skip
          refine ih _ _ ?_ ?_ ?_
          · omega
          · omega
          · rw [sN_s k0, e]
      refine hB [26] 1000 _ _ _ _ _ ?_
      repeat' (first | refine And.intro ?_ ?_ | (intro hh; first | exact absurd hh (by decide) | exact absurd rfl hh | (exfalso; omega) | skip) | fail)
      all_goals first | omega | (exact rfl) | contradiction | skip
      exact loop (z1 (17, 0, 0) 2).toNat 0 0 (by omega) (by omega) rfl
  refine hB [5] 1000 _ _ _ _ _ ?_
  repeat' (first | refine And.intro ?_ ?_ | fail)
  all_goals first | (exact rfl) | (exact Or.inl rfl) | exact h5 _ (hR.thr 0).1 (hR.thr 0).2 ((fM.rf z).wr (Or.inl rfl))

theorem cM_passRate {k : Int} (hk : aIR k) (hd : 2 ≤ d) (hR : RelM z A) (hI : InvW A) : mOpF l g nX7_passRate d [.inr (.inr (.inl (16, 0, 0))), .inl k] z (qRate k A) := by
  try unfold aIR at *
  obtain ⟨R, eR⟩ : ∃ R : Int × UInt32 × aAb, R = qRate k A := ⟨_, rfl⟩
  rw [← eR, mOpF]
  refine aM1_of kX7_passRate rfl (fun B hB => ?_)
  have h5 : ∀ z1 : aM, RelM z1 A → z1 (16, 0, 0) 9 = 0 → fM z z1 → B (none, 0, 0) z1 5 [some (.inr (.inr (.inl (16, 0, 0)))), some (.inl k), none, none] [] := by
    intro z1 h1 h9 hF
    clear hR
    obtain ⟨m, T⟩ := A
    have em : z1 (17, 0, 0) = m := h1.1.1
    subst em
    have hJ : Inv (z1 (17, 0, 0)) := hI.1.1
    have cc := hJ.1.1.1
    by_cases hg : isG (z1 (17, 0, 0)) k
    · by_cases hc0 : z1 (17, 0, 0) 2 = 0
      · have hRq : R = (2, FP.fconst0, (z1 (17, 0, 0), T)) := by rw [eR]; exact (if_pos hg).trans (if_pos hc0)
        have fin : (some (.inr (.inr (.inr (.float FP.fconst0)))) : Option aV) = some (.inr (.inr (.inr (.float R.2.1)))) ∧ (RelM (aWr z1 (16, 0, 0) 9 2) R.2.2 ∧ aWr z1 (16, 0, 0) 9 2 (16, 0, 0) 9 = R.1) ∧ fM z (aWr z1 (16, 0, 0) 9 2) := by
          rw [hRq]; exact ⟨rfl, h1.thr 2, hF.wr (Or.inl rfl)⟩
        refine hB [] 1000 _ _ _ _ _ ?_
        repeat' (first | (exact ⟨rfl, fin⟩) | refine And.intro ?_ ?_ | (intro hh; first | exact absurd hh (by decide) | exact absurd rfl hh | (exfalso; omega) | skip) | refine Or.inl (uE cM_throwing ?_) | refine Or.inl (uB (cM_isGate ?_ ?_ ?_ ?_) ?_ ?_) | fail)
        all_goals first | omega | (exact rfl) | (exact Or.inl rfl) | contradiction
      · have bs := sThr_B (a := z1 (17, 0, 0)) (k := k) (z1 (17, 0, 0) 2).toNat 0 0
        have ok := fRate_ok (s := sThr (z1 (17, 0, 0)) k (z1 (17, 0, 0) 2).toNat 0 0) (c := z1 (17, 0, 0) 2) (by omega) (by omega) (by omega) (by omega)
        have hRq : R = (0, fRate (sThr (z1 (17, 0, 0)) k (z1 (17, 0, 0) 2).toNat 0 0) (z1 (17, 0, 0) 2), (z1 (17, 0, 0), T)) := by rw [eR]; exact (if_pos hg).trans (if_neg hc0)
        have fin : (some (.inr (.inr (.inr (.float (fRate (sThr (z1 (17, 0, 0)) k (z1 (17, 0, 0) 2).toNat 0 0) (z1 (17, 0, 0) 2)))))) : Option aV) = some (.inr (.inr (.inr (.float R.2.1)))) ∧ (RelM z1 R.2.2 ∧ z1 (16, 0, 0) 9 = R.1) ∧ fM z z1 := by
          rw [hRq]; exact ⟨rfl, ⟨h1, h9⟩, hF⟩
        have loop : ∀ (n : Nat) (r acc : Int), 0 ≤ r → r + (n : Int) = z1 (17, 0, 0) 2 → sThr (z1 (17, 0, 0)) k n r acc = sThr (z1 (17, 0, 0)) k (z1 (17, 0, 0) 2).toNat 0 0 → B (none, 0, 0) z1 42 [some (.inr (.inr (.inl (16, 0, 0)))), some (.inl k), some (.inl acc), some (.inl r)] [] := by
          intro n
          induction n with
          | zero =>
            intro r acc k0 k1 e
            have e2 : acc = sThr (z1 (17, 0, 0)) k (z1 (17, 0, 0) 2).toNat 0 0 := e
            subst e2
            refine hB [] 1000 _ _ _ _ _ ?_
            repeat' (first | (exact ⟨rfl, fin⟩) | (exact ok.1) | refine And.intro ?_ ?_ | (intro hh; first | exact absurd hh (by decide) | exact absurd rfl hh | (exfalso; omega) | skip) | fail)
            all_goals first | omega | (exact rfl)
          | succ n ih =>
            intro r acc k0 k1 e
            have e' : sThr (z1 (17, 0, 0)) k n (r + 1) (acc + sB (sBit (z1 (17, 0, 0) (59 + 13 * r + 6)) k)) = sThr (z1 (17, 0, 0)) k (z1 (17, 0, 0) 2).toNat 0 0 := e
            refine hB [42] 1000 _ _ _ _ _ ?_
            repeat' (first | refine And.intro ?_ ?_ | (intro hh; first | exact absurd hh (by decide) | exact absurd rfl hh | skip) | refine Or.inl (uB (cM_hasRunPassed (by omega) hJ.1 ⟨k0, by omega⟩ hg.1 ?_) ?_ ?_) | fail)
            all_goals first | omega | (exact rfl) | skip
            all_goals first | (rw [sB_1 (by assumption)] at e'; exact ih _ _ (by omega) (by omega) e') | (rw [sB_0 (by assumption)] at e'; exact ih _ _ (by omega) (by omega) e') | fail "left"
        refine hB [42] 1000 _ _ _ _ _ ?_
        repeat' (first | refine And.intro ?_ ?_ | (intro hh; first | exact absurd hh (by decide) | exact absurd rfl hh | (exfalso; omega) | skip) | refine Or.inl (uB (cM_isGate ?_ ?_ ?_ ?_) ?_ ?_) | refine Or.inl (uE cM_throwing ?_) | fail)
        all_goals first | omega | (exact rfl) | contradiction | skip
        exact loop (z1 (17, 0, 0) 2).toNat 0 0 (by omega) (by omega) rfl
    · have hRq : R = (1, FP.fconst0, (z1 (17, 0, 0), T)) := by rw [eR]; exact if_neg hg
      have fin : (some (.inr (.inr (.inr (.float FP.fconst0)))) : Option aV) = some (.inr (.inr (.inr (.float R.2.1)))) ∧ (RelM (aWr z1 (16, 0, 0) 9 1) R.2.2 ∧ aWr z1 (16, 0, 0) 9 1 (16, 0, 0) 9 = R.1) ∧ fM z (aWr z1 (16, 0, 0) 9 1) := by
        rw [hRq]; exact ⟨rfl, h1.thr 1, hF.wr (Or.inl rfl)⟩
      refine hB [] 1000 _ _ _ _ _ ?_
      repeat' (first | (exact ⟨rfl, fin⟩) | refine And.intro ?_ ?_ | (intro hh; first | exact absurd hh (by decide) | exact absurd rfl hh | (exfalso; omega) | skip) | refine Or.inl (uE cM_throwing ?_) | refine Or.inl (uB (cM_isGate ?_ ?_ ?_ ?_) ?_ ?_) | fail)
      all_goals first | omega | (exact rfl) | (exact Or.inl rfl) | contradiction
  refine hB [5] 1000 _ _ _ _ _ ?_
  repeat' (first | refine And.intro ?_ ?_ | fail)
  all_goals first | (exact rfl) | (exact Or.inl rfl) | exact h5 _ (hR.thr 0).1 (hR.thr 0).2 ((fM.rf z).wr (Or.inl rfl))

end M12
