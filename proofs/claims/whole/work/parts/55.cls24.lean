/-! THE CONSTRUCTORS: history, line, program (printed by wip/whole/cls24.py) -/
theorem mkS.tr {r1 r2 : aP → Int → Bool} {s : Int} (h : mkS r1 s) (e : ∀ q i, inG s q → r2 q i = r1 q i) : mkS r2 s := by
  have g : ∀ (k : Nat) (j : Int), 1 ≤ k → k ≤ 6 → inG s (k, s, j) := fun k j h1 h2 => ⟨⟨h1, h2⟩, rfl⟩
  obtain ⟨⟨h1, h2⟩, ⟨h3, h4, h5, h6, h7, h8, h9, h10⟩, h11⟩ := h
  have e1 := fun i => e (1, s, 0) i (g 1 0 (by decide) (by decide))
  have e2 := fun i => e (2, s, 0) i (g 2 0 (by decide) (by decide))
  unfold mkS
  simp only [e1, e2]
  refine ⟨⟨h1, h2⟩, ⟨h3, h4, h5, h6, h7, h8, h9, h10⟩, fun j j0 j1 => ?_⟩
  rw [e _ _ (g 4 0 (by decide) (by decide)), e _ _ (g 5 j (by decide) (by decide))]
  exact h11 j j0 j1
/-- not of the history -/
def nH (q : aP) : Prop := (q.1 ≠ 7 ∧ q.1 ≠ 8) ∧ ¬ ((1 ≤ q.1 ∧ q.1 ≤ 6) ∧ 3 ≤ q.2.1)
theorem aSb_3 (m : Nat) : aSb (3 + (m : Int)) = 84 + 27 * m := by
  unfold aSb
  rw [if_neg (by omega)]
  omega
section K24
variable {l : Launch} {g : aG} {d : Nat} {z : aM} {r : aP → Int → Bool}
theorem cI_line (hd : 1 ≤ d) : aCt l g nX2_init d 1 64 (some (302, r)) [.inr (.inr (.inl (10, 0, 0)))] z (fun ret s' z' => ret = none ∧ s' = some (303, aBt (aBf r (11, 0, 0)) (10, 0, 0) 0) ∧ z' (10, 0, 0) 1 = 0 ∧ ∀ q, q ≠ (10, 0, 0) → q ≠ (11, 0, 0) → z' q = z q) (fun _ _ _ => False) := by
  refine aCt_of kX2_init (Nat.le_of_ble_eq_true rfl) (fun B hB => ?_)
  refine hB [] 1000 _ _ _ _ _ ?_
  repeat' (first | (refine ⟨rfl, rfl, aWr_k _ _ _ _, ?_⟩; intro q h1 h2; simp only [aWr_ne2 h1, aZr_ne h2]; done) | refine And.intro ?_ ?_ | (refine Exists.intro ((11, 0, 0) : aP) ?_) | (intro hh; first | exact absurd hh (by decide) | exact absurd rfl hh | (exfalso; omega) | skip) | fail)
  all_goals first | omega | (exact rfl) | decide | (exact Nat.le_refl _) | (exact hd)
theorem cI_prog (hd : 1 ≤ d) : aCt l g nX3_init d 3 156 (some (304, r)) [.inr (.inr (.inl (12, 0, 0)))] z (fun ret s' z' => ret = none ∧ s' = some (307, aBt (aBf (aBt (aBf (aBt (aBf r (13, 0, 0)) (12, 0, 0) 0) (14, 0, 0)) (12, 0, 0) 3) (15, 0, 0)) (12, 0, 0) 4) ∧ z' (12, 0, 0) 1 = 0 ∧ ∀ q, q ≠ (12, 0, 0) → q ≠ (13, 0, 0) → q ≠ (14, 0, 0) → q ≠ (15, 0, 0) → z' q = z q) (fun _ _ _ => False) := by
  refine aCt_of kX3_init (Nat.le_of_ble_eq_true rfl) (fun B hB => ?_)
  refine hB [] 1000 _ _ _ _ _ ?_
  repeat' (first | (refine ⟨rfl, rfl, rfl, ?_⟩; intro q h1 h2 h3 h4; simp only [aWr_ne2 h1, aZr_ne h2, aZr_ne h3, aZr_ne h4]; done) | refine And.intro ?_ ?_ | (first | (refine Exists.intro ((13, 0, 0) : aP) (And.intro (And.intro ⟨rfl, (by decide +kernel)⟩ ?_) ?_)) | (refine Exists.intro ((14, 0, 0) : aP) (And.intro (And.intro ⟨rfl, (by decide +kernel)⟩ ?_) ?_)) | (refine Exists.intro ((15, 0, 0) : aP) (And.intro (And.intro ⟨rfl, (by decide +kernel)⟩ ?_) ?_))) | (intro hh; first | exact absurd hh (by decide) | exact absurd rfl hh | (exfalso; omega) | skip) | fail)
  all_goals first | omega | (exact rfl) | (show (1 : Nat) ≤ 3; decide) | (show (60 : Nat) ≤ 156; decide) | (show (2 : Nat) ≤ 3; decide) | (show (76 : Nat) ≤ 156; decide) | (exact Nat.le_refl _) | decide | (exact hd)
theorem cI_hist (hd : 5 ≤ d) : aCt l g nX1_init d 217 1584 (some (83, r)) [.inr (.inr (.inl (7, 0, 0)))] z (fun ret s' z' => ret = none ∧ (∃ r', s' = some (300, r') ∧ (r' (7, 0, 0) 0 = true ∧ ∀ j, 0 ≤ j → j < 8 → r' (8, 0, 0) j = true ∧ mkS r' (3 + j)) ∧ ∀ q i, nH q → r' q i = r q i) ∧ (z' (7, 0, 0) 1 = 0 ∧ z' (7, 0, 0) 2 = 0) ∧ ∀ q : aP, nH q → z' q = z q) (fun _ _ _ => False) := by
  refine aCt_of kX1_init (Nat.le_of_ble_eq_true rfl) (fun B hB => ?_)
  have loop : ∀ (n m : Nat) (r1 : aP → Int → Bool) (z1 : aM), m + n = 8 → r1 (7, 0, 0) 0 = true → (∀ j, 0 ≤ j → j < (m : Int) → r1 (8, 0, 0) j = true ∧ mkS r1 (3 + j)) → (∀ q i, nH q → r1 q i = r q i) → (z1 (7, 0, 0) 1 = 0 ∧ z1 (7, 0, 0) 2 = 0) → (∀ q : aP, nH q → z1 q = z q) → B (some (84 + 27 * m, r1), 1 + 27 * m, 8 + 197 * m) z1 25 [some (.inr (.inr (.inl (7, 0, 0)))), some (.inl (m : Int))] [] := by
    intro n
    induction n with
    | zero =>
      intro m r1 z1 hm h1 h3 hf hz hg
      have e8 : m = 8 := by omega
      subst e8
      have fin : (none : Option aV) = none ∧ (∃ r', (some (84 + 27 * 8, r1) : aSt) = some (300, r') ∧ (r' (7, 0, 0) 0 = true ∧ ∀ j, 0 ≤ j → j < 8 → r' (8, 0, 0) j = true ∧ mkS r' (3 + j)) ∧ ∀ q i, nH q → r' q i = r q i) ∧ (z1 (7, 0, 0) 1 = 0 ∧ z1 (7, 0, 0) 2 = 0) ∧ ∀ q : aP, nH q → z1 q = z q := ⟨rfl, ⟨r1, rfl, ⟨h1, h3⟩, hf⟩, hz, hg⟩
      refine hB [] 1000 _ _ _ _ _ ?_
      repeat' (first | exact fin | refine And.intro ?_ ?_ | (intro hh; first | exact absurd hh (by decide) | exact absurd rfl hh | (exfalso; omega) | skip) | fail)
      all_goals first | omega | (exact rfl)
    | succ n ih =>
      intro m r1 z1 hm h1 h3 hf hz hg
      have eb := aSb_3 m
      have b := (blk_1 (s := 3 + (m : Int)) (by omega)).1
      have o1 : aOff (1, 3 + (m : Int), 0) = 84 + 27 * m := eb
      have lt8 : aOff (8, 0, 0) < 84 + 27 * m := by show 83 < 84 + 27 * m; omega
      have si := cI_state (l := l) (g := g) (d := d - 1) (z := aZr z1 (1, 3 + (m : Int), 0)) (s := 3 + (m : Int)) (r := aBf r1 (1, 3 + (m : Int), 0)) (cnt := 84 + 27 * m + 1) (by omega) (by omega) (by show aSb (3 + (m : Int)) + 1 = _; rw [eb])
      have l43 : ∀ (r2 : aP → Int → Bool) (z2 : aM), mkS r2 (3 + (m : Int)) → (∀ q i, ¬ inG (3 + (m : Int)) q → r2 q i = aBf r1 (1, 3 + (m : Int), 0) q i) → (∀ q, ¬ inG (3 + (m : Int)) q → z2 q = aZr z1 (1, 3 + (m : Int), 0) q) → B (some (84 + 27 * m + 1 + 26, r2), 1 + 27 * m + 1 + 26, 8 + 197 * m + 7 + 190) z2 43 [some (.inr (.inr (.inl (7, 0, 0)))), some (.inl (m : Int))] [.inr (.inr (.inl (1, 3 + (m : Int), 0))), .inl (m : Int), .inr (.inr (.inl (8, 0, 0)))] := by
        intro r2 z2 hk h2 hz2
        have nG : ∀ q : aP, ¬ inG (3 + (m : Int)) q → q ≠ (1, 3 + (m : Int), 0) := fun q hn e => hn (by rw [e]; exact ⟨⟨(by show 1 ≤ 1; decide), (by show 1 ≤ 6; decide)⟩, rfl⟩)
        have rz : ∀ q i, ¬ inG (3 + (m : Int)) q → r2 q i = r1 q i := fun q i hn => by rw [h2 q i hn, aBf_ne (nG q hn)]
        have zz : ∀ q, ¬ inG (3 + (m : Int)) q → z2 q = z1 q := fun q hn => by rw [hz2 q hn, aZr_ne (nG q hn)]
        have g7 : ¬ inG (3 + (m : Int)) (7, 0, 0) := fun w => by have := w.1.2; dsimp only at this; omega
        have g8 : ¬ inG (3 + (m : Int)) (8, 0, 0) := fun w => by have := w.1.2; dsimp only at this; omega
        have gN : ∀ q, nH q → ¬ inG (3 + (m : Int)) q := fun q hn w => hn.2 ⟨w.1, by rw [w.2]; omega⟩
        have nx := ih (m + 1) (aBt r2 (8, 0, 0) (m : Int)) z2 (by omega) (aBt_t (by rw [rz _ _ g7]; exact h1))
          (fun j j0 j1 => by
            by_cases e : j = (m : Int)
            · rw [e]
              exact ⟨aBt_at _ _ _, hk.tr (fun q i hq => aBt_ne (fun e => g8 (by rw [← e]; exact hq)))⟩
            · have h := h3 j j0 (by omega)
              refine ⟨aBt_t (by rw [rz _ _ g8]; exact h.1), h.2.tr (fun q i hq => ?_)⟩
              rw [aBt_ne (pne (by have := hq.1.2; show q.1 ≠ 8; omega)), rz q i (fun w => e (by have := hq.2; have := w.2; omega))])
          (fun q i hn => by rw [aBt_ne (pne hn.1.2), rz q i (gN q hn)]; exact hf q i hn)
          (by rw [zz _ g7]; exact hz)
          (fun q hn => by rw [zz q (gN q hn)]; exact hg q hn)
        have e1 : 84 + 27 * (m + 1) = 84 + 27 * m + 1 + 26 := by omega
        have e2 : 1 + 27 * (m + 1) = 1 + 27 * m + 1 + 26 := by omega
        have e3 : 8 + 197 * (m + 1) = 8 + 197 * m + 7 + 190 := by omega
        have e4 : ((m + 1 : Nat) : Int) = (m : Int) + 1 := by omega
        rw [e1, e2, e3, e4] at nx
        refine hB [25] 1000 _ _ _ _ _ ?_
        repeat' (first | exact nx | refine And.intro ?_ ?_ | (intro hh; first | exact absurd hh (by decide) | exact absurd rfl hh | (exfalso; omega) | skip) | fail)
        all_goals first | omega | (exact rfl) | (exact Or.inl rfl) | (exact Or.inr rfl) | decide
      refine hB [25, 43] 1000 _ _ _ _ _ ?_
      repeat' (first | exact (Or.inr (Or.inr ⟨26, 190, ⟨(by show 1 + 27 * m + 1 + 26 ≤ 217; omega), (by show 8 + 197 * m + 7 + 190 ≤ 1584; omega)⟩, si.mono (fun r' s' z' q => by obtain ⟨rfl, ⟨r2, rfl, q1, q2⟩, q3, q4⟩ := q; exact ⟨(by show 84 + 27 * m + 1 ≤ 84 + 27 * m + 1 + 26; omega), l43 r2 z' q1 q2 q4⟩) (fun _ _ _ q => q)⟩)) | refine And.intro ?_ ?_ | (refine Exists.intro ((1, 3 + (m : Int), 0) : aP) (And.intro (And.intro (And.intro o1 b) ?_) ?_)) | (intro hh; first | exact absurd hh (by decide) | exact absurd rfl hh | (exfalso; omega) | skip) | fail)
      all_goals first | omega | (exact rfl) | (exact h1) | (exact lt8) | (show 8 + 197 * m + 7 ≤ 1584; omega) | (show 1 + 27 * m + 1 ≤ 217; omega) | decide
  have st : ∀ z2 : aM, (z2 (7, 0, 0) 1 = 0 ∧ z2 (7, 0, 0) 2 = 0) → (∀ q : aP, nH q → z2 q = z q) → B (some (84, aBt (aBf r (8, 0, 0)) (7, 0, 0) 0), 1, 8) z2 25 [some (.inr (.inr (.inl (7, 0, 0)))), some (.inl 0)] [] := fun z2 hz2 hg2 =>
    loop 8 0 _ z2 rfl (aBt_at _ _ _) (fun j j0 j1 => by have : j < ((0 : Nat) : Int) := j1; omega) (fun q i hn => by rw [aBt_ne (pne hn.1.1), aBf_ne (pne hn.1.2)]) hz2 hg2
  refine hB [25] 1000 _ _ _ _ _ ?_
  repeat' (first | (refine st _ ⟨?_, ?_⟩ (fun q hn => ?_)) | refine And.intro ?_ ?_ | (refine Exists.intro ((8, 0, 0) : aP) (And.intro (And.intro ⟨rfl, (by decide +kernel)⟩ ?_) ?_)) | (intro hh; first | exact absurd hh (by decide) | exact absurd rfl hh | (exfalso; omega) | skip) | fail)
  all_goals first | omega | (exact rfl) | (have hn1 := pne (p := q) (q := (7, 0, 0)) hn.1.1; have hn2 := pne (p := q) (q := (8, 0, 0)) hn.1.2; simp only [aWr_ne2 hn1, aZr_ne hn2]; done) | (show (1 : Nat) ≤ 217; decide) | (show (8 : Nat) ≤ 1584; decide) | (simp [aWr_a, ud]; done) | decide

end K24
