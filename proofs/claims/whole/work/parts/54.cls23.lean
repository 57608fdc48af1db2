/-! THE CONSTRUCTORS: a state (printed by wip/whole/cls23.py) -/
/-- a state's references are made -/
def mkS (r1 : aP → Int → Bool) (s : Int) : Prop := (r1 (1, s, 0) 0 = true ∧ r1 (1, s, 0) 1 = true) ∧ (r1 (2, s, 0) 5 = true ∧ r1 (2, s, 0) 6 = true ∧ r1 (2, s, 0) 7 = true ∧ r1 (2, s, 0) 9 = true ∧ r1 (2, s, 0) 10 = true ∧ r1 (2, s, 0) 11 = true ∧ r1 (2, s, 0) 12 = true ∧ r1 (2, s, 0) 13 = true) ∧ ∀ j, 0 ≤ j → j < 8 → r1 (4, s, 0) j = true ∧ r1 (5, s, j) 3 = true
def zS (z : aM) (s : Int) : Prop := (z (2, s, 0) 0 = 0 ∧ z (2, s, 0) 1 = 0 ∧ z (2, s, 0) 2 = 5 ∧ z (2, s, 0) 3 = 600 ∧ z (2, s, 0) 4 = 0 ∧ z (2, s, 0) 8 = 0) ∧ (z (1, s, 0) 2 = 0 ∧ z (1, s, 0) 3 = 0)
def a0 : Int → Int := fun k => if k = 5 then 5 else if k = 6 then 600 else if k = 7 then -1 else 0
theorem zS.sim {z : aM} {s : Int} (h : zS z s) : Sim z s a0 := by
  obtain ⟨⟨h0, h1, h2, h3, h4, h8⟩, h5, h6⟩ := h
  refine ⟨⟨⟨⟨h0, h1⟩, ⟨h2, h3⟩, h4, h8⟩, fun k k0 k1 => ?_, fun k k0 k1 => ?_⟩, fun r r0 r1 => ?_, ⟨h5, h6⟩, fun n => absurd rfl n⟩
  · have : k < (0 : Int) := k1
    omega
  · have : k < (0 : Int) := k1
    omega
  · have : r < (0 : Int) := r1
    omega
section K23
variable {l : Launch} {g : aG} {d : Nat} {z : aM} {s : Int} {r : aP → Int → Bool} {cnt : Nat}
theorem cI_state (hd : 3 ≤ d) (hs : 0 ≤ s ∧ s ≤ 10) (hc : aOff (2, s, 0) = cnt) : aCt l g nX5_init d 26 190 (some (cnt, r)) [.inr (.inr (.inl (1, s, 0)))] z (fun ret s' z' => ret = none ∧ (∃ r', s' = some (cnt + 26, r') ∧ mkS r' s ∧ ∀ q i, ¬ inG s q → r' q i = r q i) ∧ zS z' s ∧ ∀ q : aP, ¬ inG s q → z' q = z q) (fun _ _ _ => False) := by
  have ec : cnt = aSb s + 1 := hc.symm
  have ok := blk_1 hs
  have o4 : aOff (4, s, 0) = cnt + 9 := by rw [ec]; rfl
  refine aCt_of kX5_init (Nat.le_of_ble_eq_true rfl) (fun B hB => ?_)
  have loop : ∀ (n m : Nat) (r1 : aP → Int → Bool) (z1 : aM), m + n = 8 → (r1 (1, s, 0) 0 = true ∧ r1 (1, s, 0) 1 = true) → (r1 (2, s, 0) 5 = true ∧ r1 (2, s, 0) 6 = true ∧ r1 (2, s, 0) 7 = true ∧ r1 (2, s, 0) 9 = true ∧ r1 (2, s, 0) 10 = true ∧ r1 (2, s, 0) 11 = true ∧ r1 (2, s, 0) 12 = true ∧ r1 (2, s, 0) 13 = true) → (∀ j, 0 ≤ j → j < (m : Int) → r1 (4, s, 0) j = true ∧ r1 (5, s, j) 3 = true) → (∀ q i, ¬ inG s q → r1 q i = r q i) → zS z1 s → (∀ q : aP, ¬ inG s q → z1 q = z q) → B (some (cnt + 10 + 2 * m, r1), 10 + 2 * m, 70 + 15 * m) z1 51 [some (.inr (.inr (.inl (1, s, 0)))), some (.inl (m : Int))] [] := by
    intro n
    induction n with
    | zero =>
      intro m r1 z1 hm h1 h2 h3 hf hz hg
      have e8 : m = 8 := by omega
      subst e8
      have fin : (none : Option aV) = none ∧ (∃ r', (some (cnt + 10 + 2 * 8, r1) : aSt) = some (cnt + 26, r') ∧ mkS r' s ∧ ∀ q i, ¬ inG s q → r' q i = r q i) ∧ zS z1 s ∧ ∀ q : aP, ¬ inG s q → z1 q = z q := ⟨rfl, ⟨r1, rfl, ⟨h1, h2, h3⟩, hf⟩, hz, hg⟩
      refine hB [] 1000 _ _ _ _ _ ?_
      repeat' (first | exact fin | refine And.intro ?_ ?_ | (intro hh; first | exact absurd hh (by decide) | exact absurd rfl hh | (exfalso; omega) | skip) | fail)
      all_goals first | omega | (exact rfl)
    | succ n ih =>
      intro m r1 z1 hm h1 h2 h3 hf hz hg
      have b := blk_2 (s := s) (j := (m : Int)) hs (by omega)
      have o5 : aOff (5, s, (m : Int)) = cnt + 10 + 2 * m := by
        show aSb s + 11 + 2 * ((m : Int)).toNat = cnt + 10 + 2 * m
        omega
      have o6 : aOff (6, s, (m : Int)) = cnt + 10 + 2 * m + 1 := by
        show aSb s + 12 + 2 * ((m : Int)).toNat = cnt + 10 + 2 * m + 1
        omega
      have lt4 : aOff (4, s, 0) < cnt + 10 + 2 * m := by omega
      have ri := cI_run (l := l) (g := g) (d := d - 1) (z := aZr z1 (5, s, (m : Int))) (s := s) (j := (m : Int)) (r := aBf r1 (5, s, (m : Int))) (cnt := cnt + 10 + 2 * m + 1) (by omega) hs (by omega) o6
      have l69 : ∀ z2 : aM, (∀ q, q ≠ (5, s, (m : Int)) → q ≠ (6, s, (m : Int)) → z2 q = aZr z1 (5, s, (m : Int)) q) → B (some (cnt + 10 + 2 * m + 1 + 1, aBt (aBf (aBf r1 (5, s, (m : Int))) (6, s, (m : Int))) (5, s, (m : Int)) 3), 10 + 2 * m + 1 + 1, 70 + 15 * m + 9 + 6) z2 69 [some (.inr (.inr (.inl (1, s, 0)))), some (.inl (m : Int))] [.inr (.inr (.inl (5, s, (m : Int)))), .inl (m : Int), .inr (.inr (.inl (4, s, 0)))] := by
        intro z2 h69
        have fz : ∀ q, q ≠ (5, s, (m : Int)) → q ≠ (6, s, (m : Int)) → z2 q = z1 q := fun q h5 h6 => by rw [h69 q h5 h6, aZr_ne h5]
        have g1 : z2 (1, s, 0) = z1 (1, s, 0) := fz _ (pne (by show (1 : Nat) ≠ 5; decide)) (pne (by show (1 : Nat) ≠ 6; decide))
        have g2 : z2 (2, s, 0) = z1 (2, s, 0) := fz _ (pne (by show (2 : Nat) ≠ 5; decide)) (pne (by show (2 : Nat) ≠ 6; decide))
        have rr : ∀ (q : aP) (i : Int), q ≠ (5, s, (m : Int)) → q ≠ (6, s, (m : Int)) → r1 q i = true → aBt (aBt (aBf (aBf r1 (5, s, (m : Int))) (6, s, (m : Int))) (5, s, (m : Int)) 3) (4, s, 0) (m : Int) q i = true := fun q i h5 h6 w => aBt_t (aBt_t (by rw [aBf_ne h6, aBf_ne h5]; exact w))
        have r12 : ∀ (k : Nat) (i : Int), k = 1 ∨ k = 2 → r1 (k, s, 0) i = true → aBt (aBt (aBf (aBf r1 (5, s, (m : Int))) (6, s, (m : Int))) (5, s, (m : Int)) 3) (4, s, 0) (m : Int) (k, s, 0) i = true := fun k i hk w => rr _ _ (pne (by show k ≠ 5; omega)) (pne (by show k ≠ 6; omega)) w
        have nx := ih (m + 1) (aBt (aBt (aBf (aBf r1 (5, s, (m : Int))) (6, s, (m : Int))) (5, s, (m : Int)) 3) (4, s, 0) (m : Int)) z2 (by omega) ⟨r12 1 0 (Or.inl rfl) h1.1, r12 1 1 (Or.inl rfl) h1.2⟩
          ⟨r12 2 5 (Or.inr rfl) h2.1, r12 2 6 (Or.inr rfl) h2.2.1, r12 2 7 (Or.inr rfl) h2.2.2.1, r12 2 9 (Or.inr rfl) h2.2.2.2.1, r12 2 10 (Or.inr rfl) h2.2.2.2.2.1, r12 2 11 (Or.inr rfl) h2.2.2.2.2.2.1, r12 2 12 (Or.inr rfl) h2.2.2.2.2.2.2.1, r12 2 13 (Or.inr rfl) h2.2.2.2.2.2.2.2⟩
          (fun j j0 j1 => by
            by_cases e : j = (m : Int)
            · rw [e]
              exact ⟨aBt_at _ _ _, aBt_t (aBt_at _ _ _)⟩
            · have h := h3 j j0 (by omega)
              exact ⟨rr _ _ (pne (by show (4 : Nat) ≠ 5; decide)) (pne (by show (4 : Nat) ≠ 6; decide)) h.1, rr _ _ (pnj e) (pne (by show (5 : Nat) ≠ 6; decide)) h.2⟩)
          (fun q i hn => by
            have n5 : q ≠ (5, s, (m : Int)) := fun e => hn (by rw [e]; exact ⟨⟨(by show 1 ≤ 5; decide), (by show 5 ≤ 6; decide)⟩, rfl⟩)
            have n6 : q ≠ (6, s, (m : Int)) := fun e => hn (by rw [e]; exact ⟨⟨(by show 1 ≤ 6; decide), (by show 6 ≤ 6; decide)⟩, rfl⟩)
            have n4 : q ≠ (4, s, 0) := fun e => hn (by rw [e]; exact ⟨⟨(by show 1 ≤ 4; decide), (by show 4 ≤ 6; decide)⟩, rfl⟩)
            rw [aBt_ne n4, aBt_ne n5, aBf_ne n6, aBf_ne n5]
            exact hf q i hn)
          (by unfold zS; rw [g1, g2]; exact hz)
          (fun q hn => by
            have n5 : q ≠ (5, s, (m : Int)) := fun e => hn (by rw [e]; exact ⟨⟨(by show 1 ≤ 5; decide), (by show 5 ≤ 6; decide)⟩, rfl⟩)
            have n6 : q ≠ (6, s, (m : Int)) := fun e => hn (by rw [e]; exact ⟨⟨(by show 1 ≤ 6; decide), (by show 6 ≤ 6; decide)⟩, rfl⟩)
            rw [fz q n5 n6]
            exact hg q hn)
        have e1 : cnt + 10 + 2 * (m + 1) = cnt + 10 + 2 * m + 1 + 1 := by omega
        have e2 : 10 + 2 * (m + 1) = 10 + 2 * m + 1 + 1 := by omega
        have e3 : 70 + 15 * (m + 1) = 70 + 15 * m + 9 + 6 := by omega
        have e4 : ((m + 1 : Nat) : Int) = (m : Int) + 1 := by omega
        rw [e1, e2, e3, e4] at nx
        refine hB [51] 1000 _ _ _ _ _ ?_
        repeat' (first | exact nx | refine And.intro ?_ ?_ | (intro hh; first | exact absurd hh (by decide) | exact absurd rfl hh | (exfalso; omega) | skip) | fail)
        all_goals first | omega | (exact rfl) | (exact Or.inl rfl) | (exact Or.inr rfl) | decide
      refine hB [51, 69] 1000 _ _ _ _ _ ?_
      repeat' (first | exact (Or.inr (Or.inr ⟨1, 6, ⟨(by show 10 + 2 * m + 1 + 1 ≤ 26; omega), (by show 70 + 15 * m + 9 + 6 ≤ 190; omega)⟩, ri.mono (fun r' s' z' q => by obtain ⟨rfl, rfl, q3⟩ := q; exact ⟨(by show cnt + 10 + 2 * m + 1 ≤ cnt + 10 + 2 * m + 1 + 1; omega), l69 z' q3⟩) (fun _ _ _ q => q)⟩)) | refine And.intro ?_ ?_ | (refine Exists.intro ((5, s, (m : Int)) : aP) (And.intro (And.intro (And.intro o5 b.2.1) ?_) ?_)) | (intro hh; first | exact absurd hh (by decide) | exact absurd rfl hh | (exfalso; omega) | skip) | fail)
      all_goals first | omega | (exact rfl) | (exact h1.2) | (exact lt4) | (show _ ≤ 26; dsimp only; omega) | (show 70 + 15 * m + 9 ≤ 190; omega) | (show 10 + 2 * m + 1 ≤ 26; omega) | decide
  have ci := cI_course (l := l) (g := g) (d := d - 1) (z := aZr z (2, s, 0)) (s := s) (r := aBf r (2, s, 0)) (cnt := cnt + 1) (by omega) hs (by rw [ec]; rfl)
  have l12 : ∀ (r1 : aP → Int → Bool) (z1 : aM), (∀ q i, q.1 ≠ 2 → q.1 ≠ 3 → r1 q i = aBf r (2, s, 0) q i) → (r1 (2, s, 0) 5 = true ∧ r1 (2, s, 0) 6 = true ∧ r1 (2, s, 0) 7 = true ∧ r1 (2, s, 0) 9 = true ∧ r1 (2, s, 0) 10 = true ∧ r1 (2, s, 0) 11 = true ∧ r1 (2, s, 0) 12 = true ∧ r1 (2, s, 0) 13 = true) → (∀ q i, q.2.1 ≠ s → r1 q i = aBf r (2, s, 0) q i) → (z1 (2, s, 0) 0 = 0 ∧ z1 (2, s, 0) 1 = 0 ∧ z1 (2, s, 0) 2 = 5 ∧ z1 (2, s, 0) 3 = 600 ∧ z1 (2, s, 0) 4 = 0 ∧ z1 (2, s, 0) 8 = 0) → (∀ q : aP, ¬ ((q.1 = 2 ∨ q.1 = 3) ∧ q.2.1 = s) → z1 q = aZr z (2, s, 0) q) → B (some (cnt + 9, r1), 9, 62) z1 12 [some (.inr (.inr (.inl (1, s, 0)))), none] [.inr (.inr (.inl (2, s, 0))), .inr (.inr (.inl (1, s, 0)))] := by
    intro r1 z1 f1 hco f2 hz1 hg1
    have n14 : ((1, s, 0) : aP) ≠ (4, s, 0) := pne (by show (1 : Nat) ≠ 4; decide)
    have n24 : ((2, s, 0) : aP) ≠ (4, s, 0) := pne (by show (2 : Nat) ≠ 4; decide)
    have n21 : ((2, s, 0) : aP) ≠ (1, s, 0) := pne (by show (2 : Nat) ≠ 1; decide)
    have c2 : ∀ i, r1 (2, s, 0) i = true → aBt (aBf (aBt r1 (1, s, 0) 0) (4, s, 0)) (1, s, 0) 1 (2, s, 0) i = true := fun i w => aBt_t (by rw [aBf_ne n24]; exact aBt_t w)
    have fr4 : ∀ q : aP, ¬ inG s q → q ≠ (4, s, 0) ∧ q ≠ (1, s, 0) ∧ q ≠ (2, s, 0) := fun q hn => ⟨fun e => hn (by rw [e]; exact ⟨⟨(by show 1 ≤ 4; decide), (by show 4 ≤ 6; decide)⟩, rfl⟩), fun e => hn (by rw [e]; exact ⟨⟨(by show 1 ≤ 1; decide), (by show 1 ≤ 6; decide)⟩, rfl⟩), fun e => hn (by rw [e]; exact ⟨⟨(by show 1 ≤ 2; decide), (by show 2 ≤ 6; decide)⟩, rfl⟩)⟩
    have st : ∀ z2 : aM, zS z2 s → (∀ q : aP, ¬ inG s q → z2 q = z q) → B (some (cnt + 10, aBt (aBf (aBt r1 (1, s, 0) 0) (4, s, 0)) (1, s, 0) 1), 10, 70) z2 51 [some (.inr (.inr (.inl (1, s, 0)))), some (.inl 0)] [] := fun z2 hz2 hg2 =>
      loop 8 0 _ z2 rfl ⟨aBt_t (by rw [aBf_ne n14]; exact aBt_at _ _ _), aBt_at _ _ _⟩ ⟨c2 _ hco.1, c2 _ hco.2.1, c2 _ hco.2.2.1, c2 _ hco.2.2.2.1, c2 _ hco.2.2.2.2.1, c2 _ hco.2.2.2.2.2.1, c2 _ hco.2.2.2.2.2.2.1, c2 _ hco.2.2.2.2.2.2.2⟩ (fun j j0 j1 => by have : j < ((0 : Nat) : Int) := j1; omega)
        (fun q i hn => by
          have n4 : q ≠ (4, s, 0) := fun e => hn (by rw [e]; exact ⟨⟨(by show 1 ≤ 4; decide), (by show 4 ≤ 6; decide)⟩, rfl⟩)
          have n1 : q ≠ (1, s, 0) := fun e => hn (by rw [e]; exact ⟨⟨(by show 1 ≤ 1; decide), (by show 1 ≤ 6; decide)⟩, rfl⟩)
          have n2 : q ≠ (2, s, 0) := fun e => hn (by rw [e]; exact ⟨⟨(by show 1 ≤ 2; decide), (by show 2 ≤ 6; decide)⟩, rfl⟩)
          rw [aBt_ne n1, aBf_ne n4, aBt_ne n1]
          by_cases w : q.2.1 = s
          · have k : ¬ (1 ≤ q.1 ∧ q.1 ≤ 6) := fun k => hn ⟨k, w⟩
            rw [f1 q i (by omega) (by omega), aBf_ne n2]
          · rw [f2 q i w, aBf_ne n2]) hz2 hg2
    refine hB [51] 1000 _ _ _ _ _ ?_
    repeat' (first | (refine st _ ?_ ?_) | refine And.intro ?_ ?_ | (refine Exists.intro ((4, s, 0) : aP) (And.intro (And.intro (And.intro o4 ok.2.2) ?_) ?_)) | (intro hh; first | exact absurd hh (by decide) | exact absurd rfl hh | (exfalso; omega) | skip) | fail)
    all_goals first | omega | (exact rfl) | decide | (simp only [aWr_ne2 n21, aZr_ne n24]; exact hz1.1) | (simp only [aWr_ne2 n21, aZr_ne n24]; exact hz1.2.1) | (simp only [aWr_ne2 n21, aZr_ne n24]; exact hz1.2.2.1) | (simp only [aWr_ne2 n21, aZr_ne n24]; exact hz1.2.2.2.1) | (simp only [aWr_ne2 n21, aZr_ne n24]; exact hz1.2.2.2.2.1) | (simp only [aWr_ne2 n21, aZr_ne n24]; exact hz1.2.2.2.2.2) | (simp [aWr_a, ud]; done) | (have q9 := fr4 _ hh; simp only [aWr_ne2 q9.2.1, aZr_ne q9.1]; rw [hg1 _ (fun w => hh ⟨by omega, w.2⟩), aZr_ne q9.2.2])
  refine hB [12] 1000 _ _ _ _ _ ?_
  repeat' (first | exact (Or.inr (Or.inr ⟨8, 48, ⟨(by show 1 + 8 ≤ 26; decide), (by show 14 + 48 ≤ 190; decide)⟩, ci.mono (fun r' s' z' q => by obtain ⟨rfl, ⟨r1, rfl, q1, q2, q3⟩, q4, q5⟩ := q; exact ⟨(by show cnt + 1 ≤ cnt + 1 + 8; omega), l12 r1 z' q1 q2 q3 q4 q5⟩) (fun _ _ _ q => q)⟩)) | refine And.intro ?_ ?_ | (refine Exists.intro ((2, s, 0) : aP) (And.intro (And.intro (And.intro hc ok.2.1) ?_) ?_)) | (intro hh; first | exact absurd hh (by decide) | exact absurd rfl hh | (exfalso; omega) | skip) | fail)
  all_goals first | omega | (exact rfl) | (show (1 : Nat) ≤ 26; decide) | (show (14 : Nat) ≤ 190; decide) | decide

end K23
