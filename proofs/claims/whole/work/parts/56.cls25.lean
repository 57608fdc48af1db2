/-! THE CONSTRUCTORS: the trial (printed by wip/whole/cls25.py) -/
theorem mkS.st {r1 r2 : aP → Int → Bool} {s t : Int} {f : aP → Int → Bool} (h : mkS r1 s) (n : s ≠ t) (e : ∀ q i, ¬ inG t q → r2 q i = aBf f (1, t, 0) q i) (e2 : ∀ q i, 1 ≤ q.1 → q.1 ≤ 6 → f q i = r1 q i) : mkS r2 s := h.tr (fun q i hq => by
  have nq : q.2.1 ≠ t := by rw [hq.2]; exact n
  rw [e q i (fun w => nq w.2), aBf_ne (fun w => nq (by rw [w])), e2 q i hq.1.1 hq.1.2])
theorem mkS.o {r1 r2 : aP → Int → Bool} {s : Int} (h : mkS r1 s) (e2 : ∀ q i, 1 ≤ q.1 → q.1 ≤ 6 → r2 q i = r1 q i) : mkS r2 s := h.tr (fun q i hq => e2 q i hq.1.1 hq.1.2)
/-- every reference of the trial is made -/
def mkT (r : aP → Int → Bool) : Prop := (mkS r 0 ∧ mkS r 1 ∧ mkS r 2) ∧ (r (7, 0, 0) 0 = true ∧ ∀ j, 0 ≤ j → j < 8 → r (8, 0, 0) j = true ∧ mkS r (3 + j)) ∧ (r (0, 0, 0) 0 = true ∧ r (0, 0, 0) 1 = true ∧ r (0, 0, 0) 2 = true ∧ r (0, 0, 0) 4 = true ∧ r (0, 0, 0) 5 = true ∧ r (0, 0, 0) 6 = true ∧ r (0, 0, 0) 7 = true) ∧ r (10, 0, 0) 0 = true ∧ r (12, 0, 0) 0 = true ∧ r (12, 0, 0) 3 = true ∧ r (12, 0, 0) 4 = true
def zT (z : aM) : Prop := zS z 0 ∧ (z (0, 0, 0) 3 = 0 ∧ z (0, 0, 0) 8 = -1 ∧ z (0, 0, 0) 9 = -1) ∧ (z (7, 0, 0) 1 = 0 ∧ z (7, 0, 0) 2 = 0) ∧ z (10, 0, 0) 1 = 0 ∧ z (12, 0, 0) 1 = 0
def kF (r r1 : aP → Int → Bool) (z z1 : aM) : Prop := ∀ q : aP, 16 ≤ q.1 → z1 q = z q ∧ ∀ i, r1 q i = r q i
theorem zS.o {z z1 : aM} {s : Int} (h : zS z s) (e1 : z1 (1, s, 0) = z (1, s, 0)) (e2 : z1 (2, s, 0) = z (2, s, 0)) : zS z1 s := by unfold zS; rw [e1, e2]; exact h
section K25
variable {l : Launch} {g : aG} {d : Nat} {z : aM} {r : aP → Int → Bool}
theorem cI_trial (hd : 7 ≤ d) : aCt l g nX6_init d 306 2414 (some (1, r)) [.inr (.inr (.inl (0, 0, 0)))] z (fun ret s' z' => ret = none ∧ (∃ r', s' = some (307, r') ∧ mkT r' ∧ kF r r' z z') ∧ zT z') (fun _ _ _ => False) := by
  refine aCt_of kX6_init (Nat.le_of_ble_eq_true rfl) (fun B hB => ?_)
  have l80 : ∀ (r1 : aP → Int → Bool) (z1 : aM), (mkS r1 0 ∧ mkS r1 1 ∧ mkS r1 2) → (r1 (7, 0, 0) 0 = true ∧ ∀ j, 0 ≤ j → j < 8 → r1 (8, 0, 0) j = true ∧ mkS r1 (3 + j)) → (r1 (0, 0, 0) 0 = true ∧ r1 (0, 0, 0) 1 = true ∧ r1 (0, 0, 0) 2 = true ∧ r1 (0, 0, 0) 4 = true ∧ r1 (0, 0, 0) 5 = true ∧ r1 (0, 0, 0) 6 = true) → (r1 (10, 0, 0) 0 = true ∧ r1 (12, 0, 0) 0 = true ∧ r1 (12, 0, 0) 3 = true ∧ r1 (12, 0, 0) 4 = true) → zS z1 0 → z1 (0, 0, 0) 3 = 0 → (z1 (7, 0, 0) 1 = 0 ∧ z1 (7, 0, 0) 2 = 0) → z1 (10, 0, 0) 1 = 0 → z1 (12, 0, 0) 1 = 0 → kF r r1 z z1 → B (some (307, r1), 306, 2414) z1 80 [some (.inr (.inr (.inl (0, 0, 0))))] [.inr (.inr (.inl (12, 0, 0))), .inr (.inr (.inl (0, 0, 0)))] := by
    intro r1 z1 h1 h2 h3 h4 h5 h6 h7 h8 h9 h10
    have b0 : ∀ q i, q ≠ (0, 0, 0) → aBt r1 (0, 0, 0) 7 q i = r1 q i := fun q i n => aBt_ne n
    have bS : ∀ s, mkS r1 s → mkS (aBt r1 (0, 0, 0) 7) s := fun s h => h.o (fun q i q0 q1 => b0 q i (pne (by show q.1 ≠ 0; omega)))
    have w : ∀ q : aP, q ≠ (0, 0, 0) → aWr (aWr z1 (0, 0, 0) 8 (-1)) (0, 0, 0) 9 (-1) q = z1 q := fun q n => by rw [aWr_ne2 n, aWr_ne2 n]
    have fin : (none : Option aV) = none ∧ (∃ r', (some (307, aBt r1 (0, 0, 0) 7) : aSt) = some (307, r') ∧ mkT r' ∧ kF r r' z (aWr (aWr z1 (0, 0, 0) 8 (-1)) (0, 0, 0) 9 (-1))) ∧ zT (aWr (aWr z1 (0, 0, 0) 8 (-1)) (0, 0, 0) 9 (-1)) := by
      refine ⟨rfl, ⟨_, rfl, ⟨⟨bS _ h1.1, bS _ h1.2.1, bS _ h1.2.2⟩, ⟨by rw [b0 _ _ (by decide)]; exact h2.1, fun j j0 j1 => ⟨by rw [b0 _ _ (by decide)]; exact (h2.2 j j0 j1).1, bS _ (h2.2 j j0 j1).2⟩⟩, ⟨aBt_t h3.1, aBt_t h3.2.1, aBt_t h3.2.2.1, aBt_t h3.2.2.2.1, aBt_t h3.2.2.2.2.1, aBt_t h3.2.2.2.2.2, aBt_at _ _ _⟩, aBt_t h4.1, aBt_t h4.2.1, aBt_t h4.2.2.1, aBt_t h4.2.2.2⟩, fun q hq => ⟨by rw [w q (pne (by show q.1 ≠ 0; omega))]; exact (h10 q hq).1, fun i => by rw [b0 q i (pne (by show q.1 ≠ 0; omega))]; exact (h10 q hq).2 i⟩⟩, h5.o (w _ (by decide)) (w _ (by decide)), ⟨?_, ?_, aWr_k _ _ _ _⟩, by rw [w _ (by decide)]; exact h7, by rw [w _ (by decide)]; exact h8, by rw [w _ (by decide)]; exact h9⟩
      · rw [aWr_j (by decide), aWr_j (by decide)]; exact h6
      · rw [aWr_j (by decide), aWr_k]
    refine hB [] 1000 _ _ _ _ _ ?_
    repeat' (first | exact fin | refine And.intro ?_ ?_ | (intro hh; first | exact absurd hh (by decide) | exact absurd rfl hh | (exfalso; omega) | skip) | fail)
    all_goals first | omega | (exact rfl) | decide
  have l69 : ∀ (r1 : aP → Int → Bool) (z1 : aM), (mkS r1 0 ∧ mkS r1 1 ∧ mkS r1 2) → (r1 (7, 0, 0) 0 = true ∧ ∀ j, 0 ≤ j → j < 8 → r1 (8, 0, 0) j = true ∧ mkS r1 (3 + j)) → (r1 (0, 0, 0) 0 = true ∧ r1 (0, 0, 0) 1 = true ∧ r1 (0, 0, 0) 2 = true ∧ r1 (0, 0, 0) 4 = true ∧ r1 (0, 0, 0) 5 = true) → r1 (10, 0, 0) 0 = true → zS z1 0 → z1 (0, 0, 0) 3 = 0 → (z1 (7, 0, 0) 1 = 0 ∧ z1 (7, 0, 0) 2 = 0) → z1 (10, 0, 0) 1 = 0 → kF r r1 z z1 → B (some (303, r1), 302, 2252) z1 69 [some (.inr (.inr (.inl (0, 0, 0))))] [.inr (.inr (.inl (10, 0, 0))), .inr (.inr (.inl (0, 0, 0)))] := by
    intro r1 z1 h1 h2 h3 h4 h5 h6 h7 h8 h10
    have pi := cI_prog (l := l) (g := g) (d := d - 1) (z := aZr z1 (12, 0, 0)) (r := aBf (aBt r1 (0, 0, 0) 6) (12, 0, 0)) (by omega)
    obtain ⟨r2, er⟩ : ∃ r2, r2 = aBt (aBf (aBt (aBf (aBt (aBf (aBf (aBt r1 (0, 0, 0) 6) (12, 0, 0)) (13, 0, 0)) (12, 0, 0) 0) (14, 0, 0)) (12, 0, 0) 3) (15, 0, 0)) (12, 0, 0) 4 := ⟨_, rfl⟩
    rw [← er] at pi
    have ro : ∀ q i, q.1 ≠ 0 → q.1 ≠ 12 → q.1 ≠ 13 → q.1 ≠ 14 → q.1 ≠ 15 → r2 q i = r1 q i := fun q i n0 n2 n3 n4 n5 => by rw [er, aBt_ne (pne n2), aBf_ne (pne n5), aBt_ne (pne n2), aBf_ne (pne n4), aBt_ne (pne n2), aBf_ne (pne n3), aBf_ne (pne n2), aBt_ne (pne n0)]
    have r0 : ∀ i, r2 (0, 0, 0) i = aBt r1 (0, 0, 0) 6 (0, 0, 0) i := fun i => by rw [er, aBt_ne (by decide), aBf_ne (by decide), aBt_ne (by decide), aBf_ne (by decide), aBt_ne (by decide), aBf_ne (by decide), aBf_ne (by decide)]
    have p4 : r2 (12, 0, 0) 4 = true := by rw [er]; exact aBt_at _ _ _
    have p3 : r2 (12, 0, 0) 3 = true := by rw [er]; exact aBt_t (by rw [aBf_ne (by decide)]; exact aBt_at _ _ _)
    have p0 : r2 (12, 0, 0) 0 = true := by rw [er]; exact aBt_t (by rw [aBf_ne (by decide)]; exact aBt_t (by rw [aBf_ne (by decide)]; exact aBt_at _ _ _))
    have rS : ∀ s, mkS r1 s → mkS r2 s := fun s h => h.o (fun q i q0 q1 => ro q i (by omega) (by omega) (by omega) (by omega) (by omega))
    have nx : ∀ z2 : aM, z2 (12, 0, 0) 1 = 0 → (∀ q, q ≠ (12, 0, 0) → q ≠ (13, 0, 0) → q ≠ (14, 0, 0) → q ≠ (15, 0, 0) → z2 q = aZr z1 (12, 0, 0) q) → B (some (307, r2), 306, 2414) z2 80 [some (.inr (.inr (.inl (0, 0, 0))))] [.inr (.inr (.inl (12, 0, 0))), .inr (.inr (.inl (0, 0, 0)))] := by
      intro z2 k1 k2
      have zo : ∀ q : aP, q.1 ≠ 12 → q.1 ≠ 13 → q.1 ≠ 14 → q.1 ≠ 15 → z2 q = z1 q := fun q n2 n3 n4 n5 => by rw [k2 q (pne n2) (pne n3) (pne n4) (pne n5), aZr_ne (pne n2)]
      refine l80 r2 z2 ⟨rS _ h1.1, rS _ h1.2.1, rS _ h1.2.2⟩ ⟨by rw [ro _ _ (by decide) (by decide) (by decide) (by decide) (by decide)]; exact h2.1, fun j j0 j1 => ⟨by rw [ro _ _ (by decide) (by decide) (by decide) (by decide) (by decide)]; exact (h2.2 j j0 j1).1, rS _ (h2.2 j j0 j1).2⟩⟩ ?_ ⟨by rw [ro _ _ (by decide) (by decide) (by decide) (by decide) (by decide)]; exact h4, p0, p3, p4⟩ (h5.o (zo _ (by decide) (by decide) (by decide) (by decide)) (zo _ (by decide) (by decide) (by decide) (by decide))) (by rw [zo _ (by decide) (by decide) (by decide) (by decide)]; exact h6) (by rw [zo _ (by decide) (by decide) (by decide) (by decide)]; exact h7) (by rw [zo _ (by decide) (by decide) (by decide) (by decide)]; exact h8) k1 (fun q hq => ⟨by rw [zo q (by omega) (by omega) (by omega) (by omega)]; exact (h10 q hq).1, fun i => by rw [ro q i (by omega) (by omega) (by omega) (by omega) (by omega)]; exact (h10 q hq).2 i⟩)
      simp only [r0]
      exact ⟨aBt_t h3.1, aBt_t h3.2.1, aBt_t h3.2.2.1, aBt_t h3.2.2.2.1, aBt_t h3.2.2.2.2, aBt_at _ _ _⟩
    refine hB [80] 1000 _ _ _ _ _ ?_
    repeat' (first | exact (Or.inr (Or.inr ⟨3, 156, ⟨(by show 303 + 3 ≤ 306; decide), (by show 2258 + 156 ≤ 2414; decide)⟩, pi.mono (fun r' s' z' q => by obtain ⟨rfl, rfl, q1, q2⟩ := q; exact ⟨(by show 304 ≤ 307; decide), nx z' q1 q2⟩) (fun _ _ _ q => q)⟩)) | refine And.intro ?_ ?_ | (refine Exists.intro ((12, 0, 0) : aP) (And.intro (And.intro ⟨rfl, (by decide +kernel)⟩ ?_) ?_)) | (intro hh; first | exact absurd hh (by decide) | exact absurd rfl hh | (exfalso; omega) | skip) | fail)
    all_goals first | omega | (exact rfl) | (show (303 : Nat) ≤ 306; decide) | (show (2258 : Nat) ≤ 2414; decide) | decide

  have l50 : ∀ (r1 : aP → Int → Bool) (z1 : aM), (mkS r1 0 ∧ mkS r1 1 ∧ mkS r1 2) → (r1 (7, 0, 0) 0 = true ∧ ∀ j, 0 ≤ j → j < 8 → r1 (8, 0, 0) j = true ∧ mkS r1 (3 + j)) → (r1 (0, 0, 0) 0 = true ∧ r1 (0, 0, 0) 1 = true ∧ r1 (0, 0, 0) 2 = true) → zS z1 0 → z1 (0, 0, 0) 3 = 0 → (z1 (7, 0, 0) 1 = 0 ∧ z1 (7, 0, 0) 2 = 0) → kF r r1 z z1 → B (some (300, r1), 299, 2178) z1 50 [some (.inr (.inr (.inl (0, 0, 0))))] [.inr (.inr (.inl (7, 0, 0))), .inr (.inr (.inl (0, 0, 0)))] := by
    intro r1 z1 h1 h2 h3 h5 h6 h7 h10
    have li := cI_line (l := l) (g := g) (d := d - 1) (z := aZr (aZr z1 (9, 0, 0)) (10, 0, 0)) (r := aBf (aBt (aBf (aBt r1 (0, 0, 0) 4) (9, 0, 0)) (0, 0, 0) 5) (10, 0, 0)) (by omega)
    obtain ⟨r2, er⟩ : ∃ r2, r2 = aBt (aBf (aBf (aBt (aBf (aBt r1 (0, 0, 0) 4) (9, 0, 0)) (0, 0, 0) 5) (10, 0, 0)) (11, 0, 0)) (10, 0, 0) 0 := ⟨_, rfl⟩
    rw [← er] at li
    have ro : ∀ q i, q.1 ≠ 0 → q.1 ≠ 9 → q.1 ≠ 10 → q.1 ≠ 11 → r2 q i = r1 q i := fun q i n0 n2 n3 n4 => by rw [er, aBt_ne (pne n3), aBf_ne (pne n4), aBf_ne (pne n3), aBt_ne (pne n0), aBf_ne (pne n2), aBt_ne (pne n0)]
    have r0 : ∀ i, r2 (0, 0, 0) i = aBt (aBf (aBt r1 (0, 0, 0) 4) (9, 0, 0)) (0, 0, 0) 5 (0, 0, 0) i := fun i => by rw [er, aBt_ne (by decide), aBf_ne (by decide), aBf_ne (by decide)]
    have r4 : ∀ i, aBt r1 (0, 0, 0) 4 (0, 0, 0) i = true → r2 (0, 0, 0) i = true := fun i w => by rw [r0]; exact aBt_t (by rw [aBf_ne (by decide)]; exact w)
    have rS : ∀ s, mkS r1 s → mkS r2 s := fun s h => h.o (fun q i q0 q1 => ro q i (by omega) (by omega) (by omega) (by omega))
    have nx : ∀ z2 : aM, z2 (10, 0, 0) 1 = 0 → (∀ q, q ≠ (10, 0, 0) → q ≠ (11, 0, 0) → z2 q = aZr (aZr z1 (9, 0, 0)) (10, 0, 0) q) → B (some (303, r2), 302, 2252) z2 69 [some (.inr (.inr (.inl (0, 0, 0))))] [.inr (.inr (.inl (10, 0, 0))), .inr (.inr (.inl (0, 0, 0)))] := by
      intro z2 k1 k2
      have zo : ∀ q : aP, q.1 ≠ 9 → q.1 ≠ 10 → q.1 ≠ 11 → z2 q = z1 q := fun q n2 n3 n4 => by rw [k2 q (pne n3) (pne n4), aZr_ne (pne n3), aZr_ne (pne n2)]
      exact l69 r2 z2 ⟨rS _ h1.1, rS _ h1.2.1, rS _ h1.2.2⟩ ⟨by rw [ro _ _ (by decide) (by decide) (by decide) (by decide)]; exact h2.1, fun j j0 j1 => ⟨by rw [ro _ _ (by decide) (by decide) (by decide) (by decide)]; exact (h2.2 j j0 j1).1, rS _ (h2.2 j j0 j1).2⟩⟩ ⟨r4 _ (aBt_t h3.1), r4 _ (aBt_t h3.2.1), r4 _ (aBt_t h3.2.2), r4 _ (aBt_at _ _ _), by rw [r0]; exact aBt_at _ _ _⟩ (by rw [er]; exact aBt_at _ _ _) (h5.o (zo _ (by decide) (by decide) (by decide)) (zo _ (by decide) (by decide) (by decide))) (by rw [zo _ (by decide) (by decide) (by decide)]; exact h6) (by rw [zo _ (by decide) (by decide) (by decide)]; exact h7) k1 (fun q hq => ⟨by rw [zo q (by omega) (by omega) (by omega)]; exact (h10 q hq).1, fun i => by rw [ro q i (by omega) (by omega) (by omega) (by omega)]; exact (h10 q hq).2 i⟩)
    refine hB [69] 1000 _ _ _ _ _ ?_
    repeat' (first | exact (Or.inr (Or.inr ⟨1, 64, ⟨(by show 301 + 1 ≤ 306; decide), (by show 2188 + 64 ≤ 2414; decide)⟩, li.mono (fun r' s' z' q => by obtain ⟨rfl, rfl, q1, q2⟩ := q; exact ⟨(by show 302 ≤ 303; decide), nx z' q1 q2⟩) (fun _ _ _ q => q)⟩)) | refine And.intro ?_ ?_ | (first | (refine Exists.intro ((9, 0, 0) : aP) (And.intro (And.intro ⟨rfl, (by decide +kernel)⟩ ?_) ?_)) | (refine Exists.intro ((10, 0, 0) : aP) (And.intro (And.intro ⟨rfl, (by decide +kernel)⟩ ?_) ?_))) | (intro hh; first | exact absurd hh (by decide) | exact absurd rfl hh | (exfalso; omega) | skip) | fail)
    all_goals first | omega | (exact rfl) | (show (300 : Nat) ≤ 306; decide) | (show (2186 : Nat) ≤ 2414; decide) | (show (301 : Nat) ≤ 306; decide) | (show (2188 : Nat) ≤ 2414; decide) | decide
  have l34 : ∀ (r1 : aP → Int → Bool) (z1 : aM), (mkS r1 0 ∧ mkS r1 1 ∧ mkS r1 2) → (r1 (0, 0, 0) 0 = true ∧ r1 (0, 0, 0) 1 = true) → zS z1 0 → kF r r1 z z1 → B (some (82, r1), 81, 591) z1 34 [some (.inr (.inr (.inl (0, 0, 0))))] [.inr (.inr (.inl (1, 2, 0))), .inr (.inr (.inl (0, 0, 0)))] := by
    intro r1 z1 h1 h3 h5 h10
    have hi := cI_hist (l := l) (g := g) (d := d - 1) (z := aZr (aWr z1 (0, 0, 0) 3 0) (7, 0, 0)) (r := aBf (aBt r1 (0, 0, 0) 2) (7, 0, 0)) (by omega)
    have nx : ∀ (r2 : aP → Int → Bool) (z2 : aM), (r2 (7, 0, 0) 0 = true ∧ ∀ j, 0 ≤ j → j < 8 → r2 (8, 0, 0) j = true ∧ mkS r2 (3 + j)) → (∀ q i, nH q → r2 q i = aBf (aBt r1 (0, 0, 0) 2) (7, 0, 0) q i) → (z2 (7, 0, 0) 1 = 0 ∧ z2 (7, 0, 0) 2 = 0) → (∀ q, nH q → z2 q = aZr (aWr z1 (0, 0, 0) 3 0) (7, 0, 0) q) → B (some (300, r2), 299, 2178) z2 50 [some (.inr (.inr (.inl (0, 0, 0))))] [.inr (.inr (.inl (7, 0, 0))), .inr (.inr (.inl (0, 0, 0)))] := by
      intro r2 z2 k0 k1 k3 k2
      have ro : ∀ q i, nH q → q.1 ≠ 0 → r2 q i = r1 q i := fun q i n n0 => by rw [k1 q i n, aBf_ne (pne n.1.1), aBt_ne (pne n0)]
      have n0 : nH (0, 0, 0) := ⟨⟨by decide, by decide⟩, fun w => by have := w.1.1; dsimp only at this; omega⟩
      have r0 : ∀ i, aBt r1 (0, 0, 0) 2 (0, 0, 0) i = true → r2 (0, 0, 0) i = true := fun i w => by rw [k1 _ i n0, aBf_ne (by decide)]; exact w
      have zo : ∀ q : aP, nH q → q.1 ≠ 0 → z2 q = z1 q := fun q n n0 => by rw [k2 q n, aZr_ne (pne n.1.1), aWr_ne2 (pne n0)]
      have nS : ∀ (k : Nat) (s j : Int), 1 ≤ k → k ≤ 6 → s < 3 → nH (k, s, j) := fun k s j w0 w1 w2 => ⟨⟨by show k ≠ 7; omega, by show k ≠ 8; omega⟩, fun w => by have := w.2; dsimp only at this; omega⟩
      have rS : ∀ s, s < 3 → mkS r1 s → mkS r2 s := fun s hs h => h.tr (fun q i hq => ro q i ⟨⟨by have := hq.1.2; omega, by have := hq.1.2; omega⟩, fun w => by have := hq.2; have := w.2; omega⟩ (by have := hq.1.1; omega))
      exact l50 r2 z2 ⟨rS _ (by decide) h1.1, rS _ (by decide) h1.2.1, rS _ (by decide) h1.2.2⟩ k0 ⟨r0 _ (aBt_t h3.1), r0 _ (aBt_t h3.2), r0 _ (aBt_at _ _ _)⟩ (h5.o (zo _ (nS 1 0 0 (by decide) (by decide) (by decide)) (by decide)) (zo _ (nS 2 0 0 (by decide) (by decide) (by decide)) (by decide))) (by rw [k2 _ n0, aZr_ne (by decide), aWr_k]) k3 (fun q hq => by
        have nq : nH q := ⟨⟨by omega, by omega⟩, fun w => by have := w.1.2; omega⟩
        exact ⟨by rw [zo q nq (by omega)]; exact (h10 q hq).1, fun i => by rw [ro q i nq (by omega)]; exact (h10 q hq).2 i⟩)
    refine hB [50] 1000 _ _ _ _ _ ?_
    repeat' (first | exact (Or.inr (Or.inr ⟨217, 1584, ⟨(by show 82 + 217 ≤ 306; decide), (by show 594 + 1584 ≤ 2414; decide)⟩, hi.mono (fun r' s' z' q => by obtain ⟨rfl, ⟨r2, rfl, q1, q2⟩, q3, q4⟩ := q; exact ⟨(by show 83 ≤ 300; decide), nx r2 z' q1 q2 q3 q4⟩) (fun _ _ _ q => q)⟩)) | refine And.intro ?_ ?_ | (refine Exists.intro ((7, 0, 0) : aP) (And.intro (And.intro ⟨rfl, (by decide +kernel)⟩ ?_) ?_)) | (intro hh; first | exact absurd hh (by decide) | exact absurd rfl hh | (exfalso; omega) | skip) | fail)
    all_goals first | omega | (exact rfl) | (exact Or.inl rfl) | (show (82 : Nat) ≤ 306; decide) | (show (594 : Nat) ≤ 2414; decide) | decide
  have l23 : ∀ (r1 : aP → Int → Bool) (z1 : aM), (mkS r1 0 ∧ mkS r1 1) → r1 (0, 0, 0) 0 = true → zS z1 0 → kF r r1 z z1 → B (some (55, r1), 54, 394) z1 23 [some (.inr (.inr (.inl (0, 0, 0))))] [.inr (.inr (.inl (1, 1, 0))), .inr (.inr (.inl (0, 0, 0)))] := by
    intro r1 z1 h1 h3 h5 h10
    have si := cI_state (l := l) (g := g) (d := d - 1) (z := aZr z1 (1, 2, 0)) (s := 2) (r := aBf (aBt r1 (0, 0, 0) 1) (1, 2, 0)) (cnt := 56) (by omega) (by decide) rfl
    have nx : ∀ (r2 : aP → Int → Bool) (z2 : aM), mkS r2 2 → (∀ q i, ¬ inG 2 q → r2 q i = aBf (aBt r1 (0, 0, 0) 1) (1, 2, 0) q i) → (∀ q, ¬ inG 2 q → z2 q = aZr z1 (1, 2, 0) q) → B (some (82, r2), 81, 591) z2 34 [some (.inr (.inr (.inl (0, 0, 0))))] [.inr (.inr (.inl (1, 2, 0))), .inr (.inr (.inl (0, 0, 0)))] := by
      intro r2 z2 k0 k1 k2
      have n0 : ¬ inG 2 (0, 0, 0) := fun w => by have := w.1.1; dsimp only at this; omega
      have e6 : ∀ q i, 1 ≤ q.1 → q.1 ≤ 6 → aBt r1 (0, 0, 0) 1 q i = r1 q i := fun q i q0 q1 => aBt_ne (pne (by show q.1 ≠ 0; omega))
      have r0 : ∀ i, aBt r1 (0, 0, 0) 1 (0, 0, 0) i = true → r2 (0, 0, 0) i = true := fun i w => by rw [k1 _ i n0, aBf_ne (by decide)]; exact w
      have zo : ∀ q : aP, ¬ inG 2 q → q ≠ (1, 2, 0) → z2 q = z1 q := fun q n n1 => by rw [k2 q n, aZr_ne n1]
      refine l34 r2 z2 ⟨h1.1.st (by decide) k1 e6, h1.2.st (by decide) k1 e6, k0⟩ ⟨r0 _ (aBt_t h3), r0 _ (aBt_at _ _ _)⟩ (h5.o (zo _ (fun w => absurd w.2 (by show ¬ ((0 : Int) = 2); decide)) (by decide)) (zo _ (fun w => absurd w.2 (by show ¬ ((0 : Int) = 2); decide)) (by decide))) (fun q hq => ?_)
      have nq : ¬ inG 2 q := fun w => by have := w.1.2; omega
      exact ⟨by rw [zo q nq (pne (by show q.1 ≠ 1; omega))]; exact (h10 q hq).1, fun i => by rw [k1 q i nq, aBf_ne (pne (by show q.1 ≠ 1; omega)), aBt_ne (pne (by show q.1 ≠ 0; omega))]; exact (h10 q hq).2 i⟩
    refine hB [34] 1000 _ _ _ _ _ ?_
    repeat' (first | exact (Or.inr (Or.inr ⟨26, 190, ⟨(by show 55 + 26 ≤ 306; decide), (by show 401 + 190 ≤ 2414; decide)⟩, si.mono (fun r' s' z' q => by obtain ⟨rfl, ⟨r2, rfl, q1, q2⟩, q3, q4⟩ := q; exact ⟨(by show 56 ≤ 82; decide), nx r2 z' q1 q2 q4⟩) (fun _ _ _ q => q)⟩)) | refine And.intro ?_ ?_ | (refine Exists.intro ((1, 2, 0) : aP) (And.intro (And.intro ⟨rfl, (by decide +kernel)⟩ ?_) ?_)) | (intro hh; first | exact absurd hh (by decide) | exact absurd rfl hh | (exfalso; omega) | skip) | fail)
    all_goals first | omega | (exact rfl) | (show (55 : Nat) ≤ 306; decide) | (show (401 : Nat) ≤ 2414; decide) | decide
  have l12 : ∀ (r1 : aP → Int → Bool) (z1 : aM), mkS r1 0 → zS z1 0 → kF r r1 z z1 → B (some (28, r1), 27, 197) z1 12 [some (.inr (.inr (.inl (0, 0, 0))))] [.inr (.inr (.inl (1, 0, 0))), .inr (.inr (.inl (0, 0, 0)))] := by
    intro r1 z1 h1 h5 h10
    have si := cI_state (l := l) (g := g) (d := d - 1) (z := aZr z1 (1, 1, 0)) (s := 1) (r := aBf (aBt r1 (0, 0, 0) 0) (1, 1, 0)) (cnt := 29) (by omega) (by decide) rfl
    have nx : ∀ (r2 : aP → Int → Bool) (z2 : aM), mkS r2 1 → (∀ q i, ¬ inG 1 q → r2 q i = aBf (aBt r1 (0, 0, 0) 0) (1, 1, 0) q i) → (∀ q, ¬ inG 1 q → z2 q = aZr z1 (1, 1, 0) q) → B (some (55, r2), 54, 394) z2 23 [some (.inr (.inr (.inl (0, 0, 0))))] [.inr (.inr (.inl (1, 1, 0))), .inr (.inr (.inl (0, 0, 0)))] := by
      intro r2 z2 k0 k1 k2
      have n0 : ¬ inG 1 (0, 0, 0) := fun w => by have := w.1.1; dsimp only at this; omega
      have e6 : ∀ q i, 1 ≤ q.1 → q.1 ≤ 6 → aBt r1 (0, 0, 0) 0 q i = r1 q i := fun q i q0 q1 => aBt_ne (pne (by show q.1 ≠ 0; omega))
      have r0 : ∀ i, aBt r1 (0, 0, 0) 0 (0, 0, 0) i = true → r2 (0, 0, 0) i = true := fun i w => by rw [k1 _ i n0, aBf_ne (by decide)]; exact w
      have zo : ∀ q : aP, ¬ inG 1 q → q ≠ (1, 1, 0) → z2 q = z1 q := fun q n n1 => by rw [k2 q n, aZr_ne n1]
      refine l23 r2 z2 ⟨h1.st (by decide) k1 e6, k0⟩ (r0 _ (aBt_at _ _ _)) (h5.o (zo _ (fun w => absurd w.2 (by show ¬ ((0 : Int) = 1); decide)) (by decide)) (zo _ (fun w => absurd w.2 (by show ¬ ((0 : Int) = 1); decide)) (by decide))) (fun q hq => ?_)
      have nq : ¬ inG 1 q := fun w => by have := w.1.2; omega
      exact ⟨by rw [zo q nq (pne (by show q.1 ≠ 1; omega))]; exact (h10 q hq).1, fun i => by rw [k1 q i nq, aBf_ne (pne (by show q.1 ≠ 1; omega)), aBt_ne (pne (by show q.1 ≠ 0; omega))]; exact (h10 q hq).2 i⟩
    refine hB [23] 1000 _ _ _ _ _ ?_
    repeat' (first | exact (Or.inr (Or.inr ⟨26, 190, ⟨(by show 28 + 26 ≤ 306; decide), (by show 204 + 190 ≤ 2414; decide)⟩, si.mono (fun r' s' z' q => by obtain ⟨rfl, ⟨r2, rfl, q1, q2⟩, q3, q4⟩ := q; exact ⟨(by show 29 ≤ 55; decide), nx r2 z' q1 q2 q4⟩) (fun _ _ _ q => q)⟩)) | refine And.intro ?_ ?_ | (refine Exists.intro ((1, 1, 0) : aP) (And.intro (And.intro ⟨rfl, (by decide +kernel)⟩ ?_) ?_)) | (intro hh; first | exact absurd hh (by decide) | exact absurd rfl hh | (exfalso; omega) | skip) | fail)
    all_goals first | omega | (exact rfl) | (show (28 : Nat) ≤ 306; decide) | (show (204 : Nat) ≤ 2414; decide) | decide
  have si := cI_state (l := l) (g := g) (d := d - 1) (z := aZr z (1, 0, 0)) (s := 0) (r := aBf r (1, 0, 0)) (cnt := 2) (by omega) (by decide) rfl
  have nx : ∀ (r2 : aP → Int → Bool) (z2 : aM), mkS r2 0 → (∀ q i, ¬ inG 0 q → r2 q i = aBf r (1, 0, 0) q i) → zS z2 0 → (∀ q, ¬ inG 0 q → z2 q = aZr z (1, 0, 0) q) → B (some (28, r2), 27, 197) z2 12 [some (.inr (.inr (.inl (0, 0, 0))))] [.inr (.inr (.inl (1, 0, 0))), .inr (.inr (.inl (0, 0, 0)))] := by
    intro r2 z2 k0 k1 k3 k2
    refine l12 r2 z2 k0 k3 (fun q hq => ?_)
    have nq : ¬ inG 0 q := fun w => by have := w.1.2; omega
    exact ⟨by rw [k2 q nq, aZr_ne (pne (by show q.1 ≠ 1; omega))], fun i => by rw [k1 q i nq, aBf_ne (pne (by show q.1 ≠ 1; omega))]⟩
  refine hB [12] 1000 _ _ _ _ _ ?_
  repeat' (first | exact (Or.inr (Or.inr ⟨26, 190, ⟨(by show 1 + 26 ≤ 306; decide), (by show 7 + 190 ≤ 2414; decide)⟩, si.mono (fun r' s' z' q => by obtain ⟨rfl, ⟨r2, rfl, q1, q2⟩, q3, q4⟩ := q; exact ⟨(by show 2 ≤ 28; decide), nx r2 z' q1 q2 q3 q4⟩) (fun _ _ _ q => q)⟩)) | refine And.intro ?_ ?_ | (refine Exists.intro ((1, 0, 0) : aP) (And.intro (And.intro ⟨rfl, (by decide +kernel)⟩ ?_) ?_)) | (intro hh; first | exact absurd hh (by decide) | exact absurd rfl hh | (exfalso; omega) | skip) | fail)
  all_goals first | omega | (exact rfl) | (show (1 : Nat) ≤ 306; decide) | (show (7 : Nat) ≤ 2414; decide) | decide
end K25
