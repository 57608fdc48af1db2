/-! THE CONSTRUCTORS: the model (printed by wip/whole/cls26.py) -/
def wrs (z : aM) (p : aP) : List (Int × Int) → aM
  | [] => z
  | (i, c) :: t => aWr (wrs z p t) p i c
def lkp : List (Int × Int) → Int → Int
  | [], _ => 0
  | (i, c) :: t, k => if k = i then c else lkp t k
def o0 : Int → Int := fun _ => 0
theorem wrs_ne {z : aM} {p q : aP} (n : q ≠ p) : ∀ L, wrs z p L q = z q
  | [] => rfl
  | (i, c) :: t => by
    show aWr (wrs z p t) p i c q = z q
    rw [aWr_ne2 n, wrs_ne n t]
theorem wrs_at {z : aM} {p : aP} (h : z p = o0) (k : Int) : ∀ L, wrs z p L p k = lkp L k
  | [] => by show z p k = 0; rw [h]; rfl
  | (i, c) :: t => by
    show aWr (wrs z p t) p i c p k = if k = i then c else lkp t k
    rw [aWr_a]
    unfold ud
    split
    · rfl
    · exact wrs_at h k t
def L7 : List (Int × Int) := [(46, 101 % 65536), (45, 114 % 65536), (44, 105 % 65536), (43, 116 % 65536), (42, 101 % 65536), (41, 114 % 65536), (40, 32 % 65536), (39, 116 % 65536), (38, 108 % 65536), (37, 117 % 65536), (36, 97 % 65536), (35, 102 % 65536), (34, 32 % 65536), (33, 107 % 65536), (32, 108 % 65536), (31, 97 % 65536), (30, 119 % 65536), (29, 110 % 65536), (28, 117 % 65536), (27, 114 % 65536), (26, 32 % 65536), (25, 104 % 65536), (24, 116 % 65536), (23, 100 % 65536), (22, 105 % 65536), (21, 119 % 65536), (20, 32 % 65536), (19, 116 % 65536), (18, 105 % 65536), (17, 109 % 65536), (16, 105 % 65536), (15, 108 % 65536), (14, 32 % 65536), (13, 101 % 65536), (12, 116 % 65536), (11, 97 % 65536), (10, 103 % 65536), (9, 32 % 65536), (8, 103 % 65536), (7, 101 % 65536), (6, 108 % 65536), (5, 32 % 65536), (4, 116 % 65536), (3, 114 % 65536), (2, 97 % 65536), (1, 116 % 65536), (0, 115 % 65536)]
def L8 : List (Int × Int) := [(9, 47), (8, 41), (7, 35), (6, 30), (5, 27), (4, 21), (3, 15), (2, 10), (1, 6), (0, 0)]
theorem L7_ok : ∀ k : Nat, k < 47 → lkp L7 (k : Int) = ltr.getD k 0 := by decide +kernel
theorem L8_ok : ∀ k : Nat, k < 10 → lkp L8 (k : Int) = bgn.getD k 0 := by decide +kernel
theorem aZr_at (z : aM) (p : aP) : aZr z p p = o0 := by funext k; unfold aZr; rw [if_pos rfl]; rfl
def mkM (r : aP → Int → Bool) : Prop := r (16, 0, 0) 0 = true ∧ r (16, 0, 0) 1 = true ∧ r (16, 0, 0) 2 = true ∧ r (16, 0, 0) 3 = true ∧ r (16, 0, 0) 5 = true ∧ r (16, 0, 0) 10 = true ∧ r (16, 0, 0) 12 = true ∧ r (16, 0, 0) 14 = true ∧ r (16, 0, 0) 15 = true ∧ r (16, 0, 0) 16 = true
/-- what the model's memory is at first -/
def zM (z : aM) : Prop := (z (17, 0, 0) = a0 ∧ z (17, 1, 0) = o0 ∧ z (17, 2, 0) = o0 ∧ z (17, 3, 0) = o0) ∧ ((∀ k : Nat, k < 47 → z (17, 7, 0) (k : Int) = ltr.getD k 0) ∧ ∀ k : Nat, k < 10 → z (17, 8, 0) (k : Int) = bgn.getD k 0) ∧ (z (16, 0, 0) 4 = 0 ∧ z (16, 0, 0) 6 = 0 ∧ z (16, 0, 0) 7 = -1 ∧ z (16, 0, 0) 8 = -1 ∧ z (16, 0, 0) 11 = 0 ∧ z (16, 0, 0) 13 = 0)
section K26
variable {l : Launch} {g : aG} {d : Nat} {z : aM} {r : aP → Int → Bool}
theorem cI_model (hd : 1 ≤ d) (h0 : z (16, 0, 0) = o0) : aCt l g nX7_init d 10 2519 (some (308, r)) [.inr (.inr (.inl (16, 0, 0)))] z (fun ret s' z' => ret = none ∧ (∃ r', s' = some (318, r') ∧ mkM r' ∧ ∀ q i, q.1 ≠ 16 → q.1 ≠ 17 → r' q i = r q i) ∧ zM z' ∧ ∀ q : aP, q.1 ≠ 16 → q.1 ≠ 17 → z' q = z q) (fun _ _ _ => False) := by
  refine aCt_of kX7_init (Nat.le_of_ble_eq_true rfl) (fun B hB => ?_)
  have l420 : ∀ (r1 : aP → Int → Bool) (z1 : aM), (r1 (16, 0, 0) 0 = true ∧ r1 (16, 0, 0) 1 = true ∧ r1 (16, 0, 0) 2 = true ∧ r1 (16, 0, 0) 3 = true ∧ r1 (16, 0, 0) 5 = true ∧ r1 (16, 0, 0) 10 = true ∧ r1 (16, 0, 0) 12 = true ∧ r1 (16, 0, 0) 14 = true ∧ r1 (16, 0, 0) 15 = true) → (∀ q i, q.1 ≠ 16 → q.1 ≠ 17 → r1 q i = r q i) → (z1 (17, 0, 0) = o0 ∧ z1 (17, 1, 0) = o0 ∧ z1 (17, 2, 0) = o0 ∧ z1 (17, 3, 0) = o0) → ((∀ k : Nat, k < 47 → z1 (17, 7, 0) (k : Int) = ltr.getD k 0) ∧ ∀ k : Nat, k < 10 → z1 (17, 8, 0) (k : Int) = bgn.getD k 0) → (z1 (16, 0, 0) 4 = 0 ∧ z1 (16, 0, 0) 6 = 0 ∧ z1 (16, 0, 0) 7 = -1 ∧ z1 (16, 0, 0) 8 = -1 ∧ z1 (16, 0, 0) 11 = 0 ∧ z1 (16, 0, 0) 13 = 0) → (∀ q : aP, q.1 ≠ 16 → q.1 ≠ 17 → z1 q = z q) → B (some (317, r1), 9, 2153) z1 420 [some (.inr (.inr (.inl (16, 0, 0))))] [] := by
    intro r1 z1 h1 h2 h3 h4 h5 h6
    have n9 : ((16, 0, 0) : aP) ≠ (17, 9, 0) := by decide
    have lt : aOff (17, 0, 0) < 318 := by decide
    have r0 : aBt (aBf r1 (17, 9, 0)) (16, 0, 0) 16 (16, 0, 0) 0 = true := aBt_t (by rw [aBf_ne n9]; exact h1.1)
    have e0 : aWr (aWr (aWr (aZr z1 (17, 9, 0)) (17, 0, 0) 5 5) (17, 0, 0) 6 600) (17, 0, 0) 7 (-1) (17, 0, 0) = a0 := by
      funext k
      rw [aWr_a]; unfold ud; rw [aWr_a]; unfold ud; rw [aWr_a]; unfold ud
      rw [aZr_ne (by decide), h3.1]
      unfold a0
      by_cases k7 : k = 7
      · rw [if_pos k7, if_neg (by omega), if_neg (by omega), if_pos k7]
      · rw [if_neg k7]
        by_cases k6 : k = 6
        · rw [if_pos k6, if_neg (by omega), if_pos k6]
        · rw [if_neg k6]
          by_cases k5 : k = 5
          · rw [if_pos k5, if_pos k5]
          · rw [if_neg k5, if_neg k5, if_neg k6, if_neg k7]; rfl
    have zo : ∀ q : aP, q ≠ (17, 0, 0) → q ≠ (17, 9, 0) → aWr (aWr (aWr (aZr z1 (17, 9, 0)) (17, 0, 0) 5 5) (17, 0, 0) 6 600) (17, 0, 0) 7 (-1) q = z1 q := fun q n0 n1 => by rw [aWr_ne2 n0, aWr_ne2 n0, aWr_ne2 n0, aZr_ne n1]
    obtain ⟨y, ey⟩ : ∃ y, y = aWr (aWr (aWr (aZr z1 (17, 9, 0)) (17, 0, 0) 5 5) (17, 0, 0) 6 600) (17, 0, 0) 7 (-1) := ⟨_, rfl⟩
    have fin : (none : Option aV) = none ∧ (∃ r', (some (318, aBt (aBf r1 (17, 9, 0)) (16, 0, 0) 16) : aSt) = some (318, r') ∧ mkM r' ∧ ∀ q i, q.1 ≠ 16 → q.1 ≠ 17 → r' q i = r q i) ∧ zM y ∧ ∀ q : aP, q.1 ≠ 16 → q.1 ≠ 17 → y q = z q := by
      rw [← ey] at e0 zo
      have rr : ∀ i, r1 (16, 0, 0) i = true → aBt (aBf r1 (17, 9, 0)) (16, 0, 0) 16 (16, 0, 0) i = true := fun i w => aBt_t (by rw [aBf_ne n9]; exact w)
      refine ⟨rfl, ⟨_, rfl, ⟨rr _ h1.1, rr _ h1.2.1, rr _ h1.2.2.1, rr _ h1.2.2.2.1, rr _ h1.2.2.2.2.1, rr _ h1.2.2.2.2.2.1, rr _ h1.2.2.2.2.2.2.1, rr _ h1.2.2.2.2.2.2.2.1, rr _ h1.2.2.2.2.2.2.2.2, aBt_at _ _ _⟩, fun q i n0 n1 => by rw [aBt_ne (pne n0), aBf_ne (pne n1)]; exact h2 q i n0 n1⟩, ?_, fun q n0 n1 => by rw [zo q (pne n1) (pne n1)]; exact h6 q n0 n1⟩
      unfold zM
      rw [e0, zo (17, 1, 0) (by decide) (by decide), zo (17, 2, 0) (by decide) (by decide), zo (17, 3, 0) (by decide) (by decide), zo (17, 7, 0) (by decide) (by decide), zo (17, 8, 0) (by decide) (by decide), zo (16, 0, 0) (by decide) (by decide)]
      exact ⟨⟨rfl, h3.2⟩, h4, h5⟩
    rw [ey] at fin
    refine hB [] 1000 _ _ _ _ _ ?_
    repeat' (first | exact fin | refine And.intro ?_ ?_ | (first | (refine Exists.intro ((17, 9, 0) : aP) (And.intro (And.intro ⟨rfl, (by decide +kernel)⟩ ?_) ?_))) | (intro hh; first | exact absurd hh (by decide) | exact absurd rfl hh | (exfalso; omega) | skip) | fail)
    all_goals first | omega | (exact rfl) | (exact r0) | (exact lt) | (show (10 : Nat) ≤ 10; decide) | (show (2519 : Nat) ≤ 2519; decide) | decide
  have l356 : ∀ (r1 : aP → Int → Bool) (z1 : aM), (r1 (16, 0, 0) 0 = true ∧ r1 (16, 0, 0) 1 = true ∧ r1 (16, 0, 0) 2 = true ∧ r1 (16, 0, 0) 3 = true ∧ r1 (16, 0, 0) 5 = true ∧ r1 (16, 0, 0) 10 = true ∧ r1 (16, 0, 0) 12 = true) → (∀ q i, q.1 ≠ 16 → q.1 ≠ 17 → r1 q i = r q i) → (z1 (17, 0, 0) = o0 ∧ z1 (17, 1, 0) = o0 ∧ z1 (17, 2, 0) = o0 ∧ z1 (17, 3, 0) = o0) → (∀ k : Nat, k < 47 → z1 (17, 7, 0) (k : Int) = ltr.getD k 0) → (z1 (16, 0, 0) 4 = 0 ∧ z1 (16, 0, 0) 6 = 0 ∧ z1 (16, 0, 0) 7 = -1 ∧ z1 (16, 0, 0) 8 = -1 ∧ z1 (16, 0, 0) 11 = 0 ∧ z1 (16, 0, 0) 13 = 0) → (∀ q : aP, q.1 ≠ 16 → q.1 ≠ 17 → z1 q = z q) → B (some (316, r1), 8, 2143) z1 356 [some (.inr (.inr (.inl (16, 0, 0))))] [.inr (.inr (.inl (17, 7, 0))), .inr (.inr (.inl (16, 0, 0)))] := by
    intro r1 z1 h1 h2 h3 h4 h5 h6
    have n8 : ((16, 0, 0) : aP) ≠ (17, 8, 0) := by decide
    have rr : ∀ i, r1 (16, 0, 0) i = true → aBt (aBf (aBt r1 (16, 0, 0) 14) (17, 8, 0)) (16, 0, 0) 15 (16, 0, 0) i = true := fun i w => aBt_t (by rw [aBf_ne n8]; exact aBt_t w)
    have zo : ∀ q : aP, q ≠ (17, 8, 0) → wrs (aZr z1 (17, 8, 0)) (17, 8, 0) L8 q = z1 q := fun q n => by rw [wrs_ne n, aZr_ne n]
    have nx := l420 (aBt (aBf (aBt r1 (16, 0, 0) 14) (17, 8, 0)) (16, 0, 0) 15) (wrs (aZr z1 (17, 8, 0)) (17, 8, 0) L8) ⟨rr _ h1.1, rr _ h1.2.1, rr _ h1.2.2.1, rr _ h1.2.2.2.1, rr _ h1.2.2.2.2.1, rr _ h1.2.2.2.2.2.1, rr _ h1.2.2.2.2.2.2, aBt_t (by rw [aBf_ne n8]; exact aBt_at _ _ _), aBt_at _ _ _⟩
      (fun q i n0 n1 => by rw [aBt_ne (pne n0), aBf_ne (pne n1), aBt_ne (pne n0)]; exact h2 q i n0 n1)
      (by rw [zo _ (by decide), zo _ (by decide), zo _ (by decide), zo _ (by decide)]; exact h3)
      ⟨fun k hk => by rw [zo _ (by decide)]; exact h4 k hk, fun k hk => by rw [wrs_at (aZr_at _ _)]; exact L8_ok k hk⟩
      (by rw [zo _ (by decide)]; exact h5) (fun q n0 n1 => by rw [zo q (pne n1)]; exact h6 q n0 n1)
    refine hB [420] 1000 _ _ _ _ _ ?_
    repeat' (first | exact nx | refine And.intro ?_ ?_ | (first | (refine Exists.intro ((17, 8, 0) : aP) (And.intro (And.intro ⟨rfl, (by decide +kernel)⟩ ?_) ?_))) | (intro hh; first | exact absurd hh (by decide) | exact absurd rfl hh | (exfalso; omega) | skip) | fail)
    all_goals first | omega | (exact rfl) | (show (9 : Nat) ≤ 10; decide) | (show (2153 : Nat) ≤ 2519; decide) | decide
  have l80 : ∀ (r1 : aP → Int → Bool) (z1 : aM), (r1 (16, 0, 0) 0 = true ∧ r1 (16, 0, 0) 1 = true ∧ r1 (16, 0, 0) 2 = true ∧ r1 (16, 0, 0) 3 = true ∧ r1 (16, 0, 0) 5 = true ∧ r1 (16, 0, 0) 10 = true ∧ r1 (16, 0, 0) 12 = true) → (∀ q i, q.1 ≠ 16 → q.1 ≠ 17 → r1 q i = r q i) → (z1 (17, 0, 0) = o0 ∧ z1 (17, 1, 0) = o0 ∧ z1 (17, 2, 0) = o0 ∧ z1 (17, 3, 0) = o0) → z1 (17, 7, 0) = o0 → (z1 (16, 0, 0) 4 = 0 ∧ z1 (16, 0, 0) 6 = 0 ∧ z1 (16, 0, 0) 7 = -1 ∧ z1 (16, 0, 0) 8 = -1 ∧ z1 (16, 0, 0) 11 = 0 ∧ z1 (16, 0, 0) 13 = 0) → (∀ q : aP, q.1 ≠ 16 → q.1 ≠ 17 → z1 q = z q) → B (some (316, r1), 8, 2143) z1 80 [some (.inr (.inr (.inl (16, 0, 0))))] [.inr (.inr (.inl (17, 7, 0))), .inr (.inr (.inl (16, 0, 0)))] := by
    intro r1 z1 h1 h2 h3 h4 h5 h6
    have zo : ∀ q : aP, q ≠ (17, 7, 0) → wrs z1 (17, 7, 0) L7 q = z1 q := fun q n => wrs_ne n _
    have nx := l356 r1 (wrs z1 (17, 7, 0) L7) h1 h2 (by rw [zo _ (by decide), zo _ (by decide), zo _ (by decide), zo _ (by decide)]; exact h3) (fun k hk => by rw [wrs_at h4]; exact L7_ok k hk) (by rw [zo _ (by decide)]; exact h5) (fun q n0 n1 => by rw [zo q (pne n1)]; exact h6 q n0 n1)
    refine hB [356] 1000 _ _ _ _ _ ?_
    repeat' (first | exact nx | refine And.intro ?_ ?_ | (intro hh; first | exact absurd hh (by decide) | exact absurd rfl hh | (exfalso; omega) | skip) | fail)
    all_goals first | omega | (exact rfl) | decide
  refine hB [80] 1000 _ _ _ _ _ ?_
  repeat' (first | (refine l80 _ _ ⟨?_, ?_, ?_, ?_, ?_, ?_, ?_⟩ (fun q i n0 n1 => ?_) ⟨?_, ?_, ?_, ?_⟩ ?_ ⟨?_, ?_, ?_, ?_, ?_, ?_⟩ (fun q n0 n1 => ?_)) | refine And.intro ?_ ?_ | (first | (refine Exists.intro ((17, 0, 0) : aP) (And.intro (And.intro ⟨rfl, (by decide +kernel)⟩ ?_) ?_)) | (refine Exists.intro ((17, 1, 0) : aP) (And.intro (And.intro ⟨rfl, (by decide +kernel)⟩ ?_) ?_)) | (refine Exists.intro ((17, 2, 0) : aP) (And.intro (And.intro ⟨rfl, (by decide +kernel)⟩ ?_) ?_)) | (refine Exists.intro ((17, 3, 0) : aP) (And.intro (And.intro ⟨rfl, (by decide +kernel)⟩ ?_) ?_)) | (refine Exists.intro ((17, 4, 0) : aP) (And.intro (And.intro ⟨rfl, (by decide +kernel)⟩ ?_) ?_)) | (refine Exists.intro ((17, 5, 0) : aP) (And.intro (And.intro ⟨rfl, (by decide +kernel)⟩ ?_) ?_)) | (refine Exists.intro ((17, 6, 0) : aP) (And.intro (And.intro ⟨rfl, (by decide +kernel)⟩ ?_) ?_)) | (refine Exists.intro ((17, 7, 0) : aP) (And.intro (And.intro ⟨rfl, (by decide +kernel)⟩ ?_) ?_))) | (intro hh; first | exact absurd hh (by decide) | exact absurd rfl hh | (exfalso; omega) | skip) | fail)
  all_goals first | omega | (have m0 : q ≠ (16, 0, 0) := pne n0; have m1 : ∀ j : Int, q ≠ (17, j, 0) := fun j => pne n1; (simp only [aBt_ne m0, aBf_ne (m1 _), aWr_ne2 m0, aZr_ne (m1 _)]); done) | ((repeat' (first | exact aBt_at _ _ _ | refine aBt_t ?_ | rw [aBf_ne (by decide)])); done) | (exact rfl) | (show (1 : Nat) ≤ 10; decide) | (show (2 : Nat) ≤ 10; decide) | (show (3 : Nat) ≤ 10; decide) | (show (4 : Nat) ≤ 10; decide) | (show (5 : Nat) ≤ 10; decide) | (show (6 : Nat) ≤ 10; decide) | (show (7 : Nat) ≤ 10; decide) | (show (8 : Nat) ≤ 10; decide) | (show (163 : Nat) ≤ 2519; decide) | (show (326 : Nat) ≤ 2519; decide) | (show (489 : Nat) ≤ 2519; decide) | (show (652 : Nat) ≤ 2519; decide) | (show (1956 : Nat) ≤ 2519; decide) | (show (2016 : Nat) ≤ 2519; decide) | (show (2096 : Nat) ≤ 2519; decide) | (show (2143 : Nat) ≤ 2519; decide) | (simp only [aWr_ne2 (show ((17, 0, 0) : aP) ≠ (16, 0, 0) by decide), aZr_ne (show ((17, 0, 0) : aP) ≠ (17, 1, 0) by decide)]; done) | (funext k9; simp [aWr, aZr, o0]; done) | (simp [aWr, aZr, h0, o0]; done) | decide
end K26

