/-! THE CONSTRUCTORS (printed by wip/whole/cls22.py) -/
theorem aZr_ne {z : aM} {p q : aP} (h : q ≠ p) : aZr z p q = z q := by funext k; unfold aZr; rw [if_neg h]
theorem aBt_at (r : aP → Int → Bool) (p : aP) (k : Int) : aBt r p k p k = true := by unfold aBt; rw [if_pos ⟨rfl, rfl⟩]
theorem aBt_t {r : aP → Int → Bool} {p q : aP} {k i : Int} (h : r q i = true) : aBt r p k q i = true := by
  unfold aBt
  split
  · rfl
  · exact h
theorem aBf_ne {r : aP → Int → Bool} {p q : aP} {i : Int} (n : q ≠ p) : aBf r p q i = r q i := by unfold aBf; rw [if_neg n]
theorem aBt_ne {r : aP → Int → Bool} {p q : aP} {k i : Int} (n : q ≠ p) : aBt r p k q i = r q i := by unfold aBt; rw [if_neg (fun e => n e.1)]
def inG (s : Int) (q : aP) : Prop := (1 ≤ q.1 ∧ q.1 ≤ 6) ∧ q.2.1 = s
theorem blk_ok : ∀ s : Nat, s < 11 → ∀ p ∈ aBlk s, aAll[aOff p]? = some p := by decide +kernel
theorem blk_in (s : Nat) : ((1, (s : Int), 0) ∈ aBlk s ∧ (2, (s : Int), 0) ∈ aBlk s ∧ (4, (s : Int), 0) ∈ aBlk s) ∧ (∀ j : Nat, j < 8 → (3, (s : Int), (j : Int)) ∈ aBlk s ∧ (5, (s : Int), (j : Int)) ∈ aBlk s ∧ (6, (s : Int), (j : Int)) ∈ aBlk s) := by
  unfold aBlk
  refine ⟨⟨by simp, by simp, by simp⟩, fun j hj => ⟨?_, ?_, ?_⟩⟩
  · simp only [List.mem_cons, List.mem_append, List.mem_map, List.mem_range, List.mem_flatMap]
    exact Or.inr (Or.inr (Or.inl ⟨j, hj, rfl⟩))
  · simp only [List.mem_cons, List.mem_append, List.mem_map, List.mem_range, List.mem_flatMap]
    exact Or.inr (Or.inr (Or.inr (Or.inr ⟨j, hj, Or.inl rfl⟩)))
  · simp only [List.mem_cons, List.mem_append, List.mem_map, List.mem_range, List.mem_flatMap]
    exact Or.inr (Or.inr (Or.inr (Or.inr ⟨j, hj, Or.inr (Or.inl rfl)⟩)))
theorem blk_1 {s : Int} (h : 0 ≤ s ∧ s ≤ 10) : aAll[aOff (1, s, 0)]? = some (1, s, 0) ∧ aAll[aOff (2, s, 0)]? = some (2, s, 0) ∧ aAll[aOff (4, s, 0)]? = some (4, s, 0) := by
  have b := blk_ok s.toNat (by omega)
  have i := (blk_in s.toNat).1
  rw [Int.toNat_of_nonneg h.1] at i
  exact ⟨b _ i.1, b _ i.2.1, b _ i.2.2⟩
theorem blk_2 {s j : Int} (h : 0 ≤ s ∧ s ≤ 10) (hj : 0 ≤ j ∧ j < 8) : aAll[aOff (3, s, j)]? = some (3, s, j) ∧ aAll[aOff (5, s, j)]? = some (5, s, j) ∧ aAll[aOff (6, s, j)]? = some (6, s, j) := by
  have b := blk_ok s.toNat (by omega)
  have i := (blk_in s.toNat).2 j.toNat (by omega)
  rw [Int.toNat_of_nonneg h.1, Int.toNat_of_nonneg hj.1] at i
  exact ⟨b _ i.1, b _ i.2.1, b _ i.2.2⟩
section K22
variable {l : Launch} {g : aG} {d : Nat} {z : aM} {s j : Int} {r : aP → Int → Bool} {cnt : Nat}
theorem cI_run (hd : 1 ≤ d) (hs : 0 ≤ s ∧ s ≤ 10) (hj : 0 ≤ j ∧ j < 8) (hc : aOff (6, s, j) = cnt) : aCt l g nX4_init d 1 6 (some (cnt, r)) [.inr (.inr (.inl (5, s, j)))] z (fun ret s' z' => ret = none ∧ s' = some (cnt + 1, aBt (aBf r (6, s, j)) (5, s, j) 3) ∧ ∀ q, q ≠ (5, s, j) → q ≠ (6, s, j) → z' q = z q) (fun _ _ _ => False) := by
  have ok := (blk_2 hs hj).2.2
  refine aCt_of kX4_init (Nat.le_of_ble_eq_true rfl) (fun B hB => ?_)
  refine hB [] 1000 _ _ _ _ _ ?_
  repeat' (first | (refine ⟨rfl, rfl, ?_⟩; intro q h1 h2; simp only [aWr_ne2 h1, aZr_ne h2]; done) | refine And.intro ?_ ?_ | (refine Exists.intro ((6, s, j) : aP) ?_) | (intro hh; first | exact absurd hh (by decide) | exact absurd rfl hh | (exfalso; omega) | skip) | fail)
  all_goals first | omega | (exact rfl) | (exact hc) | (exact ok) | (exact Or.inl rfl) | (exact Nat.le_refl _) | (exact hd)
theorem cI_course (hd : 1 ≤ d) (hs : 0 ≤ s ∧ s ≤ 10) (hc : aOff (3, s, 0) = cnt) : aCt l g nX0_init d 8 48 (some (cnt, r)) [.inr (.inr (.inl (2, s, 0)))] z (fun ret s' z' => ret = none ∧ (∃ r', s' = some (cnt + 8, r') ∧ (∀ q i, q.1 ≠ 2 → q.1 ≠ 3 → r' q i = r q i) ∧ (r' (2, s, 0) 5 = true ∧ r' (2, s, 0) 6 = true ∧ r' (2, s, 0) 7 = true ∧ r' (2, s, 0) 9 = true ∧ r' (2, s, 0) 10 = true ∧ r' (2, s, 0) 11 = true ∧ r' (2, s, 0) 12 = true ∧ r' (2, s, 0) 13 = true) ∧ ∀ q i, q.2.1 ≠ s → r' q i = r q i) ∧ (z' (2, s, 0) 0 = 0 ∧ z' (2, s, 0) 1 = 0 ∧ z' (2, s, 0) 2 = 5 ∧ z' (2, s, 0) 3 = 600 ∧ z' (2, s, 0) 4 = 0 ∧ z' (2, s, 0) 8 = 0) ∧ ∀ q : aP, ¬ ((q.1 = 2 ∨ q.1 = 3) ∧ q.2.1 = s) → z' q = z q) (fun _ _ _ => False) := by
  have o1 : aOff (3, s, 1) = cnt + 1 := by rw [← hc]; rfl
  have o2 : aOff (3, s, 2) = cnt + 2 := by rw [← hc]; rfl
  have o3 : aOff (3, s, 3) = cnt + 3 := by rw [← hc]; rfl
  have o4 : aOff (3, s, 4) = cnt + 4 := by rw [← hc]; rfl
  have o5 : aOff (3, s, 5) = cnt + 5 := by rw [← hc]; rfl
  have o6 : aOff (3, s, 6) = cnt + 6 := by rw [← hc]; rfl
  have o7 : aOff (3, s, 7) = cnt + 7 := by rw [← hc]; rfl
  have ok : ∀ j : Int, 0 ≤ j → j < 8 → aAll[aOff (3, s, j)]? = some (3, s, j) := fun j h0 h1 => (blk_2 hs ⟨h0, h1⟩).1
  have n2 : ∀ j : Int, ((2, s, 0) : aP) ≠ (3, s, j) := fun j => pne (by show (2 : Nat) ≠ 3; decide)
  have fr : ∀ q : aP, ¬ ((q.1 = 2 ∨ q.1 = 3) ∧ q.2.1 = s) → q ≠ (2, s, 0) ∧ ∀ j : Int, q ≠ (3, s, j) := fun q n => ⟨fun e => n (by rw [e]; exact ⟨Or.inl rfl, rfl⟩), fun j e => n (by rw [e]; exact ⟨Or.inr rfl, rfl⟩)⟩
  refine aCt_of kX0_init (Nat.le_of_ble_eq_true rfl) (fun B hB => ?_)
  have fin : ∀ (r1 : aP → Int → Bool) (z1 : aM), r1 = aBt (aBf (aBt (aBf (aBt (aBf (aBt (aBf (aBt (aBf (aBt (aBf (aBt (aBf (aBt (aBf r (3, s, 0)) (2, s, 0) 5) (3, s, 1)) (2, s, 0) 6) (3, s, 2)) (2, s, 0) 7) (3, s, 3)) (2, s, 0) 9) (3, s, 4)) (2, s, 0) 10) (3, s, 5)) (2, s, 0) 11) (3, s, 6)) (2, s, 0) 12) (3, s, 7)) (2, s, 0) 13 → (z1 (2, s, 0) 0 = 0 ∧ z1 (2, s, 0) 1 = 0 ∧ z1 (2, s, 0) 2 = 5 ∧ z1 (2, s, 0) 3 = 600 ∧ z1 (2, s, 0) 4 = 0 ∧ z1 (2, s, 0) 8 = 0) → (∀ q : aP, ¬ ((q.1 = 2 ∨ q.1 = 3) ∧ q.2.1 = s) → z1 q = z q) → (none : Option aV) = none ∧ (∃ r', (some (cnt + 8, r1) : aSt) = some (cnt + 8, r') ∧ (∀ q i, q.1 ≠ 2 → q.1 ≠ 3 → r' q i = r q i) ∧ (r' (2, s, 0) 5 = true ∧ r' (2, s, 0) 6 = true ∧ r' (2, s, 0) 7 = true ∧ r' (2, s, 0) 9 = true ∧ r' (2, s, 0) 10 = true ∧ r' (2, s, 0) 11 = true ∧ r' (2, s, 0) 12 = true ∧ r' (2, s, 0) 13 = true) ∧ ∀ q i, q.2.1 ≠ s → r' q i = r q i) ∧ (z1 (2, s, 0) 0 = 0 ∧ z1 (2, s, 0) 1 = 0 ∧ z1 (2, s, 0) 2 = 5 ∧ z1 (2, s, 0) 3 = 600 ∧ z1 (2, s, 0) 4 = 0 ∧ z1 (2, s, 0) 8 = 0) ∧ ∀ q : aP, ¬ ((q.1 = 2 ∨ q.1 = 3) ∧ q.2.1 = s) → z1 q = z q := by
    intro r1 z1 er hz hf
    refine ⟨rfl, ⟨r1, rfl, fun q i h2 h3 => ?_, ?_, fun q i hn => ?_⟩, hz, hf⟩
    · have a2 : q ≠ (2, s, 0) := pne h2
      have a3 : ∀ j : Int, q ≠ (3, s, j) := fun j => pne h3
      rw [er]
      simp only [aBt_ne a2, aBf_ne (a3 _)]
    · rw [er]
      refine ⟨?_, ?_, ?_, ?_, ?_, ?_, ?_, ?_⟩
      all_goals repeat' (first | exact aBt_at _ _ _ | refine aBt_t ?_ | (rw [aBf_ne (n2 _)]))
    · have a2 : q ≠ (2, s, 0) := fun e => hn (by rw [e])
      have a3 : ∀ j : Int, q ≠ (3, s, j) := fun j e => hn (by rw [e])
      rw [er]
      simp only [aBt_ne a2, aBf_ne (a3 _)]
  refine hB [] 1000 _ _ _ _ _ ?_
  repeat' (first | (refine fin _ _ rfl ?_ ?_) | refine And.intro ?_ ?_ | (first | (refine Exists.intro ((3, s, 0) : aP) (And.intro (And.intro (And.intro hc (ok 0 (by decide) (by decide))) ?_) ?_)) | (refine Exists.intro ((3, s, 1) : aP) (And.intro (And.intro (And.intro o1 (ok 1 (by decide) (by decide))) ?_) ?_)) | (refine Exists.intro ((3, s, 2) : aP) (And.intro (And.intro (And.intro o2 (ok 2 (by decide) (by decide))) ?_) ?_)) | (refine Exists.intro ((3, s, 3) : aP) (And.intro (And.intro (And.intro o3 (ok 3 (by decide) (by decide))) ?_) ?_)) | (refine Exists.intro ((3, s, 4) : aP) (And.intro (And.intro (And.intro o4 (ok 4 (by decide) (by decide))) ?_) ?_)) | (refine Exists.intro ((3, s, 5) : aP) (And.intro (And.intro (And.intro o5 (ok 5 (by decide) (by decide))) ?_) ?_)) | (refine Exists.intro ((3, s, 6) : aP) (And.intro (And.intro (And.intro o6 (ok 6 (by decide) (by decide))) ?_) ?_)) | (refine Exists.intro ((3, s, 7) : aP) (And.intro (And.intro (And.intro o7 (ok 7 (by decide) (by decide))) ?_) ?_))) | (intro hh; first | exact absurd hh (by decide) | exact absurd rfl hh | (exfalso; omega) | skip) | fail)
  all_goals first | omega | (exact rfl) | (exact hc) | assumption | (exact ok _ (by decide) (by decide)) | (exact Or.inl rfl) | (exact Nat.le_refl _) | (exact hd) | decide | (have h9 := fr _ (by assumption); simp only [aZr_ne (h9.2 _), aWr_ne2 h9.1]; done) | (simp [aZr_ne (n2 _), aWr_a, ud]; done)

end K22
