/-! THE RANKING IS AN ORDER; WHAT SORTING GIVES -/
theorem sBy_neg {a : Int → Int} {r o : Int} : ∀ (n : Nat) (k b c : Int), c = -b → sBy a o r n k c = -(sBy a r o n k b)
  | 0, _, _, _, e => e
  | n + 1, k, b, c, e => by
    show sBy a o r n (k + 1) (if c = 0 then a (59 + 13 * o + 7 + k) - a (59 + 13 * r + 7 + k) else c) = -(sBy a r o n (k + 1) (if b = 0 then a (59 + 13 * r + 7 + k) - a (59 + 13 * o + 7 + k) else b))
    refine sBy_neg n (k + 1) _ _ ?_
    split <;> split <;> omega
theorem sBy2_neg {a : Int → Int} {r o : Int} : sBy2 a o r = -(sBy2 a r o) := by
  have h := sBy_neg (a := a) (r := r) (o := o) (a 0).toNat 0 (sSum a r - sSum a o) (sSum a o - sSum a r) (by omega)
  unfold sBy2
  dsimp only
  rw [h]
  split <;> split <;> omega
def sRl (b1 b2 b3 : Int) : Prop := 0 ≤ b1 → 0 ≤ b2 → (0 ≤ b3 ∧ (b3 = 0 → b1 = 0 ∧ b2 = 0)) ∧ (b1 = 0 → b2 = 0 → b3 = 0)
theorem sRl_st {b1 b2 b3 d1 d2 d3 : Int} (h : sRl b1 b2 b3) (e : d3 = d1 + d2) : sRl (if b1 = 0 then d1 else b1) (if b2 = 0 then d2 else b2) (if b3 = 0 then d3 else b3) := by
  unfold sRl at *
  split <;> split <;> split <;> omega
theorem sBy_tr {a : Int → Int} {r o q : Int} : ∀ (n : Nat) (k b1 b2 b3 : Int), sRl b1 b2 b3 → sRl (sBy a r o n k b1) (sBy a o q n k b2) (sBy a r q n k b3)
  | 0, _, _, _, _, h => h
  | n + 1, k, b1, b2, b3, h => sBy_tr n (k + 1) _ _ _ (sRl_st h (by omega))
theorem sBy2_tr {a : Int → Int} {r o q : Int} : sRl (sBy2 a r o) (sBy2 a o q) (sBy2 a r q) := by
  have h := sBy_tr (a := a) (r := r) (o := o) (q := q) (a 0).toNat 0 (sSum a r - sSum a o) (sSum a o - sSum a q) (sSum a r - sSum a q) (by unfold sRl; omega)
  unfold sBy2
  exact sRl_st h (by omega)
theorem sAhd_ir {a : Int → Int} {r : Int} : ¬ sAhd a r r := by
  have := sBy2_neg (a := a) (r := r) (o := r)
  unfold sAhd
  omega
theorem sAhd_as {a : Int → Int} {r o : Int} (h : sAhd a r o) : ¬ sAhd a o r := by
  have := sBy2_neg (a := a) (r := r) (o := o)
  unfold sAhd at *
  omega
theorem sAhd_to {a : Int → Int} {r o : Int} (n : r ≠ o) (h : ¬ sAhd a r o) : sAhd a o r := by
  have := sBy2_neg (a := a) (r := r) (o := o)
  unfold sAhd at *
  omega
theorem sAhd_tr {a : Int → Int} {r o q : Int} (h1 : sAhd a r o) (h2 : sAhd a o q) : sAhd a r q := by
  have := sBy2_tr (a := a) (r := r) (o := o) (q := q)
  unfold sAhd sRl at *
  omega
/-! sorting by insertion -/
def sSh (a : Int → Int) (run : Int) : Nat → (Int → Int) → Int → (Int → Int)
  | 0, f, p => ud f p run
  | n + 1, f, p => if sAhd a run (f (p - 1)) then sSh a run n (ud f p (f (p - 1))) (p - 1) else ud f p run
def sSo (a : Int → Int) : Nat → (Int → Int) → Int → (Int → Int)
  | 0, f, _ => f
  | n + 1, f, r => sSo a n (sSh a r r.toNat f r) (r + 1)
/-- the first m places hold the first m runs, in order -/
def sGd (a : Int → Int) (m : Nat) (f : Int → Int) : Prop :=
  (∀ i, 0 ≤ i → i < (m : Int) → 0 ≤ f i ∧ f i < (m : Int)) ∧ (∀ i j, 0 ≤ i → i < j → j < (m : Int) → sAhd a (f i) (f j)) ∧ ∀ F : Int → Int, sN (fun i => F (f i)) m = sN F m
theorem sN_cgZ {f h : Int → Int} (n : Nat) (e : ∀ k : Int, 0 ≤ k → k < (n : Int) → f k = h k) : sN f n = sN h n := sN_cg n (fun k hk => e k (by omega) (by omega))
theorem sSh_G {a : Int → Int} (m : Nat) : ∀ (n : Nat) (f : Int → Int) (p : Int), (n : Int) = p → p ≤ (m : Int) →
    (∀ i, 0 ≤ i → i ≤ (m : Int) → i ≠ p → 0 ≤ f i ∧ f i < (m : Int)) → (∀ i j, 0 ≤ i → i < j → j ≤ (m : Int) → i ≠ p → j ≠ p → sAhd a (f i) (f j)) → (∀ i, p < i → i ≤ (m : Int) → sAhd a (m : Int) (f i)) →
    (∀ F : Int → Int, sN (fun i => F (ud f p (m : Int) i)) (m + 1) = sN F (m + 1)) → (p < (m : Int) ∨ True) → sGd a (m + 1) (sSh a (m : Int) n f p) := by
  have fin : ∀ (f : Int → Int) (p : Int), 0 ≤ p → p ≤ (m : Int) →
      (∀ i, 0 ≤ i → i ≤ (m : Int) → i ≠ p → 0 ≤ f i ∧ f i < (m : Int)) → (∀ i j, 0 ≤ i → i < j → j ≤ (m : Int) → i ≠ p → j ≠ p → sAhd a (f i) (f j)) → (∀ i, p < i → i ≤ (m : Int) → sAhd a (m : Int) (f i)) →
      (∀ F : Int → Int, sN (fun i => F (ud f p (m : Int) i)) (m + 1) = sN F (m + 1)) → (∀ i, 0 ≤ i → i < p → sAhd a (f i) (m : Int)) → sGd a (m + 1) (ud f p (m : Int)) := by
    intro f p p0 p1 h1 h2 h3 h4 h5
    refine ⟨fun i i0 i1 => ?_, fun i j i0 ij j1 => ?_, h4⟩
    · by_cases e : i = p
      · rw [e, ud_at]; omega
      · rw [ud_ne e]
        have := h1 i i0 (by omega) e
        omega
    · by_cases e : i = p
      · rw [e, ud_at, ud_ne (by omega)]
        exact h3 j (by omega) (by omega)
      · rw [ud_ne e]
        by_cases e2 : j = p
        · rw [e2, ud_at]
          exact h5 i i0 (by omega)
        · rw [ud_ne e2]
          exact h2 i j i0 ij (by omega) e e2
  intro n
  induction n with
  | zero =>
    intro f p hp p1 h1 h2 h3 h4 _
    exact fin f p (by omega) p1 h1 h2 h3 h4 (fun i i0 i1 => by omega)
  | succ n ih =>
    intro f p hp p1 h1 h2 h3 h4 _
    show sGd a (m + 1) (if sAhd a (m : Int) (f (p - 1)) then sSh a (m : Int) n (ud f p (f (p - 1))) (p - 1) else ud f p (m : Int))
    by_cases hc : sAhd a (m : Int) (f (p - 1))
    · rw [if_pos hc]
      refine ih _ _ (by omega) (by omega) (fun i i0 i1 i2 => ?_) (fun i j i0 ij j1 i2 j2 => ?_) (fun i i0 i1 => ?_) (fun F => ?_) (Or.inr trivial)
      · by_cases e : i = p
        · rw [e, ud_at]; exact h1 (p - 1) (by omega) (by omega) (by omega)
        · rw [ud_ne e]; exact h1 i i0 i1 e
      · by_cases e : i = p
        · rw [e, ud_at, ud_ne (by omega)]
          exact h2 (p - 1) j (by omega) (by omega) j1 (by omega) (by omega)
        · rw [ud_ne e]
          by_cases e2 : j = p
          · rw [e2, ud_at]
            exact h2 i (p - 1) i0 (by omega) (by omega) e (by omega)
          · rw [ud_ne e2]
            exact h2 i j i0 ij j1 e e2
      · by_cases e : i = p
        · rw [e, ud_at]; exact hc
        · rw [ud_ne e]; exact h3 i (by omega) i1
      · have e1 : sN (fun i => F (ud (ud f p (f (p - 1))) (p - 1) (m : Int) i)) (m + 1) = sN (ud (ud (fun i => F (ud f p (m : Int) i)) p (F (f (p - 1)))) (p - 1) (F (m : Int))) (m + 1) := by
          refine sN_cgZ _ (fun k k0 k1 => ?_)
          show F (ud (ud f p (f (p - 1))) (p - 1) (m : Int) k) = _
          by_cases e : k = p - 1
          · rw [e, ud_at, ud_at]
          · rw [ud_ne e, ud_ne e]
            by_cases e2 : k = p
            · rw [e2, ud_at, ud_at]
            · rw [ud_ne e2, ud_ne e2, ud_ne e2]
        have q1 : ud (fun i => F (ud f p (m : Int) i)) p (F (f (p - 1))) (p - 1) = F (ud f p (m : Int) (p - 1)) := ud_ne (by omega)
        have q2 : ud f p (m : Int) (p - 1) = f (p - 1) := ud_ne (by omega)
        rw [e1, sN_ud _ (by omega) (by omega), sN_ud _ (by omega) (by omega), q1, q2, h4 F]
        show sN F (m + 1) - F (ud f p (m : Int) p) + F (f (p - 1)) - F (f (p - 1)) + F (m : Int) = sN F (m + 1)
        rw [ud_at]
        omega
    · rw [if_neg hc]
      refine fin f p (by omega) p1 h1 h2 h3 h4 (fun i i0 i1 => ?_)
      have v := h1 (p - 1) (by omega) (by omega) (by omega)
      have q : sAhd a (f (p - 1)) (m : Int) := sAhd_to (by omega) hc
      by_cases e : i = p - 1
      · rw [e]; exact q
      · exact sAhd_tr (h2 i (p - 1) i0 (by omega) (by omega) (by omega) (by omega)) q
theorem sSo_G {a : Int → Int} : ∀ (n m : Nat) (f : Int → Int), sGd a m f → sGd a (m + n) (sSo a n f (m : Int))
  | 0, m, f, h => h
  | n + 1, m, f, h => by
    have h1 : sGd a (m + 1) (sSh a (m : Int) m f (m : Int)) := by
      refine sSh_G m m f (m : Int) rfl (Int.le_refl _) (fun i i0 i1 i2 => h.1 i i0 (by omega)) (fun i j i0 ij j1 i2 j2 => h.2.1 i j i0 ij (by omega)) (fun i i0 i1 => by omega) (fun F => ?_) (Or.inr trivial)
      show sN (fun i => F (ud f (m : Int) (m : Int) i)) m + F (ud f (m : Int) (m : Int) (m : Int)) = sN F m + F (m : Int)
      rw [ud_at, ← h.2.2 F, sN_cgZ (f := fun i => F (ud f (m : Int) (m : Int) i)) (h := fun i => F (f i)) m (fun k k0 k1 => by show F (ud f (m : Int) (m : Int) k) = F (f k); rw [ud_ne (by omega)])]
    have h2 := sSo_G n (m + 1) _ h1
    have e : sSo a (n + 1) f (m : Int) = sSo a n (sSh a (m : Int) m f (m : Int)) ((m + 1 : Nat) : Int) := rfl
    rw [e, show m + (n + 1) = m + 1 + n by omega]
    exact h2
theorem sGd_0 {a f : Int → Int} : sGd a 0 f := ⟨fun i i0 i1 => by omega, fun i j i0 ij j1 => by omega, fun F => rfl⟩
theorem sRk_N {a : Int → Int} {r : Int} : ∀ (n : Nat) (k acc : Int), 0 ≤ k → acc = sN (fun k => if k ≠ r ∧ sAhd a k r then 1 else 0) k.toNat → sRk a r n k acc = sN (fun k => if k ≠ r ∧ sAhd a k r then 1 else 0) (k.toNat + n)
  | 0, k, acc, k0, e => e
  | n + 1, k, acc, k0, e => by
    show sRk a r n (k + 1) (acc + (if k ≠ r ∧ sAhd a k r then 1 else 0)) = _
    rw [sRk_N n (k + 1) _ (by omega) (by rw [sN_s k0, e]), show (k + 1).toNat + n = k.toNat + (n + 1) by omega]
theorem sN_1 {f : Int → Int} {j : Int} : ∀ n : Nat, (∀ k : Int, 0 ≤ k → k < (n : Int) → f k = if k < j then 1 else 0) → 0 ≤ j → sN f n = min j (n : Int)
  | 0, _, h => by show (0 : Int) = min j ((0 : Nat) : Int); omega
  | n + 1, e, h => by
    show sN f n + f (n : Int) = min j ((n + 1 : Nat) : Int)
    rw [sN_1 n (fun k k0 k1 => e k k0 (by omega)) h, e (n : Int) (by omega) (by omega)]
    split <;> omega
theorem sN_0 {f : Int → Int} : ∀ n : Nat, (∀ k : Int, 0 ≤ k → k < (n : Int) → f k = 0) → sN f n = 0
  | 0, _ => rfl
  | n + 1, e => by
    show sN f n + f (n : Int) = 0
    rw [sN_0 n (fun k k0 k1 => e k k0 (by omega)), e (n : Int) (by omega) (by omega)]
    rfl
theorem sGd_rank {a f : Int → Int} {j : Int} (h : sGd a (a 2).toNat f) (j0 : 0 ≤ j) (j1 : j < a 2) : sRank a (f j) = j := by
  unfold sRank
  rw [sRk_N (a 2).toNat 0 0 (by omega) rfl, show (0 : Int).toNat + (a 2).toNat = (a 2).toNat from Nat.zero_add _, ← h.2.2 (fun k => if k ≠ f j ∧ sAhd a k (f j) then 1 else 0)]
  rw [sN_1 (j := j) (a 2).toNat (fun k k0 k1 => ?_) j0]
  · omega
  · show (if f k ≠ f j ∧ sAhd a (f k) (f j) then (1 : Int) else 0) = _
    by_cases e : k < j
    · have q := h.2.1 k j k0 e (by omega)
      rw [if_pos e, if_pos ⟨fun q2 => by rw [q2] at q; exact sAhd_ir q, q⟩]
    · rw [if_neg e]
      by_cases e2 : k = j
      · rw [e2, if_neg (fun q => q.1 rfl)]
      · rw [if_neg (fun q => sAhd_as (h.2.1 j k j0 (by omega) k1) q.2)]
theorem sGd_sur {a f : Int → Int} {k : Int} (h : sGd a (a 2).toNat f) (k0 : 0 ≤ k) (k1 : k < a 2) : ∃ j, (0 ≤ j ∧ j < a 2) ∧ f j = k := by
  refine Classical.byContradiction (fun q => ?_)
  have e1 := h.2.2 (fun i => if i = k then 1 else 0)
  have e2 : sN (fun i => if f i = k then (1 : Int) else 0) (a 2).toNat = 0 := sN_0 _ (fun i i0 i1 => if_neg (fun e => q ⟨i, ⟨i0, by omega⟩, e⟩))
  have e3 : sN (fun i => if i = k then (1 : Int) else 0) (a 2).toNat = 1 := by
    have e4 : sN (fun i => if i = k then (1 : Int) else 0) (a 2).toNat = sN (ud (fun _ => 0) k 1) (a 2).toNat := sN_cgZ _ (fun i _ _ => rfl)
    rw [e4, sN_ud _ k0 (by omega), sN_0 _ (fun _ _ _ => rfl)]
    rfl
  rw [e3] at e1
  have e5 : sN (fun i => if f i = k then (1 : Int) else 0) (a 2).toNat = 1 := e1
  omega
theorem sRd_at {a : Int → Int} {rank v : Int} (hv : sRank a v = rank) (hu : ∀ k, 0 ≤ k → k < a 2 → sRank a k = rank → k = v) : ∀ (n : Nat) (k : Int), 0 ≤ k → k + (n : Int) = a 2 → k ≤ v → v < a 2 → sRd a rank n k = v
  | 0, k, k0, k1, k2, v1 => by omega
  | n + 1, k, k0, k1, k2, v1 => by
    show (if sRank a k = rank then k else sRd a rank n (k + 1)) = v
    by_cases e : sRank a k = rank
    · rw [if_pos e]; exact hu k k0 (by omega) e
    · rw [if_neg e]
      refine sRd_at hv hu n (k + 1) (by omega) (by omega) ?_ v1
      by_cases e2 : k = v
      · rw [e2] at e; exact absurd hv e
      · omega
/-- what is ranked is what sorting gives -/
theorem sGd_ranked {a f : Int → Int} {j : Int} (h : sGd a (a 2).toNat f) (j0 : 0 ≤ j) (j1 : j < a 2) : sRanked a j = f j := by
  have v := h.1 j j0 (by omega)
  refine sRd_at (sGd_rank h j0 j1) (fun k k0 k1 e => ?_) _ 0 (by omega) (by omega) v.1 (by omega)
  obtain ⟨i, ⟨i0, i1⟩, ei⟩ := sGd_sur h k0 k1
  rw [← ei, sGd_rank h i0 i1] at e
  rw [← ei, e]
theorem sRanked_0 {a : Int → Int} {j : Int} (j0 : 0 ≤ j) (j1 : j < a 2) : 0 ≤ sRanked a j ∧ sRanked a j < a 2 := by
  have h : sGd a (a 2).toNat (sSo a (a 2).toNat (fun _ => 0) 0) := by
    have := sSo_G (a := a) (a 2).toNat 0 (fun _ => 0) sGd_0
    rw [Nat.zero_add] at this
    exact this
  rw [sGd_ranked h j0 j1]
  have := h.1 j j0 (by omega)
  omega
theorem sRanked_n {a : Int → Int} {j : Int} (h0 : 0 ≤ a 2) (hj : ¬ (0 ≤ j ∧ j < a 2)) : sRanked a j = -1 := by
  have h : sGd a (a 2).toNat (sSo a (a 2).toNat (fun _ => 0) 0) := by
    have := sSo_G (a := a) (a 2).toNat 0 (fun _ => 0) sGd_0
    rw [Nat.zero_add] at this
    exact this
  have key : ∀ (n : Nat) (k : Int), 0 ≤ k → k + (n : Int) = a 2 → sRd a j n k = -1 := by
    intro n
    induction n with
    | zero => intro k _ _; rfl
    | succ n ih =>
      intro k k0 k1
      show (if sRank a k = j then k else sRd a j n (k + 1)) = -1
      rw [if_neg, ih (k + 1) (by omega) (by omega)]
      intro e
      obtain ⟨i, ⟨i0, i1⟩, ei⟩ := sGd_sur h k0 (by omega)
      rw [← ei, sGd_rank h i0 i1] at e
      omega
  exact key _ 0 (by omega) (by omega)
