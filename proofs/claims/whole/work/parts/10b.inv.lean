/-! WHAT ALWAYS HOLDS IS KEPT -/
theorem sN_cg {f h : Int → Int} : ∀ n : Nat, (∀ k : Nat, k < n → f (k : Int) = h (k : Int)) → sN f n = sN h n
  | 0, _ => rfl
  | n + 1, e => by
    show sN f n + f (n : Int) = sN h n + h (n : Int)
    rw [sN_cg n (fun k hk => e k (by omega)), e n (by omega)]
theorem sN_ud {f : Int → Int} {i v : Int} : ∀ n : Nat, 0 ≤ i → i < (n : Int) → sN (ud f i v) n = sN f n - f i + v
  | 0, h1, h2 => by omega
  | n + 1, h1, h2 => by
    show sN (ud f i v) n + ud f i v (n : Int) = sN f n + f (n : Int) - f i + v
    by_cases h : i = (n : Int)
    · rw [h, ud_at, sN_cg n (f := ud f (n : Int) v) (h := f) (fun k hk => ud_ne (by omega))]
      omega
    · rw [ud_ne (by omega), sN_ud n h1 (by omega)]
      omega
theorem sN_B {f : Int → Int} {B : Int} : ∀ n : Nat, (∀ k : Nat, k < n → 0 ≤ f (k : Int) ∧ f (k : Int) ≤ B) → 0 ≤ sN f n ∧ sN f n ≤ B * (n : Int)
  | 0, _ => ⟨Int.le_refl 0, by show (0 : Int) ≤ B * 0; omega⟩
  | n + 1, e => by
    have h1 := sN_B n (fun k hk => e k (by omega))
    have h2 := e n (by omega)
    show 0 ≤ sN f n + f (n : Int) ∧ sN f n + f (n : Int) ≤ B * ((n + 1 : Nat) : Int)
    have h3 : B * ((n + 1 : Nat) : Int) = B * (n : Int) + B := by rw [Int.natCast_add, Int.mul_add]; simp
    omega
theorem RunOk.cg {a b : Int → Int} {r : Int} (h : RunOk a r) (h6 : 0 ≤ a 0 ∧ a 0 ≤ 6) (e1 : ∀ j, 0 ≤ j → j ≤ 58 → b j = a j) (e2 : ∀ k, 0 ≤ k → k < 13 → b (59 + 13 * r + k) = a (59 + 13 * r + k)) : RunOk b r := by
  obtain ⟨⟨h1, h2, h3⟩, h4, h5, h7⟩ := h
  have q : ∀ k, 0 ≤ k → k < 6 → b (59 + 13 * r + 7 + k) = a (59 + 13 * r + 7 + k) := fun k k1 k2 => by
    have := e2 (7 + k) (by omega) (by omega)
    rw [show 59 + 13 * r + 7 + k = 59 + 13 * r + (7 + k) by omega]
    exact this
  have q0 : b (59 + 13 * r) = a (59 + 13 * r) := by have := e2 0 (by omega) (by omega); simpa using this
  unfold RunOk
  rw [q0, e2 1 (by omega) (by omega), e2 2 (by omega) (by omega), e2 3 (by omega) (by omega), e2 4 (by omega) (by omega), e2 5 (by omega) (by omega), e2 6 (by omega) (by omega), e1 0 (by omega) (by omega)]
  refine ⟨⟨h1, h2, h3⟩, fun w w1 w2 => by rw [e2 w (by omega) (by omega)]; exact h4 w w1 w2, fun k k1 k2 => by rw [q k k1 (by omega), e1 _ (by omega) (by omega)]; exact h5 k k1 k2, ?_⟩
  rw [sN_cg (f := fun k => b (59 + 13 * r + 7 + k)) (h := fun k => a (59 + 13 * r + 7 + k)) _ (fun k hk => q k (by omega) (by omega)), sN_cg (f := fun k => b (11 + 3 * k + 2)) (h := fun k => a (11 + 3 * k + 2)) _ (fun k hk => e1 _ (by omega) (by omega))]
  exact h7
theorem InvC.cg {a b : Int → Int} (h : InvC a) (e1 : ∀ j, 0 ≤ j → j ≤ 58 → (j < 7 ∨ 10 < j) → b j = a j) : InvC b := by
  obtain ⟨⟨h0, h1, h2⟩, h3, h4, h5⟩ := h
  unfold InvC
  rw [e1 0 (by omega) (by omega) (by omega), e1 1 (by omega) (by omega) (by omega), e1 2 (by omega) (by omega) (by omega), e1 3 (by omega) (by omega) (by omega), e1 4 (by omega) (by omega) (by omega), e1 5 (by omega) (by omega) (by omega), e1 6 (by omega) (by omega) (by omega)]
  refine ⟨⟨h0, h1, h2⟩, h3, fun i i1 i2 => ?_, fun i i1 i2 => ?_⟩
  · rw [e1 _ (by omega) (by omega) (by omega), e1 _ (by omega) (by omega) (by omega), e1 _ (by omega) (by omega) (by omega)]
    exact h4 i i1 i2
  · rw [e1 (29 + 5 * i) (by omega) (by omega) (by omega), e1 (29 + 5 * i + 1) (by omega) (by omega) (by omega), e1 (29 + 5 * i + 2) (by omega) (by omega) (by omega), e1 (29 + 5 * i + 3) (by omega) (by omega) (by omega), e1 (29 + 5 * i + 4) (by omega) (by omega) (by omega)]
    exact h5 i i1 i2
/-- a run's own numbers are changed -/
theorem Inv0.blk {a b : Int → Int} {r : Int} (h : Inv0 a) (r0 : 0 ≤ r) (r1 : r < a 2) (e : ∀ j, (j < 59 + 13 * r ∨ 59 + 13 * r + 13 ≤ j) → b j = a j) (ok : RunOk b r) : Inv0 b := by
  obtain ⟨hC, hG, hR, hZ, hv⟩ := h
  have hC' := hC
  obtain ⟨⟨⟨c0, c0'⟩, ⟨c1, c1'⟩, ⟨c2, c2'⟩⟩, -⟩ := hC'
  have e1 : ∀ j, 0 ≤ j → j ≤ 58 → b j = a j := fun j j0 j1 => e j (by omega)
  refine ⟨hC.cg (fun j j0 j1 _ => e1 j j0 j1), ?_, fun r' r0' r1' => ?_, fun r' r0' r1' k k0 k1 => ?_, fun k hk => ?_⟩
  · rw [e1 7 (by omega) (by omega), e1 2 (by omega) (by omega), e1 8 (by omega) (by omega), e1 0 (by omega) (by omega), e1 9 (by omega) (by omega), e1 10 (by omega) (by omega)]
    exact hG
  · rw [e1 2 (by omega) (by omega)] at r1'
    by_cases q : r' = r
    · rw [q]; exact ok
    · exact (hR r' r0' r1').cg ⟨c0, c0'⟩ e1 (fun k k0 k1 => e _ (by omega))
  · rw [e1 2 (by omega) (by omega)] at r0'
    rw [e _ (by omega)]
    exact hZ r' r0' r1' k k0 k1
  · rw [e k (by omega)]
    exact hv k hk
theorem Inv0.go {a : Int → Int} (h : Inv0 a) (n : a 7 ≠ -1) : ((a 7 = a 2 - 1 ∧ 1 ≤ a 2) ∧ (0 ≤ a 8 ∧ a 8 < a 0) ∧ sPt (a 9) (a 10)) := h.2.1.resolve_left n
theorem Inv0.ok {a : Int → Int} (h : Inv0 a) (n : a 7 ≠ -1) : RunOk a (a 7) := by
  have := h.go n
  have := h.1.1
  exact h.2.2.1 _ (by omega) (by omega)
/-- points on a leg, of any run -/
theorem Inv0.pts {a : Int → Int} (h : Inv0 a) {r leg : Int} (r0 : 0 ≤ r) (r1 : r < a 2) (l0 : 0 ≤ leg) (l1 : leg < a 0) : 0 ≤ a (59 + 13 * r + 7 + leg) ∧ a (59 + 13 * r + 7 + leg) ≤ 30 := by
  have h1 := (h.2.2.1 r r0 r1).2.2.1 leg l0 l1
  have h2 := (h.1.2.2.1 leg l0 l1).2
  omega
theorem Inv0.time {a : Int → Int} (h : Inv0 a) (n : a 7 ≠ -1) {v : Int} (v0 : 0 ≤ v) (v1 : v ≤ 1998) : Inv0 (ud a (59 + 13 * a 7 + 1) v) := by
  have g := h.go n
  have c := h.1.1
  refine h.blk (r := a 7) (by omega) (by omega) (fun j hj => ud_ne (by omega)) ?_
  obtain ⟨⟨h1, h2, h3⟩, h4, h5, h7⟩ := h.ok n
  unfold RunOk
  rw [ud_ne (by omega), ud_at, ud_ne (by omega), ud_ne (by omega), ud_ne (by omega), ud_ne (by omega), ud_ne (by omega), ud_ne (by omega)]
  refine ⟨⟨h1, ⟨v0, v1⟩, h3⟩, fun w w1 w2 => by rw [ud_ne (by omega)]; exact h4 w w1 w2, fun k k1 k2 => by rw [ud_ne (by omega), ud_ne (by omega)]; exact h5 k k1 k2, ?_⟩
  rw [sN_cg (f := fun k => ud a (59 + 13 * a 7 + 1) v (59 + 13 * a 7 + 7 + k)) (h := fun k => a (59 + 13 * a 7 + 7 + k)) _ (fun k hk => ud_ne (by omega)), sN_cg (f := fun k => ud a (59 + 13 * a 7 + 1) v (11 + 3 * k + 2)) (h := fun k => a (11 + 3 * k + 2)) _ (fun k hk => ud_ne (by omega))]
  exact h7
theorem Inv0.bits {a : Int → Int} (h : Inv0 a) (n : a 7 ≠ -1) {v : Int} (v0 : 0 ≤ v) (v1 : v < 64) : Inv0 (ud a (59 + 13 * a 7 + 6) v) := by
  have g := h.go n
  have c := h.1.1
  refine h.blk (r := a 7) (by omega) (by omega) (fun j hj => ud_ne (by omega)) ?_
  obtain ⟨⟨h1, h2, h3⟩, h4, h5, h7⟩ := h.ok n
  unfold RunOk
  rw [ud_ne (by omega), ud_ne (by omega), ud_at, ud_ne (by omega), ud_ne (by omega), ud_ne (by omega), ud_ne (by omega), ud_ne (by omega)]
  refine ⟨⟨h1, h2, ⟨v0, v1⟩⟩, fun w w1 w2 => by rw [ud_ne (by omega)]; exact h4 w w1 w2, fun k k1 k2 => by rw [ud_ne (by omega), ud_ne (by omega)]; exact h5 k k1 k2, ?_⟩
  rw [sN_cg (f := fun k => ud a (59 + 13 * a 7 + 6) v (59 + 13 * a 7 + 7 + k)) (h := fun k => a (59 + 13 * a 7 + 7 + k)) _ (fun k hk => ud_ne (by omega)), sN_cg (f := fun k => ud a (59 + 13 * a 7 + 6) v (11 + 3 * k + 2)) (h := fun k => a (11 + 3 * k + 2)) _ (fun k hk => ud_ne (by omega))]
  exact h7
theorem Inv0.done {a : Int → Int} (h : Inv0 a) (n : a 7 ≠ -1) : Inv0 (ud a (59 + 13 * a 7) 1) := by
  have g := h.go n
  have c := h.1.1
  refine h.blk (r := a 7) (by omega) (by omega) (fun j hj => ud_ne (by omega)) ?_
  obtain ⟨⟨h1, h2, h3⟩, h4, h5, h7⟩ := h.ok n
  unfold RunOk
  rw [ud_at, ud_ne (by omega), ud_ne (by omega), ud_ne (by omega), ud_ne (by omega), ud_ne (by omega), ud_ne (by omega), ud_ne (by omega)]
  refine ⟨⟨⟨by omega, by omega⟩, h2, h3⟩, fun w w1 w2 => by rw [ud_ne (by omega)]; exact h4 w w1 w2, fun k k1 k2 => by rw [ud_ne (by omega), ud_ne (by omega)]; exact h5 k k1 k2, ?_⟩
  rw [sN_cg (f := fun k => ud a (59 + 13 * a 7) 1 (59 + 13 * a 7 + 7 + k)) (h := fun k => a (59 + 13 * a 7 + 7 + k)) _ (fun k hk => ud_ne (by omega)), sN_cg (f := fun k => ud a (59 + 13 * a 7) 1 (11 + 3 * k + 2)) (h := fun k => a (11 + 3 * k + 2)) _ (fun k hk => ud_ne (by omega))]
  exact h7
theorem sLo_B {a : Int → Int} (h : Inv0 a) (n : a 7 ≠ -1) {leg p : Int} (l0 : 0 ≤ leg) (l1 : leg < a 0) (p0 : 0 ≤ p) : (0 ≤ sLo a leg p ∧ sLo a leg p ≤ 30) ∧ sLo a leg p ≤ a (59 + 13 * a 7 + 7 + leg) := by
  have g := h.go n
  have c := h.1.1
  have q := h.pts (r := a 7) (by omega) (by omega) l0 l1
  unfold sLo
  omega
theorem sLoA_ne {a : Int → Int} {leg p w j : Int} (h1 : j ≠ 59 + 13 * a 7 + 7 + leg) (h2 : j ≠ 59 + 13 * a 7 + w) : sLoA a leg p w j = a j := by
  unfold sLoA
  rw [ud_ne h2, ud_ne h1]
theorem Inv0.lo {a : Int → Int} (h : Inv0 a) (n : a 7 ≠ -1) {leg p w : Int} (l0 : 0 ≤ leg) (l1 : leg < a 0) (p0 : 0 ≤ p) (w0 : 2 ≤ w) (w1 : w ≤ 5) : Inv0 (sLoA a leg p w) := by
  have g := h.go n
  have c := h.1.1
  have q := sLo_B h n l0 l1 p0
  refine h.blk (r := a 7) (by omega) (by omega) (fun j hj => sLoA_ne (by omega) (by omega)) ?_
  obtain ⟨⟨h1, h2, h3⟩, h4, h5, h7⟩ := h.ok n
  have e0 : sLoA a leg p w 0 = a 0 := sLoA_ne (by omega) (by omega)
  have ew : sLoA a leg p w (59 + 13 * a 7 + w) = a (59 + 13 * a 7 + w) + sLo a leg p := by
    unfold sLoA
    rw [ud_at, ud_ne (by omega)]
  have el : sLoA a leg p w (59 + 13 * a 7 + 7 + leg) = a (59 + 13 * a 7 + 7 + leg) - sLo a leg p := by
    unfold sLoA
    rw [ud_ne (by omega), ud_at]
  have eo : ∀ v, 2 ≤ v → v ≤ 5 → v ≠ w → sLoA a leg p w (59 + 13 * a 7 + v) = a (59 + 13 * a 7 + v) := fun v v0 v1 v2 => sLoA_ne (by omega) (by omega)
  have ep : ∀ k, 0 ≤ k → k ≠ leg → sLoA a leg p w (59 + 13 * a 7 + 7 + k) = a (59 + 13 * a 7 + 7 + k) := fun k k0 k1 => sLoA_ne (by omega) (by omega)
  have eg : ∀ k, 0 ≤ k → k < 6 → sLoA a leg p w (11 + 3 * k + 2) = a (11 + 3 * k + 2) := fun k k0 k1 => sLoA_ne (by omega) (by omega)
  unfold RunOk
  rw [e0, sLoA_ne (j := 59 + 13 * a 7) (by omega) (by omega), sLoA_ne (j := 59 + 13 * a 7 + 1) (by omega) (by omega), sLoA_ne (j := 59 + 13 * a 7 + 6) (by omega) (by omega)]
  refine ⟨⟨h1, h2, h3⟩, fun v v1 v2 => ?_, fun k k1 k2 => ?_, ?_⟩
  · have := h4 v v1 v2
    by_cases e : v = w
    · rw [e, ew]
      rw [e] at this
      omega
    · rw [eo v v1 v2 e]
      exact this
  · have := h5 k k1 k2
    rw [eg k k1 (by omega)]
    by_cases e : k = leg
    · rw [e, el]
      rw [e] at this
      omega
    · rw [ep k k1 e]
      exact this
  · have s1 : sN (fun k => sLoA a leg p w (59 + 13 * a 7 + 7 + k)) (a 0).toNat = sN (ud (fun k => a (59 + 13 * a 7 + 7 + k)) leg (a (59 + 13 * a 7 + 7 + leg) - sLo a leg p)) (a 0).toNat := by
      refine sN_cg _ (fun k hk => ?_)
      show sLoA a leg p w (59 + 13 * a 7 + 7 + (k : Int)) = _
      by_cases e : (k : Int) = leg
      · rw [e, el, ud_at]
      · rw [ep _ (by omega) e, ud_ne e]
    have s2 : sN (fun k => sLoA a leg p w (11 + 3 * k + 2)) (a 0).toNat = sN (fun k => a (11 + 3 * k + 2)) (a 0).toNat := sN_cg _ (fun k hk => eg _ (by omega) (by omega))
    rw [s1, s2, sN_ud _ l0 (by omega), ← h7]
    have hw : w = 2 ∨ w = 3 ∨ w = 4 ∨ w = 5 := by omega
    rcases hw with rfl | rfl | rfl | rfl
    · rw [ew, eo 3 (by omega) (by omega) (by omega), eo 4 (by omega) (by omega) (by omega), eo 5 (by omega) (by omega) (by omega)]; omega
    · rw [ew, eo 2 (by omega) (by omega) (by omega), eo 4 (by omega) (by omega) (by omega), eo 5 (by omega) (by omega) (by omega)]; omega
    · rw [ew, eo 2 (by omega) (by omega) (by omega), eo 3 (by omega) (by omega) (by omega), eo 5 (by omega) (by omega) (by omega)]; omega
    · rw [ew, eo 2 (by omega) (by omega) (by omega), eo 3 (by omega) (by omega) (by omega), eo 4 (by omega) (by omega) (by omega)]; omega
/-- what the going run's change keeps -/
theorem sLoA_g {a : Int → Int} (h : Inv0 a) (n : a 7 ≠ -1) {leg p w : Int} (l0 : 0 ≤ leg) (w0 : 2 ≤ w) : ∀ j, j ≤ 58 → sLoA a leg p w j = a j := fun j hj => by
  have g := h.go n
  exact sLoA_ne (by omega) (by omega)
/-- the run's place is changed: 7 8 9 10 -/
theorem Inv0.at {a b : Int → Int} (h : Inv0 a) (e : ∀ j, (j < 7 ∨ 10 < j) → b j = a j) (hg : b 7 = -1 ∨ ((b 7 = a 2 - 1 ∧ 1 ≤ a 2) ∧ (0 ≤ b 8 ∧ b 8 < a 0) ∧ sPt (b 9) (b 10))) : Inv0 b := by
  obtain ⟨hC, hG, hR, hZ, hv⟩ := h
  have hC' := hC
  obtain ⟨⟨⟨c0, c0'⟩, ⟨c1, c1'⟩, ⟨c2, c2'⟩⟩, -⟩ := hC'
  refine ⟨hC.cg (fun j j0 j1 q => e j q), ?_, fun r' r0' r1' => ?_, fun r' r0' r1' k k0 k1 => ?_, fun k hk => ?_⟩
  · rw [e 2 (by omega), e 0 (by omega)]
    exact hg
  · rw [e 2 (by omega)] at r1'
    have hr := hR r' r0' r1'
    obtain ⟨⟨h1, h2, h3⟩, h4, h5, h7⟩ := hr
    unfold RunOk
    rw [e 0 (by omega), e _ (by omega), e (59 + 13 * r' + 1) (by omega), e (59 + 13 * r' + 2) (by omega), e (59 + 13 * r' + 3) (by omega), e (59 + 13 * r' + 4) (by omega), e (59 + 13 * r' + 5) (by omega), e (59 + 13 * r' + 6) (by omega)]
    refine ⟨⟨h1, h2, h3⟩, fun w w1 w2 => by rw [e _ (by omega)]; exact h4 w w1 w2, fun k k1 k2 => by rw [e _ (by omega), e _ (by omega)]; exact h5 k k1 k2, ?_⟩
    rw [sN_cg (f := fun k => b (59 + 13 * r' + 7 + k)) (h := fun k => a (59 + 13 * r' + 7 + k)) _ (fun k hk => e _ (by omega)), sN_cg (f := fun k => b (11 + 3 * k + 2)) (h := fun k => a (11 + 3 * k + 2)) _ (fun k hk => e _ (by omega))]
    exact h7
  · rw [e 2 (by omega)] at r0'
    rw [e _ (by omega)]
    exact hZ r' r0' r1' k k0 k1
  · rw [e k (by omega)]
    exact hv k hk
theorem sEnds_e (a : Int → Int) : (∀ j, (j < 7 ∨ 10 < j) → sEnds a j = a j) ∧ sEnds a 7 = -1 := by
  unfold sEnds
  refine ⟨fun j hj => ?_, ?_⟩
  · rw [ud_ne (by omega), ud_ne (by omega), ud_ne (by omega), ud_ne (by omega)]
  · rw [ud_ne (by omega), ud_ne (by omega), ud_ne (by omega), ud_at]
theorem Inv0.ends {a : Int → Int} (h : Inv0 a) : Inv (sEnds a) := by
  obtain ⟨e1, e2⟩ := sEnds_e a
  exact ⟨h.at e1 (Or.inl e2), fun n => absurd e2 n⟩
theorem Inv0.flock {a : Int → Int} (h : Inv0 a) (n : a 7 ≠ -1) {x y : Int} (hp : sPt x y) : Inv0 (ud (ud a 9 x) 10 y) := by
  have g := h.go n
  refine h.at (fun j hj => by rw [ud_ne (by omega), ud_ne (by omega)]) (Or.inr ?_)
  rw [ud_ne (by omega), ud_ne (by omega), ud_ne (by omega), ud_ne (by omega), ud_ne (by omega), ud_at, ud_at]
  exact ⟨g.1, g.2.1, hp⟩
theorem Inv0.next {a : Int → Int} (h : Inv0 a) (n : a 7 ≠ -1) (hl : a 8 ≠ a 0 - 1) : Inv0 (ud a 8 (a 8 + 1)) := by
  have g := h.go n
  refine h.at (fun j hj => by rw [ud_ne (by omega)]) (Or.inr ?_)
  rw [ud_ne (by omega), ud_at, ud_ne (by omega), ud_ne (by omega)]
  exact ⟨g.1, by omega, g.2.2⟩
