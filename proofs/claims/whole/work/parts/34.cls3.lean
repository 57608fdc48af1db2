/-! THE CLASS: a step's parts (printed by wip/whole/cls3.py) -/
theorem sN_fr {f : Int → Int} : ∀ n : Nat, sN f (n + 1) = f 0 + sN (fun i => f (i + 1)) n
  | 0 => by show (0 : Int) + f ((0 : Nat) : Int) = f 0 + 0; rw [Int.add_zero, Int.zero_add]; rfl
  | n + 1 => by
    show sN f (n + 1) + f ((n + 1 : Nat) : Int) = f 0 + (sN (fun i => f (i + 1)) n + f ((n : Int) + 1))
    rw [sN_fr n, show ((n + 1 : Nat) : Int) = (n : Int) + 1 by omega]
    omega
theorem sLoA_at {a : Int → Int} {leg p w : Int} (h7 : 0 ≤ leg) (hw : w < 7) : sLoA a leg p w (59 + 13 * a 7 + w) = a (59 + 13 * a 7 + w) + sLo a leg p := by
  unfold sLoA
  rw [ud_at, ud_ne (by omega)]
theorem sLoA_pt {a : Int → Int} {leg p w : Int} (h7 : 0 ≤ leg) (hw : w < 7) : sLoA a leg p w (59 + 13 * a 7 + 7 + leg) = a (59 + 13 * a 7 + 7 + leg) - sLo a leg p := by
  unfold sLoA
  rw [ud_ne (by omega), ud_at]
def sZ (a : Int → Int) (w leg : Int) (n : Nat) (S : Int) : Int → Int := fun j => if 59 + 13 * a 7 + 7 + leg ≤ j ∧ j < 59 + 13 * a 7 + 7 + leg + (n : Int) then 0 else if j = 59 + 13 * a 7 + w then a j + S else a j
theorem sRe_z {w : Int} (w0 : 2 ≤ w) (w1 : w ≤ 5) : ∀ (n : Nat) (a : Int → Int) (leg acc : Int), 0 ≤ leg → (0 ≤ a 7) → (∀ i, leg ≤ i → i < leg + (n : Int) → 0 ≤ a (59 + 13 * a 7 + 7 + i) ∧ a (59 + 13 * a 7 + 7 + i) ≤ 30) → sRe w n a leg acc = (acc + sN (fun i => a (59 + 13 * a 7 + 7 + (leg + i))) n, sZ a w leg n (sN (fun i => a (59 + 13 * a 7 + 7 + (leg + i))) n))
  | 0, a, leg, acc, l0, a7, hp => by
    show (acc, a) = (acc + 0, _)
    refine Prod.ext (by show acc = acc + 0; omega) ?_
    funext j
    show a j = sZ a w leg 0 0 j
    unfold sZ
    rw [if_neg (by omega)]
    split
    · omega
    · rfl
  | n + 1, a, leg, acc, l0, a7, hp => by
    have v := hp leg (by omega) (by omega)
    have e0 : sLo a leg 30 = a (59 + 13 * a 7 + 7 + leg) := by unfold sLo; omega
    have b7 : sLoA a leg 30 w 7 = a 7 := sLoA_ne (by omega) (by omega)
    have bo : ∀ j, j ≠ 59 + 13 * a 7 + 7 + leg → j ≠ 59 + 13 * a 7 + w → sLoA a leg 30 w j = a j := fun j h1 h2 => sLoA_ne h1 h2
    have bw := sLoA_at (a := a) (leg := leg) (p := 30) (w := w) l0 (by omega)
    have bp := sLoA_pt (a := a) (leg := leg) (p := 30) (w := w) l0 (by omega)
    rw [e0] at bw bp
    obtain ⟨b, eb⟩ : ∃ b, b = sLoA a leg 30 w := ⟨_, rfl⟩
    rw [← eb] at b7 bo bw bp
    have ih := sRe_z w0 w1 n b (leg + 1) (acc + sLo a leg 30) (by omega) (by omega) (fun i i0 i1 => by rw [b7, bo _ (by omega) (by omega)]; exact hp i (by omega) (by omega))
    show sRe w n (sLoA a leg 30 w) (leg + 1) (acc + sLo a leg 30) = _
    rw [← eb, ih, e0, b7]
    have eS : sN (fun i => b (59 + 13 * a 7 + 7 + (leg + 1 + i))) n = sN (fun i => a (59 + 13 * a 7 + 7 + (leg + (i + 1)))) n := sN_cgZ n (fun k k0 k1 => by
      show b (59 + 13 * a 7 + 7 + (leg + 1 + k)) = a (59 + 13 * a 7 + 7 + (leg + (k + 1)))
      rw [bo _ (by omega) (by omega)]; congr 1; omega)
    have eF := sN_fr (f := fun i => a (59 + 13 * a 7 + 7 + (leg + i))) n
    rw [Int.add_zero] at eF
    rw [eS, eF]
    obtain ⟨S, eSS⟩ : ∃ S, S = sN (fun i => a (59 + 13 * a 7 + 7 + (leg + (i + 1)))) n := ⟨_, rfl⟩
    rw [← eSS]
    refine Prod.ext (by show acc + a (59 + 13 * a 7 + 7 + leg) + S = acc + (a (59 + 13 * a 7 + 7 + leg) + S); omega) ?_
    funext j
    show sZ b w (leg + 1) n S j = sZ a w leg (n + 1) (a (59 + 13 * a 7 + 7 + leg) + S) j
    unfold sZ
    rw [b7]
    by_cases h1 : 59 + 13 * a 7 + 7 + (leg + 1) ≤ j ∧ j < 59 + 13 * a 7 + 7 + (leg + 1) + (n : Int)
    · rw [if_pos h1, if_pos (by omega)]
    · rw [if_neg h1]
      by_cases h2 : j = 59 + 13 * a 7 + 7 + leg
      · rw [if_neg (by omega), if_pos (by omega), h2, bp]; omega
      · rw [if_neg (by omega : ¬ (59 + 13 * a 7 + 7 + leg ≤ j ∧ j < 59 + 13 * a 7 + 7 + leg + ((n + 1 : Nat) : Int)))]
        by_cases h3 : j = 59 + 13 * a 7 + w
        · rw [if_pos h3, if_pos h3, h3, bw]; omega
        · rw [if_neg h3, if_neg h3]; exact bo j h2 h3
/-- how many gates are open -/
def sOc (a : Int → Int) : Nat → Int → Int → Int
  | 0, _, acc => acc
  | n + 1, k, acc => if sOpen a k then sOc a n (k + 1) (acc + 1) else sOc a n (k + 1) acc
theorem sOc_B {a : Int → Int} : ∀ (n : Nat) (k acc : Int), acc ≤ sOc a n k acc ∧ sOc a n k acc ≤ acc + (n : Int)
  | 0, k, acc => ⟨Int.le_refl acc, by show acc ≤ acc + ((0 : Nat) : Int); omega⟩
  | n + 1, k, acc => by
    have h1 := sOc_B (a := a) n (k + 1) (acc + 1)
    have h2 := sOc_B (a := a) n (k + 1) acc
    unfold sOc
    split <;> omega
/-- v points lost at gates -/
def sGv (a : Int → Int) (v : Int) : Int → Int := ud (ud a (59 + 13 * a 7 + 7 + a 8) (a (59 + 13 * a 7 + 7 + a 8) - v)) (59 + 13 * a 7 + 3) (a (59 + 13 * a 7 + 3) + v)
theorem sGv_o {a : Int → Int} {v j : Int} (h1 : j ≠ 59 + 13 * a 7 + 7 + a 8) (h2 : j ≠ 59 + 13 * a 7 + 3) : sGv a v j = a j := by
  unfold sGv
  rw [ud_ne h2, ud_ne h1]
theorem sCm_z {a : Int → Int} (a7 : 0 ≤ a 7) (a8 : 0 ≤ a 8) (hP : 0 ≤ a (59 + 13 * a 7 + 7 + a 8)) : ∀ (n : Nat) (k c acc : Int), 0 ≤ k → k + (n : Int) ≤ 6 → 0 ≤ c → sCm n (sGv a (min (5 * c) (a (59 + 13 * a 7 + 7 + a 8)))) k acc = (acc - min (5 * c) (a (59 + 13 * a 7 + 7 + a 8)) + min (5 * sOc a n k c) (a (59 + 13 * a 7 + 7 + a 8)), sGv a (min (5 * sOc a n k c) (a (59 + 13 * a 7 + 7 + a 8))))
  | 0, k, c, acc, k0, k1, c0 => by
    show (acc, sGv a _) = (_, sGv a _)
    refine Prod.ext (by show acc = acc - min (5 * c) _ + min (5 * c) _; omega) rfl
  | n + 1, k, c, acc, k0, k1, c0 => by
    obtain ⟨P, eP⟩ : ∃ P, P = a (59 + 13 * a 7 + 7 + a 8) := ⟨_, rfl⟩
    obtain ⟨v, ev⟩ : ∃ v, v = min (5 * c) P := ⟨_, rfl⟩
    have b7 : sGv a v 7 = a 7 := sGv_o (by omega) (by omega)
    have b8 : sGv a v 8 = a 8 := sGv_o (by omega) (by omega)
    have b6 : sGv a v (59 + 13 * a 7 + 6) = a (59 + 13 * a 7 + 6) := sGv_o (by omega) (by omega)
    have bg : sGv a v (29 + 5 * k) = a (29 + 5 * k) := sGv_o (by omega) (by omega)
    have bP : sGv a v (59 + 13 * a 7 + 7 + a 8) = P - v := by unfold sGv; rw [ud_ne (by omega), ud_at, eP]
    have bL : sGv a v (59 + 13 * a 7 + 3) = a (59 + 13 * a 7 + 3) + v := by unfold sGv; rw [ud_at]
    have hop : sOpen (sGv a v) k ↔ sOpen a k := by unfold sOpen; rw [b7, b8, b6, bg]
    rw [← eP, ← ev]
    by_cases q : sOpen a k
    · rw [sCm_1 (hop.mpr q)]
      have e1 : sLo (sGv a v) (sGv a v 8) 5 = min (5 * (c + 1)) P - v := by
        unfold sLo
        rw [b7, b8, bP]
        omega
      have e2 : sLoA (sGv a v) (sGv a v 8) 5 3 = sGv a (min (5 * (c + 1)) P) := by
        unfold sLoA
        dsimp only
        rw [e1, b7, b8, bP, ud_ne (by omega), bL]
        unfold sGv
        funext j
        unfold ud
        rw [← eP]
        by_cases h1 : j = 59 + 13 * a 7 + 3
        · rw [if_pos h1, if_pos h1]; omega
        · rw [if_neg h1, if_neg h1]
          by_cases h2 : j = 59 + 13 * a 7 + 7 + a 8
          · rw [if_pos h2, if_pos h2]; omega
          · rw [if_neg h2, if_neg h2, if_neg h1, if_neg h2]
      rw [e2, e1]
      have ih := sCm_z a7 a8 hP n (k + 1) (c + 1) (acc + (min (5 * (c + 1)) P - v)) (by omega) (by omega) (by omega)
      rw [← eP] at ih
      rw [ih]
      have e3 : sOc a (n + 1) k c = sOc a n (k + 1) (c + 1) := if_pos q
      rw [e3]
      refine Prod.ext (by show acc + (min (5 * (c + 1)) P - v) - min (5 * (c + 1)) P + _ = acc - v + _; omega) rfl
    · rw [sCm_2 (fun w => q (hop.mp w)), ev]
      have ih := sCm_z a7 a8 hP n (k + 1) c (acc + 0) (by omega) (by omega) c0
      rw [← eP] at ih
      rw [ih, Int.add_zero]
      have e3 : sOc a (n + 1) k c = sOc a n (k + 1) c := if_neg q
      rw [e3]
/-! one number of a run, of the run's place -/
theorem Sim.f5 {z : aM} {s r : Int} {a : Int → Int} {j w v : Int} (h : Sim z s a) (hI : InvC a) (r0 : 0 ≤ r) (r1 : r < a 2) (hj : (j = 0 ∧ w = 1) ∨ (j = 1 ∧ w = 0) ∨ (j = 4 ∧ w = 6) ∨ (j = 5 ∧ w = 2) ∨ (j = 6 ∧ w = 3) ∨ (j = 7 ∧ w = 4) ∨ (j = 8 ∧ w = 5)) : Sim (aWr z (5, s, r) j v) s (ud a (59 + 13 * r + w) v) := by
  have cc := hI.1
  obtain ⟨⟨⟨h1, h2⟩, h3, h4⟩, ⟨⟨h5, h7⟩, h8, h9⟩, h10⟩ := h.2.1 r r0 r1
  refine h.blk hI r0 (fun q q5 q6 => aWr_ne2 q5) (fun i hi => ud_ne (by omega)) ?_
  have e6 : aWr z (5, s, r) j v (6, s, r) = z (6, s, r) := aWr_ne2 (pne (by show (6 : Nat) ≠ 5; decide))
  have ha0 : ud a (59 + 13 * r + w) v 0 = a 0 := ud_ne (by omega)
  unfold SimR
  rw [e6, ha0]
  rcases hj with ⟨rfl, rfl⟩ | ⟨rfl, rfl⟩ | ⟨rfl, rfl⟩ | ⟨rfl, rfl⟩ | ⟨rfl, rfl⟩ | ⟨rfl, rfl⟩ | ⟨rfl, rfl⟩
  · rw [aWr_k, aWr_j (show (1 : Int) ≠ 0 by decide), aWr_j (show (2 : Int) ≠ 0 by decide), aWr_j (show (4 : Int) ≠ 0 by decide), aWr_j (show (5 : Int) ≠ 0 by decide), aWr_j (show (6 : Int) ≠ 0 by decide), aWr_j (show (7 : Int) ≠ 0 by decide), aWr_j (show (8 : Int) ≠ 0 by decide)]
    simp (disch := omega) only [ud_at, ud_ne]
    first | exact ⟨⟨⟨trivial, h2⟩, h3, h4⟩, ⟨⟨h5, h7⟩, h8, h9⟩, fun i i0 i1 => by rw [ud_ne (by omega)]; exact h10 i i0 i1⟩
  · rw [aWr_j (show (0 : Int) ≠ 1 by decide), aWr_k, aWr_j (show (2 : Int) ≠ 1 by decide), aWr_j (show (4 : Int) ≠ 1 by decide), aWr_j (show (5 : Int) ≠ 1 by decide), aWr_j (show (6 : Int) ≠ 1 by decide), aWr_j (show (7 : Int) ≠ 1 by decide), aWr_j (show (8 : Int) ≠ 1 by decide)]
    rw [Int.add_zero]
    simp (disch := omega) only [ud_at, ud_ne]
    first | exact ⟨⟨⟨h1, trivial⟩, h3, h4⟩, ⟨⟨h5, h7⟩, h8, h9⟩, fun i i0 i1 => by rw [ud_ne (by omega)]; exact h10 i i0 i1⟩
  · rw [aWr_j (show (0 : Int) ≠ 4 by decide), aWr_j (show (1 : Int) ≠ 4 by decide), aWr_j (show (2 : Int) ≠ 4 by decide), aWr_k, aWr_j (show (5 : Int) ≠ 4 by decide), aWr_j (show (6 : Int) ≠ 4 by decide), aWr_j (show (7 : Int) ≠ 4 by decide), aWr_j (show (8 : Int) ≠ 4 by decide)]
    simp (disch := omega) only [ud_at, ud_ne]
    first | exact ⟨⟨⟨h1, h2⟩, h3, trivial⟩, ⟨⟨h5, h7⟩, h8, h9⟩, fun i i0 i1 => by rw [ud_ne (by omega)]; exact h10 i i0 i1⟩
  · rw [aWr_j (show (0 : Int) ≠ 5 by decide), aWr_j (show (1 : Int) ≠ 5 by decide), aWr_j (show (2 : Int) ≠ 5 by decide), aWr_j (show (4 : Int) ≠ 5 by decide), aWr_k, aWr_j (show (6 : Int) ≠ 5 by decide), aWr_j (show (7 : Int) ≠ 5 by decide), aWr_j (show (8 : Int) ≠ 5 by decide)]
    simp (disch := omega) only [ud_at, ud_ne]
    first | exact ⟨⟨⟨h1, h2⟩, h3, h4⟩, ⟨⟨trivial, h7⟩, h8, h9⟩, fun i i0 i1 => by rw [ud_ne (by omega)]; exact h10 i i0 i1⟩
  · rw [aWr_j (show (0 : Int) ≠ 6 by decide), aWr_j (show (1 : Int) ≠ 6 by decide), aWr_j (show (2 : Int) ≠ 6 by decide), aWr_j (show (4 : Int) ≠ 6 by decide), aWr_j (show (5 : Int) ≠ 6 by decide), aWr_k, aWr_j (show (7 : Int) ≠ 6 by decide), aWr_j (show (8 : Int) ≠ 6 by decide)]
    simp (disch := omega) only [ud_at, ud_ne]
    first | exact ⟨⟨⟨h1, h2⟩, h3, h4⟩, ⟨⟨h5, trivial⟩, h8, h9⟩, fun i i0 i1 => by rw [ud_ne (by omega)]; exact h10 i i0 i1⟩
  · rw [aWr_j (show (0 : Int) ≠ 7 by decide), aWr_j (show (1 : Int) ≠ 7 by decide), aWr_j (show (2 : Int) ≠ 7 by decide), aWr_j (show (4 : Int) ≠ 7 by decide), aWr_j (show (5 : Int) ≠ 7 by decide), aWr_j (show (6 : Int) ≠ 7 by decide), aWr_k, aWr_j (show (8 : Int) ≠ 7 by decide)]
    simp (disch := omega) only [ud_at, ud_ne]
    first | exact ⟨⟨⟨h1, h2⟩, h3, h4⟩, ⟨⟨h5, h7⟩, trivial, h9⟩, fun i i0 i1 => by rw [ud_ne (by omega)]; exact h10 i i0 i1⟩
  · rw [aWr_j (show (0 : Int) ≠ 8 by decide), aWr_j (show (1 : Int) ≠ 8 by decide), aWr_j (show (2 : Int) ≠ 8 by decide), aWr_j (show (4 : Int) ≠ 8 by decide), aWr_j (show (5 : Int) ≠ 8 by decide), aWr_j (show (6 : Int) ≠ 8 by decide), aWr_j (show (7 : Int) ≠ 8 by decide), aWr_k]
    simp (disch := omega) only [ud_at, ud_ne]
    first | exact ⟨⟨⟨h1, h2⟩, h3, h4⟩, ⟨⟨h5, h7⟩, h8, trivial⟩, fun i i0 i1 => by rw [ud_ne (by omega)]; exact h10 i i0 i1⟩
theorem Sim.f6 {z : aM} {s r : Int} {a : Int → Int} {k v : Int} (h : Sim z s a) (hI : InvC a) (r0 : 0 ≤ r) (r1 : r < a 2) (k0 : 0 ≤ k) (k1 : k < a 0) : Sim (aWr z (6, s, r) k v) s (ud a (59 + 13 * r + 7 + k) v) := by
  have cc := hI.1
  obtain ⟨⟨⟨h1, h2⟩, h3, h4⟩, ⟨⟨h5, h7⟩, h8, h9⟩, h10⟩ := h.2.1 r r0 r1
  refine h.blk hI r0 (fun q q5 q6 => aWr_ne2 q6) (fun i hi => ud_ne (by omega)) ?_
  have e5 : aWr z (6, s, r) k v (5, s, r) = z (5, s, r) := aWr_ne2 (pne (by show (5 : Nat) ≠ 6; decide))
  unfold SimR
  rw [e5]
  simp (disch := omega) only [ud_ne]
  refine ⟨⟨⟨h1, h2⟩, h3, h4⟩, ⟨⟨h5, h7⟩, h8, h9⟩, fun i i0 i1 => ?_⟩
  by_cases e : i = k
  · rw [e, aWr_k, ud_at]
  · rw [aWr_j e, ud_ne (by omega)]
    exact h10 i i0 i1
theorem Sim.s4 {z : aM} {s : Int} {a : Int → Int} {v : Int} (h : Sim z s a) (hI : InvC a) (n7 : a 7 ≠ -1) : Sim (aWr z (1, s, 0) 4 v) s (ud a 8 v) := by
  obtain ⟨⟨h1, h2⟩, h3⟩ := h.2.2
  refine h.pl hI (fun q hq => aWr_ne2 hq) (fun j hj => ud_ne (by omega)) ?_
  unfold SimS
  rw [aWr_j (by decide), aWr_j (by decide), aWr_k, aWr_j (by decide), aWr_j (by decide)]
  simp (disch := omega) only [ud_ne, ud_at]
  exact ⟨⟨h1, h2⟩, fun n => ⟨trivial, (h3 n).2⟩⟩
theorem Sim.s5 {z : aM} {s : Int} {a : Int → Int} {v : Int} (h : Sim z s a) (hI : InvC a) (n7 : a 7 ≠ -1) : Sim (aWr z (1, s, 0) 5 v) s (ud a 9 v) := by
  obtain ⟨⟨h1, h2⟩, h3⟩ := h.2.2
  refine h.pl hI (fun q hq => aWr_ne2 hq) (fun j hj => ud_ne (by omega)) ?_
  unfold SimS
  rw [aWr_j (by decide), aWr_j (by decide), aWr_k, aWr_j (by decide), aWr_j (by decide)]
  simp (disch := omega) only [ud_ne, ud_at]
  exact ⟨⟨h1, h2⟩, fun n => ⟨(h3 n).1, trivial, (h3 n).2.2⟩⟩
theorem Sim.s6 {z : aM} {s : Int} {a : Int → Int} {v : Int} (h : Sim z s a) (hI : InvC a) (n7 : a 7 ≠ -1) : Sim (aWr z (1, s, 0) 6 v) s (ud a 10 v) := by
  obtain ⟨⟨h1, h2⟩, h3⟩ := h.2.2
  refine h.pl hI (fun q hq => aWr_ne2 hq) (fun j hj => ud_ne (by omega)) ?_
  unfold SimS
  rw [aWr_j (by decide), aWr_j (by decide), aWr_k, aWr_j (by decide), aWr_j (by decide)]
  simp (disch := omega) only [ud_ne, ud_at]
  exact ⟨⟨h1, h2⟩, fun n => ⟨(h3 n).1, (h3 n).2.1, trivial⟩⟩
theorem Sim.en {z : aM} {s : Int} {a : Int → Int} (h : Sim z s a) (hI : InvC a) : Sim (aWr z (1, s, 0) 3 0) s (sEnds a) := by
  obtain ⟨⟨h1, h2⟩, h3⟩ := h.2.2
  obtain ⟨e1, e2⟩ := sEnds_e a
  refine h.pl hI (fun q hq => aWr_ne2 hq) e1 ?_
  unfold SimS
  rw [aWr_j (by decide), aWr_k, e2, e1 2 (by decide)]
  exact ⟨⟨h1, rfl⟩, fun n => absurd rfl n⟩
theorem Sim.go {z : aM} {s : Int} {a : Int → Int} (h : Sim z s a) (hI : Inv0 a) (n7 : a 7 ≠ -1) : (z (1, s, 0) 3 = 1 ∧ z (1, s, 0) 4 = a 8 ∧ z (1, s, 0) 5 = a 9 ∧ z (1, s, 0) 6 = a 10) ∧ SimR z s a (a 7) := by
  have gg := hI.go n7
  have e3 := h.2.2.1.2
  rw [if_neg n7] at e3
  exact ⟨⟨e3, h.2.2.2 n7⟩, h.2.1 _ (by omega) (by omega)⟩
theorem orI_as (x y v : Int) : orI (orI x y) v = orI x (orI y v) := by
  unfold orI iZ
  rw [Int32.ofInt_toInt, Int32.ofInt_toInt, Int32.or_assoc]
theorem bits_ok : ∀ x : Nat, x < 64 → ∀ k : Nat, k < 6 → (x < 2 ^ k → (iZ (x : Int) ||| iZ (1 * 2 ^ k)).toInt < 2 ^ (k + 1) ∧ sPc (iZ (x : Int) ||| iZ (1 * 2 ^ k)).toInt 6 0 0 = sPc (x : Int) 6 0 0 + 1 ∧ sPc (x : Int) 6 0 0 ≤ k ∧ sPc (x : Int) k 0 0 = sPc (x : Int) 6 0 0) := by decide +kernel
theorem bits_hi : ∀ x : Nat, x < 64 → ∀ k : Nat, k < 6 → ∀ j : Nat, j < 6 → ¬ (x < 2 ^ k ∧ k ≤ j ∧ (iZ ((x : Int) / 2 ^ j) &&& iZ 1).toInt = 1) := by decide +kernel
theorem bits_or : ∀ x : Nat, x < 64 → ∀ k : Nat, k < 6 → ∀ j : Nat, j < 6 → ((iZ ((iZ (x : Int) ||| iZ (1 * 2 ^ k)).toInt / 2 ^ j) &&& iZ 1).toInt = 1 ↔ ((iZ ((x : Int) / 2 ^ j) &&& iZ 1).toInt = 1 ∨ j = k)) := by decide +kernel
theorem bits_o2 : ∀ x : Nat, x < 64 → ∀ y : Nat, y < 64 → ∀ j : Nat, j < 6 → ((iZ ((iZ (x : Int) ||| iZ (y : Int)).toInt / 2 ^ j) &&& iZ 1).toInt = 1 ↔ ((iZ ((x : Int) / 2 ^ j) &&& iZ 1).toInt = 1 ∨ (iZ ((y : Int) / 2 ^ j) &&& iZ 1).toInt = 1)) := by decide +kernel
section K3
variable {l : Launch} {g : aG} {d : Nat} {z : aM} {s r : Int} {a : Int → Int}
theorem cK_runGoingOn (hd : 1 ≤ d) (h : Sim z s a) (hI : InvC a) (h1 : 1 ≤ a 2) : aEp l g nX5_runGoingOn d [.inr (.inr (.inl (1, s, 0)))] z (5, s, a 2 - 1) z := by
  have cc := hI.1
  have e2 := h.2.2.1.1
  have em : max 0 (z (1, s, 0) 2 - 1) = a 2 - 1 := by omega
  refine aM1_of kX5_runGoingOn rfl (fun B hB => ?_)
  refine hB [] 1000 _ _ _ _ _ ?_
  repeat' (first | refine And.intro ?_ ?_ | (intro hh; first | exact absurd hh (by decide) | exact absurd rfl hh | (exfalso; omega) | skip) | fail)
  all_goals first | omega | (exact rfl) | (rw [em])

theorem cK_firstOpenGate (hd : 2 ≤ d) (h : Sim z s a) (hI : Inv0 a) (n7 : a 7 ≠ -1) : aE1 l g nX5_firstOpenGate d [.inr (.inr (.inl (1, s, 0)))] z (sFs a (a 1).toNat 0) z := by
  have gg := hI.go n7
  have cc := hI.1.1
  obtain ⟨⟨g3, g4, g5, g6⟩, hR⟩ := h.go hI n7
  have e8 := h.1.1.2.2.2
  have eb := hR.1.2.2
  have ok := (hI.ok n7).1.2.2
  have e7 : a 7 = a 2 - 1 := gg.1.1
  have rg := cK_runGoingOn (l := l) (g := g) (d := d - 1) (by omega) h hI.1 gg.1.2
  rw [← e7] at rg
  refine aM1_of kX5_firstOpenGate rfl (fun B hB => ?_)
  have loop : ∀ (n : Nat) (k : Int), 0 ≤ k → k + (n : Int) = a 1 → sFs a n k = sFs a (a 1).toNat 0 → B (none, 0, 0) z 7 [some (.inr (.inr (.inl (1, s, 0)))), some (.inr (.inr (.inl (5, s, a 7)))), some (.inl k)] [] := by
    intro n
    induction n with
    | zero =>
      intro k k0 k1 e
      have e2 : (-1 : Int) = sFs a (a 1).toNat 0 := e
      refine hB [] 1000 _ _ _ _ _ ?_
      repeat' (first | refine And.intro ?_ ?_ | (intro hh; first | exact absurd hh (by decide) | exact absurd rfl hh | (exfalso; omega) | skip) | fail)
      all_goals first | omega | (exact sI e2) | (exact rfl)
    | succ n ih =>
      intro k k0 k1 e
      have eg : z (3, s, 3) k = a (29 + 5 * k) := (h.1.2.2 k k0 (by omega)).1
      have hg := (hI.1.2.2.2 k k0 (by omega)).1
      have ip := cK_isGatePassed (l := l) (g := g) (d := d - 1) (z := z) (s := s) (r := a 7) (k := k) (by omega) (by omega) k0 (by omega)
      rw [eb] at ip
      have e' : (if sOpen a k then k else sFs a n (k + 1)) = sFs a (a 1).toNat 0 := e
      by_cases q : sOpen a k
      · rw [if_pos q] at e'
        refine hB [7] 1000 _ _ _ _ _ ?_
        repeat' (first | refine And.intro ?_ ?_ | (intro hh; first | exact absurd hh (by decide) | exact absurd rfl hh | (exfalso; omega) | skip) | refine Or.inl (uB ip ?_ ?_) | fail)
        all_goals first | omega | (exact sI e') | (exact rfl) | (exfalso; exact q.2 (by assumption)) | (exfalso; have := q.1; omega)
      · rw [if_neg q] at e'
        have nx := ih (k + 1) (by omega) (by omega) e'
        refine hB [7] 1000 _ _ _ _ _ ?_
        repeat' (first | exact nx | refine And.intro ?_ ?_ | (intro hh; first | exact absurd hh (by decide) | exact absurd rfl hh | (exfalso; omega) | skip) | refine Or.inl (uB ip ?_ ?_) | fail)
        all_goals first | omega | (exact rfl) | (exfalso; exact q ⟨by omega, by assumption⟩)
  have st := loop (a 1).toNat 0 (by omega) (by omega) rfl
  refine hB [7] 1000 _ _ _ _ _ ?_
  repeat' (first | exact st | refine And.intro ?_ ?_ | refine Or.inl (uEp rg ?_) | fail)
  all_goals first | omega | (exact rfl)
theorem cK_countOpenGates (hd : 1 ≤ d) (h : Sim z s a) (hI : Inv0 a) (n7 : a 7 ≠ -1) : aE1 l g nX5_countOpenGates d [.inr (.inr (.inl (1, s, 0))), .inr (.inr (.inl (5, s, a 7)))] z (sOc a (a 1).toNat 0 0) z := by
  have gg := hI.go n7
  have cc := hI.1.1
  obtain ⟨⟨g3, g4, g5, g6⟩, hR⟩ := h.go hI n7
  have e8 := h.1.1.2.2.2
  have eb := hR.1.2.2
  have ok := (hI.ok n7).1.2.2
  have e7 : a 7 = a 2 - 1 := gg.1.1
  refine aM1_of kX5_countOpenGates rfl (fun B hB => ?_)
  have loop : ∀ (n : Nat) (k c : Int), 0 ≤ k → k + (n : Int) = a 1 → sOc a n k c = sOc a (a 1).toNat 0 0 → B (none, 0, 0) z 4 [some (.inr (.inr (.inl (1, s, 0)))), some (.inr (.inr (.inl (5, s, a 7)))), some (.inl c), some (.inl k)] [] := by
    intro n
    induction n with
    | zero =>
      intro k c k0 k1 e
      have e2 : c = sOc a (a 1).toNat 0 0 := e
      refine hB [] 1000 _ _ _ _ _ ?_
      repeat' (first | refine And.intro ?_ ?_ | (intro hh; first | exact absurd hh (by decide) | exact absurd rfl hh | (exfalso; omega) | skip) | fail)
      all_goals first | omega | (exact sI e2) | (exact rfl)
    | succ n ih =>
      intro k c k0 k1 e
      have eg : z (3, s, 3) k = a (29 + 5 * k) := (h.1.2.2 k k0 (by omega)).1
      have hg := (hI.1.2.2.2 k k0 (by omega)).1
      have ip := cK_isGatePassed (l := l) (g := g) (d := d - 1) (z := z) (s := s) (r := a 7) (k := k) (by omega) (by omega) k0 (by omega)
      rw [eb] at ip
      have e' : (if sOpen a k then sOc a n (k + 1) (c + 1) else sOc a n (k + 1) c) = sOc a (a 1).toNat 0 0 := e
      by_cases q : sOpen a k
      · rw [if_pos q] at e'
        have nx := ih (k + 1) (c + 1) (by omega) (by omega) e'
        refine hB [4] 1000 _ _ _ _ _ ?_
        repeat' (first | exact nx | refine And.intro ?_ ?_ | (intro hh; first | exact absurd hh (by decide) | exact absurd rfl hh | (exfalso; omega) | skip) | refine Or.inl (uB ip ?_ ?_) | fail)
        all_goals first | omega | (exact rfl) | (exfalso; exact q.2 (by assumption)) | (exfalso; have := q.1; omega)
      · rw [if_neg q] at e'
        have nx := ih (k + 1) c (by omega) (by omega) e'
        refine hB [4] 1000 _ _ _ _ _ ?_
        repeat' (first | exact nx | refine And.intro ?_ ?_ | (intro hh; first | exact absurd hh (by decide) | exact absurd rfl hh | (exfalso; omega) | skip) | refine Or.inl (uB ip ?_ ?_) | fail)
        all_goals first | omega | (exact rfl) | (exfalso; exact q ⟨by omega, by assumption⟩)
  have st := loop (a 1).toNat 0 0 (by omega) (by omega) rfl
  refine hB [4] 1000 _ _ _ _ _ ?_
  repeat' (first | exact st | refine And.intro ?_ ?_ | fail)
  all_goals first | omega | (exact rfl)

theorem cK_leaveLine (hd : 3 ≤ d) (h : Sim z s a) (hI : Inv0 a) (n7 : a 7 ≠ -1) : aM1 l g nX5_leaveLine d [.inr (.inr (.inl (1, s, 0))), .inr (.inr (.inl (5, s, a 7)))] z (fun r' z' => (sFar a (a 9) (a 10) → r' = some (.inl (sLo a (a 8) 1)) ∧ Sim z' s (sLoA a (a 8) 1 2)) ∧ (¬ sFar a (a 9) (a 10) → r' = some (.inl 0) ∧ z' = z) ∧ fS s z z') := by
  have gg := hI.go n7
  have cc := hI.1.1
  obtain ⟨⟨g3, g4, g5, g6⟩, hR⟩ := h.go hI n7
  have e8 := h.1.1.2.2.2
  have eb := hR.1.2.2
  have ok := (hI.ok n7).1.2.2
  have e7 : a 7 = a 2 - 1 := gg.1.1
  have ol := cK_isOffLeg (l := l) (g := g) (d := d - 1) (x := z (1, s, 0) 5) (y := z (1, s, 0) 6) (k := z (1, s, 0) 4) (by omega) h.1 hI.1 (by omega) (by omega) (by rw [g5, g6]; exact gg.2.2)
  have hsp : sFq (a (sBeg (z (1, s, 0) 4))) (a (sBeg (z (1, s, 0) 4) + 1)) (a (11 + 3 * z (1, s, 0) 4)) (a (11 + 3 * z (1, s, 0) 4 + 1)) (z (1, s, 0) 5) (z (1, s, 0) 6) (a 5) ↔ sFar a (a 9) (a 10) := by rw [g4, g5, g6]
  have ol2 := ol.cg hsp
  have pt := hI.pts (r := a 7) (leg := a 8) (by omega) (by omega) gg.2.1.1 gg.2.1.2
  have e6 : z (6, s, a 7) (a 8) = a (59 + 13 * a 7 + 7 + a 8) := hR.2.2 _ gg.2.1.1 gg.2.1.2
  have dd := cK_deduct (l := l) (g := g) (d := d - 1) (z := z) (s := s) (r := a 7) (k := a 8) (p := 1) (by omega) gg.2.1.1 (by omega) (by unfold aIR; omega) (by omega) (by omega)
  rw [e6, show min 1 (a (59 + 13 * a 7 + 7 + a 8)) = sLo a (a 8) 1 from rfl, ← g4] at dd
  have lo := sLo_B hI n7 (leg := a 8) (p := 1) gg.2.1.1 gg.2.1.2 (by omega)
  have q1 := h.f6 hI.1 (r := a 7) (k := a 8) (v := a (59 + 13 * a 7 + 7 + a 8) - sLo a (a 8) 1) (by omega) (by omega) gg.2.1.1 gg.2.1.2
  have q1I : InvC (ud a (59 + 13 * a 7 + 7 + a 8) (a (59 + 13 * a 7 + 7 + a 8) - sLo a (a 8) 1)) := hI.1.cg (fun j j0 j1 _ => ud_ne (by omega))
  have q2 := q1.f5 q1I (r := a 7) (j := 5) (w := 2) (v := a (59 + 13 * a 7 + 2) + sLo a (a 8) 1) (by omega) (by rw [ud_ne (by omega)]; omega) (by omega)
  have eA : sLoA a (a 8) 1 2 = ud (ud a (59 + 13 * a 7 + 7 + a 8) (a (59 + 13 * a 7 + 7 + a 8) - sLo a (a 8) 1)) (59 + 13 * a 7 + 2) (a (59 + 13 * a 7 + 2) + sLo a (a 8) 1) := by
    unfold sLoA; dsimp only; rw [ud_ne (by omega)]
  have e5 : aWr z (6, s, a 7) (z (1, s, 0) 4) (a (59 + 13 * a 7 + 7 + z (1, s, 0) 4) - sLo a (z (1, s, 0) 4) 1) (5, s, a 7) 5 = a (59 + 13 * a 7 + 2) := by rw [aWr_ne2 (pne (by show (5 : Nat) ≠ 6; decide))]; exact hR.2.1.1.1
  rw [← eA] at q2
  rw [← g4] at q2 lo
  have fin : sFar a (a 9) (a 10) → ∀ v, v = a (59 + 13 * a 7 + 2) + sLo a (z (1, s, 0) 4) 1 → (((sFar a (a 9) (a 10) → (some (.inl (sLo a (z (1, s, 0) 4) 1)) : Option aV) = some (.inl (sLo a (a 8) 1)) ∧ Sim (aWr (aWr z (6, s, a 7) (z (1, s, 0) 4) (a (59 + 13 * a 7 + 7 + z (1, s, 0) 4) - sLo a (z (1, s, 0) 4) 1)) (5, s, a 7) 5 v) s (sLoA a (a 8) 1 2)) ∧ (¬ sFar a (a 9) (a 10) → (some (.inl (sLo a (z (1, s, 0) 4) 1)) : Option aV) = some (.inl 0) ∧ (aWr (aWr z (6, s, a 7) (z (1, s, 0) 4) (a (59 + 13 * a 7 + 7 + z (1, s, 0) 4) - sLo a (z (1, s, 0) 4) 1)) (5, s, a 7) 5 v) = z) ∧ fS s z (aWr (aWr z (6, s, a 7) (z (1, s, 0) 4) (a (59 + 13 * a 7 + 7 + z (1, s, 0) 4) - sLo a (z (1, s, 0) 4) 1)) (5, s, a 7) 5 v))) := fun hF v ev => by
    rw [ev]
    exact ⟨fun _ => ⟨by rw [g4], by rw [← g4]; exact q2⟩, fun n => absurd hF n, ((fS.rf s z).wr (by decide) (by decide)).wr (by decide) (by decide)⟩
  have fin0 : ¬ sFar a (a 9) (a 10) → (((sFar a (a 9) (a 10) → (some (.inl 0) : Option aV) = some (.inl (sLo a (a 8) 1)) ∧ Sim z s (sLoA a (a 8) 1 2)) ∧ (¬ sFar a (a 9) (a 10) → (some (.inl 0) : Option aV) = some (.inl 0) ∧ z = z) ∧ fS s z z)) := fun n => ⟨fun w => absurd w n, fun _ => ⟨rfl, rfl⟩, fS.rf s z⟩
  by_cases hF : sFar a (a 9) (a 10)
  · have f1 := fin hF
    clear fin fin0 q1 q2 eA hsp ol
    refine aM1_of kX5_leaveLine rfl (fun B hB => ?_)
    refine hB [] 1000 _ _ _ _ _ ?_
    repeat' (first | (refine ⟨rfl, f1 _ ?_⟩) | refine And.intro ?_ ?_ | (intro hh; first | exact absurd hF hh | exact absurd hh (by decide) | exact absurd rfl hh | skip) | refine Or.inl (uB ol2 ?_ ?_) | refine Or.inl (uE dd ?_) | fail)
    all_goals first | omega | (exact rfl) | fail "left"
  · have f0 := fin0 hF
    clear fin fin0 q1 q2 eA hsp ol
    refine aM1_of kX5_leaveLine rfl (fun B hB => ?_)
    refine hB [] 1000 _ _ _ _ _ ?_
    repeat' (first | exact ⟨rfl, f0⟩ | refine And.intro ?_ ?_ | (intro hh; first | exact absurd hh hF | exact absurd hh (by decide) | exact absurd rfl hh | skip) | refine Or.inl (uB ol2 ?_ ?_) | refine Or.inl (uE dd ?_) | fail)
    all_goals first | omega | (exact rfl) | fail "left"

end K3
