/-! THE CLASS: the output line; programs read (printed by wip/whole/cls8.py) -/
/-- the class's line is L; all else as it was -/
def cL (z0 z : aM) (L : aLine) : Prop := (z (10, 0, 0) 1 = L.1 ∧ ∀ k, 0 ≤ k → k < L.1 → z (11, 0, 0) k = L.2 k) ∧ (∀ q, q ≠ (10, 0, 0) → q ≠ (11, 0, 0) → z q = z0 q)
section K8
variable {l : Launch} {g : aG} {d : Nat} {z z0 : aM} {L : aLine}
theorem cK_put {c : Int} (h : cL z0 z L) (n0 : 0 ≤ L.1) (n1 : L.1 < 64) (c0 : 0 ≤ c) (c1 : c < 65536) : aM1 l g nX2_put d [.inr (.inr (.inl (10, 0, 0))), .inl c] z (aRv0 (fun z' => cL z0 z' (lp L c))) := by
  have e1 := h.1.1
  have cm : c % 65536 = c := by omega
  have g1 : aWr z (11, 0, 0) (z (10, 0, 0) 1) (c % 65536) (10, 0, 0) 1 = L.1 := by rw [aWr_ne2 (by decide), e1]
  have fin : cL z0 (aWr (aWr z (11, 0, 0) (z (10, 0, 0) 1) (c % 65536)) (10, 0, 0) 1 (aWr z (11, 0, 0) (z (10, 0, 0) 1) (c % 65536) (10, 0, 0) 1 + 1)) (lp L c) := by
    rw [g1, e1, cm]
    refine ⟨⟨by rw [aWr_pS, pS_at, ud_at]; rfl, fun k k0 k1 => ?_⟩, fun q q1 q2 => by rw [aWr_ne2 q1, aWr_ne2 q2]; exact h.2 q q1 q2⟩
    rw [lp_n] at k1
    rw [aWr_ne2 (by decide), aWr_pS, pS_at]
    show ud (z (11, 0, 0)) L.1 c k = ud L.2 L.1 c k
    by_cases e : k = L.1
    · rw [e, ud_at, ud_at]
    · rw [ud_ne e, ud_ne e]; exact h.1.2 k k0 (by omega)
  refine aM1_of kX2_put rfl (fun B hB => ?_)
  refine hB [] 1000 _ _ _ _ _ ?_
  repeat' (first | exact fin | refine And.intro ?_ ?_ | (intro hh; first | exact absurd hh (by decide) | exact absurd rfl hh | (exfalso; omega) | skip) | fail)
  all_goals first | omega | (exact rfl)
theorem cK_putDigit {c : Int} (hd : 1 ≤ d) (h : cL z0 z L) (n0 : 0 ≤ L.1) (n1 : L.1 < 64) (c0 : 0 ≤ c) (c1 : c ≤ 9) : aM1 l g nX2_putDigit d [.inr (.inr (.inl (10, 0, 0))), .inl c] z (aRv0 (fun z' => cL z0 z' (lp L (48 + c)))) := by
  have cm : (48 + c) % 65536 = 48 + c := by omega
  have pp := cK_put (l := l) (g := g) (d := d - 1) (c := 48 + c) h n0 n1 (by omega) (by omega)
  rw [← cm] at pp
  refine aM1_of kX2_putDigit rfl (fun B hB => ?_)
  refine hB [] 1000 _ _ _ _ _ ?_
  repeat' (first | (intro z1 hz1; refine ⟨rfl, rfl, ?_⟩; rw [← cm]; exact hz1) | refine And.intro ?_ ?_ | refine Or.inl (uV pp ?_) | fail)
  all_goals first | omega | (exact rfl)
theorem cK_putNumber {v : Int} (hd : 2 ≤ d) (h : cL z0 z L) (n0 : 0 ≤ L.1) (n1 : L.1 ≤ 61) (v0 : 0 ≤ v) (v1 : v ≤ 999) : aM1 l g nX2_putNumber d [.inr (.inr (.inl (10, 0, 0))), .inl v] z (aRv0 (fun z' => cL z0 z' (wrN v L))) := by
  refine aM1_of kX2_putNumber rfl (fun B hB => ?_)
  have l1 : ∀ (z1 : aM) (L1 : aLine), cL z0 z1 L1 → 0 ≤ L1.1 → L1.1 ≤ 63 → lp L1 (48 + v % 10) = wrN v L → B (none, 0, 0) z1 31 [some (.inr (.inr (.inl (10, 0, 0)))), some (.inl v)] [] := by
    intro z1 L1 h1 m0 m1 e
    have pp := cK_putDigit (l := l) (g := g) (d := d - 1) (c := v % 10) (by omega) h1 m0 (by omega) (by omega) (by omega)
    rw [e] at pp
    refine hB [] 1000 _ _ _ _ _ ?_
    repeat' (first | assumption | refine And.intro ?_ ?_ | (intro hh; first | exact absurd hh (by decide) | exact absurd rfl hh | (exfalso; omega) | skip) | refine Or.inl (uV pp ?_) | fail)
    all_goals first | omega | (exact rfl)
  have l2 : ∀ (z1 : aM) (L1 : aLine), cL z0 z1 L1 → 0 ≤ L1.1 → L1.1 ≤ 62 → 10 ≤ v → lp (lp L1 (48 + v / 10 % 10)) (48 + v % 10) = wrN v L → B (none, 0, 0) z1 14 [some (.inr (.inr (.inl (10, 0, 0)))), some (.inl v)] [] := by
    intro z1 L1 h1 m0 m1 hv e
    have pp := cK_putDigit (l := l) (g := g) (d := d - 1) (c := v / 10 % 10) (by omega) h1 m0 (by omega) (by omega) (by omega)
    refine hB [31] 1000 _ _ _ _ _ ?_
    repeat' (first | (intro z2 h2; exact l1 z2 _ h2 (by rw [lp_n]; omega) (by rw [lp_n]; omega) e) | refine And.intro ?_ ?_ | (intro hh; first | exact absurd hh (by decide) | exact absurd rfl hh | (exfalso; omega) | skip) | refine Or.inl (uV pp ?_) | fail)
    all_goals first | omega | (exact rfl)
  by_cases c1 : v < 10
  · have st := l1 z L h n0 (by omega) (by unfold wrN; rw [if_pos c1, show v % 10 = v by omega])
    refine hB [31] 1000 _ _ _ _ _ ?_
    repeat' (first | exact st | refine And.intro ?_ ?_ | (intro hh; first | exact absurd hh (by decide) | exact absurd rfl hh | (exfalso; omega) | skip) | fail)
    all_goals first | omega | (exact rfl)
  · by_cases c2 : v < 100
    · have st := l2 z L h n0 (by omega) (by omega) (by unfold wrN; rw [if_neg c1, if_pos c2, show v / 10 % 10 = v / 10 by omega])
      refine hB [14] 1000 _ _ _ _ _ ?_
      repeat' (first | exact st | refine And.intro ?_ ?_ | (intro hh; first | exact absurd hh (by decide) | exact absurd rfl hh | (exfalso; omega) | skip) | fail)
      all_goals first | omega | (exact rfl)
    · have pp := cK_putDigit (l := l) (g := g) (d := d - 1) (c := v / 100) (by omega) h n0 (by omega) (by omega) (by omega)
      refine hB [14] 1000 _ _ _ _ _ ?_
      repeat' (first | (intro z2 h2; exact l2 z2 _ h2 (by rw [lp_n]; omega) (by rw [lp_n]; omega) (by omega) (by unfold wrN; rw [if_neg c1, if_neg c2])) | refine And.intro ?_ ?_ | (intro hh; first | exact absurd hh (by decide) | exact absurd rfl hh | (exfalso; omega) | skip) | refine Or.inl (uV pp ?_) | fail)
      all_goals first | omega | (exact rfl)
end K8
/-! reading programs, pure -/
theorem xA_w {t : Int → Int} {n : Int} : ∀ (g : List Int) (p : Int), (xA t n g p 1).2 = (p, 1)
  | [], _ => rfl
  | c :: g, p => by
    have eN : xN t n p 1 = (0, p, 1) := if_neg (fun q => by have := q.1; omega)
    have eD : xD t n p 1 = (0, p, 1) := if_neg (fun q => by have := q.1; omega)
    have eE : xE t n c p 1 = (p, 1) := if_neg (fun q => by have := q.1; omega)
    unfold xA
    rw [eN, eD, eE]
    have := xA_w (t := t) (n := n) g p
    split
    · exact this
    · split
      · exact this
      · exact this
def dgN (t : Int → Int) (n : Int) : Nat → Int → Int
  | 0, p => p
  | m + 1, p => if dgt t n p then dgN t n m (p + 1) else p
def vdF (t : Int → Int) : Nat → Int → Int → Int
  | 0, _, v => v
  | m + 1, i, v => vdF t m (i + 1) (v * 10 + (t i - 48))
theorem dgN_B {t : Int → Int} {n : Int} : ∀ (m : Nat) (p : Int), p ≤ n → p ≤ dgN t n m p ∧ dgN t n m p ≤ p + (m : Int) ∧ dgN t n m p ≤ n
  | 0, p, h => ⟨Int.le_refl p, by show p ≤ p + ((0 : Nat) : Int); omega, h⟩
  | m + 1, p, h => by
    unfold dgN
    split
    · next q =>
      have := dgN_B (t := t) (n := n) m (p + 1) (by omega)
      omega
    · omega
theorem xN_d {t : Int → Int} {n p : Int} (h : p ≤ n) : xN t n p 0 = if dgN t n 3 p = p then (0, p, 1) else (vdF t (dgN t n 3 p - p).toNat p 0, dgN t n 3 p, 0) := by
  unfold xN
  by_cases h0 : dgt t n p
  · have e3 : dgN t n 3 p = (if dgt t n (p + 1) then (if dgt t n (p + 2) then p + 3 else p + 2) else p + 1) := by
      show (if dgt t n p then (if dgt t n (p + 1) then (if dgt t n (p + 1 + 1) then p + 1 + 1 + 1 else p + 1 + 1) else p + 1) else p) = _
      rw [if_pos h0, show p + 1 + 1 = p + 2 by omega, show p + 2 + 1 = p + 3 by omega]
    rw [e3, if_pos ⟨rfl, h0⟩]
    by_cases h1 : dgt t n (p + 1)
    · rw [if_pos h1, if_pos h1]
      by_cases h2 : dgt t n (p + 2)
      · rw [if_pos h2, if_pos h2, if_neg (by omega), show (p + 3 - p).toNat = 3 by omega]
        show (_, _, _) = (((0 * 10 + (t p - 48)) * 10 + (t (p + 1) - 48)) * 10 + (t (p + 1 + 1) - 48), p + 3, (0 : Int))
        rw [show p + 1 + 1 = p + 2 by omega]
        refine Prod.ext ?_ rfl
        show 10 * (10 * (t p - 48) + (t (p + 1) - 48)) + (t (p + 2) - 48) = ((0 * 10 + (t p - 48)) * 10 + (t (p + 1) - 48)) * 10 + (t (p + 2) - 48)
        omega
      · rw [if_neg h2, if_neg h2, if_neg (by omega), show (p + 2 - p).toNat = 2 by omega]
        refine Prod.ext ?_ rfl
        show 10 * (t p - 48) + (t (p + 1) - 48) = (0 * 10 + (t p - 48)) * 10 + (t (p + 1) - 48)
        omega
    · rw [if_neg h1, if_neg h1, if_neg (by omega), show (p + 1 - p).toNat = 1 by omega]
      refine Prod.ext ?_ rfl
      show t p - 48 = 0 * 10 + (t p - 48)
      omega
  · have e3 : dgN t n 3 p = p := if_neg h0
    rw [e3, if_neg (fun q => h0 q.2), if_pos rfl]
theorem xD_d {t : Int → Int} {n p : Int} (h : p ≤ n) : xD t n p 0 = if dgN t n 1 p = p then (0, p, 1) else (vdF t (dgN t n 1 p - p).toNat p 0, dgN t n 1 p, 0) := by
  unfold xD
  by_cases h0 : dgt t n p
  · have e3 : dgN t n 1 p = p + 1 := if_pos h0
    rw [e3, if_pos ⟨rfl, h0⟩, if_neg (by omega), show (p + 1 - p).toNat = 1 by omega]
    refine Prod.ext ?_ rfl
    show t p - 48 = 0 * 10 + (t p - 48)
    omega
  · have e3 : dgN t n 1 p = p := if_neg h0
    rw [e3, if_neg (fun q => h0 q.2), if_pos rfl]
/-- the memory while a program is read: kinds, arguments, place -/
def pmem (z : aM) (fk fa : Int → Int) (r : Int) : aM := pS (pS (pS z (14, 0, 0) fk) (15, 0, 0) fa) (12, 0, 0) (ud (z (12, 0, 0)) 5 r)
theorem pm_12 (z : aM) (fk fa : Int → Int) (r : Int) : pmem z fk fa r (12, 0, 0) = ud (z (12, 0, 0)) 5 r := by unfold pmem; rw [pS_at]
theorem pm_5 (z : aM) (fk fa : Int → Int) (r : Int) : pmem z fk fa r (12, 0, 0) 5 = r := by rw [pm_12, ud_at]
theorem pm_o (z : aM) (fk fa : Int → Int) (r : Int) {k : Int} (h : k ≠ 5) : pmem z fk fa r (12, 0, 0) k = z (12, 0, 0) k := by rw [pm_12, ud_ne h]
theorem pm_q (z : aM) (fk fa : Int → Int) (r : Int) {q : aP} (h1 : q ≠ (12, 0, 0)) (h2 : q ≠ (14, 0, 0)) (h3 : q ≠ (15, 0, 0)) : pmem z fk fa r q = z q := by unfold pmem; rw [pS_ne h1, pS_ne h3, pS_ne h2]
theorem pm_14 (z : aM) (fk fa : Int → Int) (r : Int) : pmem z fk fa r (14, 0, 0) = fk := by unfold pmem; rw [pS_ne (by decide), pS_ne (by decide), pS_at]
theorem pm_15 (z : aM) (fk fa : Int → Int) (r : Int) : pmem z fk fa r (15, 0, 0) = fa := by unfold pmem; rw [pS_ne (by decide), pS_at]
theorem pm_w5 (z : aM) (fk fa : Int → Int) (r v : Int) : aWr (pmem z fk fa r) (12, 0, 0) 5 v = pmem z fk fa v := by
  rw [aWr_pS, pm_12]; unfold pmem; rw [pS_pS, ud_ud]
theorem pm_w15 (z : aM) (fk fa : Int → Int) (r k v : Int) : aWr (pmem z fk fa r) (15, 0, 0) k v = pmem z fk (ud fa k v) r := by
  rw [aWr_pS, pm_15]; unfold pmem; rw [pS_sw (p := (12, 0, 0)) (q := (15, 0, 0)) (by decide), pS_pS]
theorem pm_w14 (z : aM) (fk fa : Int → Int) (r k v : Int) : aWr (pmem z fk fa r) (14, 0, 0) k v = pmem z (ud fk k v) fa r := by
  rw [aWr_pS, pm_14]; unfold pmem; rw [pS_sw (p := (12, 0, 0)) (q := (14, 0, 0)) (by decide), pS_sw (p := (15, 0, 0)) (q := (14, 0, 0)) (by decide), pS_pS]
theorem pm_w2 (z : aM) (fk fa : Int → Int) (r v : Int) : aWr (pmem z fk fa r) (12, 0, 0) 2 v = pmem (aWr z (12, 0, 0) 2 v) fk fa r := by
  rw [aWr_pS, pm_12]
  unfold pmem
  rw [pS_pS, aWr_pS, pS_at, pS_sw (z := z) (p := (12, 0, 0)) (q := (14, 0, 0)) (by decide), pS_sw (p := (12, 0, 0)) (q := (15, 0, 0)) (by decide), pS_pS, ud_sw (i := 5) (j := 2) (by decide)]
theorem pm_id (z : aM) : pmem z (z (14, 0, 0)) (z (15, 0, 0)) (z (12, 0, 0) 5) = z := by
  unfold pmem
  rw [ud_id, pS_id, pS_id, pS_id]
/-- the text that the class reads -/
def pOk (z : aM) : Prop := (0 ≤ z (12, 0, 0) 1 ∧ z (12, 0, 0) 1 ≤ 60) ∧ ∀ k, 0 ≤ k → k < z (12, 0, 0) 1 → 0 ≤ z (13, 0, 0) k ∧ z (13, 0, 0) k < 65536
section K8b
variable {l : Launch} {g : aG} {d : Nat} {z : aM} {fk fa : Int → Int} {p : Int}
theorem cK_skipDigits {m : Nat} (hd : 1 ≤ d) (hz : pOk z) (p0 : 0 ≤ p) (p1 : p ≤ z (12, 0, 0) 1) (m1 : m ≤ 3) : aE0 l g nX3_skipDigits d [.inr (.inr (.inl (12, 0, 0))), .inl (m : Int)] (pmem z fk fa p) (pmem z fk fa (dgN (z (13, 0, 0)) (z (12, 0, 0) 1) m p)) := by
  have n0 := hz.1
  refine aM1_of kX3_skipDigits rfl (fun B hB => ?_)
  have loop : ∀ (j : Nat) (q : Int), q + (j : Int) = p + (m : Int) → p ≤ q → q ≤ z (12, 0, 0) 1 → dgN (z (13, 0, 0)) (z (12, 0, 0) 1) j q = dgN (z (13, 0, 0)) (z (12, 0, 0) 1) m p → B (none, 0, 0) (pmem z fk fa q) 14 [some (.inr (.inr (.inl (12, 0, 0)))), some (.inl (m : Int)), some (.inl (min (z (12, 0, 0) 1) (p + (m : Int))))] [] := by
    intro j
    induction j with
    | zero =>
      intro q hq q0 q1 e
      have e' : q = dgN (z (13, 0, 0)) (z (12, 0, 0) 1) m p := e
      have k5 := pm_5 z fk fa q
      rw [← e'] at hB
      refine hB [] 1000 _ _ _ _ _ ?_
      repeat' (first | refine And.intro ?_ ?_ | (intro hh; first | exact absurd hh (by decide) | exact absurd rfl hh | (exfalso; omega) | skip) | fail)
      all_goals first | omega | (exact rfl)
    | succ j ih =>
      intro q hq q0 q1 e
      have k5 := pm_5 z fk fa q
      by_cases hn : q < z (12, 0, 0) 1
      · have tb := hz.2 q (by omega) hn
        have kt : pmem z fk fa q (13, 0, 0) (pmem z fk fa q (12, 0, 0) 5) = z (13, 0, 0) q := by rw [k5, pm_q z fk fa q (by decide) (by decide) (by decide)]
        by_cases hg : 48 ≤ z (13, 0, 0) q ∧ z (13, 0, 0) q ≤ 57
        · have e' : dgN (z (13, 0, 0)) (z (12, 0, 0) 1) j (q + 1) = dgN (z (13, 0, 0)) (z (12, 0, 0) 1) m p := by rw [← e]; exact (if_pos ⟨hn, hg⟩).symm
          have nx := ih (q + 1) (by omega) (by omega) (by omega) e'
          have e5 : aWr (pmem z fk fa q) (12, 0, 0) 5 (pmem z fk fa q (12, 0, 0) 5 + 1) = pmem z fk fa (q + 1) := by rw [k5, pm_w5]
          rw [← e5] at nx
          refine hB [14] 1000 _ _ _ _ _ ?_
          repeat' (first | exact nx | refine And.intro ?_ ?_ | (intro hh; first | exact absurd hh (by decide) | exact absurd rfl hh | (exfalso; omega) | skip) | refine Or.inl (uB (cK_isWithin ?_ ?_ ?_) ?_ ?_) | fail)
          all_goals first | omega | (exact rfl) | (unfold aIR; omega)
        · have e' : q = dgN (z (13, 0, 0)) (z (12, 0, 0) 1) m p := by rw [← e]; exact (if_neg (fun w => hg w.2)).symm
          rw [← e'] at hB
          refine hB [] 1000 _ _ _ _ _ ?_
          repeat' (first | refine And.intro ?_ ?_ | (intro hh; first | exact absurd hh (by decide) | exact absurd rfl hh | (exfalso; omega) | skip) | refine Or.inl (uB (cK_isWithin ?_ ?_ ?_) ?_ ?_) | fail)
          all_goals first | omega | (exact rfl) | (unfold aIR; omega)
      · have e' : q = dgN (z (13, 0, 0)) (z (12, 0, 0) 1) m p := by rw [← e]; exact (if_neg (fun w => hn w.1)).symm
        rw [← e'] at hB
        refine hB [] 1000 _ _ _ _ _ ?_
        repeat' (first | refine And.intro ?_ ?_ | (intro hh; first | exact absurd hh (by decide) | exact absurd rfl hh | (exfalso; omega) | skip) | fail)
        all_goals first | omega | (exact rfl)
  have st := loop m p rfl (Int.le_refl p) p1 rfl
  have k5 := pm_5 z fk fa p
  have k1 := pm_o z fk fa p (show (1 : Int) ≠ 5 by decide)
  refine hB [14] 1000 _ _ _ _ _ ?_
  repeat' (first | refine And.intro ?_ ?_ | fail)
  all_goals first | omega | (exact rfl) | skip
  show B (none, 0, 0) _ 14 [some (.inr (.inr (.inl (12, 0, 0)))), some (.inl (m : Int)), some (.inl (min (pmem z fk fa p (12, 0, 0) 1) (pmem z fk fa p (12, 0, 0) 5 + (m : Int))))] []
  rw [k1, k5]
  exact st
theorem cK_valueOfDigits {q : Int} (hz : pOk z) (p0 : 0 ≤ p) (p1 : p ≤ q) (q1 : q ≤ z (12, 0, 0) 1) {r : Int} : aE1 l g nX3_valueOfDigits d [.inr (.inr (.inl (12, 0, 0))), .inl p, .inl q] (pmem z fk fa r) (vdF (z (13, 0, 0)) (q - p).toNat p 0) (pmem z fk fa r) := by
  have n0 := hz.1
  refine aM1_of kX3_valueOfDigits rfl (fun B hB => ?_)
  have loop : ∀ (j : Nat) (i v : Int), i + (j : Int) = q → p ≤ i → vdF (z (13, 0, 0)) j i v = vdF (z (13, 0, 0)) (q - p).toNat p 0 → B (none, 0, 0) (pmem z fk fa r) 5 [some (.inr (.inr (.inl (12, 0, 0)))), some (.inl p), some (.inl q), some (.inl v), some (.inl i)] [] := by
    intro j
    induction j with
    | zero =>
      intro i v hi i0 e
      have e' : v = vdF (z (13, 0, 0)) (q - p).toNat p 0 := e
      refine hB [] 1000 _ _ _ _ _ ?_
      repeat' (first | refine And.intro ?_ ?_ | (intro hh; first | exact absurd hh (by decide) | exact absurd rfl hh | (exfalso; omega) | skip) | fail)
      all_goals first | omega | (exact sI e') | (exact rfl)
    | succ j ih =>
      intro i v hi i0 e
      have kt : pmem z fk fa r (13, 0, 0) i = z (13, 0, 0) i := by rw [pm_q z fk fa r (by decide) (by decide) (by decide)]
      have nx := ih (i + 1) (v * 10 + (z (13, 0, 0) i - 48)) (by omega) (by omega) e
      rw [← kt] at nx
      refine hB [5] 1000 _ _ _ _ _ ?_
      repeat' (first | exact nx | refine And.intro ?_ ?_ | (intro hh; first | exact absurd hh (by decide) | exact absurd rfl hh | (exfalso; omega) | skip) | fail)
      all_goals first | omega | (exact rfl)
  have st := loop (q - p).toNat p 0 (by omega) (Int.le_refl p) rfl
  refine hB [5] 1000 _ _ _ _ _ ?_
  repeat' (first | exact st | refine And.intro ?_ ?_ | fail)
  all_goals first | omega | (exact rfl)
end K8b
