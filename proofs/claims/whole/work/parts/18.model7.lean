/-! THE MODEL'S METHODS: a change is kept for undo (printed by wip/whole/model7.py) -/
def sShift (t : Int → Int) (k : Int) : Int → Int := fun j => if 0 ≤ j ∧ j < k then t (j + 163) else t j
theorem sShift_0 (t : Int → Int) : sShift t 0 = t := by
  funext j
  unfold sShift
  rw [if_neg (by omega)]
theorem sShift_s {t : Int → Int} {k : Int} (h : 0 ≤ k) : ud (sShift t k) k (sShift t k (k + 163)) = sShift t (k + 1) := by
  funext j
  unfold ud sShift
  rw [if_neg (show ¬ (0 ≤ k + 163 ∧ k + 163 < k) by omega)]
  by_cases h1 : j = k
  · subst h1
    rw [if_pos rfl, if_pos (by omega)]
  · rw [if_neg h1]
    by_cases h2 : 0 ≤ j ∧ j < k
    · rw [if_pos h2, if_pos (by omega)]
    · rw [if_neg h2, if_neg (by omega)]
def cpo (t s : Int → Int) (o k : Int) : Int → Int := fun j => if o ≤ j ∧ j < o + k then s (j - o) else t j
theorem cpo_0 (t s : Int → Int) (o : Int) : cpo t s o 0 = t := by
  funext j
  unfold cpo
  rw [if_neg (by omega)]
theorem cpo_s {t s : Int → Int} {o k : Int} (h : 0 ≤ k) : ud (cpo t s o k) (o + k) (s k) = cpo t s o (k + 1) := by
  funext j
  unfold ud cpo
  by_cases h1 : j = o + k
  · subst h1
    rw [if_pos rfl, if_pos (by omega)]
    congr 1
    omega
  · rw [if_neg h1]
    by_cases h2 : o ≤ j ∧ j < o + k
    · rw [if_pos h2, if_pos (by omega)]
    · rw [if_neg h2, if_neg (by omega)]
/-- the past with one state more -/
def sPast (t a : Int → Int) (c : Int) : Int → Int := if c = 8 then cpo (sShift t 1141) a (163 * 7) 163 else cpo t a (163 * c) 163
def sCnt (c : Int) : Int := if c = 8 then 8 else c + 1
section M7
variable {l : Launch} {g : aG} {d : Nat} {z : aM}
theorem cM_changed0 {v : Int} (h0 : 0 ≤ z (16, 0, 0) 6) (h1 : z (16, 0, 0) 6 ≤ 8) (ht : z (16, 0, 0) 9 = 0) {zf : aM} (hz : aWr (pS z (17, 4, 0) (sPast (z (17, 4, 0)) (z (17, 1, 0)) (z (16, 0, 0) 6))) (16, 0, 0) 6 (sCnt (z (16, 0, 0) 6)) = zf) : aE1 l g nX7_changed d [.inr (.inr (.inl (16, 0, 0))), .inl v] z v zf := by
  refine aM1_of kX7_changed rfl (fun B hB => ?_)
  have l61 : ∀ (n : Nat) (z1 : aM) (c k : Int), (n : Int) = 163 - k → 0 ≤ k → 0 ≤ c → c ≤ 7 → z1 (16, 0, 0) 6 = c → pS (aWr z1 (16, 0, 0) 6 (c + 1)) (17, 4, 0) (cpo (z1 (17, 4, 0)) (z1 (17, 1, 0)) (163 * c) 163) = zf → B (none, 0, 0) (pS z1 (17, 4, 0) (cpo (z1 (17, 4, 0)) (z1 (17, 1, 0)) (163 * c) k)) 61 [some (.inr (.inr (.inl (16, 0, 0)))), some (.inl v), some (.inl k)] [] := by
    intro n
    induction n with
    | zero =>
      intro z1 c k h1 h2 c0 c1 e1 e2
      have hk : k = 163 := by omega
      subst hk
      have f6 : pS z1 (17, 4, 0) (cpo (z1 (17, 4, 0)) (z1 (17, 1, 0)) (163 * c) 163) (16, 0, 0) = z1 (16, 0, 0) := pS_ne (by decide)
      refine hB [] 1000 _ _ _ _ _ ?_
      repeat' (first | refine And.intro ?_ ?_ | (intro hh; first | exact absurd hh (by decide) | exact absurd rfl hh | (exfalso; omega) | skip) | fail)
      all_goals first | omega | (exact rfl) | skip
      rw [← e2, f6, e1, aWr_pS, aWr_pS, f6, pS_sw (by decide)]
    | succ n ih =>
      intro z1 c k h1 h2 c0 c1 e1 e2
      have f6 : pS z1 (17, 4, 0) (cpo (z1 (17, 4, 0)) (z1 (17, 1, 0)) (163 * c) k) (16, 0, 0) 6 = c := by rw [pS_ne (by decide)]; exact e1
      have f1 : pS z1 (17, 4, 0) (cpo (z1 (17, 4, 0)) (z1 (17, 1, 0)) (163 * c) k) (17, 1, 0) = z1 (17, 1, 0) := pS_ne (by decide)
      refine hB [61] 1000 _ _ _ _ _ ?_
      repeat' (first | refine And.intro ?_ ?_ | (intro hh; first | exact absurd hh (by decide) | exact absurd rfl hh | (exfalso; omega) | skip) | fail)
      all_goals first | omega | (exact rfl) | skip
      have e := ih z1 c (k + 1) (by omega) (by omega) c0 c1 e1 e2
      show B (none, 0, 0) _ 61 _ _
      rw [f6, f1, aWr_pS, pS_pS, pS_at, cpo_s h2]
      exact e
  have l20 : ∀ (n : Nat) (k : Int), (n : Int) = 1141 - k → 0 ≤ k → z (16, 0, 0) 6 = 8 → pS z (17, 4, 0) (sPast (z (17, 4, 0)) (z (17, 1, 0)) 8) = zf → B (none, 0, 0) (pS z (17, 4, 0) (sShift (z (17, 4, 0)) k)) 20 [some (.inr (.inr (.inl (16, 0, 0)))), some (.inl v), some (.inl k)] [] := by
    intro n
    induction n with
    | zero =>
      intro k h1 h2 e1 e2
      have hk : k = 1141 := by omega
      subst hk
      have f6 : pS z (17, 4, 0) (sShift (z (17, 4, 0)) 1141) (16, 0, 0) 6 = 8 := by rw [pS_ne (by decide)]; exact e1
      have f6' : pS z (17, 4, 0) (sShift (z (17, 4, 0)) 1141) (16, 0, 0) = z (16, 0, 0) := pS_ne (by decide)
      refine hB [61] 1000 _ _ _ _ _ ?_
      repeat' (first | refine And.intro ?_ ?_ | (intro hh; first | exact absurd hh (by decide) | exact absurd rfl hh | (exfalso; omega) | skip) | fail)
      all_goals first | omega | (exact rfl) | skip
      have e := l61 163 (aWr (pS z (17, 4, 0) (sShift (z (17, 4, 0)) 1141)) (16, 0, 0) 6 7) 7 0 rfl (by omega) (by omega) (by omega) (by rw [aWr_pS, pS_at, ud_at]) (by
        have g4 : aWr (pS z (17, 4, 0) (sShift (z (17, 4, 0)) 1141)) (16, 0, 0) 6 7 (17, 4, 0) = sShift (z (17, 4, 0)) 1141 := by rw [aWr_pS, pS_ne (by decide), pS_at]
        have g1 : aWr (pS z (17, 4, 0) (sShift (z (17, 4, 0)) 1141)) (16, 0, 0) 6 7 (17, 1, 0) = z (17, 1, 0) := by rw [aWr_pS, pS_ne (by decide), pS_ne (by decide)]
        rw [g4, g1, ← e2]
        unfold sPast
        rw [if_pos rfl, aWr_pS, aWr_pS, pS_at, f6', pS_pS, ud_ud, pS_sw (p := (17, 4, 0)) (q := (16, 0, 0)) (by decide), pS_pS]
        have : ud (z (16, 0, 0)) 6 (7 + 1) = z (16, 0, 0) := by rw [show (7 : Int) + 1 = z (16, 0, 0) 6 by omega, ud_id]
        rw [this, pS_id])
      rw [cpo_0, pS_id] at e
      show B (none, 0, 0) _ 61 _ _
      rw [f6]
      exact e
    | succ n ih =>
      intro k h1 h2 e1 e2
      refine hB [20] 1000 _ _ _ _ _ ?_
      repeat' (first | refine And.intro ?_ ?_ | (intro hh; first | exact absurd hh (by decide) | exact absurd rfl hh | (exfalso; omega) | skip) | fail)
      all_goals first | omega | (exact rfl) | skip
      have e := ih (k + 1) (by omega) (by omega) e1 e2
      show B (none, 0, 0) _ 20 _ _
      rw [aWr_pS, pS_pS, pS_at, sShift_s h2]
      exact e
  refine hB [20, 61] 1000 _ _ _ _ _ ?_
  repeat' (first | refine And.intro ?_ ?_ | (intro hh; first | exact absurd hh (by decide) | exact absurd rfl hh | (exfalso; omega) | skip) | fail)
  all_goals first | omega | (exact rfl) | skip
  · by_cases q : z (16, 0, 0) 6 = 8
    · omega
    · have e := l61 163 z (z (16, 0, 0) 6) 0 rfl (by omega) (by omega) (by omega) rfl (by rw [← hz]; unfold sPast sCnt; rw [if_neg q, if_neg q, aWr_pS, aWr_pS, pS_ne (by decide)]; exact pS_sw (by decide))
      rw [cpo_0, pS_id] at e
      exact e
  · have e := l20 1141 0 rfl (by omega) (by omega) (by
      have q : z (16, 0, 0) 6 = 8 := by omega
      rw [← hz, q, aWr_pS, pS_ne (by decide)]
      have : ud (z (16, 0, 0)) 6 (sCnt 8) = z (16, 0, 0) := by rw [show sCnt 8 = z (16, 0, 0) 6 by rw [q]; rfl, ud_id]
      rw [this, pS_sw (by decide), pS_id])
    rw [sShift_0, pS_id] at e
    exact e

theorem cM_changedT {v : Int} (ht : 0 < z (16, 0, 0) 9) (ht2 : z (16, 0, 0) 9 ≤ 9) : aE1 l g nX7_changed d [.inr (.inr (.inl (16, 0, 0))), .inl v] z v z := by
  refine aM1_of kX7_changed rfl (fun B hB => ?_)
  refine hB [] 1000 _ _ _ _ _ ?_
  repeat' (first | refine And.intro ?_ ?_ | (intro hh; first | exact absurd hh (by decide) | exact absurd rfl hh | (exfalso; omega) | skip) | fail)
  all_goals first | omega | exact rfl | exact Or.inl rfl | exact Or.inr rfl | exact sI (by omega) | exact Or.inl ⟨rfl, by omega⟩ | exact Or.inr ⟨rfl, by omega⟩ | fail "left"

end M7
