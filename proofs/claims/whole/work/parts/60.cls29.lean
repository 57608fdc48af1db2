/-! EVERY REFERENCE IS MADE (printed by wip/whole/cls29.py) -/
def okQ (p : aP) (k : Nat) : Prop :=
  (p = (0, 0, 0) ∧ (k = 0 ∨ k = 1 ∨ k = 2 ∨ k = 4 ∨ k = 5 ∨ k = 6 ∨ k = 7)) ∨ ((p.1 = 1 ∧ p.2.2 = 0) ∧ (0 ≤ p.2.1 ∧ p.2.1 ≤ 10) ∧ (k = 0 ∨ k = 1)) ∨ ((p.1 = 2 ∧ p.2.2 = 0) ∧ (0 ≤ p.2.1 ∧ p.2.1 ≤ 10) ∧ (k = 5 ∨ k = 6 ∨ k = 7 ∨ k = 9 ∨ k = 10 ∨ k = 11 ∨ k = 12 ∨ k = 13)) ∨ ((p.1 = 4 ∧ p.2.2 = 0) ∧ (0 ≤ p.2.1 ∧ p.2.1 ≤ 10) ∧ k < 8) ∨ (p.1 = 5 ∧ (0 ≤ p.2.1 ∧ p.2.1 ≤ 10) ∧ (0 ≤ p.2.2 ∧ p.2.2 < 8) ∧ k = 3) ∨ (p = (7, 0, 0) ∧ k = 0) ∨ (p = (8, 0, 0) ∧ k < 8) ∨ (p = (10, 0, 0) ∧ k = 0) ∨ (p = (12, 0, 0) ∧ (k = 0 ∨ k = 3 ∨ k = 4)) ∨ (p = (16, 0, 0) ∧ (k = 0 ∨ k = 1 ∨ k = 2 ∨ k = 3 ∨ k = 5 ∨ k = 10 ∨ k = 12 ∨ k = 14 ∨ k = 15 ∨ k = 16))
def okB (p : aP) (k : Nat) : Bool :=
  (decide (p = (0, 0, 0)) && decide (k = 0 ∨ k = 1 ∨ k = 2 ∨ k = 4 ∨ k = 5 ∨ k = 6 ∨ k = 7)) || ((decide (p.1 = 1 ∧ p.2.2 = 0) && (decide (0 ≤ p.2.1 ∧ p.2.1 ≤ 10) && decide (k = 0 ∨ k = 1))) || ((decide (p.1 = 2 ∧ p.2.2 = 0) && (decide (0 ≤ p.2.1 ∧ p.2.1 ≤ 10) && decide (k = 5 ∨ k = 6 ∨ k = 7 ∨ k = 9 ∨ k = 10 ∨ k = 11 ∨ k = 12 ∨ k = 13))) || ((decide (p.1 = 4 ∧ p.2.2 = 0) && (decide (0 ≤ p.2.1 ∧ p.2.1 ≤ 10) && decide (k < 8))) || ((decide (p.1 = 5) && (decide (0 ≤ p.2.1 ∧ p.2.1 ≤ 10) && (decide (0 ≤ p.2.2 ∧ p.2.2 < 8) && decide (k = 3)))) || ((decide (p = (7, 0, 0)) && decide (k = 0)) || ((decide (p = (8, 0, 0)) && decide (k < 8)) || ((decide (p = (10, 0, 0)) && decide (k = 0)) || ((decide (p = (12, 0, 0)) && decide (k = 0 ∨ k = 3 ∨ k = 4)) || (decide (p = (16, 0, 0)) && decide (k = 0 ∨ k = 1 ∨ k = 2 ∨ k = 3 ∨ k = 5 ∨ k = 10 ∨ k = 12 ∨ k = 14 ∨ k = 15 ∨ k = 16))))))))))
theorem okB_ok {p : aP} {k : Nat} (h : okB p k = true) : okQ p k := by
  unfold okB at h
  simp only [Bool.or_eq_true, Bool.and_eq_true, decide_eq_true_eq] at h
  exact h
theorem okB_all : ∀ i : Nat, i < 320 → ∀ k : Nat, k < 21 → (!rfB (aAll.getD i (0, 0, 0)) k || okB (aAll.getD i (0, 0, 0)) k) = true := by decide +kernel
theorem ok_all : ∀ i : Nat, i < 320 → ∀ k : Nat, k < 21 → rfB (aAll.getD i (0, 0, 0)) k = true → okQ (aAll.getD i (0, 0, 0)) k := by
  intro i hi k hk hr
  have h := okB_all i hi k hk
  rw [hr] at h
  exact okB_ok h
theorem mk_all {r : aP → Int → Bool} (hT : mkT r) (hM : mkM r) : ∀ i : Nat, i < 320 → ∀ k : Nat, k < 21 → rfB (aAll.getD i (0, 0, 0)) k = true → r (aAll.getD i (0, 0, 0)) (k : Int) = true := by
  have hS : ∀ s, 0 ≤ s → s ≤ 10 → mkS r s := by
    intro s s0 s1
    by_cases e3 : 3 ≤ s
    · have := (hT.2.1.2 (s - 3) (by omega) (by omega)).2
      rw [show 3 + (s - 3) = s by omega] at this
      exact this
    · have : s = 0 ∨ s = 1 ∨ s = 2 := by omega
      rcases this with rfl | rfl | rfl
      · exact hT.1.1
      · exact hT.1.2.1
      · exact hT.1.2.2
  intro i hi k hk hr
  have ok := ok_all i hi k hk hr
  obtain ⟨p, ep⟩ : ∃ p, p = aAll.getD i (0, 0, 0) := ⟨_, rfl⟩
  rw [← ep] at ok ⊢
  clear ep hr
  obtain ⟨⟨t0, t1, t2⟩, ⟨t7, t8⟩, ⟨u0, u1, u2, u4, u5, u6, u7⟩, w10, w0, w3, w4⟩ := hT
  obtain ⟨m0, m1, m2, m3, m5, m10, m12, m14, m15, m16⟩ := hM
  obtain ⟨a, b, c⟩ := p
  unfold okQ at ok
  rcases ok with ⟨e, q⟩ | ⟨⟨e, e2⟩, ⟨b0, b1⟩, q⟩ | ⟨⟨e, e2⟩, ⟨b0, b1⟩, q⟩ | ⟨⟨e, e2⟩, ⟨b0, b1⟩, q⟩ | ⟨e, ⟨b0, b1⟩, ⟨c0, c1⟩, q⟩ | ⟨e, q⟩ | ⟨e, q⟩ | ⟨e, q⟩ | ⟨e, q⟩ | ⟨e, q⟩
  · rw [e]; rcases q with rfl | rfl | rfl | rfl | rfl | rfl | rfl <;> assumption
  · dsimp only at e e2 b0 b1; subst e; subst e2
    have h := (hS b b0 b1).1
    rcases q with rfl | rfl
    · exact h.1
    · exact h.2
  · dsimp only at e e2 b0 b1; subst e; subst e2
    obtain ⟨h5, h6, h7, h9, h10, h11, h12, h13⟩ := (hS b b0 b1).2.1
    rcases q with rfl | rfl | rfl | rfl | rfl | rfl | rfl | rfl <;> assumption
  · dsimp only at e e2 b0 b1; subst e; subst e2
    exact ((hS b b0 b1).2.2 (k : Int) (by omega) (by omega)).1
  · dsimp only at e b0 b1 c0 c1; subst e; subst q
    exact ((hS b b0 b1).2.2 c c0 c1).2
  · rw [e, q]; exact t7
  · rw [e]; exact (t8 (k : Int) (by omega) (by omega)).1
  · rw [e, q]; exact w10
  · rw [e]; rcases q with rfl | rfl | rfl <;> assumption
  · rw [e]; rcases q with rfl | rfl | rfl | rfl | rfl | rfl | rfl | rfl | rfl | rfl <;> assumption
