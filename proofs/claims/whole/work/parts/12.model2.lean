/-! THE MODEL'S METHODS: commands (printed by wip/whole/model2.py) -/
def cpy (t s : Int → Int) (k : Int) : Int → Int := fun j => if 0 ≤ j ∧ j < k then s j else t j
theorem cpy_0 (t s : Int → Int) : cpy t s 0 = t := by
  funext j
  unfold cpy
  rw [if_neg (by omega)]
theorem cpy_s {t s : Int → Int} {k : Int} (h : 0 ≤ k) : ud (cpy t s k) k (s k) = cpy t s (k + 1) := by
  funext j
  unfold ud cpy
  by_cases h1 : j = k
  · subst h1
    rw [if_pos rfl, if_pos (by omega)]
  · rw [if_neg h1]
    by_cases h2 : 0 ≤ j ∧ j < k
    · rw [if_pos h2, if_pos (by omega)]
    · rw [if_neg h2, if_neg (by omega)]
theorem cpy_e {t s : Int → Int} (h1 : vz t) (h2 : vz s) : cpy t s 163 = s := by
  funext j
  unfold cpy
  by_cases h : 0 ≤ j ∧ j < 163
  · rw [if_pos h]
  · rw [if_neg h, h1 j (by omega), h2 j (by omega)]
/-- the memory behind a command: told, or thrown -/
def mR (z : aM) (t : Int) (a : Int → Int) : aM := if t = 0 then pS z (17, 0, 0) a else aWr z (16, 0, 0) 9 t
section M2
variable {l : Launch} {g : aG} {d : Nat} {z : aM}
theorem cM_throwing {t : Int} : aE1 l g nX7_throwing d [.inr (.inr (.inl (16, 0, 0))), .inl t] z (-1) (aWr z (16, 0, 0) 9 t) := by
  refine aM1_of kX7_throwing rfl (fun B hB => ?_)
  refine hB [] 1000 _ _ _ _ _ ?_
  repeat' (first | refine And.intro ?_ ?_ | (intro hh; first | exact absurd hh (by decide) | exact absurd rfl hh | skip) | fail)
  all_goals first | omega | exact rfl | exact Or.inl rfl | exact Or.inr rfl | exact sI (by omega) | exact Or.inl ⟨rfl, by omega⟩ | exact Or.inr ⟨rfl, by omega⟩ | fail "left"

theorem aWr_ne2 {z : aM} {p q : aP} {k x : Int} (n : q ≠ p) : aWr z p k x q = z q := by rw [aWr_pS, pS_ne n]

theorem cM_starts (h0 : vz (z (17, 0, 0))) (h1 : vz (z (17, 1, 0))) : aE0 l g nX7_starts d [.inr (.inr (.inl (16, 0, 0)))] z (pS (aWr z (16, 0, 0) 9 0) (17, 1, 0) (z (17, 0, 0))) := by
  have e0 : aWr z (16, 0, 0) 9 0 (17, 0, 0) = z (17, 0, 0) := aWr_ne2 (by decide)
  have e1 : aWr z (16, 0, 0) 9 0 (17, 1, 0) = z (17, 1, 0) := aWr_ne2 (by decide)
  have hv0 : vz (aWr z (16, 0, 0) 9 0 (17, 0, 0)) := by rw [e0]; exact h0
  have hv1 : vz (aWr z (16, 0, 0) 9 0 (17, 1, 0)) := by rw [e1]; exact h1
  rw [← e0]
  refine aM1_of kX7_starts rfl (fun B hB => ?_)
  have loop : ∀ (n : Nat) (k : Int), (n : Int) = 163 - k → 0 ≤ k → B (none, 0, 0) (pS (aWr z (16, 0, 0) 9 0) (17, 1, 0) (cpy ((aWr z (16, 0, 0) 9 0) (17, 1, 0)) ((aWr z (16, 0, 0) 9 0) (17, 0, 0)) k)) 7 [some (.inr (.inr (.inl (16, 0, 0)))), some (.inl k)] [] := by
    intro n
    induction n with
    | zero =>
      intro k h1 h2
      have hk : k = 163 := by omega
      subst hk
      refine hB [7] 1000 _ _ _ _ _ ?_
      rw [cpy_e hv1 hv0]
      repeat' (first | refine And.intro ?_ ?_ | (intro hh; first | exact absurd hh (by decide) | exact absurd rfl hh | skip) | fail)
      all_goals first | omega | exact rfl
    | succ n ih =>
      intro k h1 h2
      refine hB [7] 1000 _ _ _ _ _ ?_
      repeat' (first | refine And.intro ?_ ?_ | (intro hh; first | exact absurd hh (by decide) | exact absurd rfl hh | skip) | fail)
      all_goals first | omega | exact rfl | skip
      have e := ih (k + 1) (by omega) (by omega)
      show B (none, 0, 0) _ 7 _ _
      rw [aWr_pS, pS_pS, pS_at, pS_ne (by decide), cpy_s h2]
      exact e
  refine hB [7] 1000 _ _ _ _ _ ?_
  repeat' (first | refine And.intro ?_ ?_ | fail)
  all_goals first | (exact rfl) | (exact Or.inl rfl) | skip
  have e := loop 163 0 rfl (by omega)
  rw [cpy_0, pS_id] at e
  exact e

end M2
