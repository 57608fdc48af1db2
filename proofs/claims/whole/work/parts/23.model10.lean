/-! THE MODEL'S METHODS: sums and ranks (printed by wip/whole/model10.py) -/
theorem sSum_B {a : Int → Int} (h : Inv0 a) {r : Int} (r0 : 0 ≤ r) (r1 : r < a 2) : 0 ≤ sSum a r ∧ sSum a r ≤ 180 := by
  have cc := h.1.1
  have := sN_B (f := fun k => a (59 + 13 * r + 7 + k)) (B := 30) (a 0).toNat (fun k hk => h.pts r0 r1 (by omega) (by omega))
  unfold sSum
  omega
section M10
variable {l : Launch} {g : aG} {d : Nat} {z : aM}
theorem cM_scoreOf {r : Int} (hd : 1 ≤ d) (h : Inv0 (z (17, 0, 0))) (r0 : 0 ≤ r) (r1 : r < 8) : aE1 l g nX7_scoreOf d [.inr (.inr (.inl (16, 0, 0))), .inl r] z (sSum (z (17, 0, 0)) r) z := by
  have cc := h.1.1
  refine aM1_of kX7_scoreOf rfl (fun B hB => ?_)
  have loop : ∀ (n : Nat) (k acc : Int), 0 ≤ k → k + (n : Int) = z (17, 0, 0) 0 → acc = sN (fun k => z (17, 0, 0) (59 + 13 * r + 7 + k)) k.toNat → B (none, 0, 0) z 4 [some (.inr (.inr (.inl (16, 0, 0)))), some (.inl r), some (.inl acc), some (.inl k)] [] := by
    intro n
    induction n with
    | zero =>
      intro k acc k0 k1 e
      have ek : k = z (17, 0, 0) 0 := by omega
      subst ek
      refine hB [] 1000 _ _ _ _ _ ?_
      repeat' (first | refine And.intro ?_ ?_ | (intro hh; first | exact absurd hh (by decide) | exact absurd rfl hh | (exfalso; omega) | skip) | refine Or.inl (uE cM_runAtPlace ?_) | fail)
      all_goals first | omega | (exact rfl) | (exact sI e)
    | succ n ih =>
      intro k acc k0 k1 e
      refine hB [4] 1000 _ _ _ _ _ ?_
      repeat' (first | refine And.intro ?_ ?_ | (intro hh; first | exact absurd hh (by decide) | exact absurd rfl hh | (exfalso; omega) | skip) | refine Or.inl (uE cM_runAtPlace ?_) | fail)
      all_goals first | omega | (exact rfl) | skip
      refine ih _ _ ?_ ?_ ?_
      · omega
      · omega
      · rw [sN_s k0, e]
  refine hB [4] 1000 _ _ _ _ _ ?_
  exact loop (z (17, 0, 0) 0).toNat 0 0 (by omega) (by omega) rfl

theorem sBy_B {a : Int → Int} (h : Inv0 a) {r o : Int} (r0 : 0 ≤ r) (r1 : r < a 2) (o0 : 0 ≤ o) (o1 : o < a 2) : ∀ (n : Nat) (k b : Int), 0 ≤ k → k + (n : Int) = a 0 → -180 ≤ b ∧ b ≤ 180 → -180 ≤ sBy a r o n k b ∧ sBy a r o n k b ≤ 180
  | 0, k, b, _, _, hb => hb
  | n + 1, k, b, k0, k1, hb => by
    have p1 := h.pts r0 r1 k0 (by omega)
    have p2 := h.pts o0 o1 k0 (by omega)
    refine sBy_B h r0 r1 o0 o1 n (k + 1) _ (by omega) (by omega) ?_
    split <;> omega
theorem cM_isAhead {r o : Int} (hd : 2 ≤ d) (h : Inv0 (z (17, 0, 0))) (r0 : 0 ≤ r) (r1 : r < z (17, 0, 0) 2) (o0 : 0 ≤ o) (o1 : o < z (17, 0, 0) 2) : aEb l g nX7_isAhead d [.inr (.inr (.inl (16, 0, 0))), .inl r, .inl o] z (sAhd (z (17, 0, 0)) r o) := by
  have cc := h.1.1
  have sr := sSum_B h r0 r1
  have so := sSum_B h o0 o1
  have tr := (h.2.2.1 r r0 r1).1
  have to := (h.2.2.1 o o0 o1).1
  refine aM1_of kX7_isAhead rfl (fun B hB => ?_)
  have h103 : ∀ b b0 k : Int, -2000 ≤ b ∧ b ≤ 2000 → b = sBy2 (z (17, 0, 0)) r o → B (none, 0, 0) z 103 [some (.inr (.inr (.inl (16, 0, 0)))), some (.inl r), some (.inl o), some (.inl b0), some (.inl k)] [.inl b] := by
    intro b b0 k hb e
    refine hB [] 1000 _ _ _ _ _ ?_
    repeat' (first | refine And.intro ?_ ?_ | (intro hh; first | exact absurd hh (by decide) | exact absurd rfl hh | (exfalso; omega) | skip) | refine Or.inl (uE cM_runAtPlace ?_) | fail)
    all_goals first | omega | (exact rfl) | (exact Or.inl rfl) | (exact Or.inr rfl) | (exact Or.inl ⟨rfl, by omega⟩) | (exact Or.inr ⟨rfl, by omega⟩) | fail "left"
  have loop : ∀ (n : Nat) (k b : Int), 0 ≤ k → k + (n : Int) = z (17, 0, 0) 0 → -180 ≤ b ∧ b ≤ 180 → sBy (z (17, 0, 0)) r o n k b = sBy (z (17, 0, 0)) r o (z (17, 0, 0) 0).toNat 0 (sSum (z (17, 0, 0)) r - sSum (z (17, 0, 0)) o) → B (none, 0, 0) z 15 [some (.inr (.inr (.inl (16, 0, 0)))), some (.inl r), some (.inl o), some (.inl b), some (.inl k)] [] := by
    intro n
    induction n with
    | zero =>
      intro k b k0 k1 hb e
      have e9 : b = sBy (z (17, 0, 0)) r o (z (17, 0, 0) 0).toNat 0 (sSum (z (17, 0, 0)) r - sSum (z (17, 0, 0)) o) := e
      refine hB [103] 1000 _ _ _ _ _ ?_
      repeat' (first | refine And.intro ?_ ?_ | (intro hh; first | exact absurd hh (by decide) | exact absurd rfl hh | (exfalso; omega) | skip) | refine Or.inl (uE cM_runAtPlace ?_) | fail)
      all_goals first | omega | (exact rfl) | refine h103 _ _ _ ?_ ?_
      all_goals first | omega | (unfold sBy2; rw [← e9]; first | (rw [if_pos (by assumption)]; done) | (rw [if_neg (by assumption)]; done)) | fail "left"
    | succ n ih =>
      intro k b k0 k1 hb e
      have p1 := h.pts r0 r1 k0 (by omega)
      have p2 := h.pts o0 o1 k0 (by omega)
      refine hB [15] 1000 _ _ _ _ _ ?_
      repeat' (first | refine And.intro ?_ ?_ | (intro hh; first | exact absurd hh (by decide) | exact absurd rfl hh | (exfalso; omega) | skip) | refine Or.inl (uE cM_runAtPlace ?_) | fail)
      all_goals first | omega | (exact rfl) | refine ih _ _ ?_ ?_ ?_ ?_
      all_goals first | omega | (rw [← e]; show _ = sBy (z (17, 0, 0)) r o n (k + 1) (if b = 0 then z (17, 0, 0) (59 + 13 * r + 7 + k) - z (17, 0, 0) (59 + 13 * o + 7 + k) else b); first | (rw [if_pos (by assumption)]; done) | (rw [if_neg (by assumption)]; done)) | fail "left"
  refine hB [15] 1000 _ _ _ _ _ ?_
  repeat' (first | exact h | refine And.intro ?_ ?_ | refine Or.inl (uE (cM_scoreOf ?_ h ?_ ?_) ?_) | fail)
  all_goals first | omega | (exact rfl) | skip
  exact loop (z (17, 0, 0) 0).toNat 0 _ (by omega) (by omega) (by omega) rfl

end M10
