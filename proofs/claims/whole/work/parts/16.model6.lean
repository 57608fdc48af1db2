/-! THE MODEL'S METHODS: a run begins, a step (printed by wip/whole/model6.py) -/
theorem sPts_e {r : Int} (hr : 0 ≤ r) : ∀ (n : Nat) (a : Int → Int) (k : Int), 0 ≤ k → (∀ j, (j < 59 + 13 * r + 7 + k ∨ 59 + 13 * r + 7 + k + (n : Int) ≤ j) → sPts r n a k j = a j)
  | 0, _, _, _ => fun _ _ => rfl
  | n + 1, a, k, k0 => fun j hj => by
    have := sPts_e hr n (ud a (59 + 13 * r + 7 + k) (a (11 + 3 * k + 2))) (k + 1) (by omega) j (by omega)
    rw [ud_ne (by omega)] at this
    exact this
section M6
variable {l : Launch} {g : aG} {d : Nat} {z : aM}
theorem cM_runIt (hd : 2 ≤ d) (h : Inv0 (z (17, 0, 0))) : aE1 l g nX7_runIt d [.inr (.inr (.inl (16, 0, 0)))] z (cRun (z (17, 0, 0))).2.1 (mR z (cRun (z (17, 0, 0))).1 (cRun (z (17, 0, 0))).2.2) := by
  refine aM1_of kX7_runIt rfl (fun B hB => ?_)
  have cc := h.1.1
  have ga : -1 ≤ z (17, 0, 0) 7 ∧ z (17, 0, 0) 7 < 8 := by rcases h.2.1 with q | q <;> omega
  have loop : ∀ (r : Int), 0 ≤ r → r < 8 → (cRun (z (17, 0, 0))).2.1 = r → ∀ (n : Nat) (z1 : aM) (k : Int), 0 ≤ k → k + (n : Int) = z1 (17, 0, 0) 0 → z1 (17, 0, 0) 0 ≤ 6 → pS z1 (17, 0, 0) (sGo r (sPts r n (z1 (17, 0, 0)) k)) = mR z (cRun (z (17, 0, 0))).1 (cRun (z (17, 0, 0))).2.2 → B (none, 0, 0) z1 46 [some (.inr (.inr (.inl (16, 0, 0)))), some (.inl r), some (.inl k)] [] := by
    intro r r0 r1 hv n
    induction n with
    | zero =>
      intro z1 k k0 k1 k6 e2
      refine hB [] 1000 _ _ _ _ _ ?_
      repeat' (first | refine And.intro ?_ ?_ | (intro hh; first | exact absurd hh (by decide) | exact absurd rfl hh | (exfalso; omega) | skip) | refine Or.inl (uE cM_legAt ?_) | refine Or.inl (uE cM_runAtPlace ?_) | fail)
      all_goals first | omega | (exact rfl) | (exact sI hv.symm) | skip
      rw [← e2]
      simp only [aWr_pS, pS_at, pS_pS]
      rfl
    | succ n ih =>
      intro z1 k k0 k1 k6 e2
      refine hB [46] 1000 _ _ _ _ _ ?_
      repeat' (first | refine And.intro ?_ ?_ | (intro hh; first | exact absurd hh (by decide) | exact absurd rfl hh | skip) | refine Or.inl (uE cM_legAt ?_) | refine Or.inl (uE cM_runAtPlace ?_) | fail)
      all_goals first | omega | (exact rfl) | skip
      have e0 : aWr z1 (17, 0, 0) (59 + 13 * r + 7 + k) (z1 (17, 0, 0) (11 + 3 * k + 2)) (17, 0, 0) 0 = z1 (17, 0, 0) 0 := by rw [aWr_pS, pS_at, ud_ne (by omega)]
      refine ih _ _ ?_ ?_ ?_ ?_
      · omega
      · rw [e0]; omega
      · rw [e0]; omega
      · rw [aWr_pS, pS_at, pS_pS]; exact e2
  refine hB [46] 1000 _ _ _ _ _ ?_
  repeat' (first | refine And.intro ?_ ?_ | (intro hh; first | exact absurd hh (by decide) | exact absurd rfl hh | skip) | refine Or.inl (uE cM_throwing ?_) | fail)
  all_goals first | omega | (exact rfl) | skip
  all_goals first | (unfold cRun; (repeat' split) <;> first | (exfalso; omega) | contradiction | (exact rfl) | (exact (mR_t (by decide)).symm) | fail "left") | skip
  refine loop _ ?_ ?_ ?_ (z (17, 0, 0) 0).toNat z 0 ?_ ?_ ?_ ?_
  all_goals first | omega | skip
  all_goals (unfold cRun; (repeat' split) <;> first | (exfalso; omega) | contradiction | (exact rfl) | (exact (mR_0 z _).symm) | fail "left")

set_option maxHeartbeats 4000000 in
theorem cM_walkIt {x y s : Int} (hd : 5 ≤ d) (hI : Inv (z (17, 0, 0))) (hx : aIR x) (hy : aIR y) (hs : aIR s) : aE1 l g nX7_walkIt d [.inr (.inr (.inl (16, 0, 0))), .inl x, .inl y, .inl s] z (cWalk x y s (z (17, 0, 0))).2.1 (mR z (cWalk x y s (z (17, 0, 0))).1 (cWalk x y s (z (17, 0, 0))).2.2) := by
  refine aM1_of kX7_walkIt rfl (fun B hB => ?_)
  unfold aIR at *
  have main : ∀ (v : Int) (af : Int → Int) (zf : aM), cWalk x y s (z (17, 0, 0)) = (0, v, af) → mR z (cWalk x y s (z (17, 0, 0))).1 (cWalk x y s (z (17, 0, 0))).2.2 = zf → sPt x y → (1 ≤ s ∧ s ≤ 999) → z (17, 0, 0) 7 ≠ -1 → B (none, 0, 0) z 43 [some (.inr (.inr (.inl (16, 0, 0)))), some (.inl x), some (.inl y), some (.inl s), none, none, none] [] := by
    intro v af zf hc hzf hp hs n7
    have hrv : (cWalk x y s (z (17, 0, 0))).2.1 = v := by rw [hc]
    have h164 : ∀ (z4 : aM) (i lost : Int), Inv0 (z4 (17, 0, 0)) → z4 (17, 0, 0) 7 ≠ -1 → sAr x y lost (z4 (17, 0, 0)) = (v, af) → pS z4 (17, 0, 0) af = zf → B (none, 0, 0) z4 164 [some (.inr (.inr (.inl (16, 0, 0)))), some (.inl x), some (.inl y), some (.inl s), some (.inl i), some (.inl lost), none] [] := by
      intro z4 i lost h n7 e1 e2
      have gg := h.go n7
      have cc := h.1.1
      have pe := (h.1.2.2.1 _ gg.2.1.1 gg.2.1.2).1
      have q1 := sqB (x := x - z4 (17, 0, 0) (11 + 3 * z4 (17, 0, 0) 8)) (A := 99) (by omega) (by omega)
      have q2 := sqB (x := y - z4 (17, 0, 0) (11 + 3 * z4 (17, 0, 0) 8 + 1)) (A := 99) (by omega) (by omega)
      refine hB [] 1000 _ _ _ _ _ ?_
      repeat' (first | exact h | refine And.intro ?_ ?_ | (intro hh; first | exact absurd hh (by decide) | exact absurd rfl hh | skip) | refine Or.inl (uE cM_legAt ?_) | refine Or.inl (uE cM_runAtPlace ?_) | refine Or.inl (uE cM_squareOf ?_) | refine Or.inl (uE (cM_completesLeg ?_ ?_ ?_) ?_) | fail)
      all_goals first | omega | (exact rfl) | (exact n7) | skip
      all_goals rw [sAr] at e1
      all_goals first
        | (rw [if_pos (by assumption)] at e1; rw [hrv]; exact sI (congrArg Prod.fst e1))
        | (rw [if_pos (by assumption)] at e1; have e3 : (sCL (z4 (17, 0, 0))).2 = af := congrArg Prod.snd e1; rw [hzf, ← e2, ← e3]; done)
        | (rw [if_neg (by omega)] at e1; rw [hrv]; exact sI (congrArg Prod.fst e1))
        | (rw [if_neg (by omega)] at e1; have e3 : z4 (17, 0, 0) = af := congrArg Prod.snd e1; rw [hzf, ← e2, ← e3, pS_id]; done)
        | fail "left"
    have h148 : ∀ (z3 : aM) (i lost : Int), Inv0 (z3 (17, 0, 0)) → z3 (17, 0, 0) 7 ≠ -1 → sAr x y lost (ud (ud (z3 (17, 0, 0)) 9 x) 10 y) = (v, af) → pS z3 (17, 0, 0) af = zf → B (none, 0, 0) z3 148 [some (.inr (.inr (.inl (16, 0, 0)))), some (.inl x), some (.inl y), some (.inl s), some (.inl i), some (.inl lost), none] [] := by
      intro z3 i lost h n7 e1 e2
      refine hB [164] 1000 _ _ _ _ _ ?_
      repeat' (first | exact h | refine And.intro ?_ ?_ | (intro hh; first | exact absurd hh (by decide) | exact absurd rfl hh | skip) | refine Or.inl (uE cM_legAt ?_) | refine Or.inl (uE cM_runAtPlace ?_) | refine Or.inl (uE cM_squareOf ?_) | fail)
      all_goals first | omega | (exact rfl) | skip
      refine h164 _ _ _ ?_ ?_ ?_ ?_
      · simp only [aWr_pS, pS_at, pS_pS]; exact h.flock n7 hp
      · simp only [aWr_pS, pS_at, pS_pS]; rw [ud_ne (by omega), ud_ne (by omega)]; exact n7
      · simp only [aWr_pS, pS_at, pS_pS]; exact e1
      · simp only [aWr_pS, pS_at, pS_pS]; exact e2
    have h120 : ∀ (z2 : aM) (i : Int), Inv0 (z2 (17, 0, 0)) → z2 (17, 0, 0) 7 ≠ -1 → sLn x y (z2 (17, 0, 0)) = (v, af) → pS z2 (17, 0, 0) af = zf → B (none, 0, 0) z2 120 [some (.inr (.inr (.inl (16, 0, 0)))), some (.inl x), some (.inl y), some (.inl s), some (.inl i), none, none] [] := by
      intro z2 i h n7 e1 e2
      have gg := h.go n7
      refine hB [148] 1000 _ _ _ _ _ ?_
      repeat' (first | exact h | refine And.intro ?_ ?_ | (intro hh; first | exact absurd hh (by decide) | exact absurd rfl hh | skip) | refine Or.inl (uE cM_legAt ?_) | refine Or.inl (uE cM_runAtPlace ?_) | refine Or.inl (uE cM_squareOf ?_) | refine Or.inl (uB (cM_isFar ?_ h n7 hp) ?_ ?_) | refine Or.inl (uE (cM_loses ?_ h n7 gg.2.1.1 gg.2.1.2 ?_ ?_ ?_ ?_) ?_) | fail)
      all_goals first | omega | (exact rfl) | (exact n7) | refine h148 _ _ _ ?_ ?_ ?_ ?_
      all_goals unfold sLn at e1
      all_goals first | (exact h) | (exact n7) | (exact e2) | (rw [pS_pS]; exact e2) | (rw [pS_at]; exact h.lo n7 gg.2.1.1 gg.2.1.2 (by omega) (by omega) (by omega)) | (rw [pS_at, sLoA_g h n7 gg.2.1.1 (by omega) 7 (by omega)]; exact n7) | (rw [if_pos (by assumption)] at e1; rw [pS_at]; exact e1) | (rw [if_neg (by assumption)] at e1; exact e1) | fail "left"
    have h68 : ∀ (z1 : aM), Inv0 (z1 (17, 0, 0)) → z1 (17, 0, 0) 7 ≠ -1 → sTm (59 + 13 * z1 (17, 0, 0) 7) x y (z1 (17, 0, 0)) = (v, af) → pS z1 (17, 0, 0) af = zf → B (none, 0, 0) z1 68 [some (.inr (.inr (.inl (16, 0, 0)))), some (.inl x), some (.inl y), some (.inl s), some (.inl (59 + 13 * z1 (17, 0, 0) 7)), none, none] [] := by
      intro z1 h n7 e1 e2
      have gg := h.go n7
      have cc := h.1.1
      have ct := h.1.2.1
      have ok := (h.ok n7).1
      have gb := sGa_B (a := z1 (17, 0, 0)) (x := x) (y := y) (z1 (17, 0, 0) 1).toNat 0 0 (by omega) (by omega) (by omega) (by omega)
      have ob := orI_B (x := z1 (17, 0, 0) (59 + 13 * z1 (17, 0, 0) 7 + 6)) (y := sGT (z1 (17, 0, 0)) x y) ok.2.2 gb
      refine hB [120] 1000 _ _ _ _ _ ?_
      repeat' (first | exact h | refine And.intro ?_ ?_ | (intro hh; first | exact absurd hh (by decide) | exact absurd rfl hh | skip) | refine Or.inl (uE cM_legAt ?_) | refine Or.inl (uE cM_runAtPlace ?_) | refine Or.inl (uE cM_squareOf ?_) | refine Or.inl (uE (cM_losesRest ?_ h n7 ?_ ?_) ?_) | refine Or.inl (uE0 cM_endsRun ?_) | refine Or.inl (uE (cM_gatesTo ?_ h n7 hp) ?_) | fail)
      all_goals first | omega | (exact rfl) | (exact n7) | (exact hp) | skip
      all_goals rw [sTm] at e1
      all_goals first
        | (rw [if_pos (by assumption)] at e1; rw [hrv]; exact sI (congrArg Prod.fst e1))
        | (rw [if_pos (by assumption)] at e1; have e3 : sEnds (sRest 5 (z1 (17, 0, 0))).2 = af := congrArg Prod.snd e1; rw [hzf, ← e2, ← e3, pS_at, pS_pS]; done)
        | (rw [if_neg (by omega)] at e1
           refine h120 _ _ ?_ ?_ ?_ ?_
           · rw [aWr_pS, pS_at]; exact h.bits n7 ob.1 ob.2
           · rw [aWr_pS, pS_at, ud_ne (by omega)]; exact n7
           · rw [aWr_pS, pS_at]; exact e1
           · rw [aWr_pS, pS_pS]; exact e2)
        | fail "left"
    have gg := hI.1.go n7
    have cc := hI.1.1.1
    have ct := hI.1.1.2.1
    have ok := (hI.1.ok n7).1
    have tm := (hI.2 n7).1
    refine hB [68] 1000 _ _ _ _ _ ?_
    repeat' (first | exact h | refine And.intro ?_ ?_ | (intro hh; first | exact absurd hh (by decide) | exact absurd rfl hh | skip) | refine Or.inl (uE cM_legAt ?_) | refine Or.inl (uE cM_runAtPlace ?_) | refine Or.inl (uE cM_squareOf ?_) | fail)
    all_goals first | omega | (exact rfl) | skip
    have e7 : (17, 0, 0) = ((17, 0, 0) : aP) := rfl
    have e8 : aWr z (17, 0, 0) (59 + 13 * z (17, 0, 0) 7 + 1) (z (17, 0, 0) (59 + 13 * z (17, 0, 0) 7 + 1) + s) (17, 0, 0) 7 = z (17, 0, 0) 7 := by rw [aWr_pS, pS_at, ud_ne (by omega)]
    have h9 := h68 (aWr z (17, 0, 0) (59 + 13 * z (17, 0, 0) 7 + 1) (z (17, 0, 0) (59 + 13 * z (17, 0, 0) 7 + 1) + s)) (by rw [aWr_pS, pS_at]; exact hI.1.time n7 (by omega) (by omega)) (by rw [e8]; exact n7) (by
      rw [e8, aWr_pS, pS_at]
      unfold cWalk at hc
      rw [if_pos ⟨hp, hs⟩, if_neg n7] at hc
      exact congrArg Prod.snd hc) (by rw [aWr_pS, pS_pS, ← hzf, hc]; exact (mR_0 z _).symm)
    rw [e8] at h9
    exact h9
  have cc := hI.1.1.1
  have ga : -1 ≤ z (17, 0, 0) 7 ∧ z (17, 0, 0) 7 < 8 := by rcases hI.1.2.1 with q | q <;> omega
  refine hB [43] 1000 _ _ _ _ _ ?_
  repeat' (first | refine And.intro ?_ ?_ | (intro hh; first | exact absurd hh (by decide) | exact absurd rfl hh | skip) | refine Or.inl (uE cM_throwing ?_) | refine Or.inl (uB (cM_isPoint ?_ ?_ ?_) ?_ ?_) | refine Or.inl (uB (cM_in ?_ ?_ ?_) ?_ ?_) | fail)
  all_goals first | omega | (exact rfl) | skip
  all_goals first | (unfold cWalk; (repeat' split) <;> first | (exfalso; omega) | contradiction | (exact rfl) | (exact (mR_t (by decide)).symm) | fail "left") | skip
  have hc : cWalk x y s (z (17, 0, 0)) = (0, (cWalk x y s (z (17, 0, 0))).2.1, (cWalk x y s (z (17, 0, 0))).2.2) := by
    unfold cWalk
    rw [if_pos ⟨by assumption, by assumption⟩, if_neg (by assumption)]
  exact main _ _ _ hc rfl (by assumption) (by assumption) (by assumption)

end M6
