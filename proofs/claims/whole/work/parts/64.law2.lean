/-! THE LAW'S LOOP AND ITS BEGINNING (printed by wip/whole/law2.py) -/
def tc_head : aT := [(28, .iload 5, 30, 0, 0, 0, []), (30, .aload_n 0, 31, 0, 0, 0, []), (31, .arraylength, 32, 0, 0, 0, []), (32, .bipush 6, 34, 0, 0, 0, []), (34, .isub, 35, 0, 0, 0, []), (35, .if_icmp .gt 2830, 38, 2865, 0, 0, []), (38, .aload_n 0, 39, 0, 0, 0, []), (39, .iload 5, 41, 0, 0, 0, []), (41, .iaload, 42, 0, 0, 0, []), (42, .bipush 63, 44, 0, 0, 0, []), (44, .iand, 45, 0, 0, 0, []), (45, .tableswitch 2814 0 51 #[223, 291, 371, 475, 531, 587, 631, 711, 767, 811, 824, 880, 893, 906, 962, 1025, 1038, 1051, 1064, 1108, 1152, 1196, 1240, 1308, 1383, 1463, 1476, 1539, 1595, 1670, 1738, 1794, 1850, 1906, 1962, 2018, 2074, 2130, 2186, 2242, 2307, 2385, 2398, 2454, 2467, 2523, 2581, 2625, 2669, 2713, 2757, 2770], 268, 2859, 0, 0, [(0, 268), (1, 336), (2, 416), (3, 520), (4, 576), (5, 632), (6, 676), (7, 756), (8, 812), (9, 856), (10, 869), (11, 925), (12, 938), (13, 951), (14, 1007), (15, 1070), (16, 1083), (17, 1096), (18, 1109), (19, 1153), (20, 1197), (21, 1241), (22, 1285), (23, 1353), (24, 1428), (25, 1508), (26, 1521), (27, 1584), (28, 1640), (29, 1715), (30, 1783), (31, 1839), (32, 1895), (33, 1951), (34, 2007), (35, 2063), (36, 2119), (37, 2175), (38, 2231), (39, 2287), (40, 2352), (41, 2430), (42, 2443), (43, 2499), (44, 2512), (45, 2568), (46, 2626), (47, 2670), (48, 2714), (49, 2758), (50, 2802), (51, 2815)]), (2859, .iinc 5 6, 2862, 0, 0, 0, []), (2862, .goto (-2834), 2865, 28, 0, 0, []), (2865, .iconst 1, 2866, 0, 0, 0, []), (2866, .ireturn, 2867, 0, 0, 0, [])]
set_option maxRecDepth 100000 in
theorem kc_head : tc_head.all (fun q => aOk 281 8 (aMt 281).2.1 q.1 q.2) = true := by decide +kernel
def tc_begin : aT := [(0, .new 8, 3, 0, 6, 0, []), (3, .dup, 4, 0, 0, 0, []), (4, .invokespecial 158, 7, 1, 3, 68, []), (7, .astore_n 1, 8, 0, 0, 0, []), (8, .new 159, 11, 0, 7, 0, []), (11, .dup, 12, 0, 0, 0, []), (12, .invokespecial 161, 15, 1, 3, 132, []), (15, .astore_n 2, 16, 0, 0, 0, []), (16, .iconst 1, 17, 0, 0, 0, []), (17, .newarray .long, 19, 0, 0, 0, []), (19, .astore_n 3, 20, 0, 0, 0, []), (20, .iconst 1, 21, 0, 0, 0, []), (21, .newarray .double, 23, 0, 0, 0, []), (23, .astore 4, 25, 0, 0, 0, []), (25, .iconst 0, 26, 0, 0, 0, []), (26, .istore 5, 28, 0, 0, 0, [])]
set_option maxRecDepth 100000 in
theorem kc_begin : tc_begin.all (fun q => aOk 281 8 (aMt 281).2.1 q.1 q.2) = true := by decide +kernel
/-- a place holds, whatever three locals hold -/
abbrev lWk (B : aK → aM → Nat → List (Option aV) → List aV → Prop) : Prop := ∀ (k : aK) (z : aM) (pc : Nat) (s0 s1 s2 s3 s4 s5 x6 x7 x8 : Option aV), B k z pc [s0, s1, s2, s3, s4, s5, none, none, none] [] → B k z pc [s0, s1, s2, s3, s4, s5, x6, x7, x8] []
section LC
variable {l : Launch} {g : aG} {Q : Option aV → aSt → aM → Prop} {X : Nat → aSt → aM → Prop} {B : aK → aM → Nat → List (Option aV) → List aV → Prop} {S : Int → Int} {z : aM} {A : aAb} {i : Int} {c1 c2 : Nat}
set_option maxHeartbeats 4000000 in
theorem wL_step (hB : lBt l g Q X B) (h : lIn g S z A i c1 c2) (hN : lNx S B i c1 c2) : B (none, c1, c2) z 38 [some (.inr (.inr (.inl (31, 0, 0)))), some (.inr (.inr (.inl (0, 0, 0)))), some (.inr (.inr (.inl (16, 0, 0)))), some (.inr (.inr (.inl (18, 0, 0)))), some (.inr (.inr (.inl (19, 0, 0)))), some (.inl i), none, none, none] [] := by
  have hz : z (31, 0, 0) = S := h.1.2.2
  have hS := h.2.1
  have i01 := h.2.2.1
  have n1 := Int32.le_toInt (iZ (z (31, 0, 0) i) &&& iZ 63)
  have n2 := Int32.toInt_lt (iZ (z (31, 0, 0) i) &&& iZ 63)
  have def0 := hN z A none none none c1 c2 h.1 (Nat.le_succ _) (Nat.le_add_right _ _)
  have h0 := wL_setStart hB h hN
  have h1 := wL_addLeg hB h hN
  have h2 := wL_addGate hB h hN
  have h3 := wL_setTolerance hB h hN
  have h4 := wL_setTimeLimit hB h hN
  have h5 := wL_startRun hB h hN
  have h6 := wL_walk hB h hN
  have h7 := wL_fault hB h hN
  have h8 := wL_retire hB h hN
  have h9 := wL_legs hB h hN
  have h10 := wL_legPoints hB h hN
  have h11 := wL_totalPoints hB h hN
  have h12 := wL_gates hB h hN
  have h13 := wL_legOf hB h hN
  have h14 := wL_isOnLine hB h hN
  have h15 := wL_tolerance hB h hN
  have h16 := wL_timeLimit hB h hN
  have h17 := wL_isRunning hB h hN
  have h18 := wL_presentLeg hB h hN
  have h19 := wL_flockX hB h hN
  have h20 := wL_flockY hB h hN
  have h21 := wL_nextGate hB h hN
  have h22 := wL_gatesPassedTo hB h hN
  have h23 := wL_isOffLine hB h hN
  have h24 := wL_lossOfStep hB h hN
  have h25 := wL_runs hB h hN
  have h26 := wL_isComplete hB h hN
  have h27 := wL_time hB h hN
  have h28 := wL_hasPassed hB h hN
  have h29 := wL_pointsOn hB h hN
  have h30 := wL_score hB h hN
  have h31 := wL_scoreByLosses hB h hN
  have h32 := wL_lineLoss hB h hN
  have h33 := wL_gateLoss hB h hN
  have h34 := wL_faultLoss hB h hN
  have h35 := wL_timeLoss hB h hN
  have h36 := wL_runAt hB h hN
  have h37 := wL_rankOf hB h hN
  have h38 := wL_bestOn hB h hN
  have h39 := wL_meanScore hB h hN
  have h40 := wL_passRate hB h hN
  have h41 := wL_isConsistent hB h hN
  have h42 := wL_writeRun hB h hN
  have h43 := wL_writeRanking hB h hN
  have h44 := wL_charAt hB h hN
  have h45 := wL_type hB h hN
  have h46 := wL_execute hB h hN
  have h47 := wL_errorPosition hB h hN
  have h48 := wL_failedCommand hB h hN
  have h49 := wL_undo hB h hN
  have h50 := wL_save hB h hN
  have h51 := wL_restore hB h hN
  refine hB tc_head kc_head [268, 336, 416, 520, 576, 632, 676, 756, 812, 856, 869, 925, 938, 951, 1007, 1070, 1083, 1096, 1109, 1153, 1197, 1241, 1285, 1353, 1428, 1508, 1521, 1584, 1640, 1715, 1783, 1839, 1895, 1951, 2007, 2063, 2119, 2175, 2231, 2287, 2352, 2430, 2443, 2499, 2512, 2568, 2626, 2670, 2714, 2758, 2802, 2815, 2859] 1000 _ _ _ _ _ ?_
  repeat' (first | refine And.intro ?_ ?_ | (intro hh; skip) | exact def0 | exact h0 | exact h1 | exact h2 | exact h3 | exact h4 | exact h5 | exact h6 | exact h7 | exact h8 | exact h9 | exact h10 | exact h11 | exact h12 | exact h13 | exact h14 | exact h15 | exact h16 | exact h17 | exact h18 | exact h19 | exact h20 | exact h21 | exact h22 | exact h23 | exact h24 | exact h25 | exact h26 | exact h27 | exact h28 | exact h29 | exact h30 | exact h31 | exact h32 | exact h33 | exact h34 | exact h35 | exact h36 | exact h37 | exact h38 | exact h39 | exact h40 | exact h41 | exact h42 | exact h43 | exact h44 | exact h45 | exact h46 | exact h47 | exact h48 | exact h49 | exact h50 | exact h51 | fail)
  all_goals first | omega | (exact rfl)
theorem wL_loop (hB : lBt l g Q X B) (hW : lWk B) (hQ : ∀ z, Q (some (.inl 1)) none z) (hS : ∀ j, aIR (S j)) (hLb : (g.2.2.2.2.2 : Int) ≤ 3072) : ∀ (n : Nat) (i : Int) (z : aM) (A : aAb) (c1 c2 : Nat), lS S z A → 0 ≤ i → i ≤ (g.2.2.2.2.2 : Int) + 6 → (g.2.2.2.2.2 : Int) - i < (n : Int) → c1 + n ≤ 603072 → c2 + 6 * n ≤ 7202922 → B (none, c1, c2) z 28 [some (.inr (.inr (.inl (31, 0, 0)))), some (.inr (.inr (.inl (0, 0, 0)))), some (.inr (.inr (.inl (16, 0, 0)))), some (.inr (.inr (.inl (18, 0, 0)))), some (.inr (.inr (.inl (19, 0, 0)))), some (.inl i), none, none, none] [] := by
  have hL0 : 0 ≤ (g.2.2.2.2.2 : Int) := by omega
  intro n
  induction n with
  | zero =>
    intro i z A c1 c2 hs i0 i1 i2 k1 k2
    have q1 := hQ z
    refine hB tc_head kc_head [] 1000 _ _ _ _ _ ?_
    repeat' (first | exact q1 | refine And.intro ?_ ?_ | (intro hh; first | exact absurd hh (by decide) | exact absurd rfl hh | (exfalso; omega) | skip) | fail)
    all_goals first | omega | (exact rfl) | (exact Or.inr rfl)
  | succ n ih =>
    intro i z A c1 c2 hs i0 i1 i2 k1 k2
    have q1 := hQ z
    by_cases hi : i + 6 ≤ (g.2.2.2.2.2 : Int)
    · have hN : lNx S B i c1 c2 := by
        intro z' A' x6 x7 x8 n1 n2 h' l1 l2
        have nx := ih (i + 6) z' A' n1 n2 h' (by omega) (by omega) (by omega) (by omega) (by omega)
        refine hW _ _ _ _ _ _ _ _ _ _ _ _ ?_
        refine hB tc_head kc_head [28] 1000 _ _ _ _ _ ?_
        exact nx
      have st := wL_step hB (A := A) (i := i) (c1 := c1) (c2 := c2) ⟨hs, hS, ⟨i0, hi⟩, by omega, by omega⟩ hN
      refine hB tc_head kc_head [38] 1000 _ _ _ _ _ ?_
      repeat' (first | exact st | refine And.intro ?_ ?_ | (intro hh; first | exact absurd hh (by decide) | exact absurd rfl hh | (exfalso; omega) | skip) | fail)
      all_goals first | omega | (exact rfl) | (exact Or.inr rfl)
    · refine hB tc_head kc_head [] 1000 _ _ _ _ _ ?_
      repeat' (first | exact q1 | refine And.intro ?_ ?_ | (intro hh; first | exact absurd hh (by decide) | exact absurd rfl hh | (exfalso; omega) | skip) | fail)
      all_goals first | omega | (exact rfl) | (exact Or.inr rfl)
end LC
theorem mkT.tr {r1 r2 : aP → Int → Bool} (h : mkT r1) (e : ∀ q i, q.1 < 16 → r2 q i = r1 q i) : mkT r2 := by
  have eS : ∀ s, mkS r1 s → mkS r2 s := fun s hs => hs.o (fun q i _ q6 => e q i (by omega))
  obtain ⟨⟨t0, t1, t2⟩, ⟨t7, t8⟩, ⟨u0, u1, u2, u4, u5, u6, u7⟩, w10, w0, w3, w4⟩ := h
  exact ⟨⟨eS _ t0, eS _ t1, eS _ t2⟩, ⟨by rw [e _ _ (by decide)]; exact t7, fun j j0 j1 => ⟨by rw [e _ _ (by show 8 < 16; decide)]; exact (t8 j j0 j1).1, eS _ (t8 j j0 j1).2⟩⟩, ⟨by rw [e _ _ (by decide)]; exact u0, by rw [e _ _ (by decide)]; exact u1, by rw [e _ _ (by decide)]; exact u2, by rw [e _ _ (by decide)]; exact u4, by rw [e _ _ (by decide)]; exact u5, by rw [e _ _ (by decide)]; exact u6, by rw [e _ _ (by decide)]; exact u7⟩, by rw [e _ _ (by decide)]; exact w10, by rw [e _ _ (by decide)]; exact w0, by rw [e _ _ (by decide)]; exact w3, by rw [e _ _ (by decide)]; exact w4⟩
theorem mkM.tr {r1 r2 : aP → Int → Bool} (h : mkM r1) (e : ∀ i, r2 (16, 0, 0) i = r1 (16, 0, 0) i) : mkM r2 := by
  unfold mkM at *
  rw [e, e, e, e, e, e, e, e, e, e]
  exact h
section LC
variable {l : Launch} {g : aG} {Q : Option aV → aSt → aM → Prop} {X : Nat → aSt → aM → Prop} {B : aK → aM → Nat → List (Option aV) → List aV → Prop} {S : Int → Int} {z : aM} {A : aAb} {i : Int} {c1 c2 : Nat}
theorem wL_begin {r0 : aP → Int → Bool} (hB : lBt l g Q X B) (hW : lWk B) (hZ : ∀ (r : aP → Int → Bool) (n1 n2 pc : Nat) (z : aM) (ls : List (Option aV)) (st : List aV), mkT r → mkM r → B (none, n1, n2) z pc ls st → B (some (320, r), n1, n2) z pc ls st) (hQ : ∀ z, Q (some (.inl 1)) none z) (hS : ∀ j, aIR (S j)) (hLb : (g.2.2.2.2.2 : Int) ≤ 3072) (hz : z (31, 0, 0) = S) : B (some (0, r0), 0, 0) z 0 [some (.inr (.inr (.inl (31, 0, 0)))), none, none, none, none, none, none, none, none] [] := by
  have hL0 : 0 ≤ (g.2.2.2.2.2 : Int) := by omega
  have e6 : (aFl 6).length = 10 := rfl
  have e7 : (aFl 7).length = 21 := rfl
  have l28 : ∀ (r : aP → Int → Bool) (n1 n2 : Nat) (z1 : aM), mkT r → mkM r → RelC z1 A0 → RelM z1 A0 → z1 (31, 0, 0) = S → n1 ≤ 400 → n2 ≤ 6000 → B (some (320, r), n1, n2) z1 28 [some (.inr (.inr (.inl (31, 0, 0)))), some (.inr (.inr (.inl (0, 0, 0)))), some (.inr (.inr (.inl (16, 0, 0)))), some (.inr (.inr (.inl (18, 0, 0)))), some (.inr (.inr (.inl (19, 0, 0)))), some (.inl 0), none, none, none] [] := by
    intro r n1 n2 z1 hT hM hC hR h31 b1 b2
    refine hZ r n1 n2 28 z1 _ _ hT hM ?_
    exact wL_loop hB hW hQ hS hLb 3080 0 z1 A0 n1 n2 ⟨⟨hC, hR⟩, ⟨A0_I, A0_L⟩, h31⟩ (by decide) (by omega) (by omega) (by omega) (by omega)
  have l15 : ∀ (r : aP → Int → Bool) (n1 n2 : Nat) (z1 : aM), mkT r → mkM r → RelC z1 A0 → RelM z1 A0 → z1 (31, 0, 0) = S → n1 ≤ 390 → n2 ≤ 5900 → B (some (318, r), n1, n2) z1 15 [some (.inr (.inr (.inl (31, 0, 0)))), some (.inr (.inr (.inl (0, 0, 0)))), none, none, none, none, none, none, none] [.inr (.inr (.inl (16, 0, 0)))] := by
    intro r n1 n2 z1 hT hM hC hR h31 b1 b2
    have zo : ∀ q : aP, q ≠ (18, 0, 0) → q ≠ (19, 0, 0) → aZr (aZr z1 (18, 0, 0)) (19, 0, 0) q = z1 q := fun q h1 h2 => by rw [aZr_ne h2, aZr_ne h1]
    have ro : ∀ (q : aP) (i : Int), q ≠ (18, 0, 0) → q ≠ (19, 0, 0) → aBf (aBf r (18, 0, 0)) (19, 0, 0) q i = r q i := fun q i h1 h2 => by rw [aBf_ne h2, aBf_ne h1]
    have nx := l28 (aBf (aBf r (18, 0, 0)) (19, 0, 0)) (n1 + 1 + 1) (n2 + 1 + 1) (aZr (aZr z1 (18, 0, 0)) (19, 0, 0)) (hT.tr (fun q i hq => ro q i (pne (by show q.1 ≠ 18; omega)) (pne (by show q.1 ≠ 19; omega)))) (hM.tr (fun i => ro _ i (by decide) (by decide))) (hC.fr (fun q hq => zo q (pne (by show q.1 ≠ 18; omega)) (pne (by show q.1 ≠ 19; omega)))) (hR.fr (fun q hq => zo q (pne (by show q.1 ≠ 18; omega)) (pne (by show q.1 ≠ 19; omega)))) (by rw [zo _ (by decide) (by decide)]; exact h31) (by omega) (by omega)
    refine hB tc_begin kc_begin [28] 1000 _ _ _ _ _ ?_
    repeat' (first | exact nx | refine And.intro ?_ ?_ | (first | (refine Exists.intro ((18, 0, 0) : aP) (And.intro (And.intro ⟨rfl, (by decide +kernel)⟩ ?_) ?_)) | (refine Exists.intro ((19, 0, 0) : aP) (And.intro (And.intro ⟨rfl, (by decide +kernel)⟩ ?_) ?_))) | (intro hh; first | exact absurd hh (by decide) | exact absurd rfl hh | (exfalso; omega) | skip) | fail)
    all_goals first | omega | (exact rfl) | (show _ + (1 : Int).toNat ≤ _; simp only [show (1 : Int).toNat = 1 from rfl]; omega)
  have l7 : ∀ (r : aP → Int → Bool) (n1 n2 : Nat) (z1 : aM), mkT r → zT z1 → z1 (31, 0, 0) = S → n1 ≤ 310 → n2 ≤ 3000 → B (some (307, r), n1, n2) z1 7 [some (.inr (.inr (.inl (31, 0, 0)))), none, none, none, none, none, none, none, none] [.inr (.inr (.inl (0, 0, 0)))] := by
    intro r n1 n2 z1 hT hz1 h31 b1 b2
    have ci := cI_model (l := l) (g := g) (d := 19) (z := aZr z1 (16, 0, 0)) (r := aBf r (16, 0, 0)) (by decide) (aZr_at _ _)
    have nx : ∀ (r1 : aP → Int → Bool) (z2 : aM), mkM r1 → (∀ (q : aP) (i : Int), q.1 ≠ 16 → q.1 ≠ 17 → r1 q i = aBf r (16, 0, 0) q i) → zM z2 → (∀ q : aP, q.1 ≠ 16 → q.1 ≠ 17 → z2 q = aZr z1 (16, 0, 0) q) → B (some (318, r1), n1 + 1 + 10, n2 + (aFl 7).length + 2519) z2 15 [some (.inr (.inr (.inl (31, 0, 0)))), some (.inr (.inr (.inl (0, 0, 0)))), none, none, none, none, none, none, none] [.inr (.inr (.inl (16, 0, 0)))] := by
      intro r1 z2 m1 m2 m3 m4
      have m5 : ∀ q : aP, q.1 ≠ 16 → q.1 ≠ 17 → z2 q = z1 q := fun q h1 h2 => by rw [m4 q h1 h2, aZr_ne (pne h1)]
      refine l15 r1 _ _ z2 (hT.tr (fun q i hq => ?_)) m1 (hz1.rel.fr (fun q hq => m5 q (by omega) (by omega))) m3.rel ((m5 _ (by decide) (by decide)).trans h31) (by omega) (by omega)
      rw [m2 q i (by omega) (by omega), aBf_ne (pne (by show q.1 ≠ 16; omega))]
    refine hB tc_begin kc_begin [15] 1000 _ _ _ _ _ ?_
    repeat' (first | exact (Or.inr (Or.inr ⟨10, 2519, ⟨(by show n1 + 1 + 10 ≤ 603072; omega), (by show n2 + (aFl 7).length + 2519 ≤ 7202922; omega)⟩, ci.mono (fun r' s' z' q => by obtain ⟨rfl, ⟨r1, rfl, q1, q2⟩, q3, q4⟩ := q; exact ⟨(by show 308 ≤ 318; decide), nx r1 z' q1 q2 q3 q4⟩) (fun _ _ _ q => q)⟩)) | refine And.intro ?_ ?_ | (refine Exists.intro ((16, 0, 0) : aP) (And.intro (And.intro ⟨rfl, (by decide +kernel)⟩ ?_) ?_)) | (intro hh; first | exact absurd hh (by decide) | exact absurd rfl hh | (exfalso; omega) | skip) | fail)
    all_goals first | omega | (exact rfl) | (show n1 + 1 ≤ 603072; omega) | (show n2 + (aFl 7).length ≤ 7202922; omega) | decide
  have r6 : 0 + (aFl 6).length + 2414 ≤ 3000 := by rw [e6]; decide
  have r6a : 0 + (aFl 6).length ≤ 7202922 := by rw [e6]; decide
  have r6b : 0 + (aFl 6).length + 2414 ≤ 7202922 := by rw [e6]; decide
  have ci := cI_trial (l := l) (g := g) (d := 19) (z := aZr z (0, 0, 0)) (r := aBf r0 (0, 0, 0)) (by decide)
  have nx : ∀ (r1 : aP → Int → Bool) (z2 : aM), mkT r1 → kF (aBf r0 (0, 0, 0)) r1 (aZr z (0, 0, 0)) z2 → zT z2 → B (some (307, r1), 0 + 1 + 306, 0 + (aFl 6).length + 2414) z2 7 [some (.inr (.inr (.inl (31, 0, 0)))), none, none, none, none, none, none, none, none] [.inr (.inr (.inl (0, 0, 0)))] := by
    intro r1 z2 m1 m2 m3
    refine l7 r1 _ _ z2 m1 m3 ?_ (by decide) r6
    rw [(m2 (31, 0, 0) (by decide)).1, aZr_ne (by decide)]
    exact hz
  refine hB tc_begin kc_begin [7] 1000 _ _ _ _ _ ?_
  repeat' (first | exact (Or.inr (Or.inr ⟨306, 2414, ⟨(by show 0 + 1 + 306 ≤ 603072; decide), r6b⟩, ci.mono (fun r' s' z' q => by obtain ⟨rfl, ⟨r1, rfl, q1, q2⟩, q3⟩ := q; exact ⟨(by show 1 ≤ 307; decide), nx r1 z' q1 q2 q3⟩) (fun _ _ _ q => q)⟩)) | refine And.intro ?_ ?_ | (refine Exists.intro ((0, 0, 0) : aP) (And.intro (And.intro ⟨rfl, (by decide +kernel)⟩ ?_) ?_)) | (intro hh; first | exact absurd hh (by decide) | exact absurd rfl hh | (exfalso; omega) | skip) | fail)
  all_goals first | (exact r6a) | omega | (exact rfl) | (show 0 + 1 ≤ 603072; decide) | decide
end LC
