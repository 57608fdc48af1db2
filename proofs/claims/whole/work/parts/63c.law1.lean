/-! THE LAW'S CASES: legs, legPoints, totalPoints, gates, legOf, isOnLine, tolerance, timeLimit, isRunning (printed by wip/whole/law1.py) -/
def tc_legs : aT := [(856, .aload_n 1, 857, 0, 0, 0, []), (857, .invokevirtual 199, 860, 1, 0, 78, []), (860, .aload_n 2, 861, 0, 0, 0, []), (861, .invokevirtual 202, 864, 1, 0, 177, []), (864, .if_icmp .eq 1995, 867, 2859, 0, 0, []), (867, .iconst 0, 868, 0, 0, 0, []), (868, .ireturn, 869, 0, 0, 0, [])]
set_option maxRecDepth 100000 in
theorem kc_legs : tc_legs.all (fun q => aOk 281 8 (aMt 281).2.1 q.1 q.2) = true := by decide +kernel
def tc_legPoints : aT := [(869, .aload_n 1, 870, 0, 0, 0, []), (870, .aload_n 0, 871, 0, 0, 0, []), (871, .iload 5, 873, 0, 0, 0, []), (873, .iconst 1, 874, 0, 0, 0, []), (874, .iadd, 875, 0, 0, 0, []), (875, .iaload, 876, 0, 0, 0, []), (876, .aload_n 3, 877, 0, 0, 0, []), (877, .invokestatic 203, 880, 3, 1, 248, []), (880, .istore 6, 882, 0, 0, 0, []), (882, .aload_n 2, 883, 0, 0, 0, []), (883, .aload_n 0, 884, 0, 0, 0, []), (884, .iload 5, 886, 0, 0, 0, []), (886, .iconst 1, 887, 0, 0, 0, []), (887, .iadd, 888, 0, 0, 0, []), (888, .iaload, 889, 0, 0, 0, []), (889, .invokevirtual 205, 892, 2, 0, 178, []), (892, .istore 7, 894, 0, 0, 0, []), (894, .aload_n 2, 895, 0, 0, 0, []), (895, .invokevirtual 168, 898, 1, 0, 133, []), (898, .iload 6, 900, 0, 0, 0, []), (900, .if_icmp .eq 5, 903, 905, 0, 0, []), (903, .iconst 0, 904, 0, 0, 0, []), (904, .ireturn, 905, 0, 0, 0, []), (905, .iload 6, 907, 0, 0, 0, []), (907, .ifCond .ne 15, 910, 922, 0, 0, []), (910, .aload_n 3, 911, 0, 0, 0, []), (911, .iconst 0, 912, 0, 0, 0, []), (912, .laload, 913, 0, 0, 0, []), (913, .iload 7, 915, 0, 0, 0, []), (915, .i2l, 916, 0, 0, 0, []), (916, .lcmp, 917, 0, 0, 0, []), (917, .ifCond .eq 5, 920, 922, 0, 0, []), (920, .iconst 0, 921, 0, 0, 0, []), (921, .ireturn, 922, 0, 0, 0, []), (922, .goto 1937, 925, 2859, 0, 0, [])]
set_option maxRecDepth 100000 in
theorem kc_legPoints : tc_legPoints.all (fun q => aOk 281 8 (aMt 281).2.1 q.1 q.2) = true := by decide +kernel
def tc_totalPoints : aT := [(925, .aload_n 1, 926, 0, 0, 0, []), (926, .invokevirtual 206, 929, 1, 0, 80, []), (929, .aload_n 2, 930, 0, 0, 0, []), (930, .invokevirtual 209, 933, 1, 0, 179, []), (933, .if_icmp .eq 1926, 936, 2859, 0, 0, []), (936, .iconst 0, 937, 0, 0, 0, []), (937, .ireturn, 938, 0, 0, 0, [])]
set_option maxRecDepth 100000 in
theorem kc_totalPoints : tc_totalPoints.all (fun q => aOk 281 8 (aMt 281).2.1 q.1 q.2) = true := by decide +kernel
def tc_gates : aT := [(938, .aload_n 1, 939, 0, 0, 0, []), (939, .invokevirtual 210, 942, 1, 0, 81, []), (942, .aload_n 2, 943, 0, 0, 0, []), (943, .invokevirtual 213, 946, 1, 0, 180, []), (946, .if_icmp .eq 1913, 949, 2859, 0, 0, []), (949, .iconst 0, 950, 0, 0, 0, []), (950, .ireturn, 951, 0, 0, 0, [])]
set_option maxRecDepth 100000 in
theorem kc_gates : tc_gates.all (fun q => aOk 281 8 (aMt 281).2.1 q.1 q.2) = true := by decide +kernel
def tc_legOf : aT := [(951, .aload_n 1, 952, 0, 0, 0, []), (952, .aload_n 0, 953, 0, 0, 0, []), (953, .iload 5, 955, 0, 0, 0, []), (955, .iconst 1, 956, 0, 0, 0, []), (956, .iadd, 957, 0, 0, 0, []), (957, .iaload, 958, 0, 0, 0, []), (958, .aload_n 3, 959, 0, 0, 0, []), (959, .invokestatic 214, 962, 3, 1, 249, []), (962, .istore 6, 964, 0, 0, 0, []), (964, .aload_n 2, 965, 0, 0, 0, []), (965, .aload_n 0, 966, 0, 0, 0, []), (966, .iload 5, 968, 0, 0, 0, []), (968, .iconst 1, 969, 0, 0, 0, []), (969, .iadd, 970, 0, 0, 0, []), (970, .iaload, 971, 0, 0, 0, []), (971, .invokevirtual 216, 974, 2, 0, 181, []), (974, .istore 7, 976, 0, 0, 0, []), (976, .aload_n 2, 977, 0, 0, 0, []), (977, .invokevirtual 168, 980, 1, 0, 133, []), (980, .iload 6, 982, 0, 0, 0, []), (982, .if_icmp .eq 5, 985, 987, 0, 0, []), (985, .iconst 0, 986, 0, 0, 0, []), (986, .ireturn, 987, 0, 0, 0, []), (987, .iload 6, 989, 0, 0, 0, []), (989, .ifCond .ne 15, 992, 1004, 0, 0, []), (992, .aload_n 3, 993, 0, 0, 0, []), (993, .iconst 0, 994, 0, 0, 0, []), (994, .laload, 995, 0, 0, 0, []), (995, .iload 7, 997, 0, 0, 0, []), (997, .i2l, 998, 0, 0, 0, []), (998, .lcmp, 999, 0, 0, 0, []), (999, .ifCond .eq 5, 1002, 1004, 0, 0, []), (1002, .iconst 0, 1003, 0, 0, 0, []), (1003, .ireturn, 1004, 0, 0, 0, []), (1004, .goto 1855, 1007, 2859, 0, 0, [])]
set_option maxRecDepth 100000 in
theorem kc_legOf : tc_legOf.all (fun q => aOk 281 8 (aMt 281).2.1 q.1 q.2) = true := by decide +kernel
def tc_isOnLine : aT := [(1007, .aload_n 1, 1008, 0, 0, 0, []), (1008, .aload_n 0, 1009, 0, 0, 0, []), (1009, .iload 5, 1011, 0, 0, 0, []), (1011, .iconst 1, 1012, 0, 0, 0, []), (1012, .iadd, 1013, 0, 0, 0, []), (1013, .iaload, 1014, 0, 0, 0, []), (1014, .aload_n 3, 1015, 0, 0, 0, []), (1015, .invokestatic 217, 1018, 3, 1, 250, []), (1018, .istore 6, 1020, 0, 0, 0, []), (1020, .aload_n 2, 1021, 0, 0, 0, []), (1021, .aload_n 0, 1022, 0, 0, 0, []), (1022, .iload 5, 1024, 0, 0, 0, []), (1024, .iconst 1, 1025, 0, 0, 0, []), (1025, .iadd, 1026, 0, 0, 0, []), (1026, .iaload, 1027, 0, 0, 0, []), (1027, .invokevirtual 219, 1030, 2, 0, 182, []), (1030, .istore 7, 1032, 0, 0, 0, []), (1032, .aload_n 2, 1033, 0, 0, 0, []), (1033, .invokevirtual 168, 1036, 1, 0, 133, []), (1036, .iload 6, 1038, 0, 0, 0, []), (1038, .if_icmp .eq 5, 1041, 1043, 0, 0, []), (1041, .iconst 0, 1042, 0, 0, 0, []), (1042, .ireturn, 1043, 0, 0, 0, []), (1043, .iload 6, 1045, 0, 0, 0, []), (1045, .ifCond .ne 22, 1048, 1067, 0, 0, []), (1048, .aload_n 3, 1049, 0, 0, 0, []), (1049, .iconst 0, 1050, 0, 0, 0, []), (1050, .laload, 1051, 0, 0, 0, []), (1051, .iload 7, 1053, 0, 0, 0, []), (1053, .ifCond .eq 7, 1056, 1060, 0, 0, []), (1056, .lconst 1, 1057, 0, 0, 0, []), (1057, .goto 4, 1060, 1061, 0, 0, []), (1060, .lconst 0, 1061, 0, 0, 0, []), (1061, .lcmp, 1062, 0, 0, 0, []), (1062, .ifCond .eq 5, 1065, 1067, 0, 0, []), (1065, .iconst 0, 1066, 0, 0, 0, []), (1066, .ireturn, 1067, 0, 0, 0, []), (1067, .goto 1792, 1070, 2859, 0, 0, [])]
set_option maxRecDepth 100000 in
theorem kc_isOnLine : tc_isOnLine.all (fun q => aOk 281 8 (aMt 281).2.1 q.1 q.2) = true := by decide +kernel
def tc_tolerance : aT := [(1070, .aload_n 1, 1071, 0, 0, 0, []), (1071, .invokevirtual 220, 1074, 1, 0, 84, []), (1074, .aload_n 2, 1075, 0, 0, 0, []), (1075, .invokevirtual 223, 1078, 1, 0, 183, []), (1078, .if_icmp .eq 1781, 1081, 2859, 0, 0, []), (1081, .iconst 0, 1082, 0, 0, 0, []), (1082, .ireturn, 1083, 0, 0, 0, [])]
set_option maxRecDepth 100000 in
theorem kc_tolerance : tc_tolerance.all (fun q => aOk 281 8 (aMt 281).2.1 q.1 q.2) = true := by decide +kernel
def tc_timeLimit : aT := [(1083, .aload_n 1, 1084, 0, 0, 0, []), (1084, .invokevirtual 224, 1087, 1, 0, 85, []), (1087, .aload_n 2, 1088, 0, 0, 0, []), (1088, .invokevirtual 227, 1091, 1, 0, 184, []), (1091, .if_icmp .eq 1768, 1094, 2859, 0, 0, []), (1094, .iconst 0, 1095, 0, 0, 0, []), (1095, .ireturn, 1096, 0, 0, 0, [])]
set_option maxRecDepth 100000 in
theorem kc_timeLimit : tc_timeLimit.all (fun q => aOk 281 8 (aMt 281).2.1 q.1 q.2) = true := by decide +kernel
def tc_isRunning : aT := [(1096, .aload_n 1, 1097, 0, 0, 0, []), (1097, .invokevirtual 228, 1100, 1, 0, 86, []), (1100, .aload_n 2, 1101, 0, 0, 0, []), (1101, .invokevirtual 232, 1104, 1, 0, 185, []), (1104, .if_icmp .eq 1755, 1107, 2859, 0, 0, []), (1107, .iconst 0, 1108, 0, 0, 0, []), (1108, .ireturn, 1109, 0, 0, 0, [])]
set_option maxRecDepth 100000 in
theorem kc_isRunning : tc_isRunning.all (fun q => aOk 281 8 (aMt 281).2.1 q.1 q.2) = true := by decide +kernel
section LC
variable {l : Launch} {g : aG} {Q : Option aV → aSt → aM → Prop} {X : Nat → aSt → aM → Prop} {B : aK → aM → Nat → List (Option aV) → List aV → Prop} {S : Int → Int} {z : aM} {A : aAb} {i : Int} {c1 c2 : Nat}
theorem wL_legs (hB : lBt l g Q X B) (h : lIn g S z A i c1 c2) (hN : lNx S B i c1 c2) : B (none, c1, c2) z 856 [some (.inr (.inr (.inl (31, 0, 0)))), some (.inr (.inr (.inl (0, 0, 0)))), some (.inr (.inr (.inl (16, 0, 0)))), some (.inr (.inr (.inl (18, 0, 0)))), some (.inr (.inr (.inl (19, 0, 0)))), some (.inl i), none, none, none] [] := by
  obtain ⟨hs, hS, ⟨i0, i1⟩, k1, k2⟩ := h
  obtain ⟨⟨hC, hM⟩, ⟨hI, hL⟩, hz⟩ := id hs
  have hIL : InvW A ∧ InvL A := And.intro hI hL
  obtain ⟨v, ev⟩ : ∃ v : Int, v = wM A 0 := ⟨_, rfl⟩
  have hv : aIR v := by
    rw [ev]
    exact by have cc := hI.1.1.1.1.1; exact aIR_of (by omega) (by omega)
  have ct : aM1 l g nX6_legs 19 [.inr (.inr (.inl (0, 0, 0)))] z (fun r z' => r = some (.inl v) ∧ RelC z' A ∧ fC z z') := by
    rw [ev]
    exact (cT_legs (l := l) (g := g) (d := 19) (z := z) (A := A) (by decide) hC hI).1 rfl
  have l2 : ∀ r z1, (r = some (.inl v) ∧ RelC z1 A ∧ fC z z1) → aPu r [] (fun st => B (none, c1, c2) z1 860 [some (.inr (.inr (.inl (31, 0, 0)))), some (.inr (.inr (.inl (0, 0, 0)))), some (.inr (.inr (.inl (16, 0, 0)))), some (.inr (.inr (.inl (18, 0, 0)))), some (.inr (.inr (.inl (19, 0, 0)))), some (.inl i), none, none, none] st) := by
    intro r z1 hz1
    obtain ⟨rfl, q2, q3⟩ := hz1
    have md := hs.mid q3.fL
    have cm : aM1 l g nX7_legs 19 [.inr (.inr (.inl (16, 0, 0)))] z1 (fun r z' => r = some (.inl v) ∧ (RelM z' A ∧ z' (16, 0, 0) 9 = 0) ∧ fM z1 z') := by
      rw [ev]
      exact cM_legs (by decide) md.1 hI
    have l3 : ∀ r z2, (r = some (.inl v) ∧ (RelM z2 A ∧ z2 (16, 0, 0) 9 = 0) ∧ fM z1 z2) → aPu r [.inl v] (fun st => B (none, c1, c2) z2 864 [some (.inr (.inr (.inl (31, 0, 0)))), some (.inr (.inr (.inl (0, 0, 0)))), some (.inr (.inr (.inl (16, 0, 0)))), some (.inr (.inr (.inl (18, 0, 0)))), some (.inr (.inr (.inl (19, 0, 0)))), some (.inl i), none, none, none] st) := by
      intro r z2 hz2
      obtain ⟨rfl, ⟨p1, p2⟩, p3⟩ := hz2
      have fin := hN z2 A none none none c1 c2 (hs.fin q3.fL q2 p1 p3 hIL.1 hIL.2) (Nat.le_succ _) (Nat.le_add_right _ _)
      refine hB tc_legs kc_legs [2859] 1000 _ _ _ _ _ ?_
      repeat' (first | exact fin | refine And.intro ?_ ?_ | (intro hh; first | exact absurd hh (by decide) | exact absurd rfl hh | (exfalso; omega) | skip) | fail)
      all_goals first | exact hv.1 | exact hv.2
    refine hB tc_legs kc_legs [864] 1000 _ _ _ _ _ ?_
    repeat' (first | exact Or.inl (uA cm l3) | refine And.intro ?_ ?_ | (intro hh; first | exact absurd hh (by decide) | exact absurd rfl hh | (exfalso; omega) | skip) | fail)
    all_goals first | omega | (exact rfl) | (show (1 : Nat) ≤ 20; decide)
  refine hB tc_legs kc_legs [860] 1000 _ _ _ _ _ ?_
  repeat' (first | exact Or.inl (uA ct l2) | refine And.intro ?_ ?_ | (intro hh; first | exact absurd hh (by decide) | exact absurd rfl hh | (exfalso; omega) | skip) | fail)
  all_goals first | omega | (exact rfl) | (show (1 : Nat) ≤ 20; decide)
theorem wL_legPoints (hB : lBt l g Q X B) (h : lIn g S z A i c1 c2) (hN : lNx S B i c1 c2) : B (none, c1, c2) z 869 [some (.inr (.inr (.inl (31, 0, 0)))), some (.inr (.inr (.inl (0, 0, 0)))), some (.inr (.inr (.inl (16, 0, 0)))), some (.inr (.inr (.inl (18, 0, 0)))), some (.inr (.inr (.inl (19, 0, 0)))), some (.inl i), none, none, none] [] := by
  obtain ⟨hs, hS, ⟨i0, i1⟩, k1, k2⟩ := h
  obtain ⟨⟨hC, hM⟩, ⟨hI, hL⟩, hz⟩ := id hs
  obtain ⟨x1, e1⟩ : ∃ x, x = z (31, 0, 0) (i + 1) := ⟨_, rfl⟩
  have h1 : aIR x1 := by rw [e1, hz]; exact hS _
  have lv := lV_legPoints (k := x1) hI
  have ct : lOp l g nL_legPoints 19 [.inr (.inr (.inl (0, 0, 0))), .inl (z (31, 0, 0) (i + 1)), .inr (.inr (.inl (18, 0, 0)))] z (lQ z (qR (isL (wM A) x1) (wM A (11 + 3 * x1 + 2)) A)) := by
    rw [← e1]
    exact lT_legPoints (by decide) (cT_legPoints h1 (by decide) hC hI) lv.1 lv.2
  have hIL : InvW (qR (isL (wM A) x1) (wM A (11 + 3 * x1 + 2)) A).2.2 ∧ InvL (qR (isL (wM A) x1) (wM A (11 + 3 * x1 + 2)) A).2.2 := lI_A qR_A hI hL
  have cm0 : ∀ z1, RelM z1 A → mOp l g nX7_legPoints 19 [.inr (.inr (.inl (16, 0, 0))), .inl x1] z1 (qR (isL (wM A) x1) (wM A (11 + 3 * x1 + 2)) A) := fun z1 md => cM_legPoints h1 (by decide) md hI
  obtain ⟨R, eR⟩ : ∃ R : aRes, R = (qR (isL (wM A) x1) (wM A (11 + 3 * x1 + 2)) A) := ⟨_, rfl⟩
  rw [← eR] at lv ct hIL
  simp only [← eR] at cm0
  clear eR
  have lt0 : 0 ≤ R.1 ∧ R.1 ≤ 3 := by have := lv.1; omega
  have l3 : ∀ (z2 : aM) (t : Int) (v : Int) (A2 : aAb), lS S z2 A2 → (0 ≤ t ∧ t ≤ 3) → z2 (16, 0, 0) 9 = t → (t = 0 → z2 (18, 0, 0) 0 = v) → (t = 0 → aIR v) → B (none, c1 + 1, c2 + 6) z2 892 [some (.inr (.inr (.inl (31, 0, 0)))), some (.inr (.inr (.inl (0, 0, 0)))), some (.inr (.inr (.inl (16, 0, 0)))), some (.inr (.inr (.inl (18, 0, 0)))), some (.inr (.inr (.inl (19, 0, 0)))), some (.inl i), some (.inl t), none, none] [.inl v] := by
    intro z2 t v A2 hs2 ht e9 e18 hv
    have fin := hN z2 A2 (some (.inl t)) (some (.inl v)) none (c1 + 1) (c2 + 6) hs2 (Nat.le_refl _) (Nat.le_refl _)
    have th := cM_thrown (l := l) (g := g) (d := 19) (z := z2)
    by_cases t0 : t = 0
    · have f18 := e18 t0
      have fv := hv t0
      have ec : aCmp (z2 (18, 0, 0) 0) v = 0 := by rw [f18]; exact aCmp_rf v
      unfold aIR at fv
      refine hB tc_legPoints kc_legPoints [2859] 1000 _ _ _ _ _ ?_
      repeat' (first | exact fin | refine And.intro ?_ ?_ | (intro hh; first | exact absurd hh (by decide) | exact absurd rfl hh | (exfalso; omega) | skip) | refine Or.inl (uE th ?_) | fail)
      all_goals first | omega | (exact rfl) | (show (1 : Nat) ≤ 20; decide)
    · refine hB tc_legPoints kc_legPoints [2859] 1000 _ _ _ _ _ ?_
      repeat' (first | exact fin | refine And.intro ?_ ?_ | (intro hh; first | exact absurd hh (by decide) | exact absurd rfl hh | (exfalso; omega) | skip) | refine Or.inl (uE th ?_) | fail)
      all_goals first | omega | (exact rfl) | (show (1 : Nat) ≤ 20; decide)
  have l2 : ∀ r z1, lQ z R r z1 → aPu r [] (fun st => B (none, c1 + 1, c2 + 6) z1 880 [some (.inr (.inr (.inl (31, 0, 0)))), some (.inr (.inr (.inl (0, 0, 0)))), some (.inr (.inr (.inl (16, 0, 0)))), some (.inr (.inr (.inl (18, 0, 0)))), some (.inr (.inr (.inl (19, 0, 0)))), some (.inl i), none, none, none] st) := by
    intro r z1 hz1
    obtain ⟨rfl, q1, q2, q3⟩ := hz1
    have md := hs.mid q3
    have a1 : z1 (31, 0, 0) (i + 1) = x1 := by rw [md.2]; exact e1.symm
    have cm : mOp l g nX7_legPoints 19 [.inr (.inr (.inl (16, 0, 0))), .inl (z1 (31, 0, 0) (i + 1))] z1 R := by
      rw [a1]
      exact cm0 z1 md.1
    have l4 : ∀ r z2, (r = some (.inl R.2.1) ∧ (RelM z2 R.2.2 ∧ z2 (16, 0, 0) 9 = R.1) ∧ fM z1 z2) → aPu r [] (fun st => B (none, c1 + 1, c2 + 6) z2 892 [some (.inr (.inr (.inl (31, 0, 0)))), some (.inr (.inr (.inl (0, 0, 0)))), some (.inr (.inr (.inl (16, 0, 0)))), some (.inr (.inr (.inl (18, 0, 0)))), some (.inr (.inr (.inl (19, 0, 0)))), some (.inl i), some (.inl R.1), none, none] st) := by
      intro r z2 hz2
      obtain ⟨rfl, ⟨p1, p2⟩, p3⟩ := hz2
      exact l3 z2 R.1 R.2.1 R.2.2 (hs.fin q3 q2 p1 p3 hIL.1 hIL.2) lt0 p2 (fun w => by rw [p3 (18, 0, 0) ⟨by decide, by decide⟩]; exact q1 w) lv.2
    refine hB tc_legPoints kc_legPoints [892] 1000 _ _ _ _ _ ?_
    repeat' (first | exact Or.inl (uA cm l4) | refine And.intro ?_ ?_ | (intro hh; first | exact absurd hh (by decide) | exact absurd rfl hh | (exfalso; omega) | skip) | fail)
    all_goals first | omega | (exact rfl) | (show (1 : Nat) ≤ 20; decide)
  refine hB tc_legPoints kc_legPoints [880] 1000 _ _ _ _ _ ?_
  repeat' (first | exact Or.inr (Or.inr ⟨1, 6, ⟨k1, k2⟩, uL ct l2⟩) | refine And.intro ?_ ?_ | (intro hh; first | exact absurd hh (by decide) | exact absurd rfl hh | (exfalso; omega) | skip) | fail)
  all_goals first | omega | (exact rfl) | (show (1 : Nat) ≤ 20; decide)
theorem wL_totalPoints (hB : lBt l g Q X B) (h : lIn g S z A i c1 c2) (hN : lNx S B i c1 c2) : B (none, c1, c2) z 925 [some (.inr (.inr (.inl (31, 0, 0)))), some (.inr (.inr (.inl (0, 0, 0)))), some (.inr (.inr (.inl (16, 0, 0)))), some (.inr (.inr (.inl (18, 0, 0)))), some (.inr (.inr (.inl (19, 0, 0)))), some (.inl i), none, none, none] [] := by
  obtain ⟨hs, hS, ⟨i0, i1⟩, k1, k2⟩ := h
  obtain ⟨⟨hC, hM⟩, ⟨hI, hL⟩, hz⟩ := id hs
  have hIL : InvW A ∧ InvL A := And.intro hI hL
  obtain ⟨v, ev⟩ : ∃ v : Int, v = sTot (wM A) := ⟨_, rfl⟩
  have hv : aIR v := by
    rw [ev]
    exact by have cc := sTot_B hI.1.1.1; exact aIR_of (by omega) (by omega)
  have ct : aM1 l g nX6_totalPoints 19 [.inr (.inr (.inl (0, 0, 0)))] z (fun r z' => r = some (.inl v) ∧ RelC z' A ∧ fC z z') := by
    rw [ev]
    exact (cT_totalPoints (l := l) (g := g) (d := 19) (z := z) (A := A) (by decide) hC hI).1 rfl
  have l2 : ∀ r z1, (r = some (.inl v) ∧ RelC z1 A ∧ fC z z1) → aPu r [] (fun st => B (none, c1, c2) z1 929 [some (.inr (.inr (.inl (31, 0, 0)))), some (.inr (.inr (.inl (0, 0, 0)))), some (.inr (.inr (.inl (16, 0, 0)))), some (.inr (.inr (.inl (18, 0, 0)))), some (.inr (.inr (.inl (19, 0, 0)))), some (.inl i), none, none, none] st) := by
    intro r z1 hz1
    obtain ⟨rfl, q2, q3⟩ := hz1
    have md := hs.mid q3.fL
    have cm : aM1 l g nX7_totalPoints 19 [.inr (.inr (.inl (16, 0, 0)))] z1 (fun r z' => r = some (.inl v) ∧ (RelM z' A ∧ z' (16, 0, 0) 9 = 0) ∧ fM z1 z') := by
      rw [ev]
      exact cM_totalPoints (by decide) md.1 hI
    have l3 : ∀ r z2, (r = some (.inl v) ∧ (RelM z2 A ∧ z2 (16, 0, 0) 9 = 0) ∧ fM z1 z2) → aPu r [.inl v] (fun st => B (none, c1, c2) z2 933 [some (.inr (.inr (.inl (31, 0, 0)))), some (.inr (.inr (.inl (0, 0, 0)))), some (.inr (.inr (.inl (16, 0, 0)))), some (.inr (.inr (.inl (18, 0, 0)))), some (.inr (.inr (.inl (19, 0, 0)))), some (.inl i), none, none, none] st) := by
      intro r z2 hz2
      obtain ⟨rfl, ⟨p1, p2⟩, p3⟩ := hz2
      have fin := hN z2 A none none none c1 c2 (hs.fin q3.fL q2 p1 p3 hIL.1 hIL.2) (Nat.le_succ _) (Nat.le_add_right _ _)
      refine hB tc_totalPoints kc_totalPoints [2859] 1000 _ _ _ _ _ ?_
      repeat' (first | exact fin | refine And.intro ?_ ?_ | (intro hh; first | exact absurd hh (by decide) | exact absurd rfl hh | (exfalso; omega) | skip) | fail)
      all_goals first | exact hv.1 | exact hv.2
    refine hB tc_totalPoints kc_totalPoints [933] 1000 _ _ _ _ _ ?_
    repeat' (first | exact Or.inl (uA cm l3) | refine And.intro ?_ ?_ | (intro hh; first | exact absurd hh (by decide) | exact absurd rfl hh | (exfalso; omega) | skip) | fail)
    all_goals first | omega | (exact rfl) | (show (1 : Nat) ≤ 20; decide)
  refine hB tc_totalPoints kc_totalPoints [929] 1000 _ _ _ _ _ ?_
  repeat' (first | exact Or.inl (uA ct l2) | refine And.intro ?_ ?_ | (intro hh; first | exact absurd hh (by decide) | exact absurd rfl hh | (exfalso; omega) | skip) | fail)
  all_goals first | omega | (exact rfl) | (show (1 : Nat) ≤ 20; decide)
theorem wL_gates (hB : lBt l g Q X B) (h : lIn g S z A i c1 c2) (hN : lNx S B i c1 c2) : B (none, c1, c2) z 938 [some (.inr (.inr (.inl (31, 0, 0)))), some (.inr (.inr (.inl (0, 0, 0)))), some (.inr (.inr (.inl (16, 0, 0)))), some (.inr (.inr (.inl (18, 0, 0)))), some (.inr (.inr (.inl (19, 0, 0)))), some (.inl i), none, none, none] [] := by
  obtain ⟨hs, hS, ⟨i0, i1⟩, k1, k2⟩ := h
  obtain ⟨⟨hC, hM⟩, ⟨hI, hL⟩, hz⟩ := id hs
  have hIL : InvW A ∧ InvL A := And.intro hI hL
  obtain ⟨v, ev⟩ : ∃ v : Int, v = wM A 1 := ⟨_, rfl⟩
  have hv : aIR v := by
    rw [ev]
    exact by have cc := hI.1.1.1.1.1; exact aIR_of (by omega) (by omega)
  have ct : aM1 l g nX6_gates 19 [.inr (.inr (.inl (0, 0, 0)))] z (fun r z' => r = some (.inl v) ∧ RelC z' A ∧ fC z z') := by
    rw [ev]
    exact (cT_gates (l := l) (g := g) (d := 19) (z := z) (A := A) (by decide) hC hI).1 rfl
  have l2 : ∀ r z1, (r = some (.inl v) ∧ RelC z1 A ∧ fC z z1) → aPu r [] (fun st => B (none, c1, c2) z1 942 [some (.inr (.inr (.inl (31, 0, 0)))), some (.inr (.inr (.inl (0, 0, 0)))), some (.inr (.inr (.inl (16, 0, 0)))), some (.inr (.inr (.inl (18, 0, 0)))), some (.inr (.inr (.inl (19, 0, 0)))), some (.inl i), none, none, none] st) := by
    intro r z1 hz1
    obtain ⟨rfl, q2, q3⟩ := hz1
    have md := hs.mid q3.fL
    have cm : aM1 l g nX7_gates 19 [.inr (.inr (.inl (16, 0, 0)))] z1 (fun r z' => r = some (.inl v) ∧ (RelM z' A ∧ z' (16, 0, 0) 9 = 0) ∧ fM z1 z') := by
      rw [ev]
      exact cM_gates (by decide) md.1 hI
    have l3 : ∀ r z2, (r = some (.inl v) ∧ (RelM z2 A ∧ z2 (16, 0, 0) 9 = 0) ∧ fM z1 z2) → aPu r [.inl v] (fun st => B (none, c1, c2) z2 946 [some (.inr (.inr (.inl (31, 0, 0)))), some (.inr (.inr (.inl (0, 0, 0)))), some (.inr (.inr (.inl (16, 0, 0)))), some (.inr (.inr (.inl (18, 0, 0)))), some (.inr (.inr (.inl (19, 0, 0)))), some (.inl i), none, none, none] st) := by
      intro r z2 hz2
      obtain ⟨rfl, ⟨p1, p2⟩, p3⟩ := hz2
      have fin := hN z2 A none none none c1 c2 (hs.fin q3.fL q2 p1 p3 hIL.1 hIL.2) (Nat.le_succ _) (Nat.le_add_right _ _)
      refine hB tc_gates kc_gates [2859] 1000 _ _ _ _ _ ?_
      repeat' (first | exact fin | refine And.intro ?_ ?_ | (intro hh; first | exact absurd hh (by decide) | exact absurd rfl hh | (exfalso; omega) | skip) | fail)
      all_goals first | exact hv.1 | exact hv.2
    refine hB tc_gates kc_gates [946] 1000 _ _ _ _ _ ?_
    repeat' (first | exact Or.inl (uA cm l3) | refine And.intro ?_ ?_ | (intro hh; first | exact absurd hh (by decide) | exact absurd rfl hh | (exfalso; omega) | skip) | fail)
    all_goals first | omega | (exact rfl) | (show (1 : Nat) ≤ 20; decide)
  refine hB tc_gates kc_gates [942] 1000 _ _ _ _ _ ?_
  repeat' (first | exact Or.inl (uA ct l2) | refine And.intro ?_ ?_ | (intro hh; first | exact absurd hh (by decide) | exact absurd rfl hh | (exfalso; omega) | skip) | fail)
  all_goals first | omega | (exact rfl) | (show (1 : Nat) ≤ 20; decide)
theorem wL_legOf (hB : lBt l g Q X B) (h : lIn g S z A i c1 c2) (hN : lNx S B i c1 c2) : B (none, c1, c2) z 951 [some (.inr (.inr (.inl (31, 0, 0)))), some (.inr (.inr (.inl (0, 0, 0)))), some (.inr (.inr (.inl (16, 0, 0)))), some (.inr (.inr (.inl (18, 0, 0)))), some (.inr (.inr (.inl (19, 0, 0)))), some (.inl i), none, none, none] [] := by
  obtain ⟨hs, hS, ⟨i0, i1⟩, k1, k2⟩ := h
  obtain ⟨⟨hC, hM⟩, ⟨hI, hL⟩, hz⟩ := id hs
  obtain ⟨x1, e1⟩ : ∃ x, x = z (31, 0, 0) (i + 1) := ⟨_, rfl⟩
  have h1 : aIR x1 := by rw [e1, hz]; exact hS _
  have lv := lV_legOf (k := x1) hI
  have ct : lOp l g nL_legOf 19 [.inr (.inr (.inl (0, 0, 0))), .inl (z (31, 0, 0) (i + 1)), .inr (.inr (.inl (18, 0, 0)))] z (lQ z (qR (isG (wM A) x1) (wM A (29 + 5 * x1)) A)) := by
    rw [← e1]
    exact lT_legOf (by decide) (cT_legOf h1 (by decide) hC hI) lv.1 lv.2
  have hIL : InvW (qR (isG (wM A) x1) (wM A (29 + 5 * x1)) A).2.2 ∧ InvL (qR (isG (wM A) x1) (wM A (29 + 5 * x1)) A).2.2 := lI_A qR_A hI hL
  have cm0 : ∀ z1, RelM z1 A → mOp l g nX7_legOf 19 [.inr (.inr (.inl (16, 0, 0))), .inl x1] z1 (qR (isG (wM A) x1) (wM A (29 + 5 * x1)) A) := fun z1 md => cM_legOf h1 (by decide) md hI
  obtain ⟨R, eR⟩ : ∃ R : aRes, R = (qR (isG (wM A) x1) (wM A (29 + 5 * x1)) A) := ⟨_, rfl⟩
  rw [← eR] at lv ct hIL
  simp only [← eR] at cm0
  clear eR
  have lt0 : 0 ≤ R.1 ∧ R.1 ≤ 3 := by have := lv.1; omega
  have l3 : ∀ (z2 : aM) (t : Int) (v : Int) (A2 : aAb), lS S z2 A2 → (0 ≤ t ∧ t ≤ 3) → z2 (16, 0, 0) 9 = t → (t = 0 → z2 (18, 0, 0) 0 = v) → (t = 0 → aIR v) → B (none, c1 + 1, c2 + 6) z2 974 [some (.inr (.inr (.inl (31, 0, 0)))), some (.inr (.inr (.inl (0, 0, 0)))), some (.inr (.inr (.inl (16, 0, 0)))), some (.inr (.inr (.inl (18, 0, 0)))), some (.inr (.inr (.inl (19, 0, 0)))), some (.inl i), some (.inl t), none, none] [.inl v] := by
    intro z2 t v A2 hs2 ht e9 e18 hv
    have fin := hN z2 A2 (some (.inl t)) (some (.inl v)) none (c1 + 1) (c2 + 6) hs2 (Nat.le_refl _) (Nat.le_refl _)
    have th := cM_thrown (l := l) (g := g) (d := 19) (z := z2)
    by_cases t0 : t = 0
    · have f18 := e18 t0
      have fv := hv t0
      have ec : aCmp (z2 (18, 0, 0) 0) v = 0 := by rw [f18]; exact aCmp_rf v
      unfold aIR at fv
      refine hB tc_legOf kc_legOf [2859] 1000 _ _ _ _ _ ?_
      repeat' (first | exact fin | refine And.intro ?_ ?_ | (intro hh; first | exact absurd hh (by decide) | exact absurd rfl hh | (exfalso; omega) | skip) | refine Or.inl (uE th ?_) | fail)
      all_goals first | omega | (exact rfl) | (show (1 : Nat) ≤ 20; decide)
    · refine hB tc_legOf kc_legOf [2859] 1000 _ _ _ _ _ ?_
      repeat' (first | exact fin | refine And.intro ?_ ?_ | (intro hh; first | exact absurd hh (by decide) | exact absurd rfl hh | (exfalso; omega) | skip) | refine Or.inl (uE th ?_) | fail)
      all_goals first | omega | (exact rfl) | (show (1 : Nat) ≤ 20; decide)
  have l2 : ∀ r z1, lQ z R r z1 → aPu r [] (fun st => B (none, c1 + 1, c2 + 6) z1 962 [some (.inr (.inr (.inl (31, 0, 0)))), some (.inr (.inr (.inl (0, 0, 0)))), some (.inr (.inr (.inl (16, 0, 0)))), some (.inr (.inr (.inl (18, 0, 0)))), some (.inr (.inr (.inl (19, 0, 0)))), some (.inl i), none, none, none] st) := by
    intro r z1 hz1
    obtain ⟨rfl, q1, q2, q3⟩ := hz1
    have md := hs.mid q3
    have a1 : z1 (31, 0, 0) (i + 1) = x1 := by rw [md.2]; exact e1.symm
    have cm : mOp l g nX7_legOf 19 [.inr (.inr (.inl (16, 0, 0))), .inl (z1 (31, 0, 0) (i + 1))] z1 R := by
      rw [a1]
      exact cm0 z1 md.1
    have l4 : ∀ r z2, (r = some (.inl R.2.1) ∧ (RelM z2 R.2.2 ∧ z2 (16, 0, 0) 9 = R.1) ∧ fM z1 z2) → aPu r [] (fun st => B (none, c1 + 1, c2 + 6) z2 974 [some (.inr (.inr (.inl (31, 0, 0)))), some (.inr (.inr (.inl (0, 0, 0)))), some (.inr (.inr (.inl (16, 0, 0)))), some (.inr (.inr (.inl (18, 0, 0)))), some (.inr (.inr (.inl (19, 0, 0)))), some (.inl i), some (.inl R.1), none, none] st) := by
      intro r z2 hz2
      obtain ⟨rfl, ⟨p1, p2⟩, p3⟩ := hz2
      exact l3 z2 R.1 R.2.1 R.2.2 (hs.fin q3 q2 p1 p3 hIL.1 hIL.2) lt0 p2 (fun w => by rw [p3 (18, 0, 0) ⟨by decide, by decide⟩]; exact q1 w) lv.2
    refine hB tc_legOf kc_legOf [974] 1000 _ _ _ _ _ ?_
    repeat' (first | exact Or.inl (uA cm l4) | refine And.intro ?_ ?_ | (intro hh; first | exact absurd hh (by decide) | exact absurd rfl hh | (exfalso; omega) | skip) | fail)
    all_goals first | omega | (exact rfl) | (show (1 : Nat) ≤ 20; decide)
  refine hB tc_legOf kc_legOf [962] 1000 _ _ _ _ _ ?_
  repeat' (first | exact Or.inr (Or.inr ⟨1, 6, ⟨k1, k2⟩, uL ct l2⟩) | refine And.intro ?_ ?_ | (intro hh; first | exact absurd hh (by decide) | exact absurd rfl hh | (exfalso; omega) | skip) | fail)
  all_goals first | omega | (exact rfl) | (show (1 : Nat) ≤ 20; decide)
theorem wL_isOnLine (hB : lBt l g Q X B) (h : lIn g S z A i c1 c2) (hN : lNx S B i c1 c2) : B (none, c1, c2) z 1007 [some (.inr (.inr (.inl (31, 0, 0)))), some (.inr (.inr (.inl (0, 0, 0)))), some (.inr (.inr (.inl (16, 0, 0)))), some (.inr (.inr (.inl (18, 0, 0)))), some (.inr (.inr (.inl (19, 0, 0)))), some (.inl i), none, none, none] [] := by
  obtain ⟨hs, hS, ⟨i0, i1⟩, k1, k2⟩ := h
  obtain ⟨⟨hC, hM⟩, ⟨hI, hL⟩, hz⟩ := id hs
  obtain ⟨x1, e1⟩ : ∃ x, x = z (31, 0, 0) (i + 1) := ⟨_, rfl⟩
  have h1 : aIR x1 := by rw [e1, hz]; exact hS _
  have lv := lV_isOnLine (k := x1) hI
  have ct : lOp l g nL_isOnLine 19 [.inr (.inr (.inl (0, 0, 0))), .inl (z (31, 0, 0) (i + 1)), .inr (.inr (.inl (18, 0, 0)))] z (lQ z (qOnLine x1 A)) := by
    rw [← e1]
    exact lT_isOnLine (by decide) (cT_isOnLine h1 (by decide) hC hI) lv.1 lv.2
  have hIL : InvW (qOnLine x1 A).2.2 ∧ InvL (qOnLine x1 A).2.2 := lI_A qOnLine_A hI hL
  have cm0 : ∀ z1, RelM z1 A → mOp l g nX7_isOnLine 19 [.inr (.inr (.inl (16, 0, 0))), .inl x1] z1 (qOnLine x1 A) := fun z1 md => cM_isOnLine h1 (by decide) md hI
  obtain ⟨R, eR⟩ : ∃ R : aRes, R = (qOnLine x1 A) := ⟨_, rfl⟩
  rw [← eR] at lv ct hIL
  simp only [← eR] at cm0
  clear eR
  have lt0 : 0 ≤ R.1 ∧ R.1 ≤ 3 := by have := lv.1; omega
  have l3 : ∀ (z2 : aM) (t : Int) (v : Int) (A2 : aAb), lS S z2 A2 → (0 ≤ t ∧ t ≤ 3) → z2 (16, 0, 0) 9 = t → (t = 0 → z2 (18, 0, 0) 0 = v) → (t = 0 → v = 0 ∨ v = 1) → B (none, c1 + 1, c2 + 6) z2 1030 [some (.inr (.inr (.inl (31, 0, 0)))), some (.inr (.inr (.inl (0, 0, 0)))), some (.inr (.inr (.inl (16, 0, 0)))), some (.inr (.inr (.inl (18, 0, 0)))), some (.inr (.inr (.inl (19, 0, 0)))), some (.inl i), some (.inl t), none, none] [.inl v] := by
    intro z2 t v A2 hs2 ht e9 e18 hv
    have fin := hN z2 A2 (some (.inl t)) (some (.inl v)) none (c1 + 1) (c2 + 6) hs2 (Nat.le_refl _) (Nat.le_refl _)
    have th := cM_thrown (l := l) (g := g) (d := 19) (z := z2)
    by_cases t0 : t = 0
    · have f18 := e18 t0
      rcases hv t0 with rfl | rfl
      · have ec : aCmp (z2 (18, 0, 0) 0) 0 = 0 := by rw [f18]; exact aCmp_rf 0
        refine hB tc_isOnLine kc_isOnLine [2859] 1000 _ _ _ _ _ ?_
        repeat' (first | exact fin | refine And.intro ?_ ?_ | (intro hh; first | exact absurd hh (by decide) | exact absurd rfl hh | (exfalso; omega) | skip) | refine Or.inl (uE th ?_) | fail)
        all_goals first | omega | (exact rfl) | (show (1 : Nat) ≤ 20; decide)
      · have ec : aCmp (z2 (18, 0, 0) 0) 1 = 0 := by rw [f18]; exact aCmp_rf 1
        refine hB tc_isOnLine kc_isOnLine [2859] 1000 _ _ _ _ _ ?_
        repeat' (first | exact fin | refine And.intro ?_ ?_ | (intro hh; first | exact absurd hh (by decide) | exact absurd rfl hh | (exfalso; omega) | skip) | refine Or.inl (uE th ?_) | fail)
        all_goals first | omega | (exact rfl) | (show (1 : Nat) ≤ 20; decide)
    · refine hB tc_isOnLine kc_isOnLine [2859] 1000 _ _ _ _ _ ?_
      repeat' (first | exact fin | refine And.intro ?_ ?_ | (intro hh; first | exact absurd hh (by decide) | exact absurd rfl hh | (exfalso; omega) | skip) | refine Or.inl (uE th ?_) | fail)
      all_goals first | omega | (exact rfl) | (show (1 : Nat) ≤ 20; decide)
  have l2 : ∀ r z1, lQ z R r z1 → aPu r [] (fun st => B (none, c1 + 1, c2 + 6) z1 1018 [some (.inr (.inr (.inl (31, 0, 0)))), some (.inr (.inr (.inl (0, 0, 0)))), some (.inr (.inr (.inl (16, 0, 0)))), some (.inr (.inr (.inl (18, 0, 0)))), some (.inr (.inr (.inl (19, 0, 0)))), some (.inl i), none, none, none] st) := by
    intro r z1 hz1
    obtain ⟨rfl, q1, q2, q3⟩ := hz1
    have md := hs.mid q3
    have a1 : z1 (31, 0, 0) (i + 1) = x1 := by rw [md.2]; exact e1.symm
    have cm : mOp l g nX7_isOnLine 19 [.inr (.inr (.inl (16, 0, 0))), .inl (z1 (31, 0, 0) (i + 1))] z1 R := by
      rw [a1]
      exact cm0 z1 md.1
    have l4 : ∀ r z2, (r = some (.inl R.2.1) ∧ (RelM z2 R.2.2 ∧ z2 (16, 0, 0) 9 = R.1) ∧ fM z1 z2) → aPu r [] (fun st => B (none, c1 + 1, c2 + 6) z2 1030 [some (.inr (.inr (.inl (31, 0, 0)))), some (.inr (.inr (.inl (0, 0, 0)))), some (.inr (.inr (.inl (16, 0, 0)))), some (.inr (.inr (.inl (18, 0, 0)))), some (.inr (.inr (.inl (19, 0, 0)))), some (.inl i), some (.inl R.1), none, none] st) := by
      intro r z2 hz2
      obtain ⟨rfl, ⟨p1, p2⟩, p3⟩ := hz2
      exact l3 z2 R.1 R.2.1 R.2.2 (hs.fin q3 q2 p1 p3 hIL.1 hIL.2) lt0 p2 (fun w => by rw [p3 (18, 0, 0) ⟨by decide, by decide⟩]; exact q1 w) lv.2
    refine hB tc_isOnLine kc_isOnLine [1030] 1000 _ _ _ _ _ ?_
    repeat' (first | exact Or.inl (uA cm l4) | refine And.intro ?_ ?_ | (intro hh; first | exact absurd hh (by decide) | exact absurd rfl hh | (exfalso; omega) | skip) | fail)
    all_goals first | omega | (exact rfl) | (show (1 : Nat) ≤ 20; decide)
  refine hB tc_isOnLine kc_isOnLine [1018] 1000 _ _ _ _ _ ?_
  repeat' (first | exact Or.inr (Or.inr ⟨1, 6, ⟨k1, k2⟩, uL ct l2⟩) | refine And.intro ?_ ?_ | (intro hh; first | exact absurd hh (by decide) | exact absurd rfl hh | (exfalso; omega) | skip) | fail)
  all_goals first | omega | (exact rfl) | (show (1 : Nat) ≤ 20; decide)
theorem wL_tolerance (hB : lBt l g Q X B) (h : lIn g S z A i c1 c2) (hN : lNx S B i c1 c2) : B (none, c1, c2) z 1070 [some (.inr (.inr (.inl (31, 0, 0)))), some (.inr (.inr (.inl (0, 0, 0)))), some (.inr (.inr (.inl (16, 0, 0)))), some (.inr (.inr (.inl (18, 0, 0)))), some (.inr (.inr (.inl (19, 0, 0)))), some (.inl i), none, none, none] [] := by
  obtain ⟨hs, hS, ⟨i0, i1⟩, k1, k2⟩ := h
  obtain ⟨⟨hC, hM⟩, ⟨hI, hL⟩, hz⟩ := id hs
  have hIL : InvW A ∧ InvL A := And.intro hI hL
  obtain ⟨v, ev⟩ : ∃ v : Int, v = wM A 5 := ⟨_, rfl⟩
  have hv : aIR v := by
    rw [ev]
    exact by have cc := hI.1.1.1.1.2.1; exact aIR_of (by omega) (by omega)
  have ct : aM1 l g nX6_tolerance 19 [.inr (.inr (.inl (0, 0, 0)))] z (fun r z' => r = some (.inl v) ∧ RelC z' A ∧ fC z z') := by
    rw [ev]
    exact (cT_tolerance (l := l) (g := g) (d := 19) (z := z) (A := A) (by decide) hC hI).1 rfl
  have l2 : ∀ r z1, (r = some (.inl v) ∧ RelC z1 A ∧ fC z z1) → aPu r [] (fun st => B (none, c1, c2) z1 1074 [some (.inr (.inr (.inl (31, 0, 0)))), some (.inr (.inr (.inl (0, 0, 0)))), some (.inr (.inr (.inl (16, 0, 0)))), some (.inr (.inr (.inl (18, 0, 0)))), some (.inr (.inr (.inl (19, 0, 0)))), some (.inl i), none, none, none] st) := by
    intro r z1 hz1
    obtain ⟨rfl, q2, q3⟩ := hz1
    have md := hs.mid q3.fL
    have cm : aM1 l g nX7_tolerance 19 [.inr (.inr (.inl (16, 0, 0)))] z1 (fun r z' => r = some (.inl v) ∧ (RelM z' A ∧ z' (16, 0, 0) 9 = 0) ∧ fM z1 z') := by
      rw [ev]
      exact cM_tolerance (by decide) md.1 hI
    have l3 : ∀ r z2, (r = some (.inl v) ∧ (RelM z2 A ∧ z2 (16, 0, 0) 9 = 0) ∧ fM z1 z2) → aPu r [.inl v] (fun st => B (none, c1, c2) z2 1078 [some (.inr (.inr (.inl (31, 0, 0)))), some (.inr (.inr (.inl (0, 0, 0)))), some (.inr (.inr (.inl (16, 0, 0)))), some (.inr (.inr (.inl (18, 0, 0)))), some (.inr (.inr (.inl (19, 0, 0)))), some (.inl i), none, none, none] st) := by
      intro r z2 hz2
      obtain ⟨rfl, ⟨p1, p2⟩, p3⟩ := hz2
      have fin := hN z2 A none none none c1 c2 (hs.fin q3.fL q2 p1 p3 hIL.1 hIL.2) (Nat.le_succ _) (Nat.le_add_right _ _)
      refine hB tc_tolerance kc_tolerance [2859] 1000 _ _ _ _ _ ?_
      repeat' (first | exact fin | refine And.intro ?_ ?_ | (intro hh; first | exact absurd hh (by decide) | exact absurd rfl hh | (exfalso; omega) | skip) | fail)
      all_goals first | exact hv.1 | exact hv.2
    refine hB tc_tolerance kc_tolerance [1078] 1000 _ _ _ _ _ ?_
    repeat' (first | exact Or.inl (uA cm l3) | refine And.intro ?_ ?_ | (intro hh; first | exact absurd hh (by decide) | exact absurd rfl hh | (exfalso; omega) | skip) | fail)
    all_goals first | omega | (exact rfl) | (show (1 : Nat) ≤ 20; decide)
  refine hB tc_tolerance kc_tolerance [1074] 1000 _ _ _ _ _ ?_
  repeat' (first | exact Or.inl (uA ct l2) | refine And.intro ?_ ?_ | (intro hh; first | exact absurd hh (by decide) | exact absurd rfl hh | (exfalso; omega) | skip) | fail)
  all_goals first | omega | (exact rfl) | (show (1 : Nat) ≤ 20; decide)
theorem wL_timeLimit (hB : lBt l g Q X B) (h : lIn g S z A i c1 c2) (hN : lNx S B i c1 c2) : B (none, c1, c2) z 1083 [some (.inr (.inr (.inl (31, 0, 0)))), some (.inr (.inr (.inl (0, 0, 0)))), some (.inr (.inr (.inl (16, 0, 0)))), some (.inr (.inr (.inl (18, 0, 0)))), some (.inr (.inr (.inl (19, 0, 0)))), some (.inl i), none, none, none] [] := by
  obtain ⟨hs, hS, ⟨i0, i1⟩, k1, k2⟩ := h
  obtain ⟨⟨hC, hM⟩, ⟨hI, hL⟩, hz⟩ := id hs
  have hIL : InvW A ∧ InvL A := And.intro hI hL
  obtain ⟨v, ev⟩ : ∃ v : Int, v = wM A 6 := ⟨_, rfl⟩
  have hv : aIR v := by
    rw [ev]
    exact by have cc := hI.1.1.1.1.2.1; exact aIR_of (by omega) (by omega)
  have ct : aM1 l g nX6_timeLimit 19 [.inr (.inr (.inl (0, 0, 0)))] z (fun r z' => r = some (.inl v) ∧ RelC z' A ∧ fC z z') := by
    rw [ev]
    exact (cT_timeLimit (l := l) (g := g) (d := 19) (z := z) (A := A) (by decide) hC hI).1 rfl
  have l2 : ∀ r z1, (r = some (.inl v) ∧ RelC z1 A ∧ fC z z1) → aPu r [] (fun st => B (none, c1, c2) z1 1087 [some (.inr (.inr (.inl (31, 0, 0)))), some (.inr (.inr (.inl (0, 0, 0)))), some (.inr (.inr (.inl (16, 0, 0)))), some (.inr (.inr (.inl (18, 0, 0)))), some (.inr (.inr (.inl (19, 0, 0)))), some (.inl i), none, none, none] st) := by
    intro r z1 hz1
    obtain ⟨rfl, q2, q3⟩ := hz1
    have md := hs.mid q3.fL
    have cm : aM1 l g nX7_timeLimit 19 [.inr (.inr (.inl (16, 0, 0)))] z1 (fun r z' => r = some (.inl v) ∧ (RelM z' A ∧ z' (16, 0, 0) 9 = 0) ∧ fM z1 z') := by
      rw [ev]
      exact cM_timeLimit (by decide) md.1 hI
    have l3 : ∀ r z2, (r = some (.inl v) ∧ (RelM z2 A ∧ z2 (16, 0, 0) 9 = 0) ∧ fM z1 z2) → aPu r [.inl v] (fun st => B (none, c1, c2) z2 1091 [some (.inr (.inr (.inl (31, 0, 0)))), some (.inr (.inr (.inl (0, 0, 0)))), some (.inr (.inr (.inl (16, 0, 0)))), some (.inr (.inr (.inl (18, 0, 0)))), some (.inr (.inr (.inl (19, 0, 0)))), some (.inl i), none, none, none] st) := by
      intro r z2 hz2
      obtain ⟨rfl, ⟨p1, p2⟩, p3⟩ := hz2
      have fin := hN z2 A none none none c1 c2 (hs.fin q3.fL q2 p1 p3 hIL.1 hIL.2) (Nat.le_succ _) (Nat.le_add_right _ _)
      refine hB tc_timeLimit kc_timeLimit [2859] 1000 _ _ _ _ _ ?_
      repeat' (first | exact fin | refine And.intro ?_ ?_ | (intro hh; first | exact absurd hh (by decide) | exact absurd rfl hh | (exfalso; omega) | skip) | fail)
      all_goals first | exact hv.1 | exact hv.2
    refine hB tc_timeLimit kc_timeLimit [1091] 1000 _ _ _ _ _ ?_
    repeat' (first | exact Or.inl (uA cm l3) | refine And.intro ?_ ?_ | (intro hh; first | exact absurd hh (by decide) | exact absurd rfl hh | (exfalso; omega) | skip) | fail)
    all_goals first | omega | (exact rfl) | (show (1 : Nat) ≤ 20; decide)
  refine hB tc_timeLimit kc_timeLimit [1087] 1000 _ _ _ _ _ ?_
  repeat' (first | exact Or.inl (uA ct l2) | refine And.intro ?_ ?_ | (intro hh; first | exact absurd hh (by decide) | exact absurd rfl hh | (exfalso; omega) | skip) | fail)
  all_goals first | omega | (exact rfl) | (show (1 : Nat) ≤ 20; decide)
theorem wL_isRunning (hB : lBt l g Q X B) (h : lIn g S z A i c1 c2) (hN : lNx S B i c1 c2) : B (none, c1, c2) z 1096 [some (.inr (.inr (.inl (31, 0, 0)))), some (.inr (.inr (.inl (0, 0, 0)))), some (.inr (.inr (.inl (16, 0, 0)))), some (.inr (.inr (.inl (18, 0, 0)))), some (.inr (.inr (.inl (19, 0, 0)))), some (.inl i), none, none, none] [] := by
  obtain ⟨hs, hS, ⟨i0, i1⟩, k1, k2⟩ := h
  obtain ⟨⟨hC, hM⟩, ⟨hI, hL⟩, hz⟩ := id hs
  have hIL : InvW A ∧ InvL A := And.intro hI hL
  obtain ⟨v, ev⟩ : ∃ v : Int, v = sB (wM A 7 ≠ -1) := ⟨_, rfl⟩
  have hv : aIR v := by
    rw [ev]
    exact by rcases sB_01 (c := wM A 7 ≠ -1) with q | q <;> exact aIR_of (by omega) (by omega)
  have ct : aM1 l g nX6_isRunning 19 [.inr (.inr (.inl (0, 0, 0)))] z (fun r z' => r = some (.inl v) ∧ RelC z' A ∧ fC z z') := by
    rw [ev]
    exact (cT_isRunning (l := l) (g := g) (d := 19) (z := z) (A := A) (by decide) hC hI).1 rfl
  have l2 : ∀ r z1, (r = some (.inl v) ∧ RelC z1 A ∧ fC z z1) → aPu r [] (fun st => B (none, c1, c2) z1 1100 [some (.inr (.inr (.inl (31, 0, 0)))), some (.inr (.inr (.inl (0, 0, 0)))), some (.inr (.inr (.inl (16, 0, 0)))), some (.inr (.inr (.inl (18, 0, 0)))), some (.inr (.inr (.inl (19, 0, 0)))), some (.inl i), none, none, none] st) := by
    intro r z1 hz1
    obtain ⟨rfl, q2, q3⟩ := hz1
    have md := hs.mid q3.fL
    have cm : aM1 l g nX7_isRunning 19 [.inr (.inr (.inl (16, 0, 0)))] z1 (fun r z' => r = some (.inl v) ∧ (RelM z' A ∧ z' (16, 0, 0) 9 = 0) ∧ fM z1 z') := by
      rw [ev]
      exact cM_isRunning (by decide) md.1 hI
    have l3 : ∀ r z2, (r = some (.inl v) ∧ (RelM z2 A ∧ z2 (16, 0, 0) 9 = 0) ∧ fM z1 z2) → aPu r [.inl v] (fun st => B (none, c1, c2) z2 1104 [some (.inr (.inr (.inl (31, 0, 0)))), some (.inr (.inr (.inl (0, 0, 0)))), some (.inr (.inr (.inl (16, 0, 0)))), some (.inr (.inr (.inl (18, 0, 0)))), some (.inr (.inr (.inl (19, 0, 0)))), some (.inl i), none, none, none] st) := by
      intro r z2 hz2
      obtain ⟨rfl, ⟨p1, p2⟩, p3⟩ := hz2
      have fin := hN z2 A none none none c1 c2 (hs.fin q3.fL q2 p1 p3 hIL.1 hIL.2) (Nat.le_succ _) (Nat.le_add_right _ _)
      refine hB tc_isRunning kc_isRunning [2859] 1000 _ _ _ _ _ ?_
      repeat' (first | exact fin | refine And.intro ?_ ?_ | (intro hh; first | exact absurd hh (by decide) | exact absurd rfl hh | (exfalso; omega) | skip) | fail)
      all_goals first | exact hv.1 | exact hv.2
    refine hB tc_isRunning kc_isRunning [1104] 1000 _ _ _ _ _ ?_
    repeat' (first | exact Or.inl (uA cm l3) | refine And.intro ?_ ?_ | (intro hh; first | exact absurd hh (by decide) | exact absurd rfl hh | (exfalso; omega) | skip) | fail)
    all_goals first | omega | (exact rfl) | (show (1 : Nat) ≤ 20; decide)
  refine hB tc_isRunning kc_isRunning [1100] 1000 _ _ _ _ _ ?_
  repeat' (first | exact Or.inl (uA ct l2) | refine And.intro ?_ ?_ | (intro hh; first | exact absurd hh (by decide) | exact absurd rfl hh | (exfalso; omega) | skip) | fail)
  all_goals first | omega | (exact rfl) | (show (1 : Nat) ≤ 20; decide)
end LC
