/-! THE LAW'S CASES: charAt, type, execute, errorPosition, failedCommand, undo, save, restore (printed by wip/whole/law1.py) -/
def tc_charAt : aT := [(2512, .aload_n 1, 2513, 0, 0, 0, []), (2513, .aload_n 0, 2514, 0, 0, 0, []), (2514, .iload 5, 2516, 0, 0, 0, []), (2516, .iconst 1, 2517, 0, 0, 0, []), (2517, .iadd, 2518, 0, 0, 0, []), (2518, .iaload, 2519, 0, 0, 0, []), (2519, .aload_n 3, 2520, 0, 0, 0, []), (2520, .invokestatic 316, 2523, 3, 1, 274, []), (2523, .istore 6, 2525, 0, 0, 0, []), (2525, .aload_n 2, 2526, 0, 0, 0, []), (2526, .aload_n 0, 2527, 0, 0, 0, []), (2527, .iload 5, 2529, 0, 0, 0, []), (2529, .iconst 1, 2530, 0, 0, 0, []), (2530, .iadd, 2531, 0, 0, 0, []), (2531, .iaload, 2532, 0, 0, 0, []), (2532, .invokevirtual 318, 2535, 2, 0, 222, []), (2535, .istore 7, 2537, 0, 0, 0, []), (2537, .aload_n 2, 2538, 0, 0, 0, []), (2538, .invokevirtual 168, 2541, 1, 0, 133, []), (2541, .iload 6, 2543, 0, 0, 0, []), (2543, .if_icmp .eq 5, 2546, 2548, 0, 0, []), (2546, .iconst 0, 2547, 0, 0, 0, []), (2547, .ireturn, 2548, 0, 0, 0, []), (2548, .iload 6, 2550, 0, 0, 0, []), (2550, .ifCond .ne 15, 2553, 2565, 0, 0, []), (2553, .aload_n 3, 2554, 0, 0, 0, []), (2554, .iconst 0, 2555, 0, 0, 0, []), (2555, .laload, 2556, 0, 0, 0, []), (2556, .iload 7, 2558, 0, 0, 0, []), (2558, .i2l, 2559, 0, 0, 0, []), (2559, .lcmp, 2560, 0, 0, 0, []), (2560, .ifCond .eq 5, 2563, 2565, 0, 0, []), (2563, .iconst 0, 2564, 0, 0, 0, []), (2564, .ireturn, 2565, 0, 0, 0, []), (2565, .goto 294, 2568, 2859, 0, 0, [])]
set_option maxRecDepth 100000 in
theorem kc_charAt : tc_charAt.all (fun q => aOk 281 8 (aMt 281).2.1 q.1 q.2) = true := by decide +kernel
def tc_type : aT := [(2568, .aload_n 1, 2569, 0, 0, 0, []), (2569, .aload_n 0, 2570, 0, 0, 0, []), (2570, .iload 5, 2572, 0, 0, 0, []), (2572, .iconst 1, 2573, 0, 0, 0, []), (2573, .iadd, 2574, 0, 0, 0, []), (2574, .iaload, 2575, 0, 0, 0, []), (2575, .i2c, 2576, 0, 0, 0, []), (2576, .aload_n 3, 2577, 0, 0, 0, []), (2577, .invokestatic 319, 2580, 3, 1, 275, []), (2580, .istore 6, 2582, 0, 0, 0, []), (2582, .aload_n 2, 2583, 0, 0, 0, []), (2583, .aload_n 0, 2584, 0, 0, 0, []), (2584, .iload 5, 2586, 0, 0, 0, []), (2586, .iconst 1, 2587, 0, 0, 0, []), (2587, .iadd, 2588, 0, 0, 0, []), (2588, .iaload, 2589, 0, 0, 0, []), (2589, .i2c, 2590, 0, 0, 0, []), (2590, .invokevirtual 322, 2593, 2, 0, 223, []), (2593, .istore 7, 2595, 0, 0, 0, []), (2595, .aload_n 2, 2596, 0, 0, 0, []), (2596, .invokevirtual 168, 2599, 1, 0, 133, []), (2599, .iload 6, 2601, 0, 0, 0, []), (2601, .if_icmp .eq 5, 2604, 2606, 0, 0, []), (2604, .iconst 0, 2605, 0, 0, 0, []), (2605, .ireturn, 2606, 0, 0, 0, []), (2606, .iload 6, 2608, 0, 0, 0, []), (2608, .ifCond .ne 15, 2611, 2623, 0, 0, []), (2611, .aload_n 3, 2612, 0, 0, 0, []), (2612, .iconst 0, 2613, 0, 0, 0, []), (2613, .laload, 2614, 0, 0, 0, []), (2614, .iload 7, 2616, 0, 0, 0, []), (2616, .i2l, 2617, 0, 0, 0, []), (2617, .lcmp, 2618, 0, 0, 0, []), (2618, .ifCond .eq 5, 2621, 2623, 0, 0, []), (2621, .iconst 0, 2622, 0, 0, 0, []), (2622, .ireturn, 2623, 0, 0, 0, []), (2623, .goto 236, 2626, 2859, 0, 0, [])]
set_option maxRecDepth 100000 in
theorem kc_type : tc_type.all (fun q => aOk 281 8 (aMt 281).2.1 q.1 q.2) = true := by decide +kernel
def tc_execute : aT := [(2626, .aload_n 1, 2627, 0, 0, 0, []), (2627, .aload_n 3, 2628, 0, 0, 0, []), (2628, .invokestatic 323, 2631, 2, 1, 276, []), (2631, .istore 6, 2633, 0, 0, 0, []), (2633, .aload_n 2, 2634, 0, 0, 0, []), (2634, .invokevirtual 325, 2637, 1, 0, 233, []), (2637, .istore 7, 2639, 0, 0, 0, []), (2639, .aload_n 2, 2640, 0, 0, 0, []), (2640, .invokevirtual 168, 2643, 1, 0, 133, []), (2643, .iload 6, 2645, 0, 0, 0, []), (2645, .if_icmp .eq 5, 2648, 2650, 0, 0, []), (2648, .iconst 0, 2649, 0, 0, 0, []), (2649, .ireturn, 2650, 0, 0, 0, []), (2650, .iload 6, 2652, 0, 0, 0, []), (2652, .ifCond .ne 15, 2655, 2667, 0, 0, []), (2655, .aload_n 3, 2656, 0, 0, 0, []), (2656, .iconst 0, 2657, 0, 0, 0, []), (2657, .laload, 2658, 0, 0, 0, []), (2658, .iload 7, 2660, 0, 0, 0, []), (2660, .i2l, 2661, 0, 0, 0, []), (2661, .lcmp, 2662, 0, 0, 0, []), (2662, .ifCond .eq 5, 2665, 2667, 0, 0, []), (2665, .iconst 0, 2666, 0, 0, 0, []), (2666, .ireturn, 2667, 0, 0, 0, []), (2667, .goto 192, 2670, 2859, 0, 0, [])]
set_option maxRecDepth 100000 in
theorem kc_execute : tc_execute.all (fun q => aOk 281 8 (aMt 281).2.1 q.1 q.2) = true := by decide +kernel
def tc_errorPosition : aT := [(2670, .aload_n 1, 2671, 0, 0, 0, []), (2671, .aload_n 3, 2672, 0, 0, 0, []), (2672, .invokestatic 326, 2675, 2, 1, 277, []), (2675, .istore 6, 2677, 0, 0, 0, []), (2677, .aload_n 2, 2678, 0, 0, 0, []), (2678, .invokevirtual 328, 2681, 1, 0, 234, []), (2681, .istore 7, 2683, 0, 0, 0, []), (2683, .aload_n 2, 2684, 0, 0, 0, []), (2684, .invokevirtual 168, 2687, 1, 0, 133, []), (2687, .iload 6, 2689, 0, 0, 0, []), (2689, .if_icmp .eq 5, 2692, 2694, 0, 0, []), (2692, .iconst 0, 2693, 0, 0, 0, []), (2693, .ireturn, 2694, 0, 0, 0, []), (2694, .iload 6, 2696, 0, 0, 0, []), (2696, .ifCond .ne 15, 2699, 2711, 0, 0, []), (2699, .aload_n 3, 2700, 0, 0, 0, []), (2700, .iconst 0, 2701, 0, 0, 0, []), (2701, .laload, 2702, 0, 0, 0, []), (2702, .iload 7, 2704, 0, 0, 0, []), (2704, .i2l, 2705, 0, 0, 0, []), (2705, .lcmp, 2706, 0, 0, 0, []), (2706, .ifCond .eq 5, 2709, 2711, 0, 0, []), (2709, .iconst 0, 2710, 0, 0, 0, []), (2710, .ireturn, 2711, 0, 0, 0, []), (2711, .goto 148, 2714, 2859, 0, 0, [])]
set_option maxRecDepth 100000 in
theorem kc_errorPosition : tc_errorPosition.all (fun q => aOk 281 8 (aMt 281).2.1 q.1 q.2) = true := by decide +kernel
def tc_failedCommand : aT := [(2714, .aload_n 1, 2715, 0, 0, 0, []), (2715, .aload_n 3, 2716, 0, 0, 0, []), (2716, .invokestatic 329, 2719, 2, 1, 278, []), (2719, .istore 6, 2721, 0, 0, 0, []), (2721, .aload_n 2, 2722, 0, 0, 0, []), (2722, .invokevirtual 331, 2725, 1, 0, 235, []), (2725, .istore 7, 2727, 0, 0, 0, []), (2727, .aload_n 2, 2728, 0, 0, 0, []), (2728, .invokevirtual 168, 2731, 1, 0, 133, []), (2731, .iload 6, 2733, 0, 0, 0, []), (2733, .if_icmp .eq 5, 2736, 2738, 0, 0, []), (2736, .iconst 0, 2737, 0, 0, 0, []), (2737, .ireturn, 2738, 0, 0, 0, []), (2738, .iload 6, 2740, 0, 0, 0, []), (2740, .ifCond .ne 15, 2743, 2755, 0, 0, []), (2743, .aload_n 3, 2744, 0, 0, 0, []), (2744, .iconst 0, 2745, 0, 0, 0, []), (2745, .laload, 2746, 0, 0, 0, []), (2746, .iload 7, 2748, 0, 0, 0, []), (2748, .i2l, 2749, 0, 0, 0, []), (2749, .lcmp, 2750, 0, 0, 0, []), (2750, .ifCond .eq 5, 2753, 2755, 0, 0, []), (2753, .iconst 0, 2754, 0, 0, 0, []), (2754, .ireturn, 2755, 0, 0, 0, []), (2755, .goto 104, 2758, 2859, 0, 0, [])]
set_option maxRecDepth 100000 in
theorem kc_failedCommand : tc_failedCommand.all (fun q => aOk 281 8 (aMt 281).2.1 q.1 q.2) = true := by decide +kernel
def tc_undo : aT := [(2758, .aload_n 1, 2759, 0, 0, 0, []), (2759, .aload_n 3, 2760, 0, 0, 0, []), (2760, .invokestatic 332, 2763, 2, 1, 279, []), (2763, .istore 6, 2765, 0, 0, 0, []), (2765, .aload_n 2, 2766, 0, 0, 0, []), (2766, .invokevirtual 334, 2769, 1, 0, 236, []), (2769, .istore 7, 2771, 0, 0, 0, []), (2771, .aload_n 2, 2772, 0, 0, 0, []), (2772, .invokevirtual 168, 2775, 1, 0, 133, []), (2775, .iload 6, 2777, 0, 0, 0, []), (2777, .if_icmp .eq 5, 2780, 2782, 0, 0, []), (2780, .iconst 0, 2781, 0, 0, 0, []), (2781, .ireturn, 2782, 0, 0, 0, []), (2782, .iload 6, 2784, 0, 0, 0, []), (2784, .ifCond .ne 15, 2787, 2799, 0, 0, []), (2787, .aload_n 3, 2788, 0, 0, 0, []), (2788, .iconst 0, 2789, 0, 0, 0, []), (2789, .laload, 2790, 0, 0, 0, []), (2790, .iload 7, 2792, 0, 0, 0, []), (2792, .i2l, 2793, 0, 0, 0, []), (2793, .lcmp, 2794, 0, 0, 0, []), (2794, .ifCond .eq 5, 2797, 2799, 0, 0, []), (2797, .iconst 0, 2798, 0, 0, 0, []), (2798, .ireturn, 2799, 0, 0, 0, []), (2799, .goto 60, 2802, 2859, 0, 0, [])]
set_option maxRecDepth 100000 in
theorem kc_undo : tc_undo.all (fun q => aOk 281 8 (aMt 281).2.1 q.1 q.2) = true := by decide +kernel
def tc_save : aT := [(2802, .aload_n 1, 2803, 0, 0, 0, []), (2803, .invokevirtual 335, 2806, 1, 0, 119, []), (2806, .aload_n 2, 2807, 0, 0, 0, []), (2807, .invokevirtual 338, 2810, 1, 0, 237, []), (2810, .if_icmp .eq 49, 2813, 2859, 0, 0, []), (2813, .iconst 0, 2814, 0, 0, 0, []), (2814, .ireturn, 2815, 0, 0, 0, [])]
set_option maxRecDepth 100000 in
theorem kc_save : tc_save.all (fun q => aOk 281 8 (aMt 281).2.1 q.1 q.2) = true := by decide +kernel
def tc_restore : aT := [(2815, .aload_n 1, 2816, 0, 0, 0, []), (2816, .aload_n 3, 2817, 0, 0, 0, []), (2817, .invokestatic 339, 2820, 2, 1, 280, []), (2820, .istore 6, 2822, 0, 0, 0, []), (2822, .aload_n 2, 2823, 0, 0, 0, []), (2823, .invokevirtual 341, 2826, 1, 0, 238, []), (2826, .istore 7, 2828, 0, 0, 0, []), (2828, .aload_n 2, 2829, 0, 0, 0, []), (2829, .invokevirtual 168, 2832, 1, 0, 133, []), (2832, .iload 6, 2834, 0, 0, 0, []), (2834, .if_icmp .eq 5, 2837, 2839, 0, 0, []), (2837, .iconst 0, 2838, 0, 0, 0, []), (2838, .ireturn, 2839, 0, 0, 0, []), (2839, .iload 6, 2841, 0, 0, 0, []), (2841, .ifCond .ne 15, 2844, 2856, 0, 0, []), (2844, .aload_n 3, 2845, 0, 0, 0, []), (2845, .iconst 0, 2846, 0, 0, 0, []), (2846, .laload, 2847, 0, 0, 0, []), (2847, .iload 7, 2849, 0, 0, 0, []), (2849, .i2l, 2850, 0, 0, 0, []), (2850, .lcmp, 2851, 0, 0, 0, []), (2851, .ifCond .eq 5, 2854, 2856, 0, 0, []), (2854, .iconst 0, 2855, 0, 0, 0, []), (2855, .ireturn, 2856, 0, 0, 0, []), (2856, .goto 3, 2859, 2859, 0, 0, [])]
set_option maxRecDepth 100000 in
theorem kc_restore : tc_restore.all (fun q => aOk 281 8 (aMt 281).2.1 q.1 q.2) = true := by decide +kernel
section LC
variable {l : Launch} {g : aG} {Q : Option aV → aSt → aM → Prop} {X : Nat → aSt → aM → Prop} {B : aK → aM → Nat → List (Option aV) → List aV → Prop} {S : Int → Int} {z : aM} {A : aAb} {i : Int} {c1 c2 : Nat}
theorem wL_charAt (hB : lBt l g Q X B) (h : lIn g S z A i c1 c2) (hN : lNx S B i c1 c2) : B (none, c1, c2) z 2512 [some (.inr (.inr (.inl (31, 0, 0)))), some (.inr (.inr (.inl (0, 0, 0)))), some (.inr (.inr (.inl (16, 0, 0)))), some (.inr (.inr (.inl (18, 0, 0)))), some (.inr (.inr (.inl (19, 0, 0)))), some (.inl i), none, none, none] [] := by
  obtain ⟨hs, hS, ⟨i0, i1⟩, k1, k2⟩ := h
  obtain ⟨⟨hC, hM⟩, ⟨hI, hL⟩, hz⟩ := id hs
  obtain ⟨x1, e1⟩ : ∃ x, x = z (31, 0, 0) (i + 1) := ⟨_, rfl⟩
  have h1 : aIR x1 := by rw [e1, hz]; exact hS _
  have lv := lV_charAt (k := x1) hI
  have ct : lOp l g nL_charAt 19 [.inr (.inr (.inl (0, 0, 0))), .inl (z (31, 0, 0) (i + 1)), .inr (.inr (.inl (18, 0, 0)))] z (lQ z (qChar x1 A)) := by
    rw [← e1]
    exact lT_charAt (by decide) (cT_charAt h1 (by decide) hC hI) lv.1 lv.2
  have hIL : InvW (qChar x1 A).2.2 ∧ InvL (qChar x1 A).2.2 := lI_A qChar_A hI hL
  have cm0 : ∀ z1, RelM z1 A → mOp l g nX7_charAt 19 [.inr (.inr (.inl (16, 0, 0))), .inl x1] z1 (qChar x1 A) := fun z1 md => cM_charAt h1 (by decide) md hI
  obtain ⟨R, eR⟩ : ∃ R : aRes, R = (qChar x1 A) := ⟨_, rfl⟩
  rw [← eR] at lv ct hIL
  simp only [← eR] at cm0
  clear eR
  have lt0 : 0 ≤ R.1 ∧ R.1 ≤ 3 := by have := lv.1; omega
  have l3 : ∀ (z2 : aM) (t : Int) (v : Int) (A2 : aAb), lS S z2 A2 → (0 ≤ t ∧ t ≤ 3) → z2 (16, 0, 0) 9 = t → (t = 0 → z2 (18, 0, 0) 0 = v) → (t = 0 → aIR v) → B (none, c1 + 1, c2 + 6) z2 2535 [some (.inr (.inr (.inl (31, 0, 0)))), some (.inr (.inr (.inl (0, 0, 0)))), some (.inr (.inr (.inl (16, 0, 0)))), some (.inr (.inr (.inl (18, 0, 0)))), some (.inr (.inr (.inl (19, 0, 0)))), some (.inl i), some (.inl t), none, none] [.inl v] := by
    intro z2 t v A2 hs2 ht e9 e18 hv
    have fin := hN z2 A2 (some (.inl t)) (some (.inl v)) none (c1 + 1) (c2 + 6) hs2 (Nat.le_refl _) (Nat.le_refl _)
    have th := cM_thrown (l := l) (g := g) (d := 19) (z := z2)
    by_cases t0 : t = 0
    · have f18 := e18 t0
      have fv := hv t0
      have ec : aCmp (z2 (18, 0, 0) 0) v = 0 := by rw [f18]; exact aCmp_rf v
      unfold aIR at fv
      refine hB tc_charAt kc_charAt [2859] 1000 _ _ _ _ _ ?_
      repeat' (first | exact fin | refine And.intro ?_ ?_ | (intro hh; first | exact absurd hh (by decide) | exact absurd rfl hh | (exfalso; omega) | skip) | refine Or.inl (uE th ?_) | fail)
      all_goals first | omega | (exact rfl) | (show (1 : Nat) ≤ 20; decide)
    · refine hB tc_charAt kc_charAt [2859] 1000 _ _ _ _ _ ?_
      repeat' (first | exact fin | refine And.intro ?_ ?_ | (intro hh; first | exact absurd hh (by decide) | exact absurd rfl hh | (exfalso; omega) | skip) | refine Or.inl (uE th ?_) | fail)
      all_goals first | omega | (exact rfl) | (show (1 : Nat) ≤ 20; decide)
  have l2 : ∀ r z1, lQ z R r z1 → aPu r [] (fun st => B (none, c1 + 1, c2 + 6) z1 2523 [some (.inr (.inr (.inl (31, 0, 0)))), some (.inr (.inr (.inl (0, 0, 0)))), some (.inr (.inr (.inl (16, 0, 0)))), some (.inr (.inr (.inl (18, 0, 0)))), some (.inr (.inr (.inl (19, 0, 0)))), some (.inl i), none, none, none] st) := by
    intro r z1 hz1
    obtain ⟨rfl, q1, q2, q3⟩ := hz1
    have md := hs.mid q3
    have a1 : z1 (31, 0, 0) (i + 1) = x1 := by rw [md.2]; exact e1.symm
    have cm : mOp l g nX7_charAt 19 [.inr (.inr (.inl (16, 0, 0))), .inl (z1 (31, 0, 0) (i + 1))] z1 R := by
      rw [a1]
      exact cm0 z1 md.1
    have l4 : ∀ r z2, (r = some (.inl R.2.1) ∧ (RelM z2 R.2.2 ∧ z2 (16, 0, 0) 9 = R.1) ∧ fM z1 z2) → aPu r [] (fun st => B (none, c1 + 1, c2 + 6) z2 2535 [some (.inr (.inr (.inl (31, 0, 0)))), some (.inr (.inr (.inl (0, 0, 0)))), some (.inr (.inr (.inl (16, 0, 0)))), some (.inr (.inr (.inl (18, 0, 0)))), some (.inr (.inr (.inl (19, 0, 0)))), some (.inl i), some (.inl R.1), none, none] st) := by
      intro r z2 hz2
      obtain ⟨rfl, ⟨p1, p2⟩, p3⟩ := hz2
      exact l3 z2 R.1 R.2.1 R.2.2 (hs.fin q3 q2 p1 p3 hIL.1 hIL.2) lt0 p2 (fun w => by rw [p3 (18, 0, 0) ⟨by decide, by decide⟩]; exact q1 w) lv.2
    refine hB tc_charAt kc_charAt [2535] 1000 _ _ _ _ _ ?_
    repeat' (first | exact Or.inl (uA cm l4) | refine And.intro ?_ ?_ | (intro hh; first | exact absurd hh (by decide) | exact absurd rfl hh | (exfalso; omega) | skip) | fail)
    all_goals first | omega | (exact rfl) | (show (1 : Nat) ≤ 20; decide)
  refine hB tc_charAt kc_charAt [2523] 1000 _ _ _ _ _ ?_
  repeat' (first | exact Or.inr (Or.inr ⟨1, 6, ⟨k1, k2⟩, uL ct l2⟩) | refine And.intro ?_ ?_ | (intro hh; first | exact absurd hh (by decide) | exact absurd rfl hh | (exfalso; omega) | skip) | fail)
  all_goals first | omega | (exact rfl) | (show (1 : Nat) ≤ 20; decide)
theorem wL_type (hB : lBt l g Q X B) (h : lIn g S z A i c1 c2) (hN : lNx S B i c1 c2) : B (none, c1, c2) z 2568 [some (.inr (.inr (.inl (31, 0, 0)))), some (.inr (.inr (.inl (0, 0, 0)))), some (.inr (.inr (.inl (16, 0, 0)))), some (.inr (.inr (.inl (18, 0, 0)))), some (.inr (.inr (.inl (19, 0, 0)))), some (.inl i), none, none, none] [] := by
  obtain ⟨hs, hS, ⟨i0, i1⟩, k1, k2⟩ := h
  obtain ⟨⟨hC, hM⟩, ⟨hI, hL⟩, hz⟩ := id hs
  obtain ⟨x1, e1⟩ : ∃ x, x = z (31, 0, 0) (i + 1) % 65536 := ⟨_, rfl⟩
  have h1 : 0 ≤ x1 := by omega
  have g1 : x1 < 65536 := by omega
  have lv := lV_type (k := x1) hI
  have ct : lOp l g nL_type 19 [.inr (.inr (.inl (0, 0, 0))), .inl (z (31, 0, 0) (i + 1) % 65536), .inr (.inr (.inl (18, 0, 0)))] z (lQ z (qType x1 A)) := by
    rw [← e1]
    exact lT_type (by decide) (cT_type h1 g1 (by decide) hC hI) lv.1 lv.2
  have hIL : InvW (qType x1 A).2.2 ∧ InvL (qType x1 A).2.2 := And.intro (qType_I hI h1 g1) (qType_L hL)
  have cm0 : ∀ z1, RelM z1 A → mOp l g nX7_type 19 [.inr (.inr (.inl (16, 0, 0))), .inl x1] z1 (qType x1 A) := fun z1 md => cM_type h1 g1 (by decide) md hI
  obtain ⟨R, eR⟩ : ∃ R : aRes, R = (qType x1 A) := ⟨_, rfl⟩
  rw [← eR] at lv ct hIL
  simp only [← eR] at cm0
  clear eR
  have lt0 : 0 ≤ R.1 ∧ R.1 ≤ 3 := by have := lv.1; omega
  have l3 : ∀ (z2 : aM) (t : Int) (v : Int) (A2 : aAb), lS S z2 A2 → (0 ≤ t ∧ t ≤ 3) → z2 (16, 0, 0) 9 = t → (t = 0 → z2 (18, 0, 0) 0 = v) → (t = 0 → aIR v) → B (none, c1 + 1, c2 + 6) z2 2593 [some (.inr (.inr (.inl (31, 0, 0)))), some (.inr (.inr (.inl (0, 0, 0)))), some (.inr (.inr (.inl (16, 0, 0)))), some (.inr (.inr (.inl (18, 0, 0)))), some (.inr (.inr (.inl (19, 0, 0)))), some (.inl i), some (.inl t), none, none] [.inl v] := by
    intro z2 t v A2 hs2 ht e9 e18 hv
    have fin := hN z2 A2 (some (.inl t)) (some (.inl v)) none (c1 + 1) (c2 + 6) hs2 (Nat.le_refl _) (Nat.le_refl _)
    have th := cM_thrown (l := l) (g := g) (d := 19) (z := z2)
    by_cases t0 : t = 0
    · have f18 := e18 t0
      have fv := hv t0
      have ec : aCmp (z2 (18, 0, 0) 0) v = 0 := by rw [f18]; exact aCmp_rf v
      unfold aIR at fv
      refine hB tc_type kc_type [2859] 1000 _ _ _ _ _ ?_
      repeat' (first | exact fin | refine And.intro ?_ ?_ | (intro hh; first | exact absurd hh (by decide) | exact absurd rfl hh | (exfalso; omega) | skip) | refine Or.inl (uE th ?_) | fail)
      all_goals first | omega | (exact rfl) | (show (1 : Nat) ≤ 20; decide)
    · refine hB tc_type kc_type [2859] 1000 _ _ _ _ _ ?_
      repeat' (first | exact fin | refine And.intro ?_ ?_ | (intro hh; first | exact absurd hh (by decide) | exact absurd rfl hh | (exfalso; omega) | skip) | refine Or.inl (uE th ?_) | fail)
      all_goals first | omega | (exact rfl) | (show (1 : Nat) ≤ 20; decide)
  have l2 : ∀ r z1, lQ z R r z1 → aPu r [] (fun st => B (none, c1 + 1, c2 + 6) z1 2580 [some (.inr (.inr (.inl (31, 0, 0)))), some (.inr (.inr (.inl (0, 0, 0)))), some (.inr (.inr (.inl (16, 0, 0)))), some (.inr (.inr (.inl (18, 0, 0)))), some (.inr (.inr (.inl (19, 0, 0)))), some (.inl i), none, none, none] st) := by
    intro r z1 hz1
    obtain ⟨rfl, q1, q2, q3⟩ := hz1
    have md := hs.mid q3
    have a1 : z1 (31, 0, 0) (i + 1) % 65536 = x1 := by rw [md.2]; exact e1.symm
    have cm : mOp l g nX7_type 19 [.inr (.inr (.inl (16, 0, 0))), .inl (z1 (31, 0, 0) (i + 1) % 65536)] z1 R := by
      rw [a1]
      exact cm0 z1 md.1
    have l4 : ∀ r z2, (r = some (.inl R.2.1) ∧ (RelM z2 R.2.2 ∧ z2 (16, 0, 0) 9 = R.1) ∧ fM z1 z2) → aPu r [] (fun st => B (none, c1 + 1, c2 + 6) z2 2593 [some (.inr (.inr (.inl (31, 0, 0)))), some (.inr (.inr (.inl (0, 0, 0)))), some (.inr (.inr (.inl (16, 0, 0)))), some (.inr (.inr (.inl (18, 0, 0)))), some (.inr (.inr (.inl (19, 0, 0)))), some (.inl i), some (.inl R.1), none, none] st) := by
      intro r z2 hz2
      obtain ⟨rfl, ⟨p1, p2⟩, p3⟩ := hz2
      exact l3 z2 R.1 R.2.1 R.2.2 (hs.fin q3 q2 p1 p3 hIL.1 hIL.2) lt0 p2 (fun w => by rw [p3 (18, 0, 0) ⟨by decide, by decide⟩]; exact q1 w) lv.2
    refine hB tc_type kc_type [2593] 1000 _ _ _ _ _ ?_
    repeat' (first | exact Or.inl (uA cm l4) | refine And.intro ?_ ?_ | (intro hh; first | exact absurd hh (by decide) | exact absurd rfl hh | (exfalso; omega) | skip) | fail)
    all_goals first | omega | (exact rfl) | (show (1 : Nat) ≤ 20; decide)
  refine hB tc_type kc_type [2580] 1000 _ _ _ _ _ ?_
  repeat' (first | exact Or.inr (Or.inr ⟨1, 6, ⟨k1, k2⟩, uL ct l2⟩) | refine And.intro ?_ ?_ | (intro hh; first | exact absurd hh (by decide) | exact absurd rfl hh | (exfalso; omega) | skip) | fail)
  all_goals first | omega | (exact rfl) | (show (1 : Nat) ≤ 20; decide)
theorem wL_execute (hB : lBt l g Q X B) (h : lIn g S z A i c1 c2) (hN : lNx S B i c1 c2) : B (none, c1, c2) z 2626 [some (.inr (.inr (.inl (31, 0, 0)))), some (.inr (.inr (.inl (0, 0, 0)))), some (.inr (.inr (.inl (16, 0, 0)))), some (.inr (.inr (.inl (18, 0, 0)))), some (.inr (.inr (.inl (19, 0, 0)))), some (.inl i), none, none, none] [] := by
  obtain ⟨hs, hS, ⟨i0, i1⟩, k1, k2⟩ := h
  obtain ⟨⟨hC, hM⟩, ⟨hI, hL⟩, hz⟩ := id hs
  have lv := lV_execute  hI
  have ct : lOp l g nL_execute 19 [.inr (.inr (.inl (0, 0, 0))), .inr (.inr (.inl (18, 0, 0)))] z (lQ z (qExec A)) := by
    exact lT_execute (by decide) (cT_execute (by decide) hC hI) lv.1 lv.2
  have hIL : InvW (qExec A).2.2 ∧ InvL (qExec A).2.2 := And.intro (qExec_I hI) (qExec_L hI hL)
  have cm0 : ∀ z1, RelM z1 A → mOp l g nX7_execute 19 [.inr (.inr (.inl (16, 0, 0)))] z1 (qExec A) := fun z1 md => cM_execute (by decide) md hI
  obtain ⟨R, eR⟩ : ∃ R : aRes, R = (qExec A) := ⟨_, rfl⟩
  rw [← eR] at lv ct hIL
  simp only [← eR] at cm0
  clear eR
  have lt0 : 0 ≤ R.1 ∧ R.1 ≤ 3 := by have := lv.1; omega
  have l3 : ∀ (z2 : aM) (t : Int) (v : Int) (A2 : aAb), lS S z2 A2 → (0 ≤ t ∧ t ≤ 3) → z2 (16, 0, 0) 9 = t → (t = 0 → z2 (18, 0, 0) 0 = v) → (t = 0 → aIR v) → B (none, c1 + 1, c2 + 6) z2 2637 [some (.inr (.inr (.inl (31, 0, 0)))), some (.inr (.inr (.inl (0, 0, 0)))), some (.inr (.inr (.inl (16, 0, 0)))), some (.inr (.inr (.inl (18, 0, 0)))), some (.inr (.inr (.inl (19, 0, 0)))), some (.inl i), some (.inl t), none, none] [.inl v] := by
    intro z2 t v A2 hs2 ht e9 e18 hv
    have fin := hN z2 A2 (some (.inl t)) (some (.inl v)) none (c1 + 1) (c2 + 6) hs2 (Nat.le_refl _) (Nat.le_refl _)
    have th := cM_thrown (l := l) (g := g) (d := 19) (z := z2)
    by_cases t0 : t = 0
    · have f18 := e18 t0
      have fv := hv t0
      have ec : aCmp (z2 (18, 0, 0) 0) v = 0 := by rw [f18]; exact aCmp_rf v
      unfold aIR at fv
      refine hB tc_execute kc_execute [2859] 1000 _ _ _ _ _ ?_
      repeat' (first | exact fin | refine And.intro ?_ ?_ | (intro hh; first | exact absurd hh (by decide) | exact absurd rfl hh | (exfalso; omega) | skip) | refine Or.inl (uE th ?_) | fail)
      all_goals first | omega | (exact rfl) | (show (1 : Nat) ≤ 20; decide)
    · refine hB tc_execute kc_execute [2859] 1000 _ _ _ _ _ ?_
      repeat' (first | exact fin | refine And.intro ?_ ?_ | (intro hh; first | exact absurd hh (by decide) | exact absurd rfl hh | (exfalso; omega) | skip) | refine Or.inl (uE th ?_) | fail)
      all_goals first | omega | (exact rfl) | (show (1 : Nat) ≤ 20; decide)
  have l2 : ∀ r z1, lQ z R r z1 → aPu r [] (fun st => B (none, c1 + 1, c2 + 6) z1 2631 [some (.inr (.inr (.inl (31, 0, 0)))), some (.inr (.inr (.inl (0, 0, 0)))), some (.inr (.inr (.inl (16, 0, 0)))), some (.inr (.inr (.inl (18, 0, 0)))), some (.inr (.inr (.inl (19, 0, 0)))), some (.inl i), none, none, none] st) := by
    intro r z1 hz1
    obtain ⟨rfl, q1, q2, q3⟩ := hz1
    have md := hs.mid q3
    have cm : mOp l g nX7_execute 19 [.inr (.inr (.inl (16, 0, 0)))] z1 R := by
      exact cm0 z1 md.1
    have l4 : ∀ r z2, (r = some (.inl R.2.1) ∧ (RelM z2 R.2.2 ∧ z2 (16, 0, 0) 9 = R.1) ∧ fM z1 z2) → aPu r [] (fun st => B (none, c1 + 1, c2 + 6) z2 2637 [some (.inr (.inr (.inl (31, 0, 0)))), some (.inr (.inr (.inl (0, 0, 0)))), some (.inr (.inr (.inl (16, 0, 0)))), some (.inr (.inr (.inl (18, 0, 0)))), some (.inr (.inr (.inl (19, 0, 0)))), some (.inl i), some (.inl R.1), none, none] st) := by
      intro r z2 hz2
      obtain ⟨rfl, ⟨p1, p2⟩, p3⟩ := hz2
      exact l3 z2 R.1 R.2.1 R.2.2 (hs.fin q3 q2 p1 p3 hIL.1 hIL.2) lt0 p2 (fun w => by rw [p3 (18, 0, 0) ⟨by decide, by decide⟩]; exact q1 w) lv.2
    refine hB tc_execute kc_execute [2637] 1000 _ _ _ _ _ ?_
    repeat' (first | exact Or.inl (uA cm l4) | refine And.intro ?_ ?_ | (intro hh; first | exact absurd hh (by decide) | exact absurd rfl hh | (exfalso; omega) | skip) | fail)
    all_goals first | omega | (exact rfl) | (show (1 : Nat) ≤ 20; decide)
  refine hB tc_execute kc_execute [2631] 1000 _ _ _ _ _ ?_
  repeat' (first | exact Or.inr (Or.inr ⟨1, 6, ⟨k1, k2⟩, uL ct l2⟩) | refine And.intro ?_ ?_ | (intro hh; first | exact absurd hh (by decide) | exact absurd rfl hh | (exfalso; omega) | skip) | fail)
  all_goals first | omega | (exact rfl) | (show (1 : Nat) ≤ 20; decide)
theorem wL_errorPosition (hB : lBt l g Q X B) (h : lIn g S z A i c1 c2) (hN : lNx S B i c1 c2) : B (none, c1, c2) z 2670 [some (.inr (.inr (.inl (31, 0, 0)))), some (.inr (.inr (.inl (0, 0, 0)))), some (.inr (.inr (.inl (16, 0, 0)))), some (.inr (.inr (.inl (18, 0, 0)))), some (.inr (.inr (.inl (19, 0, 0)))), some (.inl i), none, none, none] [] := by
  obtain ⟨hs, hS, ⟨i0, i1⟩, k1, k2⟩ := h
  obtain ⟨⟨hC, hM⟩, ⟨hI, hL⟩, hz⟩ := id hs
  have lv := lV_errorPosition  hI
  have ct : lOp l g nL_errorPosition 19 [.inr (.inr (.inl (0, 0, 0))), .inr (.inr (.inl (18, 0, 0)))] z (lQ z ((if wE A = -1 then (1, -1, A) else (0, wE A, A)) : aRes)) := by
    exact lT_errorPosition (by decide) (cT_errorPosition (by decide) hC hI) lv.1 lv.2
  have hIL : InvW ((if wE A = -1 then (1, -1, A) else (0, wE A, A)) : aRes).2.2 ∧ InvL ((if wE A = -1 then (1, -1, A) else (0, wE A, A)) : aRes).2.2 := lI_A qErr_A hI hL
  have cm0 : ∀ z1, RelM z1 A → mOp l g nX7_errorPosition 19 [.inr (.inr (.inl (16, 0, 0)))] z1 ((if wE A = -1 then (1, -1, A) else (0, wE A, A)) : aRes) := fun z1 md => cM_errorPosition (by decide) md hI
  obtain ⟨R, eR⟩ : ∃ R : aRes, R = ((if wE A = -1 then (1, -1, A) else (0, wE A, A)) : aRes) := ⟨_, rfl⟩
  rw [← eR] at lv ct hIL
  simp only [← eR] at cm0
  clear eR
  have lt0 : 0 ≤ R.1 ∧ R.1 ≤ 3 := by have := lv.1; omega
  have l3 : ∀ (z2 : aM) (t : Int) (v : Int) (A2 : aAb), lS S z2 A2 → (0 ≤ t ∧ t ≤ 3) → z2 (16, 0, 0) 9 = t → (t = 0 → z2 (18, 0, 0) 0 = v) → (t = 0 → aIR v) → B (none, c1 + 1, c2 + 6) z2 2681 [some (.inr (.inr (.inl (31, 0, 0)))), some (.inr (.inr (.inl (0, 0, 0)))), some (.inr (.inr (.inl (16, 0, 0)))), some (.inr (.inr (.inl (18, 0, 0)))), some (.inr (.inr (.inl (19, 0, 0)))), some (.inl i), some (.inl t), none, none] [.inl v] := by
    intro z2 t v A2 hs2 ht e9 e18 hv
    have fin := hN z2 A2 (some (.inl t)) (some (.inl v)) none (c1 + 1) (c2 + 6) hs2 (Nat.le_refl _) (Nat.le_refl _)
    have th := cM_thrown (l := l) (g := g) (d := 19) (z := z2)
    by_cases t0 : t = 0
    · have f18 := e18 t0
      have fv := hv t0
      have ec : aCmp (z2 (18, 0, 0) 0) v = 0 := by rw [f18]; exact aCmp_rf v
      unfold aIR at fv
      refine hB tc_errorPosition kc_errorPosition [2859] 1000 _ _ _ _ _ ?_
      repeat' (first | exact fin | refine And.intro ?_ ?_ | (intro hh; first | exact absurd hh (by decide) | exact absurd rfl hh | (exfalso; omega) | skip) | refine Or.inl (uE th ?_) | fail)
      all_goals first | omega | (exact rfl) | (show (1 : Nat) ≤ 20; decide)
    · refine hB tc_errorPosition kc_errorPosition [2859] 1000 _ _ _ _ _ ?_
      repeat' (first | exact fin | refine And.intro ?_ ?_ | (intro hh; first | exact absurd hh (by decide) | exact absurd rfl hh | (exfalso; omega) | skip) | refine Or.inl (uE th ?_) | fail)
      all_goals first | omega | (exact rfl) | (show (1 : Nat) ≤ 20; decide)
  have l2 : ∀ r z1, lQ z R r z1 → aPu r [] (fun st => B (none, c1 + 1, c2 + 6) z1 2675 [some (.inr (.inr (.inl (31, 0, 0)))), some (.inr (.inr (.inl (0, 0, 0)))), some (.inr (.inr (.inl (16, 0, 0)))), some (.inr (.inr (.inl (18, 0, 0)))), some (.inr (.inr (.inl (19, 0, 0)))), some (.inl i), none, none, none] st) := by
    intro r z1 hz1
    obtain ⟨rfl, q1, q2, q3⟩ := hz1
    have md := hs.mid q3
    have cm : mOp l g nX7_errorPosition 19 [.inr (.inr (.inl (16, 0, 0)))] z1 R := by
      exact cm0 z1 md.1
    have l4 : ∀ r z2, (r = some (.inl R.2.1) ∧ (RelM z2 R.2.2 ∧ z2 (16, 0, 0) 9 = R.1) ∧ fM z1 z2) → aPu r [] (fun st => B (none, c1 + 1, c2 + 6) z2 2681 [some (.inr (.inr (.inl (31, 0, 0)))), some (.inr (.inr (.inl (0, 0, 0)))), some (.inr (.inr (.inl (16, 0, 0)))), some (.inr (.inr (.inl (18, 0, 0)))), some (.inr (.inr (.inl (19, 0, 0)))), some (.inl i), some (.inl R.1), none, none] st) := by
      intro r z2 hz2
      obtain ⟨rfl, ⟨p1, p2⟩, p3⟩ := hz2
      exact l3 z2 R.1 R.2.1 R.2.2 (hs.fin q3 q2 p1 p3 hIL.1 hIL.2) lt0 p2 (fun w => by rw [p3 (18, 0, 0) ⟨by decide, by decide⟩]; exact q1 w) lv.2
    refine hB tc_errorPosition kc_errorPosition [2681] 1000 _ _ _ _ _ ?_
    repeat' (first | exact Or.inl (uA cm l4) | refine And.intro ?_ ?_ | (intro hh; first | exact absurd hh (by decide) | exact absurd rfl hh | (exfalso; omega) | skip) | fail)
    all_goals first | omega | (exact rfl) | (show (1 : Nat) ≤ 20; decide)
  refine hB tc_errorPosition kc_errorPosition [2675] 1000 _ _ _ _ _ ?_
  repeat' (first | exact Or.inr (Or.inr ⟨1, 6, ⟨k1, k2⟩, uL ct l2⟩) | refine And.intro ?_ ?_ | (intro hh; first | exact absurd hh (by decide) | exact absurd rfl hh | (exfalso; omega) | skip) | fail)
  all_goals first | omega | (exact rfl) | (show (1 : Nat) ≤ 20; decide)
theorem wL_failedCommand (hB : lBt l g Q X B) (h : lIn g S z A i c1 c2) (hN : lNx S B i c1 c2) : B (none, c1, c2) z 2714 [some (.inr (.inr (.inl (31, 0, 0)))), some (.inr (.inr (.inl (0, 0, 0)))), some (.inr (.inr (.inl (16, 0, 0)))), some (.inr (.inr (.inl (18, 0, 0)))), some (.inr (.inr (.inl (19, 0, 0)))), some (.inl i), none, none, none] [] := by
  obtain ⟨hs, hS, ⟨i0, i1⟩, k1, k2⟩ := h
  obtain ⟨⟨hC, hM⟩, ⟨hI, hL⟩, hz⟩ := id hs
  have lv := lV_failedCommand  hI
  have ct : lOp l g nL_failedCommand 19 [.inr (.inr (.inl (0, 0, 0))), .inr (.inr (.inl (18, 0, 0)))] z (lQ z ((if wF A = -1 then (1, -1, A) else (0, wF A, A)) : aRes)) := by
    exact lT_failedCommand (by decide) (cT_failedCommand (by decide) hC hI) lv.1 lv.2
  have hIL : InvW ((if wF A = -1 then (1, -1, A) else (0, wF A, A)) : aRes).2.2 ∧ InvL ((if wF A = -1 then (1, -1, A) else (0, wF A, A)) : aRes).2.2 := lI_A qErr_A hI hL
  have cm0 : ∀ z1, RelM z1 A → mOp l g nX7_failedCommand 19 [.inr (.inr (.inl (16, 0, 0)))] z1 ((if wF A = -1 then (1, -1, A) else (0, wF A, A)) : aRes) := fun z1 md => cM_failedCommand (by decide) md hI
  obtain ⟨R, eR⟩ : ∃ R : aRes, R = ((if wF A = -1 then (1, -1, A) else (0, wF A, A)) : aRes) := ⟨_, rfl⟩
  rw [← eR] at lv ct hIL
  simp only [← eR] at cm0
  clear eR
  have lt0 : 0 ≤ R.1 ∧ R.1 ≤ 3 := by have := lv.1; omega
  have l3 : ∀ (z2 : aM) (t : Int) (v : Int) (A2 : aAb), lS S z2 A2 → (0 ≤ t ∧ t ≤ 3) → z2 (16, 0, 0) 9 = t → (t = 0 → z2 (18, 0, 0) 0 = v) → (t = 0 → aIR v) → B (none, c1 + 1, c2 + 6) z2 2725 [some (.inr (.inr (.inl (31, 0, 0)))), some (.inr (.inr (.inl (0, 0, 0)))), some (.inr (.inr (.inl (16, 0, 0)))), some (.inr (.inr (.inl (18, 0, 0)))), some (.inr (.inr (.inl (19, 0, 0)))), some (.inl i), some (.inl t), none, none] [.inl v] := by
    intro z2 t v A2 hs2 ht e9 e18 hv
    have fin := hN z2 A2 (some (.inl t)) (some (.inl v)) none (c1 + 1) (c2 + 6) hs2 (Nat.le_refl _) (Nat.le_refl _)
    have th := cM_thrown (l := l) (g := g) (d := 19) (z := z2)
    by_cases t0 : t = 0
    · have f18 := e18 t0
      have fv := hv t0
      have ec : aCmp (z2 (18, 0, 0) 0) v = 0 := by rw [f18]; exact aCmp_rf v
      unfold aIR at fv
      refine hB tc_failedCommand kc_failedCommand [2859] 1000 _ _ _ _ _ ?_
      repeat' (first | exact fin | refine And.intro ?_ ?_ | (intro hh; first | exact absurd hh (by decide) | exact absurd rfl hh | (exfalso; omega) | skip) | refine Or.inl (uE th ?_) | fail)
      all_goals first | omega | (exact rfl) | (show (1 : Nat) ≤ 20; decide)
    · refine hB tc_failedCommand kc_failedCommand [2859] 1000 _ _ _ _ _ ?_
      repeat' (first | exact fin | refine And.intro ?_ ?_ | (intro hh; first | exact absurd hh (by decide) | exact absurd rfl hh | (exfalso; omega) | skip) | refine Or.inl (uE th ?_) | fail)
      all_goals first | omega | (exact rfl) | (show (1 : Nat) ≤ 20; decide)
  have l2 : ∀ r z1, lQ z R r z1 → aPu r [] (fun st => B (none, c1 + 1, c2 + 6) z1 2719 [some (.inr (.inr (.inl (31, 0, 0)))), some (.inr (.inr (.inl (0, 0, 0)))), some (.inr (.inr (.inl (16, 0, 0)))), some (.inr (.inr (.inl (18, 0, 0)))), some (.inr (.inr (.inl (19, 0, 0)))), some (.inl i), none, none, none] st) := by
    intro r z1 hz1
    obtain ⟨rfl, q1, q2, q3⟩ := hz1
    have md := hs.mid q3
    have cm : mOp l g nX7_failedCommand 19 [.inr (.inr (.inl (16, 0, 0)))] z1 R := by
      exact cm0 z1 md.1
    have l4 : ∀ r z2, (r = some (.inl R.2.1) ∧ (RelM z2 R.2.2 ∧ z2 (16, 0, 0) 9 = R.1) ∧ fM z1 z2) → aPu r [] (fun st => B (none, c1 + 1, c2 + 6) z2 2725 [some (.inr (.inr (.inl (31, 0, 0)))), some (.inr (.inr (.inl (0, 0, 0)))), some (.inr (.inr (.inl (16, 0, 0)))), some (.inr (.inr (.inl (18, 0, 0)))), some (.inr (.inr (.inl (19, 0, 0)))), some (.inl i), some (.inl R.1), none, none] st) := by
      intro r z2 hz2
      obtain ⟨rfl, ⟨p1, p2⟩, p3⟩ := hz2
      exact l3 z2 R.1 R.2.1 R.2.2 (hs.fin q3 q2 p1 p3 hIL.1 hIL.2) lt0 p2 (fun w => by rw [p3 (18, 0, 0) ⟨by decide, by decide⟩]; exact q1 w) lv.2
    refine hB tc_failedCommand kc_failedCommand [2725] 1000 _ _ _ _ _ ?_
    repeat' (first | exact Or.inl (uA cm l4) | refine And.intro ?_ ?_ | (intro hh; first | exact absurd hh (by decide) | exact absurd rfl hh | (exfalso; omega) | skip) | fail)
    all_goals first | omega | (exact rfl) | (show (1 : Nat) ≤ 20; decide)
  refine hB tc_failedCommand kc_failedCommand [2719] 1000 _ _ _ _ _ ?_
  repeat' (first | exact Or.inr (Or.inr ⟨1, 6, ⟨k1, k2⟩, uL ct l2⟩) | refine And.intro ?_ ?_ | (intro hh; first | exact absurd hh (by decide) | exact absurd rfl hh | (exfalso; omega) | skip) | fail)
  all_goals first | omega | (exact rfl) | (show (1 : Nat) ≤ 20; decide)
theorem wL_undo (hB : lBt l g Q X B) (h : lIn g S z A i c1 c2) (hN : lNx S B i c1 c2) : B (none, c1, c2) z 2758 [some (.inr (.inr (.inl (31, 0, 0)))), some (.inr (.inr (.inl (0, 0, 0)))), some (.inr (.inr (.inl (16, 0, 0)))), some (.inr (.inr (.inl (18, 0, 0)))), some (.inr (.inr (.inl (19, 0, 0)))), some (.inl i), none, none, none] [] := by
  obtain ⟨hs, hS, ⟨i0, i1⟩, k1, k2⟩ := h
  obtain ⟨⟨hC, hM⟩, ⟨hI, hL⟩, hz⟩ := id hs
  have lv := lV_undo  hI
  have ct : lOp l g nL_undo 19 [.inr (.inr (.inl (0, 0, 0))), .inr (.inr (.inl (18, 0, 0)))] z (lQ z (qUndo A)) := by
    exact lT_undo (by decide) (cT_undo (by decide) hC hI) lv.1 lv.2
  have hIL : InvW (qUndo A).2.2 ∧ InvL (qUndo A).2.2 := And.intro (qUndo_I hI) (qUndo_L hI hL)
  have cm0 : ∀ z1, RelM z1 A → mOp l g nX7_undo 19 [.inr (.inr (.inl (16, 0, 0)))] z1 (qUndo A) := fun z1 md => cM_undo (by decide) md hI
  obtain ⟨R, eR⟩ : ∃ R : aRes, R = (qUndo A) := ⟨_, rfl⟩
  rw [← eR] at lv ct hIL
  simp only [← eR] at cm0
  clear eR
  have lt0 : 0 ≤ R.1 ∧ R.1 ≤ 3 := by have := lv.1; omega
  have l3 : ∀ (z2 : aM) (t : Int) (v : Int) (A2 : aAb), lS S z2 A2 → (0 ≤ t ∧ t ≤ 3) → z2 (16, 0, 0) 9 = t → (t = 0 → z2 (18, 0, 0) 0 = v) → (t = 0 → aIR v) → B (none, c1 + 1, c2 + 6) z2 2769 [some (.inr (.inr (.inl (31, 0, 0)))), some (.inr (.inr (.inl (0, 0, 0)))), some (.inr (.inr (.inl (16, 0, 0)))), some (.inr (.inr (.inl (18, 0, 0)))), some (.inr (.inr (.inl (19, 0, 0)))), some (.inl i), some (.inl t), none, none] [.inl v] := by
    intro z2 t v A2 hs2 ht e9 e18 hv
    have fin := hN z2 A2 (some (.inl t)) (some (.inl v)) none (c1 + 1) (c2 + 6) hs2 (Nat.le_refl _) (Nat.le_refl _)
    have th := cM_thrown (l := l) (g := g) (d := 19) (z := z2)
    by_cases t0 : t = 0
    · have f18 := e18 t0
      have fv := hv t0
      have ec : aCmp (z2 (18, 0, 0) 0) v = 0 := by rw [f18]; exact aCmp_rf v
      unfold aIR at fv
      refine hB tc_undo kc_undo [2859] 1000 _ _ _ _ _ ?_
      repeat' (first | exact fin | refine And.intro ?_ ?_ | (intro hh; first | exact absurd hh (by decide) | exact absurd rfl hh | (exfalso; omega) | skip) | refine Or.inl (uE th ?_) | fail)
      all_goals first | omega | (exact rfl) | (show (1 : Nat) ≤ 20; decide)
    · refine hB tc_undo kc_undo [2859] 1000 _ _ _ _ _ ?_
      repeat' (first | exact fin | refine And.intro ?_ ?_ | (intro hh; first | exact absurd hh (by decide) | exact absurd rfl hh | (exfalso; omega) | skip) | refine Or.inl (uE th ?_) | fail)
      all_goals first | omega | (exact rfl) | (show (1 : Nat) ≤ 20; decide)
  have l2 : ∀ r z1, lQ z R r z1 → aPu r [] (fun st => B (none, c1 + 1, c2 + 6) z1 2763 [some (.inr (.inr (.inl (31, 0, 0)))), some (.inr (.inr (.inl (0, 0, 0)))), some (.inr (.inr (.inl (16, 0, 0)))), some (.inr (.inr (.inl (18, 0, 0)))), some (.inr (.inr (.inl (19, 0, 0)))), some (.inl i), none, none, none] st) := by
    intro r z1 hz1
    obtain ⟨rfl, q1, q2, q3⟩ := hz1
    have md := hs.mid q3
    have cm : mOp l g nX7_undo 19 [.inr (.inr (.inl (16, 0, 0)))] z1 R := by
      exact cm0 z1 md.1
    have l4 : ∀ r z2, (r = some (.inl R.2.1) ∧ (RelM z2 R.2.2 ∧ z2 (16, 0, 0) 9 = R.1) ∧ fM z1 z2) → aPu r [] (fun st => B (none, c1 + 1, c2 + 6) z2 2769 [some (.inr (.inr (.inl (31, 0, 0)))), some (.inr (.inr (.inl (0, 0, 0)))), some (.inr (.inr (.inl (16, 0, 0)))), some (.inr (.inr (.inl (18, 0, 0)))), some (.inr (.inr (.inl (19, 0, 0)))), some (.inl i), some (.inl R.1), none, none] st) := by
      intro r z2 hz2
      obtain ⟨rfl, ⟨p1, p2⟩, p3⟩ := hz2
      exact l3 z2 R.1 R.2.1 R.2.2 (hs.fin q3 q2 p1 p3 hIL.1 hIL.2) lt0 p2 (fun w => by rw [p3 (18, 0, 0) ⟨by decide, by decide⟩]; exact q1 w) lv.2
    refine hB tc_undo kc_undo [2769] 1000 _ _ _ _ _ ?_
    repeat' (first | exact Or.inl (uA cm l4) | refine And.intro ?_ ?_ | (intro hh; first | exact absurd hh (by decide) | exact absurd rfl hh | (exfalso; omega) | skip) | fail)
    all_goals first | omega | (exact rfl) | (show (1 : Nat) ≤ 20; decide)
  refine hB tc_undo kc_undo [2763] 1000 _ _ _ _ _ ?_
  repeat' (first | exact Or.inr (Or.inr ⟨1, 6, ⟨k1, k2⟩, uL ct l2⟩) | refine And.intro ?_ ?_ | (intro hh; first | exact absurd hh (by decide) | exact absurd rfl hh | (exfalso; omega) | skip) | fail)
  all_goals first | omega | (exact rfl) | (show (1 : Nat) ≤ 20; decide)
theorem wL_save (hB : lBt l g Q X B) (h : lIn g S z A i c1 c2) (hN : lNx S B i c1 c2) : B (none, c1, c2) z 2802 [some (.inr (.inr (.inl (31, 0, 0)))), some (.inr (.inr (.inl (0, 0, 0)))), some (.inr (.inr (.inl (16, 0, 0)))), some (.inr (.inr (.inl (18, 0, 0)))), some (.inr (.inr (.inl (19, 0, 0)))), some (.inl i), none, none, none] [] := by
  obtain ⟨hs, hS, ⟨i0, i1⟩, k1, k2⟩ := h
  obtain ⟨⟨hC, hM⟩, ⟨hI, hL⟩, hz⟩ := id hs
  have hIL : InvW (qSave A).2.2 ∧ InvL (qSave A).2.2 := And.intro (qSave_I hI) (qSave_L hL)
  obtain ⟨v, ev⟩ : ∃ v : Int, v = (qSave A).2.1 := ⟨_, rfl⟩
  have hv : aIR v := by
    rw [ev]
    exact by have cc := hI.1.1.1.1.1; exact aIR_of (show -1 ≤ wM A 2 by omega) (show wM A 2 ≤ 70000 by omega)
  have ct : aM1 l g nX6_save 19 [.inr (.inr (.inl (0, 0, 0)))] z (fun r z' => r = some (.inl v) ∧ RelC z' (qSave A).2.2 ∧ fC z z') := by
    rw [ev]
    exact (cT_save (l := l) (g := g) (d := 19) (z := z) (A := A) (by decide) hC hI).1 rfl
  have l2 : ∀ r z1, (r = some (.inl v) ∧ RelC z1 (qSave A).2.2 ∧ fC z z1) → aPu r [] (fun st => B (none, c1, c2) z1 2806 [some (.inr (.inr (.inl (31, 0, 0)))), some (.inr (.inr (.inl (0, 0, 0)))), some (.inr (.inr (.inl (16, 0, 0)))), some (.inr (.inr (.inl (18, 0, 0)))), some (.inr (.inr (.inl (19, 0, 0)))), some (.inl i), none, none, none] st) := by
    intro r z1 hz1
    obtain ⟨rfl, q2, q3⟩ := hz1
    have md := hs.mid q3.fL
    have cm : aM1 l g nX7_save 19 [.inr (.inr (.inl (16, 0, 0)))] z1 (fun r z' => r = some (.inl v) ∧ (RelM z' (qSave A).2.2 ∧ z' (16, 0, 0) 9 = 0) ∧ fM z1 z') := by
      rw [ev]
      exact cM_save (by decide) md.1 hI
    have l3 : ∀ r z2, (r = some (.inl v) ∧ (RelM z2 (qSave A).2.2 ∧ z2 (16, 0, 0) 9 = 0) ∧ fM z1 z2) → aPu r [.inl v] (fun st => B (none, c1, c2) z2 2810 [some (.inr (.inr (.inl (31, 0, 0)))), some (.inr (.inr (.inl (0, 0, 0)))), some (.inr (.inr (.inl (16, 0, 0)))), some (.inr (.inr (.inl (18, 0, 0)))), some (.inr (.inr (.inl (19, 0, 0)))), some (.inl i), none, none, none] st) := by
      intro r z2 hz2
      obtain ⟨rfl, ⟨p1, p2⟩, p3⟩ := hz2
      have fin := hN z2 (qSave A).2.2 none none none c1 c2 (hs.fin q3.fL q2 p1 p3 hIL.1 hIL.2) (Nat.le_succ _) (Nat.le_add_right _ _)
      refine hB tc_save kc_save [2859] 1000 _ _ _ _ _ ?_
      repeat' (first | exact fin | refine And.intro ?_ ?_ | (intro hh; first | exact absurd hh (by decide) | exact absurd rfl hh | (exfalso; omega) | skip) | fail)
      all_goals first | exact hv.1 | exact hv.2
    refine hB tc_save kc_save [2810] 1000 _ _ _ _ _ ?_
    repeat' (first | exact Or.inl (uA cm l3) | refine And.intro ?_ ?_ | (intro hh; first | exact absurd hh (by decide) | exact absurd rfl hh | (exfalso; omega) | skip) | fail)
    all_goals first | omega | (exact rfl) | (show (1 : Nat) ≤ 20; decide)
  refine hB tc_save kc_save [2806] 1000 _ _ _ _ _ ?_
  repeat' (first | exact Or.inl (uA ct l2) | refine And.intro ?_ ?_ | (intro hh; first | exact absurd hh (by decide) | exact absurd rfl hh | (exfalso; omega) | skip) | fail)
  all_goals first | omega | (exact rfl) | (show (1 : Nat) ≤ 20; decide)
theorem wL_restore (hB : lBt l g Q X B) (h : lIn g S z A i c1 c2) (hN : lNx S B i c1 c2) : B (none, c1, c2) z 2815 [some (.inr (.inr (.inl (31, 0, 0)))), some (.inr (.inr (.inl (0, 0, 0)))), some (.inr (.inr (.inl (16, 0, 0)))), some (.inr (.inr (.inl (18, 0, 0)))), some (.inr (.inr (.inl (19, 0, 0)))), some (.inl i), none, none, none] [] := by
  obtain ⟨hs, hS, ⟨i0, i1⟩, k1, k2⟩ := h
  obtain ⟨⟨hC, hM⟩, ⟨hI, hL⟩, hz⟩ := id hs
  have lv := lV_restore  hI
  have ct : lOp l g nL_restore 19 [.inr (.inr (.inl (0, 0, 0))), .inr (.inr (.inl (18, 0, 0)))] z (lQ z (qRestore A)) := by
    exact lT_restore (by decide) (cT_restore (by decide) hC hI) lv.1 lv.2
  have hIL : InvW (qRestore A).2.2 ∧ InvL (qRestore A).2.2 := And.intro (qRestore_I hI) (qRestore_L hI hL)
  have cm0 : ∀ z1, RelM z1 A → mOp l g nX7_restore 19 [.inr (.inr (.inl (16, 0, 0)))] z1 (qRestore A) := fun z1 md => cM_restore (by decide) md hI
  obtain ⟨R, eR⟩ : ∃ R : aRes, R = (qRestore A) := ⟨_, rfl⟩
  rw [← eR] at lv ct hIL
  simp only [← eR] at cm0
  clear eR
  have lt0 : 0 ≤ R.1 ∧ R.1 ≤ 3 := by have := lv.1; omega
  have l3 : ∀ (z2 : aM) (t : Int) (v : Int) (A2 : aAb), lS S z2 A2 → (0 ≤ t ∧ t ≤ 3) → z2 (16, 0, 0) 9 = t → (t = 0 → z2 (18, 0, 0) 0 = v) → (t = 0 → aIR v) → B (none, c1 + 1, c2 + 6) z2 2826 [some (.inr (.inr (.inl (31, 0, 0)))), some (.inr (.inr (.inl (0, 0, 0)))), some (.inr (.inr (.inl (16, 0, 0)))), some (.inr (.inr (.inl (18, 0, 0)))), some (.inr (.inr (.inl (19, 0, 0)))), some (.inl i), some (.inl t), none, none] [.inl v] := by
    intro z2 t v A2 hs2 ht e9 e18 hv
    have fin := hN z2 A2 (some (.inl t)) (some (.inl v)) none (c1 + 1) (c2 + 6) hs2 (Nat.le_refl _) (Nat.le_refl _)
    have th := cM_thrown (l := l) (g := g) (d := 19) (z := z2)
    by_cases t0 : t = 0
    · have f18 := e18 t0
      have fv := hv t0
      have ec : aCmp (z2 (18, 0, 0) 0) v = 0 := by rw [f18]; exact aCmp_rf v
      unfold aIR at fv
      refine hB tc_restore kc_restore [2859] 1000 _ _ _ _ _ ?_
      repeat' (first | exact fin | refine And.intro ?_ ?_ | (intro hh; first | exact absurd hh (by decide) | exact absurd rfl hh | (exfalso; omega) | skip) | refine Or.inl (uE th ?_) | fail)
      all_goals first | omega | (exact rfl) | (show (1 : Nat) ≤ 20; decide)
    · refine hB tc_restore kc_restore [2859] 1000 _ _ _ _ _ ?_
      repeat' (first | exact fin | refine And.intro ?_ ?_ | (intro hh; first | exact absurd hh (by decide) | exact absurd rfl hh | (exfalso; omega) | skip) | refine Or.inl (uE th ?_) | fail)
      all_goals first | omega | (exact rfl) | (show (1 : Nat) ≤ 20; decide)
  have l2 : ∀ r z1, lQ z R r z1 → aPu r [] (fun st => B (none, c1 + 1, c2 + 6) z1 2820 [some (.inr (.inr (.inl (31, 0, 0)))), some (.inr (.inr (.inl (0, 0, 0)))), some (.inr (.inr (.inl (16, 0, 0)))), some (.inr (.inr (.inl (18, 0, 0)))), some (.inr (.inr (.inl (19, 0, 0)))), some (.inl i), none, none, none] st) := by
    intro r z1 hz1
    obtain ⟨rfl, q1, q2, q3⟩ := hz1
    have md := hs.mid q3
    have cm : mOp l g nX7_restore 19 [.inr (.inr (.inl (16, 0, 0)))] z1 R := by
      exact cm0 z1 md.1
    have l4 : ∀ r z2, (r = some (.inl R.2.1) ∧ (RelM z2 R.2.2 ∧ z2 (16, 0, 0) 9 = R.1) ∧ fM z1 z2) → aPu r [] (fun st => B (none, c1 + 1, c2 + 6) z2 2826 [some (.inr (.inr (.inl (31, 0, 0)))), some (.inr (.inr (.inl (0, 0, 0)))), some (.inr (.inr (.inl (16, 0, 0)))), some (.inr (.inr (.inl (18, 0, 0)))), some (.inr (.inr (.inl (19, 0, 0)))), some (.inl i), some (.inl R.1), none, none] st) := by
      intro r z2 hz2
      obtain ⟨rfl, ⟨p1, p2⟩, p3⟩ := hz2
      exact l3 z2 R.1 R.2.1 R.2.2 (hs.fin q3 q2 p1 p3 hIL.1 hIL.2) lt0 p2 (fun w => by rw [p3 (18, 0, 0) ⟨by decide, by decide⟩]; exact q1 w) lv.2
    refine hB tc_restore kc_restore [2826] 1000 _ _ _ _ _ ?_
    repeat' (first | exact Or.inl (uA cm l4) | refine And.intro ?_ ?_ | (intro hh; first | exact absurd hh (by decide) | exact absurd rfl hh | (exfalso; omega) | skip) | fail)
    all_goals first | omega | (exact rfl) | (show (1 : Nat) ≤ 20; decide)
  refine hB tc_restore kc_restore [2820] 1000 _ _ _ _ _ ?_
  repeat' (first | exact Or.inr (Or.inr ⟨1, 6, ⟨k1, k2⟩, uL ct l2⟩) | refine And.intro ?_ ?_ | (intro hh; first | exact absurd hh (by decide) | exact absurd rfl hh | (exfalso; omega) | skip) | fail)
  all_goals first | omega | (exact rfl) | (show (1 : Nat) ≤ 20; decide)
end LC
