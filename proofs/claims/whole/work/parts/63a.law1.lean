/-! THE LAW'S CASES: setStart (printed by wip/whole/law1.py) -/
def tc_setStart : aT := [(268, .aload_n 1, 269, 0, 0, 0, []), (269, .aload_n 0, 270, 0, 0, 0, []), (270, .iload 5, 272, 0, 0, 0, []), (272, .iconst 1, 273, 0, 0, 0, []), (273, .iadd, 274, 0, 0, 0, []), (274, .iaload, 275, 0, 0, 0, []), (275, .aload_n 0, 276, 0, 0, 0, []), (276, .iload 5, 278, 0, 0, 0, []), (278, .iconst 2, 279, 0, 0, 0, []), (279, .iadd, 280, 0, 0, 0, []), (280, .iaload, 281, 0, 0, 0, []), (281, .aload_n 3, 282, 0, 0, 0, []), (282, .invokestatic 162, 285, 4, 1, 239, []), (285, .istore 6, 287, 0, 0, 0, []), (287, .aload_n 2, 288, 0, 0, 0, []), (288, .aload_n 0, 289, 0, 0, 0, []), (289, .iload 5, 291, 0, 0, 0, []), (291, .iconst 1, 292, 0, 0, 0, []), (292, .iadd, 293, 0, 0, 0, []), (293, .iaload, 294, 0, 0, 0, []), (294, .aload_n 0, 295, 0, 0, 0, []), (295, .iload 5, 297, 0, 0, 0, []), (297, .iconst 2, 298, 0, 0, 0, []), (298, .iadd, 299, 0, 0, 0, []), (299, .iaload, 300, 0, 0, 0, []), (300, .invokevirtual 167, 303, 3, 0, 154, []), (303, .istore 7, 305, 0, 0, 0, []), (305, .aload_n 2, 306, 0, 0, 0, []), (306, .invokevirtual 168, 309, 1, 0, 133, []), (309, .iload 6, 311, 0, 0, 0, []), (311, .if_icmp .eq 5, 314, 316, 0, 0, []), (314, .iconst 0, 315, 0, 0, 0, []), (315, .ireturn, 316, 0, 0, 0, []), (316, .iload 6, 318, 0, 0, 0, []), (318, .ifCond .ne 15, 321, 333, 0, 0, []), (321, .aload_n 3, 322, 0, 0, 0, []), (322, .iconst 0, 323, 0, 0, 0, []), (323, .laload, 324, 0, 0, 0, []), (324, .iload 7, 326, 0, 0, 0, []), (326, .i2l, 327, 0, 0, 0, []), (327, .lcmp, 328, 0, 0, 0, []), (328, .ifCond .eq 5, 331, 333, 0, 0, []), (331, .iconst 0, 332, 0, 0, 0, []), (332, .ireturn, 333, 0, 0, 0, []), (333, .goto 2526, 336, 2859, 0, 0, [])]
set_option maxRecDepth 100000 in
theorem kc_setStart : tc_setStart.all (fun q => aOk 281 8 (aMt 281).2.1 q.1 q.2) = true := by decide +kernel
section LC
variable {l : Launch} {g : aG} {Q : Option aV → aSt → aM → Prop} {X : Nat → aSt → aM → Prop} {B : aK → aM → Nat → List (Option aV) → List aV → Prop} {S : Int → Int} {z : aM} {A : aAb} {i : Int} {c1 c2 : Nat}
theorem wL_setStart (hB : lBt l g Q X B) (h : lIn g S z A i c1 c2) (hN : lNx S B i c1 c2) : B (none, c1, c2) z 268 [some (.inr (.inr (.inl (31, 0, 0)))), some (.inr (.inr (.inl (0, 0, 0)))), some (.inr (.inr (.inl (16, 0, 0)))), some (.inr (.inr (.inl (18, 0, 0)))), some (.inr (.inr (.inl (19, 0, 0)))), some (.inl i), none, none, none] [] := by
  obtain ⟨hs, hS, ⟨i0, i1⟩, k1, k2⟩ := h
  obtain ⟨⟨hC, hM⟩, ⟨hI, hL⟩, hz⟩ := id hs
  obtain ⟨x1, e1⟩ : ∃ x, x = z (31, 0, 0) (i + 1) := ⟨_, rfl⟩
  have h1 : aIR x1 := by rw [e1, hz]; exact hS _
  obtain ⟨x2, e2⟩ : ∃ x, x = z (31, 0, 0) (i + 2) := ⟨_, rfl⟩
  have h2 : aIR x2 := by rw [e2, hz]; exact hS _
  have lv := lV_setStart (x := x1) (y := x2) hI
  have ct : lOp l g nL_setStart 19 [.inr (.inr (.inl (0, 0, 0))), .inl (z (31, 0, 0) (i + 1)), .inl (z (31, 0, 0) (i + 2)), .inr (.inr (.inl (18, 0, 0)))] z (lQ z (oCmd (cStart x1 x2) A)) := by
    rw [← e1]
    rw [← e2]
    exact lT_setStart (by decide) (cT_setStart h1 h2 (by decide) hC hI) lv.1 lv.2
  have hIL : InvW (oCmd (cStart x1 x2) A).2.2 ∧ InvL (oCmd (cStart x1 x2) A).2.2 := And.intro (oCmd_I hI (cStart_I hI.1.1)) (oCmd_L hI hL (cStart_L hL.1))
  have cm0 : ∀ z1, RelM z1 A → mOp l g nX7_setStart 19 [.inr (.inr (.inl (16, 0, 0))), .inl x1, .inl x2] z1 (oCmd (cStart x1 x2) A) := fun z1 md => cM_setStart h1 h2 (by decide) md hI
  obtain ⟨R, eR⟩ : ∃ R : aRes, R = (oCmd (cStart x1 x2) A) := ⟨_, rfl⟩
  rw [← eR] at lv ct hIL
  simp only [← eR] at cm0
  clear eR
  have lt0 : 0 ≤ R.1 ∧ R.1 ≤ 3 := by have := lv.1; omega
  have l3 : ∀ (z2 : aM) (t : Int) (v : Int) (A2 : aAb), lS S z2 A2 → (0 ≤ t ∧ t ≤ 3) → z2 (16, 0, 0) 9 = t → (t = 0 → z2 (18, 0, 0) 0 = v) → (t = 0 → aIR v) → B (none, c1 + 1, c2 + 6) z2 303 [some (.inr (.inr (.inl (31, 0, 0)))), some (.inr (.inr (.inl (0, 0, 0)))), some (.inr (.inr (.inl (16, 0, 0)))), some (.inr (.inr (.inl (18, 0, 0)))), some (.inr (.inr (.inl (19, 0, 0)))), some (.inl i), some (.inl t), none, none] [.inl v] := by
    intro z2 t v A2 hs2 ht e9 e18 hv
    have fin := hN z2 A2 (some (.inl t)) (some (.inl v)) none (c1 + 1) (c2 + 6) hs2 (Nat.le_refl _) (Nat.le_refl _)
    have th := cM_thrown (l := l) (g := g) (d := 19) (z := z2)
    by_cases t0 : t = 0
    · have f18 := e18 t0
      have fv := hv t0
      have ec : aCmp (z2 (18, 0, 0) 0) v = 0 := by rw [f18]; exact aCmp_rf v
      unfold aIR at fv
      refine hB tc_setStart kc_setStart [2859] 1000 _ _ _ _ _ ?_
      repeat' (first | exact fin | refine And.intro ?_ ?_ | (intro hh; first | exact absurd hh (by decide) | exact absurd rfl hh | (exfalso; omega) | skip) | refine Or.inl (uE th ?_) | fail)
      all_goals first | omega | (exact rfl) | (show (1 : Nat) ≤ 20; decide)
    · refine hB tc_setStart kc_setStart [2859] 1000 _ _ _ _ _ ?_
      repeat' (first | exact fin | refine And.intro ?_ ?_ | (intro hh; first | exact absurd hh (by decide) | exact absurd rfl hh | (exfalso; omega) | skip) | refine Or.inl (uE th ?_) | fail)
      all_goals first | omega | (exact rfl) | (show (1 : Nat) ≤ 20; decide)
  have l2 : ∀ r z1, lQ z R r z1 → aPu r [] (fun st => B (none, c1 + 1, c2 + 6) z1 285 [some (.inr (.inr (.inl (31, 0, 0)))), some (.inr (.inr (.inl (0, 0, 0)))), some (.inr (.inr (.inl (16, 0, 0)))), some (.inr (.inr (.inl (18, 0, 0)))), some (.inr (.inr (.inl (19, 0, 0)))), some (.inl i), none, none, none] st) := by
    intro r z1 hz1
    obtain ⟨rfl, q1, q2, q3⟩ := hz1
    have md := hs.mid q3
    have a1 : z1 (31, 0, 0) (i + 1) = x1 := by rw [md.2]; exact e1.symm
    have a2 : z1 (31, 0, 0) (i + 2) = x2 := by rw [md.2]; exact e2.symm
    have cm : mOp l g nX7_setStart 19 [.inr (.inr (.inl (16, 0, 0))), .inl (z1 (31, 0, 0) (i + 1)), .inl (z1 (31, 0, 0) (i + 2))] z1 R := by
      rw [a1]
      rw [a2]
      exact cm0 z1 md.1
    have l4 : ∀ r z2, (r = some (.inl R.2.1) ∧ (RelM z2 R.2.2 ∧ z2 (16, 0, 0) 9 = R.1) ∧ fM z1 z2) → aPu r [] (fun st => B (none, c1 + 1, c2 + 6) z2 303 [some (.inr (.inr (.inl (31, 0, 0)))), some (.inr (.inr (.inl (0, 0, 0)))), some (.inr (.inr (.inl (16, 0, 0)))), some (.inr (.inr (.inl (18, 0, 0)))), some (.inr (.inr (.inl (19, 0, 0)))), some (.inl i), some (.inl R.1), none, none] st) := by
      intro r z2 hz2
      obtain ⟨rfl, ⟨p1, p2⟩, p3⟩ := hz2
      exact l3 z2 R.1 R.2.1 R.2.2 (hs.fin q3 q2 p1 p3 hIL.1 hIL.2) lt0 p2 (fun w => by rw [p3 (18, 0, 0) ⟨by decide, by decide⟩]; exact q1 w) lv.2
    refine hB tc_setStart kc_setStart [303] 1000 _ _ _ _ _ ?_
    repeat' (first | exact Or.inl (uA cm l4) | refine And.intro ?_ ?_ | (intro hh; first | exact absurd hh (by decide) | exact absurd rfl hh | (exfalso; omega) | skip) | fail)
    all_goals first | omega | (exact rfl) | (show (1 : Nat) ≤ 20; decide)
  refine hB tc_setStart kc_setStart [285] 1000 _ _ _ _ _ ?_
  repeat' (first | exact Or.inr (Or.inr ⟨1, 6, ⟨k1, k2⟩, uL ct l2⟩) | refine And.intro ?_ ?_ | (intro hh; first | exact absurd hh (by decide) | exact absurd rfl hh | (exfalso; omega) | skip) | fail)
  all_goals first | omega | (exact rfl) | (show (1 : Nat) ≤ 20; decide)
end LC
