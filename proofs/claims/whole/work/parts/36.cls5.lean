/-! THE CLASS: steps, course commands, a run's begin (printed by wip/whole/cls5.py) -/
section K5
variable {l : Launch} {g : aG} {d : Nat} {z : aM} {s r : Int} {a : Int → Int}
theorem sFar_fl {a : Int → Int} {x y u v : Int} (b8 : 0 ≤ a 8 ∧ a 8 < 6) : sFar (ud (ud a 9 x) 10 y) u v ↔ sFar a u v := by
  have bb := sBeg_B b8.1 b8.2
  have e : ∀ j, j ≠ 9 → j ≠ 10 → ud (ud a 9 x) 10 y j = a j := fun j h1 h2 => by rw [ud_ne h2, ud_ne h1]
  have e8 := e 8 (by decide) (by decide)
  have bq : sBeg (a 8) = 3 ∨ 11 ≤ sBeg (a 8) := by unfold sBeg; split <;> omega
  unfold sFar
  rw [e8, e (sBeg (a 8)) (by omega) (by omega), e (sBeg (a 8) + 1) (by omega) (by omega), e (11 + 3 * a 8) (by omega) (by omega), e (11 + 3 * a 8 + 1) (by omega) (by omega), e 5 (by omega) (by omega)]
theorem sLoA_fl {a : Int → Int} {x y p w : Int} (b7 : 0 ≤ a 7) (b8 : 0 ≤ a 8) (hw : 0 ≤ w) : sLo (ud (ud a 9 x) 10 y) (ud (ud a 9 x) 10 y 8) p = sLo a (a 8) p ∧ sLoA (ud (ud a 9 x) 10 y) (ud (ud a 9 x) 10 y 8) p w = ud (ud (sLoA a (a 8) p w) 9 x) 10 y := by
  have e : ∀ j, j ≠ 9 → j ≠ 10 → ud (ud a 9 x) 10 y j = a j := fun j h1 h2 => by rw [ud_ne h2, ud_ne h1]
  have e8 := e 8 (by decide) (by decide)
  have e7 := e 7 (by decide) (by decide)
  have e1 : sLo (ud (ud a 9 x) 10 y) (a 8) p = sLo a (a 8) p := by unfold sLo; rw [e7, e _ (by omega) (by omega)]
  rw [e8]
  refine ⟨e1, ?_⟩
  unfold sLoA
  dsimp only
  rw [e1, e7, e (59 + 13 * a 7 + 7 + a 8) (by omega) (by omega)]
  funext j
  unfold ud
  by_cases h1 : j = 59 + 13 * a 7 + w
  · subst h1
    simp only [if_true, reduceIte]
    by_cases h2 : 59 + 13 * a 7 + w = 59 + 13 * a 7 + 7 + a 8
    · rw [if_pos h2, if_neg (by omega), if_neg (by omega), if_pos h2]
    · rw [if_neg h2, if_neg (by omega), if_neg (by omega), if_neg (by omega), if_neg (by omega), if_neg h2]
  · rw [if_neg h1]
    by_cases h2 : j = 59 + 13 * a 7 + 7 + a 8
    · rw [if_pos h2, if_neg (by omega), if_neg (by omega), if_neg h1, if_pos h2]
    · rw [if_neg h2, if_neg h1, if_neg h2]

theorem cK_makeStep {x y p : Int} (hd : 5 ≤ d) (h : Sim z s a) (hI : Inv a) (hx : aIR x) (hy : aIR y) (hp : aIR p) : sOp l g nX5_makeStep d s [.inr (.inr (.inl (1, s, 0))), .inl x, .inl y, .inl p] z (cWalk x y p a) cdA := by
  unfold sOp aIR at *
  have e3 := h.2.2.1.2
  by_cases c1 : sPt x y ∧ (1 ≤ p ∧ p ≤ 999)
  · by_cases n7 : a 7 = -1
    · rw [if_pos n7] at e3
      have ec : cWalk x y p a = (2, -1, a) := (if_pos c1).trans (if_pos n7)
      rw [ec]
      refine aM1_of kX5_makeStep rfl (fun B hB => ?_)
      have fin : ((2 : Int) = 0 → (some (.inl (-3)) : Option aV) = some (.inl (-1)) ∧ Sim z s a) ∧ ((2 : Int) ≠ 0 → (some (.inl (-3)) : Option aV) = some (.inl (cdA 2))) := ⟨fun e => absurd e (by decide), fun _ => rfl⟩
      refine hB [] 1000 _ _ _ _ _ ?_
      repeat' (first | exact ⟨rfl, fin, fS.rf s z⟩ | refine And.intro ?_ ?_ | (intro hh; first | exact absurd hh (by decide) | exact absurd rfl hh | (exfalso; omega) | skip) | refine Or.inl (uB (cK_isWithin ?_ ?_ ?_) ?_ ?_) | refine Or.inl (uB (cK_isPoint ?_ ?_ ?_) ?_ ?_) | fail)
      all_goals first | omega | (exact rfl) | contradiction | (unfold aIR; omega) | (exfalso; exact absurd c1.1 (by assumption)) | (exfalso; exact absurd c1.2 (by assumption))
    · rw [if_neg n7] at e3
      have ec : cWalk x y p a = (0, sTm (59 + 13 * a 7) x y (ud a (59 + 13 * a 7 + 1) (a (59 + 13 * a 7 + 1) + p))) := (if_pos c1).trans (if_neg n7)
      rw [ec]
      obtain ⟨R, eR⟩ : ∃ R, R = sTm (59 + 13 * a 7) x y (ud a (59 + 13 * a 7 + 1) (a (59 + 13 * a 7 + 1) + p)) := ⟨_, rfl⟩
      rw [← eR]
      have gg := hI.1.go n7
      have cc := hI.1.1.1
      have ct := hI.1.1.2.1
      have e7 : a 7 = a 2 - 1 := gg.1.1
      have ok := (hI.1.ok n7).1
      have tm := hI.2 n7
      obtain ⟨-, hR⟩ := h.go hI.1 n7
      have rg := cK_runGoingOn (l := l) (g := g) (d := d - 1) (by omega) h hI.1.1 gg.1.2
      rw [← e7] at rg
      have et : z (5, s, a 7) 0 = a (59 + 13 * a 7 + 1) := hR.1.1.1
      -- the time
      obtain ⟨a1, ea1⟩ : ∃ a1, a1 = ud a (59 + 13 * a 7 + 1) (a (59 + 13 * a 7 + 1) + p) := ⟨_, rfl⟩
      have h1I : Inv0 a1 := by rw [ea1]; exact hI.1.time n7 (by omega) (by omega)
      have a17 : a1 7 = a 7 := by rw [ea1, ud_ne (by omega)]
      have a18 : a1 8 = a 8 := by rw [ea1, ud_ne (by omega)]
      have a16 : a1 6 = a 6 := by rw [ea1, ud_ne (by omega)]
      have a1t : a1 (59 + 13 * a 7 + 1) = a (59 + 13 * a 7 + 1) + p := by rw [ea1, ud_at]
      have n71 : a1 7 ≠ -1 := by rw [a17]; exact n7
      obtain ⟨z1, ez1⟩ : ∃ z1, z1 = aWr z (5, s, a 7) 0 (z (5, s, a 7) 0 + p) := ⟨_, rfl⟩
      have S1 : Sim z1 s a1 := by
        rw [ez1, et, ea1]
        exact h.f5 hI.1.1 (r := a 7) (j := 0) (w := 1) (by omega) (by omega) (by omega)
      have F1 : fS s z z1 := by rw [ez1]; exact (fS.rf s z).wr (by decide) (by decide)
      have z1t : z1 (5, s, a 7) 0 = a (59 + 13 * a 7 + 1) + p := by rw [ez1, aWr_k, et]
      have z1l : z1 (2, s, 0) 3 = a 6 := by rw [S1.1.1.2.1.2, a16]
      rw [← ea1] at eR
      refine aM1_of kX5_makeStep rfl (fun B hB => ?_)
      have go49 : B (none, 0, 0) z1 49 [some (.inr (.inr (.inl (1, s, 0)))), some (.inl x), some (.inl y), some (.inl p), some (.inr (.inr (.inl (5, s, a 7)))), none] [] := by
        by_cases tl : a1 6 < a1 (59 + 13 * a 7 + 1)
        · have eR2 : R = ((sRest 5 a1).1, sEnds (sRest 5 a1).2) := by rw [eR]; exact if_pos tl
          have eo := cK_endOverTime (l := l) (g := g) (d := d - 1) (by omega) S1 h1I n71
          rw [a17] at eo
          clear S1
          refine hB [] 1000 _ _ _ _ _ ?_
          repeat' (first | refine And.intro ?_ ?_ | (intro hh; first | exact absurd hh (by decide) | exact absurd rfl hh | (exfalso; omega) | skip) | refine Or.inl (uA eo ?_) | fail)
          all_goals first | omega | (exact rfl) | skip
          rename_i r2 z2
          obtain ⟨rfl, S2, F2⟩ := hh
          have fin : (((0 : Int) = 0 → (some (.inl (sRest 5 a1).1) : Option aV) = some (.inl R.1) ∧ Sim z2 s R.2) ∧ ((0 : Int) ≠ 0 → (some (.inl (sRest 5 a1).1) : Option aV) = some (.inl (cdA 0)))) ∧ fS s z z2 := ⟨⟨fun _ => ⟨by rw [eR2], by rw [eR2]; exact S2⟩, fun e => absurd rfl e⟩, F1.tr F2⟩
          exact ⟨rfl, fin⟩
        · have eR2 : R = sSt (59 + 13 * a 7) x y a1 := by rw [eR]; exact if_neg tl
          obtain ⟨a2, ea2⟩ : ∃ a2, a2 = sBt a1 (orI (a1 (59 + 13 * a1 7 + 6)) (sGT a1 x y)) := ⟨_, rfl⟩
          have eR3 : R = sLn x y a2 := by rw [eR2, ea2]; unfold sSt sBt; rw [a17]
          have ok1 := (h1I.ok n71).1
          have c11 := h1I.1.1
          have gb := sGa_B (a := a1) (x := x) (y := y) (a1 1).toNat 0 0 (by omega) (by omega) (by omega) (by omega)
          have ob := orI_B (x := a1 (59 + 13 * a1 7 + 6)) (y := sGT a1 x y) ok1.2.2 gb
          have h2I : Inv0 a2 := by rw [ea2]; exact h1I.bits n71 ob.1 ob.2
          have a27 : a2 7 = a 7 := by rw [ea2]; unfold sBt; rw [ud_ne (by omega), a17]
          have a28 : a2 8 = a 8 := by rw [ea2]; unfold sBt; rw [ud_ne (by omega), a18]
          have n72 : a2 7 ≠ -1 := by rw [a27]; exact n7
          have g2 := h2I.go n72
          have c2 := h2I.1.1
          have pg := cK_passGates (l := l) (g := g) (d := d - 1) (by omega) S1 h1I n71 c1.1
          rw [← ea2] at pg
          have tail : ∀ (z5 : aM) (a5 : Int → Int) (v : Int), Sim z5 s a5 → fS s z z5 → Inv0 a5 → a5 7 = a 7 → R = sAr x y v a5 → 0 ≤ v → v ≤ 30 → B (none, 0, 0) z5 96 [some (.inr (.inr (.inl (1, s, 0)))), some (.inl x), some (.inl y), some (.inl p), some (.inr (.inr (.inl (5, s, a 7)))), some (.inl v)] [] := by
            intro z5 a5 v S5 F5 I5 a57 eR5 v0 v1
            have n75 : a5 7 ≠ -1 := by rw [a57]; exact n7
            have g5 := I5.go n75
            have c5 := I5.1.1
            obtain ⟨⟨k3, k4, k5, k6⟩, -⟩ := S5.go I5 n75
            have ne := cK_isNearEnd (l := l) (g := g) (d := d - 1) (k := a5 8) (by omega) S5.1 I5.1 g5.2.1.1 g5.2.1.2 c1.1
            have ne' : aEb l g nX0_isNearEnd (d - 1) [.inr (.inr (.inl (2, s, 0))), .inl (z5 (1, s, 0) 4), .inl x, .inl y] z5 (sNr a5 x y) := by rw [k4]; exact ne
            by_cases hn : sNr a5 x y
            · have eR6 : R = (v + (sCL a5).1, (sCL a5).2) := by rw [eR5]; exact if_pos hn
              have cl := cK_completeLeg (l := l) (g := g) (d := d - 1) (by omega) S5 I5 n75
              rw [a57] at cl
              clear S5 ne
              refine hB [] 1000 _ _ _ _ _ ?_
              repeat' (first | refine And.intro ?_ ?_ | (intro hh; first | exact absurd hn hh | exact absurd hh (by decide) | exact absurd rfl hh | skip) | refine Or.inl (uB ne' ?_ ?_) | refine Or.inl (uA cl ?_) | fail)
              all_goals first | omega | (exact rfl) | skip
              all_goals (
                rename_i r6 z6
                obtain ⟨rfl, S6, F6⟩ := hh
                have fin : (((0 : Int) = 0 → (some (.inl (v + (sCL a5).1)) : Option aV) = some (.inl R.1) ∧ Sim z6 s R.2) ∧ ((0 : Int) ≠ 0 → (some (.inl (v + (sCL a5).1)) : Option aV) = some (.inl (cdA 0)))) ∧ fS s z z6 := ⟨⟨fun _ => ⟨by rw [eR6], by rw [eR6]; exact S6⟩, fun e => absurd rfl e⟩, F5.tr F6⟩
                exact ⟨rfl, fin⟩)
            · have eR6 : R = (v, a5) := by rw [eR5]; exact if_neg hn
              have fin : (((0 : Int) = 0 → (some (.inl v) : Option aV) = some (.inl R.1) ∧ Sim z5 s R.2) ∧ ((0 : Int) ≠ 0 → (some (.inl v) : Option aV) = some (.inl (cdA 0)))) ∧ fS s z z5 := ⟨⟨fun _ => ⟨by rw [eR6], by rw [eR6]; exact S5⟩, fun e => absurd rfl e⟩, F5⟩
              clear S5 ne
              refine hB [] 1000 _ _ _ _ _ ?_
              repeat' (first | exact ⟨rfl, fin⟩ | refine And.intro ?_ ?_ | (intro hh; first | exact absurd hh hn | exact absurd hh (by decide) | exact absurd rfl hh | skip) | refine Or.inl (uB ne' ?_ ?_) | fail)
              all_goals first | omega | (exact rfl)
          have go78 : ∀ z2 : aM, Sim z2 s a2 → fS s z z2 → B (none, 0, 0) z2 78 [some (.inr (.inr (.inl (1, s, 0)))), some (.inl x), some (.inl y), some (.inl p), some (.inr (.inr (.inl (5, s, a 7)))), none] [] := by
            intro z2 S2 F2
            obtain ⟨a3, ea3⟩ : ∃ a3, a3 = ud (ud a2 9 x) 10 y := ⟨_, rfl⟩
            have h3I : Inv0 a3 := by rw [ea3]; exact h2I.flock n72 c1.1
            have a37 : a3 7 = a 7 := by rw [ea3, ud_ne (by omega), ud_ne (by omega), a27]
            have n73 : a3 7 ≠ -1 := by rw [a37]; exact n7
            have S3 : Sim (aWr (aWr z2 (1, s, 0) 5 x) (1, s, 0) 6 y) s a3 := by
              rw [ea3]
              exact (S2.s5 h2I.1 n72).s6 (h2I.1.cg (fun j j0 j1 hj => ud_ne (by omega))) (by rw [ud_ne (by omega)]; exact n72)
            have F3 : fS s z (aWr (aWr z2 (1, s, 0) 5 x) (1, s, 0) 6 y) := (F2.wr (by decide) (by decide)).wr (by decide) (by decide)
            have a39 : a3 9 = x := by rw [ea3, ud_ne (by omega), ud_at]
            have a310 : a3 10 = y := by rw [ea3, ud_at]
            have ll := cK_leaveLine (l := l) (g := g) (d := d - 1) (by omega) S3 h3I n73
            rw [a37, a39, a310] at ll
            have lfl := sLoA_fl (a := a2) (x := x) (y := y) (p := 1) (w := 2) (by omega) g2.2.1.1 (by omega)
            have ffl := sFar_fl (a := a2) (x := x) (y := y) (u := x) (v := y) ⟨g2.2.1.1, by omega⟩
            rw [← ea3] at lfl ffl
            have lb := sLo_B h2I n72 (leg := a2 8) (p := 1) g2.2.1.1 g2.2.1.2 (by omega)
            have h4I := h2I.lo n72 (leg := a2 8) (p := 1) (w := 2) g2.2.1.1 g2.2.1.2 (by omega) (by omega) (by omega)
            have g4o := sLoA_g h2I n72 (leg := a2 8) (p := 1) (w := 2) g2.2.1.1 (by omega)
            have h5I := h4I.flock (by rw [g4o 7 (by omega)]; exact n72) c1.1
            clear S3
            refine hB [96] 1000 _ _ _ _ _ ?_
            refine And.intro (by exact ⟨⟨rfl, rfl⟩, by omega⟩) (Or.inl (uA ll ?_))
            rintro r' z4 ⟨q1, q2, q3⟩
            by_cases hF : sFar a3 x y
            · obtain ⟨rfl, S4⟩ := q1 hF
              rw [lfl.2] at S4
              rw [lfl.1]
              exact tail z4 _ _ S4 (F3.tr q3) h5I (by rw [ud_ne (by omega), ud_ne (by omega), g4o 7 (by omega), a27]) (by rw [eR3]; exact if_pos (ffl.mp hF)) lb.1.1 lb.1.2
            · obtain ⟨rfl, rfl⟩ := q2 hF
              have S3 : Sim (aWr (aWr z2 (1, s, 0) 5 x) (1, s, 0) 6 y) s a3 := by
                rw [ea3]
                exact (S2.s5 h2I.1 n72).s6 (h2I.1.cg (fun j j0 j1 hj => ud_ne (by omega))) (by rw [ud_ne (by omega)]; exact n72)
              exact tail _ a3 0 S3 F3 h3I a37 (by rw [eR3, ea3]; exact if_neg (fun w => hF (ffl.mpr w))) (by decide) (by decide)
          have a1t' : z1 (5, s, a 7) 0 ≤ 1998 := by omega
          refine hB [78] 1000 _ _ _ _ _ ?_
          repeat' (first | refine And.intro ?_ ?_ | (intro hh; first | exact absurd hh (by decide) | exact absurd rfl hh | (exfalso; omega) | skip) | refine Or.inl (uA pg ?_) | fail)
          all_goals first | omega | (exact rfl) | skip
          all_goals (
            rename_i r2 z2
            obtain ⟨rfl, S2, F2⟩ := hh
            exact go78 z2 S2 (F1.tr F2))
      rw [ez1] at go49
      clear S1 F1 hR ec
      refine hB [49] 1000 _ _ _ _ _ ?_
      repeat' (first | exact go49 | refine And.intro ?_ ?_ | (intro hh; first | exact absurd hh (by decide) | exact absurd rfl hh | (exfalso; omega) | skip) | refine Or.inl (uB (cK_isWithin ?_ ?_ ?_) ?_ ?_) | refine Or.inl (uB (cK_isPoint ?_ ?_ ?_) ?_ ?_) | refine Or.inl (uEp rg ?_) | fail)
      all_goals first | omega | (exact rfl) | contradiction | (unfold aIR; omega) | (exfalso; exact absurd c1.1 (by assumption)) | (exfalso; exact absurd c1.2 (by assumption))
  · have ec : cWalk x y p a = (1, -1, a) := if_neg c1
    rw [ec]
    refine aM1_of kX5_makeStep rfl (fun B hB => ?_)
    have fin : ((1 : Int) = 0 → (some (.inl (-2)) : Option aV) = some (.inl (-1)) ∧ Sim z s a) ∧ ((1 : Int) ≠ 0 → (some (.inl (-2)) : Option aV) = some (.inl (cdA 1))) := ⟨fun e => absurd e (by decide), fun _ => rfl⟩
    refine hB [] 1000 _ _ _ _ _ ?_
    repeat' (first | exact ⟨rfl, fin, fS.rf s z⟩ | refine And.intro ?_ ?_ | (intro hh; first | exact absurd hh (by decide) | exact absurd rfl hh | (exfalso; omega) | skip) | refine Or.inl (uB (cK_isWithin ?_ ?_ ?_) ?_ ?_) | refine Or.inl (uB (cK_isPoint ?_ ?_ ?_) ?_ ?_) | fail)
    all_goals first | omega | (exact rfl) | contradiction | (unfold aIR; omega) | (exfalso; exact c1 ⟨by assumption, by assumption⟩)

theorem SimC.sc {z z' : aM} {s : Int} {a a' : Int → Int} (h : SimC z s a) (e0 : z' (2, s, 0) 0 = a' 3) (e1 : z' (2, s, 0) 1 = a' 4) (e2 : z' (2, s, 0) 2 = a' 5) (e3 : z' (2, s, 0) 3 = a' 6) (e4 : z' (2, s, 0) 4 = z (2, s, 0) 4) (e8 : z' (2, s, 0) 8 = z (2, s, 0) 8) (ea : ∀ j, (j < 3 ∨ 6 < j) → a' j = a j) (ez : ∀ j, z' (3, s, j) = z (3, s, j)) : SimC z' s a' := by
  obtain ⟨⟨-, -, h5, h7⟩, h8, h9⟩ := h
  unfold SimC
  rw [e0, e1, e2, e3, e4, e8, ea 0 (by omega), ea 1 (by omega)]
  refine ⟨⟨⟨rfl, rfl⟩, ⟨rfl, rfl⟩, h5, h7⟩, fun k k0 k1 => ?_, fun k k0 k1 => ?_⟩
  · rw [ez, ez, ez, ea _ (by omega), ea _ (by omega), ea _ (by omega)]; exact h8 k k0 k1
  · rw [ez, ez, ez, ez, ez, ea (29 + 5 * k) (by omega), ea (29 + 5 * k + 1) (by omega), ea (29 + 5 * k + 2) (by omega), ea (29 + 5 * k + 3) (by omega), ea (29 + 5 * k + 4) (by omega)]; exact h9 k k0 k1

theorem cK_placeStart {x y : Int} (hd : 2 ≤ d) (h : Sim z s a) (hI : Inv0 a) (hx : aIR x) (hy : aIR y) : sOp l g nX5_placeStart d s [.inr (.inr (.inl (1, s, 0))), .inl x, .inl y] z (cStart x y a) cdA := by
  unfold sOp aIR at *
  have cc := hI.1.1
  have e2 := h.2.2.1.1
  by_cases c1 : sPt x y
  · by_cases h2 : 0 < a 2
    · have ec : cStart x y a = (2, -1, a) := (if_pos c1).trans (if_pos h2)
      rw [ec]
      refine aM1_of kX5_placeStart rfl (fun B hB => ?_)
      have fin : ((2 : Int) = 0 → (some (.inl (-3)) : Option aV) = some (.inl (-1)) ∧ Sim z s a) ∧ ((2 : Int) ≠ 0 → (some (.inl (-3)) : Option aV) = some (.inl (cdA 2))) := ⟨fun e => absurd e (by decide), fun _ => rfl⟩
      refine hB [] 1000 _ _ _ _ _ ?_
      repeat' (first | exact ⟨rfl, fin, fS.rf s z⟩ | refine And.intro ?_ ?_ | (intro hh; first | exact absurd hh (by decide) | exact absurd rfl hh | (exfalso; omega) | skip) | refine Or.inl (uB (cK_isPoint ?_ ?_ ?_) ?_ ?_) | fail)
      all_goals first | omega | (exact rfl) | contradiction | (unfold aIR; omega)
    · obtain ⟨n7, n2⟩ := Inv.no hI h2
      have ec : cStart x y a = (0, (a 0), (ud (ud a 3 x) 4 y)) := (if_pos c1).trans (if_neg h2)
      rw [ec]
      have f4 : (aWr (aWr z (2, s, 0) 0 x) (2, s, 0) 1 y) (2, s, 0) 4 = a 0 := by rw [aWr_j (by decide), aWr_j (by decide)]; exact h.1.1.2.2.1
      have fs : Sim (aWr (aWr z (2, s, 0) 0 x) (2, s, 0) 1 y) s (ud (ud a 3 x) 4 y) := by
        refine h.crs n2 (by rw [aWr_ne2 (pne (by show (1 : Nat) ≠ 2; decide)), aWr_ne2 (pne (by show (1 : Nat) ≠ 2; decide))]) (by rw [ud_ne (by decide), ud_ne (by decide)]) (by rw [ud_ne (by decide), ud_ne (by decide)]) n7 (h.1.sc ?_ ?_ ?_ ?_ ?_ ?_ (fun j hj => by rw [ud_ne (by omega), ud_ne (by omega)]) (fun j => by rw [aWr_ne2 (pne (by show (3 : Nat) ≠ 2; decide)), aWr_ne2 (pne (by show (3 : Nat) ≠ 2; decide))]))
        · rw [aWr_j (by decide), aWr_k, ud_ne (by decide), ud_at]
        · rw [aWr_k, ud_at]
        · rw [aWr_j (by decide), aWr_j (by decide), ud_ne (by decide), ud_ne (by decide)]; exact h.1.1.2.1.1
        · rw [aWr_j (by decide), aWr_j (by decide), ud_ne (by decide), ud_ne (by decide)]; exact h.1.1.2.1.2
        · rw [aWr_j (by decide), aWr_j (by decide)]
        · rw [aWr_j (by decide), aWr_j (by decide)]
      have fF : fS s z (aWr (aWr z (2, s, 0) 0 x) (2, s, 0) 1 y) := ((fS.rf s z).wr (by decide) (by decide)).wr (by decide) (by decide)
      have fin : (((0 : Int) = 0 → (some (.inl (a 0)) : Option aV) = some (.inl (a 0)) ∧ Sim (aWr (aWr z (2, s, 0) 0 x) (2, s, 0) 1 y) s (ud (ud a 3 x) 4 y)) ∧ ((0 : Int) ≠ 0 → (some (.inl (a 0)) : Option aV) = some (.inl (cdA 0)))) ∧ fS s z (aWr (aWr z (2, s, 0) 0 x) (2, s, 0) 1 y) := ⟨⟨fun _ => ⟨rfl, fs⟩, fun e => absurd rfl e⟩, fF⟩
      have fin2 : (((0 : Int) = 0 → (some (.inl ((aWr (aWr z (2, s, 0) 0 x) (2, s, 0) 1 y) (2, s, 0) 4)) : Option aV) = some (.inl (a 0)) ∧ Sim (aWr (aWr z (2, s, 0) 0 x) (2, s, 0) 1 y) s (ud (ud a 3 x) 4 y)) ∧ ((0 : Int) ≠ 0 → (some (.inl ((aWr (aWr z (2, s, 0) 0 x) (2, s, 0) 1 y) (2, s, 0) 4)) : Option aV) = some (.inl (cdA 0)))) ∧ fS s z (aWr (aWr z (2, s, 0) 0 x) (2, s, 0) 1 y) := ⟨⟨fun _ => ⟨by rw [f4], fs⟩, fun e => absurd rfl e⟩, fF⟩
      clear fs fF
      refine aM1_of kX5_placeStart rfl (fun B hB => ?_)
      refine hB [] 1000 _ _ _ _ _ ?_
      repeat' (first | exact ⟨rfl, fin2⟩ | refine And.intro ?_ ?_ | (intro hh; first | exact absurd hh (by decide) | exact absurd rfl hh | (exfalso; omega) | skip) | refine Or.inl (uB (cK_isPoint ?_ ?_ ?_) ?_ ?_) | fail)
      all_goals first | omega | (exact rfl) | contradiction | (unfold aIR; omega) | (exact Or.inl rfl) | (exact Or.inr rfl)
  · have ec : cStart x y a = (1, -1, a) := if_neg c1
    rw [ec]
    refine aM1_of kX5_placeStart rfl (fun B hB => ?_)
    have fin : ((1 : Int) = 0 → (some (.inl (-2)) : Option aV) = some (.inl (-1)) ∧ Sim z s a) ∧ ((1 : Int) ≠ 0 → (some (.inl (-2)) : Option aV) = some (.inl (cdA 1))) := ⟨fun e => absurd e (by decide), fun _ => rfl⟩
    refine hB [] 1000 _ _ _ _ _ ?_
    repeat' (first | exact ⟨rfl, fin, fS.rf s z⟩ | refine And.intro ?_ ?_ | (intro hh; first | exact absurd hh (by decide) | exact absurd rfl hh | (exfalso; omega) | skip) | refine Or.inl (uB (cK_isPoint ?_ ?_ ?_) ?_ ?_) | fail)
    all_goals first | omega | (exact rfl) | contradiction | (unfold aIR; omega)

theorem cK_changeTolerance {v : Int} (hd : 2 ≤ d) (h : Sim z s a) (hI : Inv0 a) (hv : aIR v) : sOp l g nX5_changeTolerance d s [.inr (.inr (.inl (1, s, 0))), .inl v] z (cSet 5 v 1 20 a) cdA := by
  unfold sOp aIR at *
  have cc := hI.1.1
  have e2 := h.2.2.1.1
  by_cases c1 : 1 ≤ v ∧ v ≤ 20
  · by_cases h2 : 0 < a 2
    · have ec : cSet 5 v 1 20 a = (2, -1, a) := (if_pos c1).trans (if_pos h2)
      rw [ec]
      refine aM1_of kX5_changeTolerance rfl (fun B hB => ?_)
      have fin : ((2 : Int) = 0 → (some (.inl (-3)) : Option aV) = some (.inl (-1)) ∧ Sim z s a) ∧ ((2 : Int) ≠ 0 → (some (.inl (-3)) : Option aV) = some (.inl (cdA 2))) := ⟨fun e => absurd e (by decide), fun _ => rfl⟩
      refine hB [] 1000 _ _ _ _ _ ?_
      repeat' (first | exact ⟨rfl, fin, fS.rf s z⟩ | refine And.intro ?_ ?_ | (intro hh; first | exact absurd hh (by decide) | exact absurd rfl hh | (exfalso; omega) | skip) | refine Or.inl (uB (cK_isWithin ?_ ?_ ?_) ?_ ?_) | fail)
      all_goals first | omega | (exact rfl) | contradiction | (unfold aIR; omega)
    · obtain ⟨n7, n2⟩ := Inv.no hI h2
      have ec : cSet 5 v 1 20 a = (0, (a 5), (ud a 5 v)) := (if_pos c1).trans (if_neg h2)
      rw [ec]
      have f4 : z (2, s, 0) 2 = a 5 := h.1.1.2.1.1
      have fs : Sim (aWr z (2, s, 0) 2 v) s (ud a 5 v) := by
        refine h.crs n2 (by rw [aWr_ne2 (pne (by show (1 : Nat) ≠ 2; decide))]) (by rw [ud_ne (by decide)]) (by rw [ud_ne (by decide)]) n7 (h.1.sc ?_ ?_ ?_ ?_ ?_ ?_ (fun j hj => by rw [ud_ne (by omega)]) (fun j => by rw [aWr_ne2 (pne (by show (3 : Nat) ≠ 2; decide))]))
        · rw [aWr_j (by decide), ud_ne (by decide)]; exact h.1.1.1.1
        · rw [aWr_j (by decide), ud_ne (by decide)]; exact h.1.1.1.2
        · rw [aWr_k, ud_at]
        · rw [aWr_j (by decide), ud_ne (by decide)]; exact h.1.1.2.1.2
        · rw [aWr_j (by decide)]
        · rw [aWr_j (by decide)]
      have fF : fS s z (aWr z (2, s, 0) 2 v) := (fS.rf s z).wr (by decide) (by decide)
      have fin : (((0 : Int) = 0 → (some (.inl (a 5)) : Option aV) = some (.inl (a 5)) ∧ Sim (aWr z (2, s, 0) 2 v) s (ud a 5 v)) ∧ ((0 : Int) ≠ 0 → (some (.inl (a 5)) : Option aV) = some (.inl (cdA 0)))) ∧ fS s z (aWr z (2, s, 0) 2 v) := ⟨⟨fun _ => ⟨rfl, fs⟩, fun e => absurd rfl e⟩, fF⟩
      have fin2 : (((0 : Int) = 0 → (some (.inl (z (2, s, 0) 2)) : Option aV) = some (.inl (a 5)) ∧ Sim (aWr z (2, s, 0) 2 v) s (ud a 5 v)) ∧ ((0 : Int) ≠ 0 → (some (.inl (z (2, s, 0) 2)) : Option aV) = some (.inl (cdA 0)))) ∧ fS s z (aWr z (2, s, 0) 2 v) := ⟨⟨fun _ => ⟨by rw [f4], fs⟩, fun e => absurd rfl e⟩, fF⟩
      clear fs fF
      refine aM1_of kX5_changeTolerance rfl (fun B hB => ?_)
      refine hB [] 1000 _ _ _ _ _ ?_
      repeat' (first | exact ⟨rfl, fin2⟩ | refine And.intro ?_ ?_ | (intro hh; first | exact absurd hh (by decide) | exact absurd rfl hh | (exfalso; omega) | skip) | refine Or.inl (uB (cK_isWithin ?_ ?_ ?_) ?_ ?_) | fail)
      all_goals first | omega | (exact rfl) | contradiction | (unfold aIR; omega) | (exact Or.inl rfl) | (exact Or.inr rfl)
  · have ec : cSet 5 v 1 20 a = (1, -1, a) := if_neg c1
    rw [ec]
    refine aM1_of kX5_changeTolerance rfl (fun B hB => ?_)
    have fin : ((1 : Int) = 0 → (some (.inl (-2)) : Option aV) = some (.inl (-1)) ∧ Sim z s a) ∧ ((1 : Int) ≠ 0 → (some (.inl (-2)) : Option aV) = some (.inl (cdA 1))) := ⟨fun e => absurd e (by decide), fun _ => rfl⟩
    refine hB [] 1000 _ _ _ _ _ ?_
    repeat' (first | exact ⟨rfl, fin, fS.rf s z⟩ | refine And.intro ?_ ?_ | (intro hh; first | exact absurd hh (by decide) | exact absurd rfl hh | (exfalso; omega) | skip) | refine Or.inl (uB (cK_isWithin ?_ ?_ ?_) ?_ ?_) | fail)
    all_goals first | omega | (exact rfl) | contradiction | (unfold aIR; omega)

theorem cK_changeTimeLimit {v : Int} (hd : 2 ≤ d) (h : Sim z s a) (hI : Inv0 a) (hv : aIR v) : sOp l g nX5_changeTimeLimit d s [.inr (.inr (.inl (1, s, 0))), .inl v] z (cSet 6 v 60 999 a) cdA := by
  unfold sOp aIR at *
  have cc := hI.1.1
  have e2 := h.2.2.1.1
  by_cases c1 : 60 ≤ v ∧ v ≤ 999
  · by_cases h2 : 0 < a 2
    · have ec : cSet 6 v 60 999 a = (2, -1, a) := (if_pos c1).trans (if_pos h2)
      rw [ec]
      refine aM1_of kX5_changeTimeLimit rfl (fun B hB => ?_)
      have fin : ((2 : Int) = 0 → (some (.inl (-3)) : Option aV) = some (.inl (-1)) ∧ Sim z s a) ∧ ((2 : Int) ≠ 0 → (some (.inl (-3)) : Option aV) = some (.inl (cdA 2))) := ⟨fun e => absurd e (by decide), fun _ => rfl⟩
      refine hB [] 1000 _ _ _ _ _ ?_
      repeat' (first | exact ⟨rfl, fin, fS.rf s z⟩ | refine And.intro ?_ ?_ | (intro hh; first | exact absurd hh (by decide) | exact absurd rfl hh | (exfalso; omega) | skip) | refine Or.inl (uB (cK_isWithin ?_ ?_ ?_) ?_ ?_) | fail)
      all_goals first | omega | (exact rfl) | contradiction | (unfold aIR; omega)
    · obtain ⟨n7, n2⟩ := Inv.no hI h2
      have ec : cSet 6 v 60 999 a = (0, (a 6), (ud a 6 v)) := (if_pos c1).trans (if_neg h2)
      rw [ec]
      have f4 : z (2, s, 0) 3 = a 6 := h.1.1.2.1.2
      have fs : Sim (aWr z (2, s, 0) 3 v) s (ud a 6 v) := by
        refine h.crs n2 (by rw [aWr_ne2 (pne (by show (1 : Nat) ≠ 2; decide))]) (by rw [ud_ne (by decide)]) (by rw [ud_ne (by decide)]) n7 (h.1.sc ?_ ?_ ?_ ?_ ?_ ?_ (fun j hj => by rw [ud_ne (by omega)]) (fun j => by rw [aWr_ne2 (pne (by show (3 : Nat) ≠ 2; decide))]))
        · rw [aWr_j (by decide), ud_ne (by decide)]; exact h.1.1.1.1
        · rw [aWr_j (by decide), ud_ne (by decide)]; exact h.1.1.1.2
        · rw [aWr_j (by decide), ud_ne (by decide)]; exact h.1.1.2.1.1
        · rw [aWr_k, ud_at]
        · rw [aWr_j (by decide)]
        · rw [aWr_j (by decide)]
      have fF : fS s z (aWr z (2, s, 0) 3 v) := (fS.rf s z).wr (by decide) (by decide)
      have fin : (((0 : Int) = 0 → (some (.inl (a 6)) : Option aV) = some (.inl (a 6)) ∧ Sim (aWr z (2, s, 0) 3 v) s (ud a 6 v)) ∧ ((0 : Int) ≠ 0 → (some (.inl (a 6)) : Option aV) = some (.inl (cdA 0)))) ∧ fS s z (aWr z (2, s, 0) 3 v) := ⟨⟨fun _ => ⟨rfl, fs⟩, fun e => absurd rfl e⟩, fF⟩
      have fin2 : (((0 : Int) = 0 → (some (.inl (z (2, s, 0) 3)) : Option aV) = some (.inl (a 6)) ∧ Sim (aWr z (2, s, 0) 3 v) s (ud a 6 v)) ∧ ((0 : Int) ≠ 0 → (some (.inl (z (2, s, 0) 3)) : Option aV) = some (.inl (cdA 0)))) ∧ fS s z (aWr z (2, s, 0) 3 v) := ⟨⟨fun _ => ⟨by rw [f4], fs⟩, fun e => absurd rfl e⟩, fF⟩
      clear fs fF
      refine aM1_of kX5_changeTimeLimit rfl (fun B hB => ?_)
      refine hB [] 1000 _ _ _ _ _ ?_
      repeat' (first | exact ⟨rfl, fin2⟩ | refine And.intro ?_ ?_ | (intro hh; first | exact absurd hh (by decide) | exact absurd rfl hh | (exfalso; omega) | skip) | refine Or.inl (uB (cK_isWithin ?_ ?_ ?_) ?_ ?_) | fail)
      all_goals first | omega | (exact rfl) | contradiction | (unfold aIR; omega) | (exact Or.inl rfl) | (exact Or.inr rfl)
  · have ec : cSet 6 v 60 999 a = (1, -1, a) := if_neg c1
    rw [ec]
    refine aM1_of kX5_changeTimeLimit rfl (fun B hB => ?_)
    have fin : ((1 : Int) = 0 → (some (.inl (-2)) : Option aV) = some (.inl (-1)) ∧ Sim z s a) ∧ ((1 : Int) ≠ 0 → (some (.inl (-2)) : Option aV) = some (.inl (cdA 1))) := ⟨fun e => absurd e (by decide), fun _ => rfl⟩
    refine hB [] 1000 _ _ _ _ _ ?_
    repeat' (first | exact ⟨rfl, fin, fS.rf s z⟩ | refine And.intro ?_ ?_ | (intro hh; first | exact absurd hh (by decide) | exact absurd rfl hh | (exfalso; omega) | skip) | refine Or.inl (uB (cK_isWithin ?_ ?_ ?_) ?_ ?_) | fail)
    all_goals first | omega | (exact rfl) | contradiction | (unfold aIR; omega)

end K5
