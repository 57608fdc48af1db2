/-! THE CLASS: the commands of a state (printed by wip/whole/cls4.py) -/
theorem Sim.ps {z : aM} {s r : Int} {a a' f : Int → Int} (h : Sim z s a) (hI : InvC a) (r0 : 0 ≤ r) (r1 : r < a 2) (ha : ∀ j, ¬ (59 + 13 * r + 7 ≤ j ∧ j < 59 + 13 * r + 13) → a' j = a j) (hf : ∀ k, 0 ≤ k → k < a 0 → f k = a' (59 + 13 * r + 7 + k)) : Sim (pS z (6, s, r) f) s a' := by
  have cc := hI.1
  obtain ⟨⟨⟨h1, h2⟩, h3, h4⟩, ⟨⟨h5, h7⟩, h8, h9⟩, h10⟩ := h.2.1 r r0 r1
  refine h.blk hI r0 (fun q q5 q6 => pS_ne q6) (fun i hi => ha i (by omega)) ?_
  have e5 : pS z (6, s, r) f (5, s, r) = z (5, s, r) := pS_ne (pne (by show (5 : Nat) ≠ 6; decide))
  unfold SimR
  rw [e5, pS_at, ha 0 (by omega), ha (59 + 13 * r) (by omega), ha (59 + 13 * r + 1) (by omega), ha (59 + 13 * r + 2) (by omega), ha (59 + 13 * r + 3) (by omega), ha (59 + 13 * r + 4) (by omega), ha (59 + 13 * r + 5) (by omega), ha (59 + 13 * r + 6) (by omega)]
  exact ⟨⟨⟨h1, h2⟩, h3, h4⟩, ⟨⟨h5, h7⟩, h8, h9⟩, hf⟩
theorem Sim.lo {z : aM} {s : Int} {a : Int → Int} {leg p j w : Int} (h : Sim z s a) (hI : Inv0 a) (n7 : a 7 ≠ -1) (l0 : 0 ≤ leg) (l1 : leg < a 0) (hj : (j = 5 ∧ w = 2) ∨ (j = 6 ∧ w = 3) ∨ (j = 7 ∧ w = 4) ∨ (j = 8 ∧ w = 5)) : Sim (aWr (aWr z (6, s, a 7) leg (a (59 + 13 * a 7 + 7 + leg) - sLo a leg p)) (5, s, a 7) j (a (59 + 13 * a 7 + w) + sLo a leg p)) s (sLoA a leg p w) := by
  have gg := hI.go n7
  have cc := hI.1.1
  have q1 := h.f6 hI.1 (r := a 7) (k := leg) (v := a (59 + 13 * a 7 + 7 + leg) - sLo a leg p) (by omega) (by omega) l0 l1
  have q1I : InvC (ud a (59 + 13 * a 7 + 7 + leg) (a (59 + 13 * a 7 + 7 + leg) - sLo a leg p)) := hI.1.cg (fun j j0 j1 _ => ud_ne (by omega))
  have q2 := q1.f5 q1I (r := a 7) (j := j) (w := w) (v := a (59 + 13 * a 7 + w) + sLo a leg p) (by omega) (by rw [ud_ne (by omega)]; omega) (by omega)
  have eA : sLoA a leg p w = ud (ud a (59 + 13 * a 7 + 7 + leg) (a (59 + 13 * a 7 + 7 + leg) - sLo a leg p)) (59 + 13 * a 7 + w) (a (59 + 13 * a 7 + w) + sLo a leg p) := by
    unfold sLoA; dsimp only; rw [ud_ne (by omega)]
  rw [eA]
  exact q2
/-- the course is changed, before the first run -/
theorem Sim.crs {z z' : aM} {s : Int} {a a' : Int → Int} (h : Sim z s a) (h2 : a 2 = 0) (hz : z' (1, s, 0) = z (1, s, 0)) (e2 : a' 2 = a 2) (e7 : a' 7 = a 7) (n7 : a 7 = -1) (hc : SimC z' s a') : Sim z' s a' := by
  refine ⟨hc, fun r r0 r1 => by omega, ?_⟩
  obtain ⟨⟨h1, h3⟩, h4⟩ := h.2.2
  unfold SimS
  rw [hz, e2, e7]
  exact ⟨⟨h1, h3⟩, fun n => absurd n7 n⟩
def cdA (t : Int) : Int := -1 - t
def cdG (t : Int) : Int := -t
def cdR (t : Int) : Int := -2 - t
def sOp (l : Launch) (g : aG) (y d : Nat) (s : Int) (as : List aV) (z : aM) (c : aCmd) (code : Int → Int) : Prop := aM1 l g y d as z (fun r z' => ((c.1 = 0 → r = some (.inl c.2.1) ∧ Sim z' s c.2.2) ∧ (c.1 ≠ 0 → r = some (.inl (code c.1)))) ∧ fS s z z')
section K4
variable {l : Launch} {g : aG} {d : Nat} {z : aM} {s r : Int} {a : Int → Int}
theorem sCL_z (a7 : 0 ≤ a 7) (a8 : 0 ≤ a 8) (hP : 0 ≤ a (59 + 13 * a 7 + 7 + a 8)) (h1 : a 1 ≤ 6) (h0 : 0 ≤ a 1) : sCL a = (min (5 * sOc a (a 1).toNat 0 0) (a (59 + 13 * a 7 + 7 + a 8)), sNx (sGv a (min (5 * sOc a (a 1).toNat 0 0) (a (59 + 13 * a 7 + 7 + a 8))))) := by
  have e := sCm_z a7 a8 hP (a 1).toNat 0 0 0 (by omega) (by omega) (by omega)
  have m0 : min (5 * 0) (a (59 + 13 * a 7 + 7 + a 8)) = 0 := by omega
  have g0 : sGv a 0 = a := by
    unfold sGv
    funext j
    unfold ud
    by_cases q : j = 59 + 13 * a 7 + 3
    · rw [if_pos q, q]; omega
    · rw [if_neg q]
      by_cases q2 : j = 59 + 13 * a 7 + 7 + a 8
      · rw [if_pos q2, q2]; omega
      · rw [if_neg q2]
  rw [m0, g0] at e
  unfold sCL
  rw [e]
  refine Prod.ext (by show 0 - 0 + _ = _; omega) rfl

theorem cK_completeLeg (hd : 3 ≤ d) (h : Sim z s a) (hI : Inv0 a) (n7 : a 7 ≠ -1) : aM1 l g nX5_completeLeg d [.inr (.inr (.inl (1, s, 0))), .inr (.inr (.inl (5, s, a 7)))] z (fun r' z' => r' = some (.inl (sCL a).1) ∧ Sim z' s (sCL a).2 ∧ fS s z z') := by
  have gg := hI.go n7
  have cc := hI.1.1
  obtain ⟨⟨g3, g4, g5, g6⟩, hR⟩ := h.go hI n7
  have e8 := h.1.1.2.2.2
  have eb := hR.1.2.2
  have ok := (hI.ok n7).1.2.2
  have e7 : a 7 = a 2 - 1 := gg.1.1
  have co := cK_countOpenGates (l := l) (g := g) (d := d - 1) (by omega) h hI n7
  have pt := hI.pts (r := a 7) (leg := a 8) (by omega) (by omega) gg.2.1.1 gg.2.1.2
  have e6 : z (6, s, a 7) (a 8) = a (59 + 13 * a 7 + 7 + a 8) := hR.2.2 _ gg.2.1.1 gg.2.1.2
  have eL : z (5, s, a 7) 6 = a (59 + 13 * a 7 + 3) := hR.2.1.1.2
  have cl := sCL_z (a := a) (by omega) gg.2.1.1 pt.1 (by omega) (by omega)
  have ob := sOc_B (a := a) (a 1).toNat 0 0
  obtain ⟨oc, eoc⟩ : ∃ oc, oc = sOc a (a 1).toNat 0 0 := ⟨_, rfl⟩
  rw [← eoc] at co cl ob
  obtain ⟨P, eP⟩ : ∃ P, P = a (59 + 13 * a 7 + 7 + a 8) := ⟨_, rfl⟩
  rw [← eP] at cl pt e6
  obtain ⟨v, ev⟩ : ∃ v, v = min (5 * oc) P := ⟨_, rfl⟩
  rw [← ev] at cl
  have dd := cK_deduct (l := l) (g := g) (d := d - 1) (z := z) (s := s) (r := a 7) (k := a 8) (p := 5 * oc) (by omega) gg.2.1.1 (by omega) (by unfold aIR; omega) (by omega) (by omega)
  rw [e6, ← ev, ← g4] at dd
  have q1 := h.f6 hI.1 (r := a 7) (k := a 8) (v := P - v) (by omega) (by omega) gg.2.1.1 gg.2.1.2
  have q1I : InvC (ud a (59 + 13 * a 7 + 7 + a 8) (P - v)) := hI.1.cg (fun j j0 j1 _ => ud_ne (by omega))
  have q2 := q1.f5 q1I (r := a 7) (j := 6) (w := 3) (v := a (59 + 13 * a 7 + 3) + v) (by omega) (by rw [ud_ne (by omega)]; omega) (by omega)
  have eb' : ud (ud a (59 + 13 * a 7 + 7 + a 8) (P - v)) (59 + 13 * a 7 + 3) (a (59 + 13 * a 7 + 3) + v) = sGv a v := by unfold sGv; rw [eP]
  rw [eb', ← g4] at q2
  have b7 : sGv a v 7 = a 7 := sGv_o (by omega) (by omega)
  have b8 : sGv a v 8 = a 8 := sGv_o (by omega) (by omega)
  have b0 : sGv a v 0 = a 0 := sGv_o (by omega) (by omega)
  have b2 : sGv a v 2 = a 2 := sGv_o (by omega) (by omega)
  obtain ⟨b, ebb⟩ : ∃ b, b = sGv a v := ⟨_, rfl⟩
  have bI : InvC b := by rw [ebb]; exact hI.1.cg (fun j j0 j1 _ => sGv_o (by omega) (by omega))
  rw [← ebb] at q2 cl b7 b8 b0 b2
  have el0 : aWr z (6, s, a 7) (z (1, s, 0) 4) (P - v) (5, s, a 7) 6 = a (59 + 13 * a 7 + 3) := by rw [aWr_ne2 (pne (by show (5 : Nat) ≠ 6; decide))]; exact eL
  obtain ⟨y, ey⟩ : ∃ y, y = aWr (aWr z (6, s, a 7) (z (1, s, 0) 4) (P - v)) (5, s, a 7) 6 (a (59 + 13 * a 7 + 3) + v) := ⟨_, rfl⟩
  have yF : fS s z y := by rw [ey]; exact ((fS.rf s z).wr (by decide) (by decide)).wr (by decide) (by decide)
  rw [← ey] at q2
  have y1 : y (1, s, 0) = z (1, s, 0) := by rw [ey, aWr_ne2 (pne (by show (1 : Nat) ≠ 5; decide)), aWr_ne2 (pne (by show (1 : Nat) ≠ 6; decide))]
  have y2 : y (2, s, 0) = z (2, s, 0) := by rw [ey, aWr_ne2 (pne (by show (2 : Nat) ≠ 5; decide)), aWr_ne2 (pne (by show (2 : Nat) ≠ 6; decide))]
  have y14 : y (1, s, 0) 4 = a 8 := by rw [y1]; exact g4
  have y24 : y (2, s, 0) 4 = a 0 := by rw [y2]; exact h.1.1.2.2.1
  rw [cl]
  refine aM1_of kX5_completeLeg rfl (fun B hB => ?_)
  have tail : B (none, 0, 0) y 26 [some (.inr (.inr (.inl (1, s, 0)))), some (.inr (.inr (.inl (5, s, a 7)))), some (.inl v)] [] := by
    by_cases q : a 8 = a 0 - 1
    · have eN : sNx b = ud (sEnds b) (59 + 13 * a 7 + 0) 1 := by
        unfold sNx
        rw [if_pos (by omega), b7, Int.add_zero]
        unfold sEnds
        rw [ud_sw (i := 10) (j := 59 + 13 * a 7) (by omega), ud_sw (i := 9) (j := 59 + 13 * a 7) (by omega), ud_sw (i := 8) (j := 59 + 13 * a 7) (by omega), ud_sw (i := 7) (j := 59 + 13 * a 7) (by omega)]
      have eE := sEnds_e b
      have f1 := (q2.en bI).f5 (bI.cg (fun j j0 j1 hj => eE.1 j hj)) (r := a 7) (j := 1) (w := 0) (v := 1) (by omega) (by rw [eE.1 2 (by omega)]; omega) (by omega)
      rw [← eN] at f1
      have fin : (some (.inl v) : Option aV) = some (.inl v) ∧ Sim (aWr (aWr y (1, s, 0) 3 0) (5, s, a 7) 1 1) s (sNx b) ∧ fS s z (aWr (aWr y (1, s, 0) 3 0) (5, s, a 7) 1 1) := ⟨rfl, f1, (yF.wr (by decide) (by decide)).wr (by decide) (by decide)⟩
      refine hB [] 1000 _ _ _ _ _ ?_
      repeat' (first | exact ⟨rfl, fin⟩ | refine And.intro ?_ ?_ | (intro hh; first | exact absurd hh (by decide) | exact absurd rfl hh | (exfalso; omega) | skip) | fail)
      all_goals first | omega | (exact rfl) | (exact Or.inl rfl) | (exact Or.inr rfl)
    · have eN : sNx b = ud b 8 (a 8 + 1) := by
        unfold sNx
        rw [if_neg (by omega), b8]
      have f1 := q2.s4 bI (v := a 8 + 1) (by omega)
      rw [← eN] at f1
      have fin : (some (.inl v) : Option aV) = some (.inl v) ∧ Sim (aWr y (1, s, 0) 4 (y (1, s, 0) 4 + 1)) s (sNx b) ∧ fS s z (aWr y (1, s, 0) 4 (y (1, s, 0) 4 + 1)) := ⟨rfl, by rw [y14]; exact f1, yF.wr (by decide) (by decide)⟩
      refine hB [] 1000 _ _ _ _ _ ?_
      repeat' (first | exact ⟨rfl, fin⟩ | refine And.intro ?_ ?_ | (intro hh; first | exact absurd hh (by decide) | exact absurd rfl hh | (exfalso; omega) | skip) | fail)
      all_goals first | omega | (exact rfl) | (exact Or.inl rfl) | (exact Or.inr rfl)
  refine hB [26] 1000 _ _ _ _ _ ?_
  repeat' (first | refine And.intro ?_ ?_ | (intro hh; first | exact absurd hh (by decide) | exact absurd rfl hh | (exfalso; omega) | skip) | refine Or.inl (uE co ?_) | refine Or.inl (uE dd ?_) | fail)
  all_goals first | omega | (exact rfl) | skip
  show B (none, 0, 0) (aWr (aWr z (6, s, a 7) (z (1, s, 0) 4) (P - v)) (5, s, a 7) 6 (aWr z (6, s, a 7) (z (1, s, 0) 4) (P - v) (5, s, a 7) 6 + v)) 26 _ _
  rw [el0, ← ey]
  exact tail

theorem Sim.rest {j w : Int} (h : Sim z s a) (hI : Inv0 a) (n7 : a 7 ≠ -1) (hj : (j = 7 ∧ w = 4) ∨ (j = 8 ∧ w = 5)) : (sRest w a).1 = sN (fun i => z (6, s, a 7) (a 8 + i)) (a 0 - a 8).toNat ∧ Sim (aWr (pS z (6, s, a 7) (zPs (z (6, s, a 7)) (a 8) (a 0 - a 8).toNat)) (5, s, a 7) j (a (59 + 13 * a 7 + w) + (sRest w a).1)) s (sRest w a).2 := by
  have gg := hI.go n7
  have cc := hI.1.1
  obtain ⟨-, hR⟩ := h.go hI n7
  have e := sRe_z (w := w) (by omega) (by omega) (a 0 - a 8).toNat a (a 8) 0 gg.2.1.1 (by omega) (fun i i0 i1 => hI.pts (r := a 7) (by omega) (by omega) (by omega) (by omega))
  have eS : sN (fun i => z (6, s, a 7) (a 8 + i)) (a 0 - a 8).toNat = sN (fun i => a (59 + 13 * a 7 + 7 + (a 8 + i))) (a 0 - a 8).toNat := sN_cgZ _ (fun k k0 k1 => hR.2.2 _ (by omega) (by omega))
  obtain ⟨S, eSS⟩ : ∃ S, S = sN (fun i => a (59 + 13 * a 7 + 7 + (a 8 + i))) (a 0 - a 8).toNat := ⟨_, rfl⟩
  rw [← eSS] at e eS
  have e' : sRest w a = (0 + S, sZ a w (a 8) (a 0 - a 8).toNat S) := e
  rw [e']
  refine ⟨by show 0 + S = _; rw [eS]; omega, ?_⟩
  obtain ⟨a1, ea1⟩ : ∃ a1 : Int → Int, a1 = fun j => if 59 + 13 * a 7 + 7 + a 8 ≤ j ∧ j < 59 + 13 * a 7 + 7 + a 0 then 0 else a j := ⟨_, rfl⟩
  have q1 : Sim (pS z (6, s, a 7) (zPs (z (6, s, a 7)) (a 8) (a 0 - a 8).toNat)) s a1 := by
    refine h.ps hI.1 (by omega) (by omega) (fun j hj => by rw [ea1]; exact if_neg (by omega)) (fun k k0 k1 => ?_)
    rw [ea1]
    unfold zPs
    dsimp only
    by_cases q : a 8 ≤ k
    · rw [if_pos (by omega), if_pos (by omega)]
    · rw [if_neg (by omega), if_neg (by omega)]
      exact hR.2.2 k k0 k1
  have a1I : InvC a1 := hI.1.cg (fun j j0 j1 _ => by rw [ea1]; exact if_neg (by omega))
  have a12 : a1 2 = a 2 := by rw [ea1]; exact if_neg (by omega)
  have q2 := q1.f5 a1I (r := a 7) (j := j) (w := w) (v := a (59 + 13 * a 7 + w) + (0 + S)) (by omega) (by omega) (by omega)
  have eZ : ud a1 (59 + 13 * a 7 + w) (a (59 + 13 * a 7 + w) + (0 + S)) = sZ a w (a 8) (a 0 - a 8).toNat S := by
    funext i
    rw [ea1]
    unfold ud sZ
    dsimp only
    by_cases h1 : i = 59 + 13 * a 7 + w
    · rw [if_pos h1, if_neg (by omega), if_pos h1, h1]; omega
    · rw [if_neg h1]
      by_cases h2 : 59 + 13 * a 7 + 7 + a 8 ≤ i ∧ i < 59 + 13 * a 7 + 7 + a 0
      · rw [if_pos h2, if_pos (by omega)]
      · rw [if_neg h2, if_neg (by omega), if_neg h1]
  rw [eZ] at q2
  exact q2
theorem cK_endOverTime (hd : 3 ≤ d) (h : Sim z s a) (hI : Inv0 a) (n7 : a 7 ≠ -1) : aM1 l g nX5_endOverTime d [.inr (.inr (.inl (1, s, 0))), .inr (.inr (.inl (5, s, a 7)))] z (fun r' z' => r' = some (.inl (sRest 5 a).1) ∧ Sim z' s (sEnds (sRest 5 a).2) ∧ fS s z z') := by
  have gg := hI.go n7
  have cc := hI.1.1
  obtain ⟨⟨g3, g4, g5, g6⟩, hR⟩ := h.go hI n7
  have e8 := h.1.1.2.2.2
  have eb := hR.1.2.2
  have ok := (hI.ok n7).1.2.2
  have e7 : a 7 = a 2 - 1 := gg.1.1
  have rs := h.rest hI n7 (j := 8) (w := 5) (by omega)
  have ri := sRest_I (w := 5) hI n7 (by omega) (by omega)
  have eL : z (5, s, a 7) 2 = a 0 := hR.1.2.1
  have df := cK_deductFrom (l := l) (g := g) (d := d - 1) (z := z) (s := s) (r := a 7) (k := a 8) (by omega) (by omega) (by omega) gg.2.1.1 (fun i i0 i1 => by rw [hR.2.2 i i0 (by omega)]; exact hI.pts (r := a 7) (by omega) (by omega) i0 (by omega))
  rw [eL, ← rs.1] at df
  obtain ⟨y, ey⟩ : ∃ y, y = pS z (6, s, a 7) (zPs (z (6, s, a 7)) (a 8) (a 0 - a 8).toNat) := ⟨_, rfl⟩
  have y8 : y (5, s, a 7) 8 = a (59 + 13 * a 7 + 5) := by rw [ey, pS_ne (pne (by show (5 : Nat) ≠ 6; decide))]; exact hR.2.1.2.2
  have yF : fS s z y := fun q hq => by rw [ey]; exact pS_ne (fun e => hq (by rw [e]; exact ⟨⟨by show 1 ≤ 6; decide, by show 6 ≤ 6; decide⟩, rfl⟩))
  have f2 := rs.2.en ri.1.1
  rw [← ey] at df f2
  rw [← y8] at f2
  have fin : (some (.inl (sRest 5 a).1) : Option aV) = some (.inl (sRest 5 a).1) ∧ Sim (aWr (aWr y (5, s, a 7) 8 (y (5, s, a 7) 8 + (sRest 5 a).1)) (1, s, 0) 3 0) s (sEnds (sRest 5 a).2) ∧ fS s z (aWr (aWr y (5, s, a 7) 8 (y (5, s, a 7) 8 + (sRest 5 a).1)) (1, s, 0) 3 0) := ⟨rfl, f2, (yF.wr (by decide) (by decide)).wr (by decide) (by decide)⟩
  rw [← g4] at df
  clear ey
  refine aM1_of kX5_endOverTime rfl (fun B hB => ?_)
  refine hB [] 1000 _ _ _ _ _ ?_
  repeat' (first | exact ⟨rfl, fin⟩ | refine And.intro ?_ ?_ | (intro hh; first | exact absurd hh (by decide) | exact absurd rfl hh | (exfalso; omega) | skip) | refine Or.inl (uE df ?_) | fail)
  all_goals first | omega | (exact rfl) | (exact Or.inl rfl) | (exact Or.inr rfl)
theorem cK_giveUpRun (hd : 3 ≤ d) (h : Sim z s a) (hI : Inv0 a) : sOp l g nX5_giveUpRun d s [.inr (.inr (.inl (1, s, 0)))] z (cRetire a) cdR := by
  unfold sOp
  by_cases n7 : a 7 = -1
  · have e3 : z (1, s, 0) 3 = 0 := by rw [h.2.2.1.2, if_pos n7]
    have ec : cRetire a = (1, -1, a) := if_pos n7
    rw [ec]
    refine aM1_of kX5_giveUpRun rfl (fun B hB => ?_)
    have fin : ((1 : Int) = 0 → (some (.inl (-3)) : Option aV) = some (.inl (-1)) ∧ Sim z s a) ∧ ((1 : Int) ≠ 0 → (some (.inl (-3)) : Option aV) = some (.inl (cdR 1))) := ⟨fun e => absurd e (by decide), fun _ => rfl⟩
    refine hB [] 1000 _ _ _ _ _ ?_
    repeat' (first | exact ⟨rfl, fin, fS.rf s z⟩ | refine And.intro ?_ ?_ | (intro hh; first | exact absurd hh (by decide) | exact absurd rfl hh | (exfalso; omega) | skip) | fail)
    all_goals first | omega | (exact rfl)
  · have ec : cRetire a = (0, (sRest 4 a).1, sEnds (sRest 4 a).2) := if_neg n7
    rw [ec]
    have gg := hI.go n7
    have cc := hI.1.1
    obtain ⟨⟨g3, g4, g5, g6⟩, hR⟩ := h.go hI n7
    have e8 := h.1.1.2.2.2
    have eb := hR.1.2.2
    have ok := (hI.ok n7).1.2.2
    have e7 : a 7 = a 2 - 1 := gg.1.1
    have rg := cK_runGoingOn (l := l) (g := g) (d := d - 1) (by omega) h hI.1 gg.1.2
    rw [← e7] at rg
    have rs := h.rest hI n7 (j := 7) (w := 4) (by omega)
    have ri := sRest_I (w := 4) hI n7 (by omega) (by omega)
    have eL : z (5, s, a 7) 2 = a 0 := hR.1.2.1
    have df := cK_deductFrom (l := l) (g := g) (d := d - 1) (z := z) (s := s) (r := a 7) (k := a 8) (by omega) (by omega) (by omega) gg.2.1.1 (fun i i0 i1 => by rw [hR.2.2 i i0 (by omega)]; exact hI.pts (r := a 7) (by omega) (by omega) i0 (by omega))
    rw [eL, ← rs.1] at df
    obtain ⟨y, ey⟩ : ∃ y, y = pS z (6, s, a 7) (zPs (z (6, s, a 7)) (a 8) (a 0 - a 8).toNat) := ⟨_, rfl⟩
    have y8 : y (5, s, a 7) 7 = a (59 + 13 * a 7 + 4) := by rw [ey, pS_ne (pne (by show (5 : Nat) ≠ 6; decide))]; exact hR.2.1.2.1
    have yF : fS s z y := fun q hq => by rw [ey]; exact pS_ne (fun e => hq (by rw [e]; exact ⟨⟨by show 1 ≤ 6; decide, by show 6 ≤ 6; decide⟩, rfl⟩))
    have f2 := rs.2.en ri.1.1
    rw [← ey] at df f2
    rw [← y8] at f2
    have fin : (((0 : Int) = 0 → (some (.inl (sRest 4 a).1) : Option aV) = some (.inl (sRest 4 a).1) ∧ Sim (aWr (aWr y (5, s, a 7) 7 (y (5, s, a 7) 7 + (sRest 4 a).1)) (1, s, 0) 3 0) s (sEnds (sRest 4 a).2)) ∧ ((0 : Int) ≠ 0 → (some (.inl (sRest 4 a).1) : Option aV) = some (.inl (cdR 0)))) ∧ fS s z (aWr (aWr y (5, s, a 7) 7 (y (5, s, a 7) 7 + (sRest 4 a).1)) (1, s, 0) 3 0) := ⟨⟨fun _ => ⟨rfl, f2⟩, fun e => absurd rfl e⟩, (yF.wr (by decide) (by decide)).wr (by decide) (by decide)⟩
    rw [← g4] at df
    clear ey
    refine aM1_of kX5_giveUpRun rfl (fun B hB => ?_)
    refine hB [] 1000 _ _ _ _ _ ?_
    repeat' (first | exact ⟨rfl, fin⟩ | refine And.intro ?_ ?_ | (intro hh; first | exact absurd hh (by decide) | exact absurd rfl hh | (exfalso; omega) | skip) | refine Or.inl (uEp rg ?_) | refine Or.inl (uE df ?_) | fail)
    all_goals first | omega | (exact rfl) | (exact Or.inl rfl) | (exact Or.inr rfl)

theorem cK_deductFault {p : Int} (hd : 3 ≤ d) (h : Sim z s a) (hI : Inv0 a) (hp : aIR p) : sOp l g nX5_deductFault d s [.inr (.inr (.inl (1, s, 0))), .inl p] z (cFault p a) cdA := by
  unfold sOp aIR at *
  have e3 := h.2.2.1.2
  by_cases c1 : 1 ≤ p ∧ p ≤ 9
  · by_cases n7 : a 7 = -1
    · rw [if_pos n7] at e3
      have ec : cFault p a = (2, -1, a) := (if_pos c1).trans (if_pos n7)
      rw [ec]
      refine aM1_of kX5_deductFault rfl (fun B hB => ?_)
      have fin : ((2 : Int) = 0 → (some (.inl (-3)) : Option aV) = some (.inl (-1)) ∧ Sim z s a) ∧ ((2 : Int) ≠ 0 → (some (.inl (-3)) : Option aV) = some (.inl (cdA 2))) := ⟨fun e => absurd e (by decide), fun _ => rfl⟩
      refine hB [] 1000 _ _ _ _ _ ?_
      repeat' (first | exact ⟨rfl, fin, fS.rf s z⟩ | refine And.intro ?_ ?_ | (intro hh; first | exact absurd hh (by decide) | exact absurd rfl hh | (exfalso; omega) | skip) | refine Or.inl (uB (cK_isWithin ?_ ?_ ?_) ?_ ?_) | fail)
      all_goals first | omega | (exact rfl) | contradiction | (unfold aIR; omega)
    · rw [if_neg n7] at e3
      have ec : cFault p a = (0, sLo a (a 8) p, sLoA a (a 8) p 4) := (if_pos c1).trans (if_neg n7)
      rw [ec]
      have gg := hI.go n7
      have cc := hI.1.1
      obtain ⟨⟨g3, g4, g5, g6⟩, hR⟩ := h.go hI n7
      have e8 := h.1.1.2.2.2
      have eb := hR.1.2.2
      have ok := (hI.ok n7).1.2.2
      have e7 : a 7 = a 2 - 1 := gg.1.1
      have rg := cK_runGoingOn (l := l) (g := g) (d := d - 1) (by omega) h hI.1 gg.1.2
      rw [← e7] at rg
      have pt := hI.pts (r := a 7) (leg := a 8) (by omega) (by omega) gg.2.1.1 gg.2.1.2
      have e6 : z (6, s, a 7) (a 8) = a (59 + 13 * a 7 + 7 + a 8) := hR.2.2 _ gg.2.1.1 gg.2.1.2
      have dd := cK_deduct (l := l) (g := g) (d := d - 1) (z := z) (s := s) (r := a 7) (k := a 8) (p := p) (by omega) gg.2.1.1 (by omega) (by unfold aIR; omega) (by omega) (by omega)
      rw [e6, show min p (a (59 + 13 * a 7 + 7 + a 8)) = sLo a (a 8) p from rfl] at dd
      have fs := h.lo hI n7 (leg := a 8) (p := p) (j := 7) (w := 4) gg.2.1.1 gg.2.1.2 (by omega)
      obtain ⟨y, ey⟩ : ∃ y, y = aWr z (6, s, a 7) (a 8) (a (59 + 13 * a 7 + 7 + a 8) - sLo a (a 8) p) := ⟨_, rfl⟩
      have y7 : y (5, s, a 7) 7 = a (59 + 13 * a 7 + 4) := by rw [ey, aWr_ne2 (pne (by show (5 : Nat) ≠ 6; decide))]; exact hR.2.1.2.1
      have yF : fS s z y := by rw [ey]; exact (fS.rf s z).wr (by decide) (by decide)
      rw [← ey] at dd fs
      rw [← y7] at fs
      have fF : fS s z (aWr y (5, s, a 7) 7 (y (5, s, a 7) 7 + sLo a (a 8) p)) := yF.wr (by decide) (by decide)
      have fin : (((0 : Int) = 0 → (some (.inl (sLo a (a 8) p)) : Option aV) = some (.inl (sLo a (a 8) p)) ∧ Sim (aWr y (5, s, a 7) 7 (y (5, s, a 7) 7 + sLo a (a 8) p)) s (sLoA a (a 8) p 4)) ∧ ((0 : Int) ≠ 0 → (some (.inl (sLo a (a 8) p)) : Option aV) = some (.inl (cdA 0)))) ∧ fS s z (aWr y (5, s, a 7) 7 (y (5, s, a 7) 7 + sLo a (a 8) p)) := ⟨⟨fun _ => ⟨rfl, fs⟩, fun e => absurd rfl e⟩, fF⟩
      have dd' : aE1 l g nX4_deduct (d - 1) [.inr (.inr (.inl (5, s, a 7))), .inl (z (1, s, 0) 4), .inl p] z (sLo a (a 8) p) y := by rw [g4]; exact dd
      clear ey fs fF
      refine aM1_of kX5_deductFault rfl (fun B hB => ?_)
      refine hB [] 1000 _ _ _ _ _ ?_
      repeat' (first | exact ⟨rfl, fin⟩ | refine And.intro ?_ ?_ | (intro hh; first | exact absurd hh (by decide) | exact absurd rfl hh | (exfalso; omega) | skip) | refine Or.inl (uB (cK_isWithin ?_ ?_ ?_) ?_ ?_) | refine Or.inl (uEp rg ?_) | refine Or.inl (uE dd' ?_) | fail)
      all_goals first | omega | (exact rfl) | contradiction | (unfold aIR; omega) | (exact Or.inl rfl) | (exact Or.inr rfl)
  · have ec : cFault p a = (1, -1, a) := if_neg c1
    rw [ec]
    refine aM1_of kX5_deductFault rfl (fun B hB => ?_)
    have fin : ((1 : Int) = 0 → (some (.inl (-2)) : Option aV) = some (.inl (-1)) ∧ Sim z s a) ∧ ((1 : Int) ≠ 0 → (some (.inl (-2)) : Option aV) = some (.inl (cdA 1))) := ⟨fun e => absurd e (by decide), fun _ => rfl⟩
    refine hB [] 1000 _ _ _ _ _ ?_
    repeat' (first | exact ⟨rfl, fin, fS.rf s z⟩ | refine And.intro ?_ ?_ | (intro hh; first | exact absurd hh (by decide) | exact absurd rfl hh | (exfalso; omega) | skip) | refine Or.inl (uB (cK_isWithin ?_ ?_ ?_) ?_ ?_) | fail)
    all_goals first | omega | (exact rfl) | contradiction | (unfold aIR; omega)

theorem sFs_sk {a : Int → Int} {k : Int} : ∀ (n : Nat) (j : Int), 0 ≤ j → j ≤ k → j + (n : Int) = a 1 → k ≤ a 1 → (∀ i, j ≤ i → i < k → ¬ sOpen a i) → sFs a n j = sFs a (a 1 - k).toNat k
  | 0, j, j0, j1, j2, j3, h => by rw [show (a 1 - k).toNat = 0 by omega]; rfl
  | n + 1, j, j0, j1, j2, j3, h => by
    by_cases e : j = k
    · rw [e, show (a 1 - k).toNat = n + 1 by omega]
    · have : sFs a (n + 1) j = sFs a n (j + 1) := if_neg (h j (Int.le_refl j) (by omega))
      rw [this]
      exact sFs_sk n (j + 1) (by omega) (by omega) (by omega) j3 (fun i i0 i1 => h i (by omega) i1)
def sBt (a : Int → Int) (b : Int) : Int → Int := ud a (59 + 13 * a 7 + 6) b
theorem bI_pow : ∀ k : Nat, k < 7 → (2 : Int) ^ k ≤ 64 ∧ 1 ≤ (2 : Int) ^ k := by decide
theorem bI_nat {acc : Int} {k : Nat} (hk : k < 7) (a0 : 0 ≤ acc) (a1 : acc < 2 ^ k) : acc.toNat < 64 ∧ acc.toNat < 2 ^ k := by
  have := bI_pow k hk
  have e : ((2 ^ k : Nat) : Int) = (2 : Int) ^ k := by simp
  omega
theorem bI_st {acc : Int} {k : Nat} (hk : k < 6) (a0 : 0 ≤ acc) (a1 : acc < 2 ^ k) : (0 ≤ orI acc (1 * 2 ^ k) ∧ orI acc (1 * 2 ^ k) < 2 ^ (k + 1)) ∧ (sPc (orI acc (1 * 2 ^ k)) 6 0 0 = sPc acc 6 0 0 + 1 ∧ (sPc acc 6 0 0 ≤ (k : Int) ∧ sPc acc k 0 0 = sPc acc 6 0 0)) := by
  have n := bI_nat (by omega) a0 a1
  have b := bits_ok acc.toNat n.1 k hk n.2
  rw [Int.toNat_of_nonneg a0] at b
  have p := bI_pow k (by omega)
  have p6 : (1 : Int) * 2 ^ k < 64 := by
    have key : ∀ k : Nat, k < 6 → (1 : Int) * 2 ^ k < 64 := by decide
    exact key k hk
  have ob := orI_B (x := acc) (y := 1 * 2 ^ k) ⟨a0, by omega⟩ (by omega)
  exact ⟨⟨ob.1, b.1⟩, b.2.1, b.2.2.1, b.2.2.2⟩
theorem bI_hi {acc : Int} {k : Nat} (hk : k < 7) (a0 : 0 ≤ acc) (a1 : acc < 2 ^ k) {j : Int} (j0 : (k : Int) ≤ j) (j1 : j < 6) : ¬ sBit acc j := by
  have n := bI_nat hk a0 a1
  have b := bits_hi acc.toNat n.1 k (by omega) j.toNat (by omega)
  rw [Int.toNat_of_nonneg a0] at b
  exact fun w => b ⟨n.2, by omega, w⟩
theorem bI_or {x y j : Int} (x0 : 0 ≤ x ∧ x < 64) (y0 : 0 ≤ y ∧ y < 64) (j0 : 0 ≤ j) (j1 : j < 6) : sBit (orI x y) j ↔ (sBit x j ∨ sBit y j) := by
  have b := bits_o2 x.toNat (by omega) y.toNat (by omega) j.toNat (by omega)
  rw [Int.toNat_of_nonneg x0.1, Int.toNat_of_nonneg y0.1] at b
  exact b
theorem bI_1 {k : Nat} (hk : k < 6) : sBit (1 * 2 ^ k) (k : Int) := by
  have key : ∀ k : Nat, k < 6 → (iZ (((1 : Int) * 2 ^ k) / 2 ^ k) &&& iZ 1).toInt = 1 := by decide +kernel
  exact key k hk
theorem cK_passGates {x y : Int} (hd : 4 ≤ d) (h : Sim z s a) (hI : Inv0 a) (n7 : a 7 ≠ -1) (hp : sPt x y) : aM1 l g nX5_passGates d [.inr (.inr (.inl (1, s, 0))), .inl x, .inl y] z (fun r' z' => r' = some (.inl (sPc (sGT a x y) (a 1).toNat 0 0)) ∧ Sim z' s (sBt a (orI (a (59 + 13 * a 7 + 6)) (sGT a x y))) ∧ fS s z z') := by
  have gg := hI.go n7
  have cc := hI.1.1
  obtain ⟨⟨g3, g4, g5, g6⟩, hR⟩ := h.go hI n7
  have e8 := h.1.1.2.2.2
  have eb := hR.1.2.2
  have ok := (hI.ok n7).1.2.2
  have e7 : a 7 = a 2 - 1 := gg.1.1
  have rg := cK_runGoingOn (l := l) (g := g) (d := d - 1) (by omega) h hI.1 gg.1.2
  rw [← e7] at rg
  obtain ⟨P, eP⟩ : ∃ P, P = a (59 + 13 * a 7 + 6) := ⟨_, rfl⟩
  rw [← eP] at ok eb
  obtain ⟨G, eG⟩ : ∃ G, G = sGT a x y := ⟨_, rfl⟩
  rw [← eG, ← eP]
  have bo : ∀ b j, j ≠ 59 + 13 * a 7 + 6 → sBt a b j = a j := fun b j hj => ud_ne hj
  have b6 : ∀ b, sBt a b (59 + 13 * a 7 + 6) = b := fun b => ud_at _ _ _
  have b7 : ∀ b, sBt a b 7 = a 7 := fun b => bo b 7 (by omega)
  have b8 : ∀ b, sBt a b 8 = a 8 := fun b => bo b 8 (by omega)
  have b1 : ∀ b, sBt a b 1 = a 1 := fun b => bo b 1 (by omega)
  have b2 : ∀ b, sBt a b 2 = a 2 := fun b => bo b 2 (by omega)
  have bI : ∀ b, 0 ≤ b → b < 64 → Inv0 (sBt a b) := fun b h0 h1 => hI.bits n7 h0 h1
  have bs : ∀ b v, ud (sBt a b) (59 + 13 * a 7 + 6) v = sBt a v := fun b v => ud_ud _ _ _ _
  have bop : ∀ b k, k < 6 → (sOpen (sBt a b) k ↔ (a (29 + 5 * k) = a 8 ∧ ¬ sBit b k)) := fun b k hk => by
    unfold sOpen
    rw [b7, b6, b8, bo b _ (by omega)]
  have aop : ∀ k, (sOpen a k ↔ (a (29 + 5 * k) = a 8 ∧ ¬ sBit P k)) := fun k => by unfold sOpen; rw [← eP]
  have bme : ∀ b k, 0 ≤ k → k < 6 → ∀ u v, (sMe (sBt a b) u v x y k ↔ sMe a u v x y k) := fun b k k0 k1 u v => by
    unfold sMe
    rw [bo b (29 + 5 * k + 1) (by omega), bo b (29 + 5 * k + 2) (by omega), bo b (29 + 5 * k + 3) (by omega), bo b (29 + 5 * k + 4) (by omega)]
  refine aM1_of kX5_passGates rfl (fun B hB => ?_)
  have exit : ∀ (z1 : aM) (c gt : Int), c = sPc G (a 1).toNat 0 0 → Sim z1 s (sBt a (orI P G)) → fS s z z1 → B (none, 0, 0) z1 67 [some (.inr (.inr (.inl (1, s, 0)))), some (.inl x), some (.inl y), some (.inr (.inr (.inl (5, s, a 7)))), some (.inl c), some (.inl gt)] [] := by
    intro z1 c gt ec hS hF
    subst ec
    have fin : (some (.inl (sPc G (a 1).toNat 0 0)) : Option aV) = some (.inl (sPc G (a 1).toNat 0 0)) ∧ Sim z1 s (sBt a (orI P G)) ∧ fS s z z1 := ⟨rfl, hS, hF⟩
    refine hB [] 1000 _ _ _ _ _ ?_
    repeat' (first | exact ⟨rfl, fin⟩ | refine And.intro ?_ ?_ | fail)
    all_goals first | omega | (exact rfl)
  have pcn : ∀ (k : Nat) (acc : Int), k ≤ 6 → (k : Int) = a 1 → 0 ≤ acc → acc < 2 ^ k → sPc acc (a 1).toNat 0 0 = sPc acc 6 0 0 := by
    intro k acc hk e a0 a1
    rw [show (a 1).toNat = k by omega]
    by_cases q : k = 6
    · rw [q]
    · exact (bI_st (by omega) a0 a1).2.2.2
  have pcm : ∀ (k : Nat) (acc : Int), (k : Int) < a 1 → 0 ≤ acc → acc < 2 ^ k → sPc acc (a 1).toNat 0 0 = sPc acc 6 0 0 := by
    intro k acc hk a0 a1
    have pw : ∀ i j : Nat, i ≤ j → (2 : Int) ^ i ≤ 2 ^ j := fun i j hij => by
      have e1 : ((2 ^ i : Nat) : Int) = (2 : Int) ^ i := by simp
      have e2 : ((2 ^ j : Nat) : Int) = (2 : Int) ^ j := by simp
      have := Nat.pow_le_pow_right (show 0 < 2 by decide) hij
      omega
    have := pw k (a 1).toNat (by omega)
    exact pcn (a 1).toNat acc (by omega) (by omega) a0 (by omega)
  have loop : ∀ (n k : Nat) (acc : Int) (z1 : aM), (k : Int) + (n : Int) = a 1 → 0 ≤ acc → acc < 2 ^ k → Sim z1 s (sBt a (orI P acc)) → fS s z z1 → (∀ i, 0 ≤ i → i < (k : Int) → ¬ sOpen (sBt a (orI P acc)) i) → sGa a x y n (k : Int) acc = G → B (none, 0, 0) z1 14 [some (.inr (.inr (.inl (1, s, 0)))), some (.inl x), some (.inl y), some (.inr (.inr (.inl (5, s, a 7)))), some (.inl (sPc acc 6 0 0)), some (.inl (sFs (sBt a (orI P acc)) (a 1).toNat 0))] [] := by
    intro n
    induction n with
    | zero =>
      intro k acc z1 hk a0 a1 hS hF hno e
      have e' : acc = G := e
      have hf := sFs_sk (a := sBt a (orI P acc)) (k := (k : Int)) (a 1).toNat 0 (by omega) (by omega) (by rw [b1]; omega) (by rw [b1]; omega) (fun i i0 i1 => hno i i0 i1)
      rw [b1, show (a 1 - (k : Int)).toNat = 0 by omega] at hf
      have hf' : sFs (sBt a (orI P acc)) (a 1).toNat 0 = -1 := hf
      rw [hf']
      have ex := exit z1 (sPc acc 6 0 0) (-1) (by rw [← e', pcn k acc (by omega) (by omega) a0 a1]) (by rw [← e']; exact hS) hF
      refine hB [67] 1000 _ _ _ _ _ ?_
      repeat' (first | exact ex | refine And.intro ?_ ?_ | (intro hh; first | exact absurd hh (by decide) | exact absurd rfl hh | (exfalso; omega) | skip) | fail)
      all_goals first | omega | (exact rfl)
    | succ n ih =>
      intro k acc z1 hk a0 a1 hS hF hno e
      have k6 : k < 6 := by omega
      have bst := bI_st k6 a0 a1
      have bn := bI_nat (show k < 7 by omega) a0 a1
      have acc64 : acc < 64 := by omega
      have T64 := orI_B (x := P) (y := acc) ok ⟨a0, acc64⟩
      have hor : ∀ j, 0 ≤ j → j < 6 → (sBit (orI P acc) j ↔ (sBit P j ∨ sBit acc j)) := fun j j0 j1 => bI_or ok ⟨a0, acc64⟩ j0 j1
      have hopk : sOpen (sBt a (orI P acc)) (k : Int) ↔ sOpen a (k : Int) := by
        rw [bop _ _ (by omega), aop, hor _ (by omega) (by omega)]
        have := bI_hi (show k < 7 by omega) a0 a1 (j := (k : Int)) (by omega) (by omega)
        exact ⟨fun w => ⟨w.1, fun v => w.2 (Or.inl v)⟩, fun w => ⟨w.1, fun v => v.elim w.2 this⟩⟩
      have hf := sFs_sk (a := sBt a (orI P acc)) (k := (k : Int)) (a 1).toNat 0 (by omega) (by omega) (by rw [b1]; omega) (by rw [b1]; omega) (fun i i0 i1 => hno i i0 i1)
      rw [b1, show (a 1 - (k : Int)).toNat = n + 1 by omega] at hf
      by_cases q : sOpen a (k : Int)
      · have hf' : sFs (sBt a (orI P acc)) (a 1).toNat 0 = (k : Int) := by rw [hf]; exact if_pos (hopk.mpr q)
        rw [hf']
        have gI := bI _ T64.1 T64.2
        have go1 := hS.go gI (by rw [b7]; exact n7)
        rw [b7] at go1
        have f9 : z1 (1, s, 0) 5 = a 9 := by have := go1.1.2.2.1; rw [bo _ 9 (by omega)] at this; exact this
        have f10 : z1 (1, s, 0) 6 = a 10 := by have := go1.1.2.2.2; rw [bo _ 10 (by omega)] at this; exact this
        have gm := cK_gateMeets (l := l) (g := g) (d := d - 1) (k := (k : Int)) (ax := a 9) (ay := a 10) (bx := x) (b_y := y) (by omega) hS.1 gI.1 (by omega) (by rw [b1]; omega) gg.2.2 hp
        have gm2 := gm.cg (bme _ _ (by omega) (by omega) (a 9) (a 10))
        rw [← f9, ← f10] at gm2
        have gm3 := gm2.cg (c' := sMe a (a 9) (a 10) x y (k : Int)) (by rw [f9, f10])
        have e5 : z1 (5, s, a 7) 4 = orI P acc := by
          have := go1.2.1.2.2
          rw [b6] at this
          exact this
        have pg := cK_passGate (l := l) (g := g) (d := d - 1) (z := z1) (s := s) (r := a 7) (k := (k : Int)) (by omega) (by omega)
        rw [e5, Int.toNat_natCast, orI_as] at pg
        have S2 := hS.f5 gI.1 (r := a 7) (j := 4) (w := 6) (v := orI P (orI acc (1 * 2 ^ k))) (by omega) (by rw [b2]; omega) (by omega)
        rw [bs] at S2
        have T2 := orI_B (x := P) (y := orI acc (1 * 2 ^ k)) ok ⟨bst.1.1, by have := bI_pow (k + 1) (by omega); omega⟩
        have fo := cK_firstOpenGate (l := l) (g := g) (d := d - 1) (by omega) S2 (bI _ T2.1 T2.2) (by rw [b7]; exact n7)
        rw [b1] at fo
        have pc6 : sPc acc 6 0 0 ≤ 5 := by omega
        have pcB := sPc_B acc 6 0 0 (by omega) (by omega) a0 acc64 (by omega)
        by_cases hm : sMe a (a 9) (a 10) x y (k : Int)
        · have eG2 : sGa a x y n ((k + 1 : Nat) : Int) (orI acc (1 * 2 ^ k)) = G := by
            rw [← e, sGa_1 q hm, Int.toNat_natCast]; rfl
          have hno2 : ∀ i, 0 ≤ i → i < ((k + 1 : Nat) : Int) → ¬ sOpen (sBt a (orI P (orI acc (1 * 2 ^ k)))) i := by
            intro i i0 i1 w
            rw [bop _ _ (by omega), ← orI_as] at w
            have hx := bI_or (x := orI P acc) (y := 1 * 2 ^ k) ⟨T64.1, T64.2⟩ (by
              have key : ∀ k : Nat, k < 6 → (0 : Int) ≤ 1 * 2 ^ k ∧ (1 : Int) * 2 ^ k < 64 := by decide
              exact key k k6) i0 (show i < 6 by omega)
            rw [hx] at w
            by_cases ei : i = (k : Int)
            · rw [ei] at w
              exact w.2 (Or.inr (bI_1 k6))
            · exact hno i i0 (by omega) ((bop _ _ (by omega)).mpr ⟨w.1, fun v => w.2 (Or.inl v)⟩)
          have nx := ih (k + 1) (orI acc (1 * 2 ^ k)) (aWr z1 (5, s, a 7) 4 (orI P (orI acc (1 * 2 ^ k)))) (by omega) bst.1.1 bst.1.2 S2 (hF.wr (by decide) (by decide)) hno2 eG2
          rw [bst.2.1] at nx
          clear S2 hno2 gm gm2 hf hf' hor hopk bme bop aop
          refine hB [14] 1000 _ _ _ _ _ ?_
          repeat' (first | exact nx | refine And.intro ?_ ?_ | (intro hh; first | exact absurd hm hh | exact absurd hh (by decide) | exact absurd rfl hh | (exfalso; omega) | skip) | refine Or.inl (uB gm3 ?_ ?_) | refine Or.inl (uE0 pg ?_) | refine Or.inl (uE fo ?_) | fail)
          all_goals first | omega | (exact rfl)
        · have e' : acc = G := by rw [← e, sGa_2 q hm]
          have ex := exit z1 (sPc acc 6 0 0) (k : Int) (by rw [← e', pcm k acc (by omega) a0 a1]) (by rw [← e']; exact hS) hF
          clear S2 gm gm2 hf hf' hor hopk bme bop aop
          refine hB [67] 1000 _ _ _ _ _ ?_
          repeat' (first | exact ex | refine And.intro ?_ ?_ | (intro hh; first | exact absurd hh hm | exact absurd hh (by decide) | exact absurd rfl hh | (exfalso; omega) | skip) | refine Or.inl (uB gm3 ?_ ?_) | refine Or.inl (uE0 pg ?_) | refine Or.inl (uE fo ?_) | fail)
          all_goals first | omega | (exact rfl)
      · refine ih (k + 1) acc z1 (by omega) a0 ?_ hS hF (fun i i0 i1 => ?_) ?_
        · have e1 : (2 : Int) ^ (k + 1) = 2 ^ k * 2 := by rw [Int.pow_succ]
          omega
        · by_cases ei : i = (k : Int)
          · rw [ei]; exact fun w => q (hopk.mp w)
          · exact hno i i0 (by omega)
        · rw [← e, sGa_3 q]; rfl
  have o0 : orI P 0 = P := or0 ok
  have fo := cK_firstOpenGate (l := l) (g := g) (d := d - 1) (by omega) h hI n7
  have ea : sBt a P = a := by unfold sBt; rw [eP]; exact ud_id _ _
  have st := loop (a 1).toNat 0 0 z (by omega) (by omega) (by decide) (by rw [o0, ea]; exact h) (fS.rf s z) (fun i i0 i1 => by omega) eG.symm
  rw [o0, ea] at st
  refine hB [14] 1000 _ _ _ _ _ ?_
  repeat' (first | exact st | refine And.intro ?_ ?_ | refine Or.inl (uEp rg ?_) | refine Or.inl (uE fo ?_) | fail)
  all_goals first | omega | (exact rfl)

end K4
