/-! THE COMMANDS KEEP WHAT ALWAYS HOLDS -/
theorem Inv.no {a : Int → Int} (h : Inv0 a) (h2 : ¬ 0 < a 2) : a 7 = -1 ∧ a 2 = 0 := by
  have c := h.1.1
  rcases h.2.1 with q | q
  · omega
  · omega
theorem Inv.of0 {a b : Int → Int} (h : Inv0 a) (h2 : ¬ 0 < a 2) (hC : InvC b) (e2 : b 2 = a 2) (e7 : b 7 = a 7) (e : ∀ j, (j < 0 ∨ 59 ≤ j) → b j = a j) : Inv b := by
  obtain ⟨n7, n2⟩ := Inv.no h h2
  refine ⟨⟨hC, Or.inl (e7.trans n7), fun r r0 r1 => by omega, fun r r0 r1 k k0 k1 => ?_, fun k hk => ?_⟩, fun n => absurd (e7.trans n7) n⟩
  · rw [e _ (by omega)]
    exact h.2.2.2.1 r (by omega) r1 k k0 k1
  · rw [e k (by omega)]
    exact h.2.2.2.2 k hk
theorem cStart_I {a : Int → Int} {x y : Int} (h : Inv a) : Inv (cStart x y a).2.2 := by
  unfold cStart
  split
  · next hp =>
    split
    · exact h
    · next h2 =>
      obtain ⟨c1, c2, c3, c4⟩ := h.1.1
      dsimp only
      refine Inv.of0 h.1 h2 ?_ (by rw [ud_ne (by omega), ud_ne (by omega)]) (by rw [ud_ne (by omega), ud_ne (by omega)]) (fun j hj => by rw [ud_ne (by omega), ud_ne (by omega)])
      unfold InvC
      rw [ud_ne (by omega), ud_ne (by omega), ud_ne (by omega), ud_ne (by omega), ud_ne (by omega), ud_ne (by omega), ud_ne (by omega), ud_at, ud_at, ud_ne (by omega), ud_ne (by omega), ud_ne (by omega), ud_ne (by omega)]
      refine ⟨c1, ⟨hp, c2.2⟩, fun i i0 i1 => ?_, fun i i0 i1 => ?_⟩
      · simp (disch := omega) only [ud_ne]
        exact c3 i i0 i1
      · simp (disch := omega) only [ud_ne]
        exact c4 i i0 i1
  · exact h
theorem cLeg_I {a : Int → Int} {x y p : Int} (h : Inv a) : Inv (cLeg x y p a).2.2 := by
  unfold cLeg
  split
  · next hp =>
    split
    · exact h
    · next h2 =>
      obtain ⟨c1, c2, c3, c4⟩ := h.1.1
      dsimp only
      refine Inv.of0 h.1 (by omega) ?_ (by simp (disch := omega) only [ud_ne]) (by simp (disch := omega) only [ud_ne]) (fun j hj => by simp (disch := omega) only [ud_ne])
      unfold InvC
      simp (disch := omega) only [ud_at, ud_ne]
      refine ⟨by omega, c2, fun i i0 i1 => ?_, fun i i0 i1 => ?_⟩
      · by_cases q : i = a 0
        · subst q
          simp (disch := omega) only [ud_at, ud_ne]
          exact hp
        · simp (disch := omega) only [ud_ne]
          exact c3 i i0 (by omega)
      · simp (disch := omega) only [ud_ne]
        have := c4 i i0 i1
        exact ⟨by omega, this.2⟩
  · exact h
theorem cGate_I {a : Int → Int} {leg x1 y1 x2 y2 : Int} (h : Inv a) : Inv (cGate leg x1 y1 x2 y2 a).2.2 := by
  unfold cGate
  split
  · next hl =>
    split
    · next hp =>
      split
      · exact h
      · next h2 =>
        obtain ⟨c1, c2, c3, c4⟩ := h.1.1
        dsimp only
        refine Inv.of0 h.1 (by omega) ?_ (by simp (disch := omega) only [ud_ne]) (by simp (disch := omega) only [ud_ne]) (fun j hj => by simp (disch := omega) only [ud_ne])
        unfold InvC
        simp (disch := omega) only [ud_at, ud_ne]
        refine ⟨by omega, c2, fun i i0 i1 => ?_, fun i i0 i1 => ?_⟩
        · simp (disch := omega) only [ud_ne]
          exact c3 i i0 i1
        · by_cases q : i = a 1
          · subst q
            simp (disch := omega) only [ud_at, ud_ne]
            exact ⟨hl, hp.1.1, hp.1.2⟩
          · simp (disch := omega) only [ud_ne]
            exact c4 i i0 (by omega)
    · exact h
  · exact h
theorem cSet_I {a : Int → Int} {w v lo hi : Int} (h : Inv a) (hw : (w = 5 ∧ 1 ≤ lo ∧ hi ≤ 20) ∨ (w = 6 ∧ 60 ≤ lo ∧ hi ≤ 999)) : Inv (cSet w v lo hi a).2.2 := by
  unfold cSet
  split
  · next hp =>
    split
    · exact h
    · next h2 =>
      obtain ⟨c1, c2, c3, c4⟩ := h.1.1
      dsimp only
      refine Inv.of0 h.1 h2 ?_ (by rw [ud_ne (by omega)]) (by rw [ud_ne (by omega)]) (fun j hj => by rw [ud_ne (by omega)])
      unfold InvC
      rcases hw with ⟨rfl, w1, w2⟩ | ⟨rfl, w1, w2⟩
      · simp (disch := omega) only [ud_at, ud_ne]
        refine ⟨c1, ⟨c2.1, by omega, c2.2.2⟩, fun i i0 i1 => ?_, fun i i0 i1 => ?_⟩
        · simp (disch := omega) only [ud_ne]
          exact c3 i i0 i1
        · simp (disch := omega) only [ud_ne]
          exact c4 i i0 i1
      · simp (disch := omega) only [ud_at, ud_ne]
        refine ⟨c1, ⟨c2.1, c2.2.1, by omega⟩, fun i i0 i1 => ?_, fun i i0 i1 => ?_⟩
        · simp (disch := omega) only [ud_ne]
          exact c3 i i0 i1
        · simp (disch := omega) only [ud_ne]
          exact c4 i i0 i1
  · exact h
theorem sPts_v {r : Int} (hr : 0 ≤ r) : ∀ (n : Nat) (a : Int → Int) (k : Int), 0 ≤ k → (∀ j, k ≤ j → j < k + (n : Int) → j < 6 → k + (n : Int) ≤ 6 → sPts r n a k (59 + 13 * r + 7 + j) = a (11 + 3 * j + 2))
  | 0, _, _, _ => fun _ _ _ _ _ => by omega
  | n + 1, a, k, k0 => fun j j0 j1 j2 j3 => by
    show sPts r n (ud a (59 + 13 * r + 7 + k) (a (11 + 3 * k + 2))) (k + 1) (59 + 13 * r + 7 + j) = _
    by_cases q : j = k
    · rw [sPts_e hr n _ (k + 1) (by omega) _ (by omega), q, ud_at]
    · rw [sPts_v hr n _ (k + 1) (by omega) j (by omega) (by omega) j2 (by omega), ud_ne (by omega)]
theorem cRun_I {a : Int → Int} (h : Inv a) : Inv (cRun a).2.2 := by
  unfold cRun
  split
  · exact h
  · next hc =>
    have hh := h.1
    obtain ⟨⟨c1, c2, c3, c4⟩, hG, hR, hZ, hv⟩ := h.1
    have n7 : a 7 = -1 := by omega
    obtain ⟨r, hr⟩ : ∃ r, r = a 2 := ⟨_, rfl⟩
    obtain ⟨b, hb⟩ : ∃ b, b = sPts (a 2) (a 0).toNat a 0 := ⟨_, rfl⟩
    have e1 : ∀ j, (j < 59 + 13 * r + 7 ∨ 59 + 13 * r + 7 + a 0 ≤ j) → b j = a j := fun j hj => by
      rw [hb]
      exact sPts_e (by omega) _ a 0 (by omega) j (by omega)
    have e2 : ∀ k, 0 ≤ k → k < a 0 → b (59 + 13 * r + 7 + k) = a (11 + 3 * k + 2) := fun k k0 k1 => by
      rw [hb, hr]
      exact sPts_v (by omega) _ a 0 (by omega) k k0 (by omega) (by omega) (by omega)
    rw [← hb, ← hr]
    obtain ⟨t, ht⟩ : ∃ t, t = sGo r b := ⟨_, rfl⟩
    have f2 : t 2 = r + 1 := by
      rw [ht]; unfold sGo
      simp (disch := omega) only [ud_at, ud_ne]
      rw [e1 2 (by omega), hr]
    have f7 : t 7 = r := by
      rw [ht]; unfold sGo
      simp (disch := omega) only [ud_at, ud_ne]
    have f8 : t 8 = 0 := by
      rw [ht]; unfold sGo
      simp (disch := omega) only [ud_at, ud_ne]
    have f9 : t 9 = a 3 := by
      rw [ht]; unfold sGo
      simp (disch := omega) only [ud_at, ud_ne]
      exact e1 3 (by omega)
    have f10 : t 10 = a 4 := by
      rw [ht]; unfold sGo
      simp (disch := omega) only [ud_at, ud_ne]
      exact e1 4 (by omega)
    have fo : ∀ j, j ≠ 2 → (j < 7 ∨ 10 < j) → t j = b j := fun j j0 j1 => by
      rw [ht]; unfold sGo
      simp (disch := omega) only [ud_at, ud_ne]
    have fa : ∀ j, j ≠ 2 → (j < 7 ∨ 10 < j) → (j < 59 + 13 * r + 7 ∨ 59 + 13 * r + 7 + a 0 ≤ j) → t j = a j := fun j j0 j1 j2 => (fo j j0 j1).trans (e1 j j2)
    have fp : ∀ k, 0 ≤ k → k < a 0 → t (59 + 13 * r + 7 + k) = a (11 + 3 * k + 2) := fun k k0 k1 => (fo _ (by omega) (by omega)).trans (e2 k k0 k1)
    have z13 : ∀ k, 0 ≤ k → k < 13 → a (59 + 13 * r + k) = 0 := fun k k0 k1 => hZ r (by omega) (by omega) k k0 k1
    have z0 : a (59 + 13 * r) = 0 := by have := z13 0 (by omega) (by omega); simpa using this
    show Inv (sGo r b)
    rw [← ht]
    have f0 : t 0 = a 0 := fa 0 (by omega) (by omega) (by omega)
    refine ⟨⟨?_, Or.inr ?_, fun r' r0' r1' => ?_, fun r' r0' r1' k k0 k1 => ?_, fun k hk => ?_⟩, fun _ => ?_⟩
    · unfold InvC
      rw [f0, fa 1 (by omega) (by omega) (by omega), f2, fa 3 (by omega) (by omega) (by omega), fa 4 (by omega) (by omega) (by omega), fa 5 (by omega) (by omega) (by omega), fa 6 (by omega) (by omega) (by omega)]
      refine ⟨by omega, c2, fun i i0 i1 => ?_, fun i i0 i1 => ?_⟩
      · rw [fa _ (by omega) (by omega) (by omega), fa _ (by omega) (by omega) (by omega), fa _ (by omega) (by omega) (by omega)]
        exact c3 i i0 i1
      · rw [fa (29 + 5 * i) (by omega) (by omega) (by omega), fa (29 + 5 * i + 1) (by omega) (by omega) (by omega), fa (29 + 5 * i + 2) (by omega) (by omega) (by omega), fa (29 + 5 * i + 3) (by omega) (by omega) (by omega), fa (29 + 5 * i + 4) (by omega) (by omega) (by omega)]
        exact c4 i i0 i1
    · rw [f7, f2, f8, f0, f9, f10]
      exact ⟨⟨by omega, by omega⟩, ⟨by omega, by omega⟩, c2.1⟩
    · rw [f2] at r1'
      by_cases q : r' = r
      · subst q
        unfold RunOk
        rw [f0, fa _ (by omega) (by omega) (by omega), fa (59 + 13 * r' + 1) (by omega) (by omega) (by omega), fa (59 + 13 * r' + 2) (by omega) (by omega) (by omega), fa (59 + 13 * r' + 3) (by omega) (by omega) (by omega), fa (59 + 13 * r' + 4) (by omega) (by omega) (by omega), fa (59 + 13 * r' + 5) (by omega) (by omega) (by omega), fa (59 + 13 * r' + 6) (by omega) (by omega) (by omega), z0, z13 1 (by omega) (by omega), z13 2 (by omega) (by omega), z13 3 (by omega) (by omega), z13 4 (by omega) (by omega), z13 5 (by omega) (by omega), z13 6 (by omega) (by omega)]
        refine ⟨by omega, fun w w0 w1 => by rw [fa _ (by omega) (by omega) (by omega), z13 w (by omega) (by omega)]; omega, fun k k0 k1 => ?_, ?_⟩
        · rw [fp k k0 k1, fa _ (by omega) (by omega) (by omega)]
          have := (c3 k k0 k1).2
          omega
        · rw [sN_cg (f := fun k => t (59 + 13 * r' + 7 + k)) (h := fun k => a (11 + 3 * k + 2)) _ (fun k hk => fp _ (by omega) (by omega)), sN_cg (f := fun k => t (11 + 3 * k + 2)) (h := fun k => a (11 + 3 * k + 2)) _ (fun k hk => fa _ (by omega) (by omega) (by omega))]
          omega
      · obtain ⟨⟨h1, h2, h3⟩, h4, h5, h7⟩ := hR r' r0' (by omega)
        unfold RunOk
        rw [f0, fa _ (by omega) (by omega) (by omega), fa (59 + 13 * r' + 1) (by omega) (by omega) (by omega), fa (59 + 13 * r' + 2) (by omega) (by omega) (by omega), fa (59 + 13 * r' + 3) (by omega) (by omega) (by omega), fa (59 + 13 * r' + 4) (by omega) (by omega) (by omega), fa (59 + 13 * r' + 5) (by omega) (by omega) (by omega), fa (59 + 13 * r' + 6) (by omega) (by omega) (by omega)]
        refine ⟨⟨h1, h2, h3⟩, fun w w0 w1 => by rw [fa _ (by omega) (by omega) (by omega)]; exact h4 w w0 w1, fun k k0 k1 => ?_, ?_⟩
        · rw [fa _ (by omega) (by omega) (by omega), fa _ (by omega) (by omega) (by omega)]
          exact h5 k k0 k1
        · rw [sN_cg (f := fun k => t (59 + 13 * r' + 7 + k)) (h := fun k => a (59 + 13 * r' + 7 + k)) _ (fun k hk => fa _ (by omega) (by omega) (by omega)), sN_cg (f := fun k => t (11 + 3 * k + 2)) (h := fun k => a (11 + 3 * k + 2)) _ (fun k hk => fa _ (by omega) (by omega) (by omega))]
          exact h7
    · rw [f2] at r0'
      rw [fa _ (by omega) (by omega) (by omega)]
      exact hZ r' (by omega) r1' k k0 k1
    · rw [fa k (by omega) (by omega) (by omega)]
      exact hv k hk
    · rw [f7, fa (59 + 13 * r + 1) (by omega) (by omega) (by omega), fa (59 + 13 * r) (by omega) (by omega) (by omega), fa 6 (by omega) (by omega) (by omega), z13 1 (by omega) (by omega), z0]
      omega
theorem sRest_I {a : Int → Int} {w : Int} (h : Inv0 a) (n7 : a 7 ≠ -1) (w0 : 2 ≤ w) (w1 : w ≤ 5) : Inv0 (sRest w a).2 ∧ (0 ≤ (sRest w a).1 ∧ (sRest w a).1 ≤ 180) := by
  have gg := h.go n7
  have cc := h.1.1
  obtain ⟨h1, h2, h3⟩ := sRe_s w0 w1 (a 0 - a 8).toNat a (a 8) 0 h n7 gg.2.1.1 (by omega)
  refine ⟨h1, ?_⟩
  show 0 ≤ (sRe w (a 0 - a 8).toNat a (a 8) 0).1 ∧ (sRe w (a 0 - a 8).toNat a (a 8) 0).1 ≤ 180
  omega
theorem cFault_I {a : Int → Int} {p : Int} (h : Inv a) : Inv (cFault p a).2.2 := by
  unfold cFault
  split
  · next hp =>
    split
    · exact h
    · next n7 =>
      have gg := h.1.go n7
      have cc := h.1.1.1
      refine ⟨h.1.lo n7 gg.2.1.1 gg.2.1.2 (by omega) (by omega) (by omega), fun _ => ?_⟩
      have e := h.2 n7
      show sLoA a (a 8) p 4 (59 + 13 * sLoA a (a 8) p 4 7 + 1) ≤ sLoA a (a 8) p 4 6 ∧ sLoA a (a 8) p 4 (59 + 13 * sLoA a (a 8) p 4 7) = 0
      rw [sLoA_ne (j := 7) (by omega) (by omega), sLoA_ne (by omega) (by omega), sLoA_ne (by omega) (by omega), sLoA_ne (by omega) (by omega)]
      exact e
  · exact h
theorem cRetire_I {a : Int → Int} (h : Inv a) : Inv (cRetire a).2.2 := by
  unfold cRetire
  split
  · exact h
  · next n7 => exact (sRest_I h.1 n7 (by omega) (by omega)).1.ends
/-- the going run's bounds besides Inv0 -/
theorem sCm_o : ∀ (n : Nat) (a : Int → Int) (k acc : Int), Inv0 a → a 7 ≠ -1 → 0 ≤ k → k + (n : Int) ≤ a 1 → (sCm n a k acc).2 (59 + 13 * a 7 + 1) = a (59 + 13 * a 7 + 1) ∧ (sCm n a k acc).2 (59 + 13 * a 7) = a (59 + 13 * a 7)
  | 0, a, k, acc, h, n7, k0, k1 => ⟨rfl, rfl⟩
  | n + 1, a, k, acc, h, n7, k0, k1 => by
    have gg := h.go n7
    have cc := h.1.1
    have g := sLoA_g h n7 (leg := a 8) (p := 5) (w := 3) gg.2.1.1 (by omega)
    by_cases q : sOpen a k
    · rw [sCm_1 q]
      have h' := h.lo n7 (leg := a 8) (p := 5) (w := 3) gg.2.1.1 gg.2.1.2 (by omega) (by omega) (by omega)
      have := sCm_o n (sLoA a (a 8) 5 3) (k + 1) (acc + sLo a (a 8) 5) h' (by rw [g 7 (by omega)]; exact n7) (by omega) (by rw [g 1 (by omega)]; omega)
      rw [g 7 (by omega), sLoA_ne (by omega) (by omega), sLoA_ne (by omega) (by omega)] at this
      exact this
    · rw [sCm_2 q]
      exact sCm_o n a (k + 1) (acc + 0) h n7 (by omega) (by omega)
theorem sCL_I {a : Int → Int} (h : Inv a) (n7 : a 7 ≠ -1) : Inv (sCL a).2 ∧ (0 ≤ (sCL a).1 ∧ (sCL a).1 ≤ 180) := by
  have gg := h.1.go n7
  have cc := h.1.1.1
  obtain ⟨h1, h2, h3⟩ := sCm_s (a 1).toNat a 0 0 h.1 n7 (by omega) (by omega)
  have h4 := sCm_o (a 1).toNat a 0 0 h.1 n7 (by omega) (by omega)
  obtain ⟨b, hb⟩ : ∃ b, b = (sCm (a 1).toNat a 0 0).2 := ⟨_, rfl⟩
  refine ⟨?_, by show 0 ≤ (sCm (a 1).toNat a 0 0).1 ∧ (sCm (a 1).toNat a 0 0).1 ≤ 180; omega⟩
  show Inv (sNx (sCm (a 1).toNat a 0 0).2)
  rw [← hb] at h1 h2 h4 ⊢
  have b7 : b 7 ≠ -1 := by rw [h2 7 (by omega)]; exact n7
  unfold sNx
  split
  · have := h1.done b7
    exact this.ends
  · next hn =>
    refine ⟨h1.next b7 hn, fun _ => ?_⟩
    have e := h.2 n7
    have f7 : ud b 8 (b 8 + 1) 7 = a 7 := by rw [ud_ne (by omega), h2 7 (by omega)]
    have f6 : ud b 8 (b 8 + 1) 6 = a 6 := by rw [ud_ne (by omega), h2 6 (by omega)]
    rw [f7, f6, ud_ne (by omega), ud_ne (by omega), h4.1, h4.2]
    exact e
theorem Inv.flock {a : Int → Int} (h : Inv a) (n : a 7 ≠ -1) {x y : Int} (hp : sPt x y) : Inv (ud (ud a 9 x) 10 y) := by
  have gg := h.1.go n
  refine ⟨h.1.flock n hp, fun _ => ?_⟩
  simp (disch := omega) only [ud_ne]
  exact h.2 n
theorem Inv.lo {a : Int → Int} (h : Inv a) (n7 : a 7 ≠ -1) {leg p w : Int} (l0 : 0 ≤ leg) (l1 : leg < a 0) (p0 : 0 ≤ p) (w0 : 2 ≤ w) (w1 : w ≤ 5) : Inv (sLoA a leg p w) := by
  have gg := h.1.go n7
  have cc := h.1.1.1
  refine ⟨h.1.lo n7 l0 l1 p0 w0 w1, fun _ => ?_⟩
  rw [sLoA_ne (j := 7) (by omega) (by omega), sLoA_ne (by omega) (by omega), sLoA_ne (by omega) (by omega), sLoA_ne (by omega) (by omega)]
  exact h.2 n7
theorem sAr_I {a : Int → Int} (h : Inv a) (n7 : a 7 ≠ -1) {x y lost : Int} (l0 : 0 ≤ lost) (l1 : lost ≤ 30) : Inv (sAr x y lost a).2 ∧ (0 ≤ (sAr x y lost a).1 ∧ (sAr x y lost a).1 ≤ 210) := by
  have := sCL_I h n7
  unfold sAr
  split
  · exact ⟨this.1, by show 0 ≤ lost + (sCL a).1 ∧ lost + (sCL a).1 ≤ 210; omega⟩
  · exact ⟨h, by show 0 ≤ lost ∧ lost ≤ 210; omega⟩
theorem sLn_I {a : Int → Int} (h : Inv a) (n7 : a 7 ≠ -1) {x y : Int} (hp : sPt x y) : Inv (sLn x y a).2 ∧ (0 ≤ (sLn x y a).1 ∧ (sLn x y a).1 ≤ 210) := by
  have gg := h.1.go n7
  have b := sLo_B h.1 n7 (leg := a 8) (p := 1) gg.2.1.1 gg.2.1.2 (by omega)
  unfold sLn
  split
  · have h1 := h.lo n7 (leg := a 8) (p := 1) (w := 2) gg.2.1.1 gg.2.1.2 (by omega) (by omega) (by omega)
    have e7 := sLoA_g h.1 n7 (leg := a 8) (p := 1) (w := 2) gg.2.1.1 (by omega) 7 (by omega)
    have h2 := h1.flock (by rw [e7]; exact n7) hp
    exact sAr_I h2 (by rw [ud_ne (by omega), ud_ne (by omega), e7]; exact n7) b.1.1 b.1.2
  · exact sAr_I (h.flock n7 hp) (by rw [ud_ne (by omega), ud_ne (by omega)]; exact n7) (by omega) (by omega)
theorem cWalk_I {a : Int → Int} {x y s : Int} (h : Inv a) : Inv (cWalk x y s a).2.2 ∧ ((cWalk x y s a).1 = 0 → 0 ≤ (cWalk x y s a).2.1 ∧ (cWalk x y s a).2.1 ≤ 210) := by
  unfold cWalk
  split
  · next hp =>
    split
    · exact ⟨h, fun q => by cases q⟩
    · next n7 =>
      have gg := h.1.go n7
      have cc := h.1.1.1
      have ct := h.1.1.2.1
      have ok := (h.1.ok n7).1
      have tm := h.2 n7
      obtain ⟨a1, ha1⟩ : ∃ a1, a1 = ud a (59 + 13 * a 7 + 1) (a (59 + 13 * a 7 + 1) + s) := ⟨_, rfl⟩
      have e7 : a1 7 = a 7 := by rw [ha1, ud_ne (by omega)]
      have h1 : Inv0 a1 := by rw [ha1]; exact h.1.time n7 (by omega) (by omega)
      have m7 : a1 7 ≠ -1 := by rw [e7]; exact n7
      have i0 : a1 (59 + 13 * a1 7) = 0 := by rw [e7, ha1, ud_ne (by omega)]; exact tm.2
      show Inv (sTm (59 + 13 * a 7) x y (ud a (59 + 13 * a 7 + 1) (a (59 + 13 * a 7 + 1) + s))).2 ∧ ((0 : Int) = 0 → 0 ≤ (sTm (59 + 13 * a 7) x y (ud a (59 + 13 * a 7 + 1) (a (59 + 13 * a 7 + 1) + s))).1 ∧ (sTm (59 + 13 * a 7) x y (ud a (59 + 13 * a 7 + 1) (a (59 + 13 * a 7 + 1) + s))).1 ≤ 210)
      rw [← ha1, ← e7]
      unfold sTm
      split
      · have := sRest_I h1 m7 (w := 5) (by omega) (by omega)
        exact ⟨this.1.ends, fun _ => by show 0 ≤ (sRest 5 a1).1 ∧ (sRest 5 a1).1 ≤ 210; omega⟩
      · next ht =>
        have ok1 := (h1.ok m7).1
        have c1 := h1.1.1
        have gb := sGa_B (a := a1) (x := x) (y := y) (a1 1).toNat 0 0 (by omega) (by omega) (by omega) (by omega)
        have ob := orI_B (x := a1 (59 + 13 * a1 7 + 6)) (y := sGT a1 x y) ok1.2.2 gb
        have h2 : Inv (ud a1 (59 + 13 * a1 7 + 6) (orI (a1 (59 + 13 * a1 7 + 6)) (sGT a1 x y))) := by
          refine ⟨h1.bits m7 ob.1 ob.2, fun _ => ?_⟩
          rw [ud_ne (by omega), ud_ne (by omega), ud_ne (by omega), ud_ne (by omega)]
          exact ⟨by omega, i0⟩
        have := sLn_I h2 (by rw [ud_ne (by omega)]; exact m7) hp.1
        exact ⟨this.1, fun _ => this.2⟩
  · exact ⟨h, fun q => by cases q⟩
