/-! THE LAW: what answers can be (printed by wip/whole/cls20.py) -/
theorem sB_01 {c : Prop} [Decidable c] : sB c = 0 ∨ sB c = 1 := by
  by_cases h : c
  · exact Or.inr (sB_1 h)
  · exact Or.inl (sB_0 h)
theorem sBs_B {a : Int → Int} {leg : Int} : ∀ (n : Nat) (k b : Int), 0 ≤ k → 0 ≤ b → b ≤ k + (n : Int) → 0 ≤ sBs a leg n k b ∧ sBs a leg n k b ≤ k + (n : Int)
  | 0, k, b, h0, h1, h2 => ⟨h1, h2⟩
  | n + 1, k, b, h0, h1, h2 => by
    unfold sBs
    split
    · have := sBs_B (a := a) (leg := leg) n (k + 1) k (by omega) h0 (by omega)
      omega
    · have := sBs_B (a := a) (leg := leg) n (k + 1) b (by omega) h1 (by omega)
      omega
theorem aIR_of {v : Int} (h0 : -1 ≤ v) (h1 : v ≤ 70000) : aIR v := by unfold aIR; omega
section K20
variable {A : aAb}
theorem oCmd_1 {c : (Int → Int) → aCmd} : (oCmd c A).1 = (c (wM A)).1 ∧ (oCmd c A).2.1 = (c (wM A)).2.1 := by
  unfold oCmd
  by_cases e : (c (wM A)).1 = 0
  · rw [if_pos e]; exact ⟨e.symm, rfl⟩
  · rw [if_neg e]; exact ⟨rfl, rfl⟩
theorem qR_V {c : Prop} [Decidable c] {v : Int} (h : c → -1 ≤ v ∧ v ≤ 70000) : ((qR c v A).1 = 0 ∨ (qR c v A).1 = 1) ∧ ((qR c v A).1 = 0 → aIR (qR c v A).2.1) := by
  unfold qR
  by_cases e : c
  · rw [if_pos e]; exact ⟨Or.inl rfl, fun _ => aIR_of (h e).1 (h e).2⟩
  · rw [if_neg e]; exact ⟨Or.inr rfl, fun n => absurd n (by show ¬ ((1 : Int) = 0); decide)⟩
theorem run_B (h : Inv0 (wM A)) {r w : Int} (r0 : 0 ≤ r) (r1 : r < wM A 2) (w0 : 1 ≤ w) (w1 : w ≤ 5) : 0 ≤ wM A (59 + 13 * r + w) ∧ wM A (59 + 13 * r + w) ≤ 1998 := by
  have ok := h.2.2.1 r r0 r1
  by_cases e : w = 1
  · subst e; exact ok.1.2.1
  · have q := ok.2.1 w (by omega) w1
    have w2 := ok.2.1 2 (by decide) (by decide)
    have w3 := ok.2.1 3 (by decide) (by decide)
    have w4 := ok.2.1 4 (by decide) (by decide)
    have w5 := ok.2.1 5 (by decide) (by decide)
    have s := ok.2.2.2
    have sb := sSum_B h r0 r1
    have eS : sSum (wM A) r = sN (fun k => wM A (59 + 13 * r + 7 + k)) (wM A 0).toNat := rfl
    have cc := h.1.1
    have tb := sN_B (f := fun k => wM A (11 + 3 * k + 2)) (B := 30) (wM A 0).toNat (fun k hk => by have := (h.1.2.2.1 k (by omega) (by omega)).2; omega)
    have wc : w = 2 ∨ w = 3 ∨ w = 4 ∨ w = 5 := by omega
    rcases wc with rfl | rfl | rfl | rfl <;> omega

theorem lV_setStart {x y : Int} (hI : InvW A) : ((oCmd (cStart x y) A).1 = 0 ∨ (oCmd (cStart x y) A).1 = 1 ∨ (oCmd (cStart x y) A).1 = 2) ∧ ((oCmd (cStart x y) A).1 = 0 → aIR (oCmd (cStart x y) A).2.1) := by
  have e := oCmd_1 (A := A) (c := cStart x y)
  have hvv : (cStart x y (wM A)).1 = 0 → 0 ≤ (cStart x y (wM A)).2.1 ∧ (cStart x y (wM A)).2.1 ≤ 1000 := exC_v (c := fun i => if i = 0 then 0 else if i = 1 then x else if i = 2 then y else 0) (a := wM A) hI.1.1
  have ht : (cStart x y (wM A)).1 = 0 ∨ (cStart x y (wM A)).1 = 1 ∨ (cStart x y (wM A)).1 = 2 := by
    unfold cStart
    (repeat' split) <;> first | exact Or.inl rfl | exact Or.inr (Or.inl rfl) | exact Or.inr (Or.inr (rfl))
  rw [e.1, e.2]
  exact ⟨ht, fun w => aIR_of (by have := hvv w; omega) (by have := hvv w; omega)⟩
theorem lV_addLeg {x y p : Int} (hI : InvW A) : ((oCmd (cLeg x y p) A).1 = 0 ∨ (oCmd (cLeg x y p) A).1 = 1 ∨ (oCmd (cLeg x y p) A).1 = 2) ∧ ((oCmd (cLeg x y p) A).1 = 0 → aIR (oCmd (cLeg x y p) A).2.1) := by
  have e := oCmd_1 (A := A) (c := cLeg x y p)
  have hvv : (cLeg x y p (wM A)).1 = 0 → 0 ≤ (cLeg x y p (wM A)).2.1 ∧ (cLeg x y p (wM A)).2.1 ≤ 1000 := exC_v (c := fun i => if i = 0 then 1 else if i = 1 then x else if i = 2 then y else if i = 3 then p else 0) (a := wM A) hI.1.1
  have ht : (cLeg x y p (wM A)).1 = 0 ∨ (cLeg x y p (wM A)).1 = 1 ∨ (cLeg x y p (wM A)).1 = 2 := by
    unfold cLeg
    (repeat' split) <;> first | exact Or.inl rfl | exact Or.inr (Or.inl rfl) | exact Or.inr (Or.inr (rfl))
  rw [e.1, e.2]
  exact ⟨ht, fun w => aIR_of (by have := hvv w; omega) (by have := hvv w; omega)⟩
theorem lV_addGate {k x1 y1 x2 y2 : Int} (hI : InvW A) : ((oCmd (cGate k x1 y1 x2 y2) A).1 = 0 ∨ (oCmd (cGate k x1 y1 x2 y2) A).1 = 1 ∨ (oCmd (cGate k x1 y1 x2 y2) A).1 = 2 ∨ (oCmd (cGate k x1 y1 x2 y2) A).1 = 3) ∧ ((oCmd (cGate k x1 y1 x2 y2) A).1 = 0 → aIR (oCmd (cGate k x1 y1 x2 y2) A).2.1) := by
  have e := oCmd_1 (A := A) (c := cGate k x1 y1 x2 y2)
  have hvv : (cGate k x1 y1 x2 y2 (wM A)).1 = 0 → 0 ≤ (cGate k x1 y1 x2 y2 (wM A)).2.1 ∧ (cGate k x1 y1 x2 y2 (wM A)).2.1 ≤ 1000 := exC_v (c := fun i => if i = 0 then 2 else if i = 1 then k else if i = 2 then x1 else if i = 3 then y1 else if i = 4 then x2 else if i = 5 then y2 else 0) (a := wM A) hI.1.1
  have ht : (cGate k x1 y1 x2 y2 (wM A)).1 = 0 ∨ (cGate k x1 y1 x2 y2 (wM A)).1 = 1 ∨ (cGate k x1 y1 x2 y2 (wM A)).1 = 2 ∨ (cGate k x1 y1 x2 y2 (wM A)).1 = 3 := by
    unfold cGate
    (repeat' split) <;> first | exact Or.inl rfl | exact Or.inr (Or.inl rfl) | exact Or.inr (Or.inr (Or.inl rfl)) | exact Or.inr (Or.inr (Or.inr (rfl)))
  rw [e.1, e.2]
  exact ⟨ht, fun w => aIR_of (by have := hvv w; omega) (by have := hvv w; omega)⟩
theorem lV_setTolerance {v : Int} (hI : InvW A) : ((oCmd (cSet 5 v 1 20) A).1 = 0 ∨ (oCmd (cSet 5 v 1 20) A).1 = 1 ∨ (oCmd (cSet 5 v 1 20) A).1 = 2) ∧ ((oCmd (cSet 5 v 1 20) A).1 = 0 → aIR (oCmd (cSet 5 v 1 20) A).2.1) := by
  have e := oCmd_1 (A := A) (c := cSet 5 v 1 20)
  have hvv : (cSet 5 v 1 20 (wM A)).1 = 0 → 0 ≤ (cSet 5 v 1 20 (wM A)).2.1 ∧ (cSet 5 v 1 20 (wM A)).2.1 ≤ 1000 := exC_v (c := fun i => if i = 0 then 4 else if i = 1 then v else 0) (a := wM A) hI.1.1
  have ht : (cSet 5 v 1 20 (wM A)).1 = 0 ∨ (cSet 5 v 1 20 (wM A)).1 = 1 ∨ (cSet 5 v 1 20 (wM A)).1 = 2 := by
    unfold cSet
    (repeat' split) <;> first | exact Or.inl rfl | exact Or.inr (Or.inl rfl) | exact Or.inr (Or.inr (rfl))
  rw [e.1, e.2]
  exact ⟨ht, fun w => aIR_of (by have := hvv w; omega) (by have := hvv w; omega)⟩
theorem lV_setTimeLimit {v : Int} (hI : InvW A) : ((oCmd (cSet 6 v 60 999) A).1 = 0 ∨ (oCmd (cSet 6 v 60 999) A).1 = 1 ∨ (oCmd (cSet 6 v 60 999) A).1 = 2) ∧ ((oCmd (cSet 6 v 60 999) A).1 = 0 → aIR (oCmd (cSet 6 v 60 999) A).2.1) := by
  have e := oCmd_1 (A := A) (c := cSet 6 v 60 999)
  have hvv : (cSet 6 v 60 999 (wM A)).1 = 0 → 0 ≤ (cSet 6 v 60 999 (wM A)).2.1 ∧ (cSet 6 v 60 999 (wM A)).2.1 ≤ 1000 := exC_v (c := fun i => if i = 0 then 3 else if i = 1 then v else 0) (a := wM A) hI.1.1
  have ht : (cSet 6 v 60 999 (wM A)).1 = 0 ∨ (cSet 6 v 60 999 (wM A)).1 = 1 ∨ (cSet 6 v 60 999 (wM A)).1 = 2 := by
    unfold cSet
    (repeat' split) <;> first | exact Or.inl rfl | exact Or.inr (Or.inl rfl) | exact Or.inr (Or.inr (rfl))
  rw [e.1, e.2]
  exact ⟨ht, fun w => aIR_of (by have := hvv w; omega) (by have := hvv w; omega)⟩
theorem lV_startRun (hI : InvW A) : ((oCmd (cRun) A).1 = 0 ∨ (oCmd (cRun) A).1 = 1) ∧ ((oCmd (cRun) A).1 = 0 → aIR (oCmd (cRun) A).2.1) := by
  have e := oCmd_1 (A := A) (c := cRun)
  have hvv : (cRun (wM A)).1 = 0 → 0 ≤ (cRun (wM A)).2.1 ∧ (cRun (wM A)).2.1 ≤ 1000 := exC_v (c := fun i => if i = 0 then 5 else 0) (a := wM A) hI.1.1
  have ht : (cRun (wM A)).1 = 0 ∨ (cRun (wM A)).1 = 1 := by
    unfold cRun
    (repeat' split) <;> first | exact Or.inl rfl | exact Or.inr (rfl)
  rw [e.1, e.2]
  exact ⟨ht, fun w => aIR_of (by have := hvv w; omega) (by have := hvv w; omega)⟩
theorem lV_walk {x y s : Int} (hI : InvW A) : ((oCmd (cWalk x y s) A).1 = 0 ∨ (oCmd (cWalk x y s) A).1 = 1 ∨ (oCmd (cWalk x y s) A).1 = 2) ∧ ((oCmd (cWalk x y s) A).1 = 0 → aIR (oCmd (cWalk x y s) A).2.1) := by
  have e := oCmd_1 (A := A) (c := cWalk x y s)
  have hvv : (cWalk x y s (wM A)).1 = 0 → 0 ≤ (cWalk x y s (wM A)).2.1 ∧ (cWalk x y s (wM A)).2.1 ≤ 1000 := exC_v (c := fun i => if i = 0 then 6 else if i = 1 then x else if i = 2 then y else if i = 3 then s else 0) (a := wM A) hI.1.1
  have ht : (cWalk x y s (wM A)).1 = 0 ∨ (cWalk x y s (wM A)).1 = 1 ∨ (cWalk x y s (wM A)).1 = 2 := by
    unfold cWalk
    (repeat' split) <;> first | exact Or.inl rfl | exact Or.inr (Or.inl rfl) | exact Or.inr (Or.inr (rfl))
  rw [e.1, e.2]
  exact ⟨ht, fun w => aIR_of (by have := hvv w; omega) (by have := hvv w; omega)⟩
theorem lV_fault {p : Int} (hI : InvW A) : ((oCmd (cFault p) A).1 = 0 ∨ (oCmd (cFault p) A).1 = 1 ∨ (oCmd (cFault p) A).1 = 2) ∧ ((oCmd (cFault p) A).1 = 0 → aIR (oCmd (cFault p) A).2.1) := by
  have e := oCmd_1 (A := A) (c := cFault p)
  have hvv : (cFault p (wM A)).1 = 0 → 0 ≤ (cFault p (wM A)).2.1 ∧ (cFault p (wM A)).2.1 ≤ 1000 := exC_v (c := fun i => if i = 0 then 7 else if i = 1 then p else 0) (a := wM A) hI.1.1
  have ht : (cFault p (wM A)).1 = 0 ∨ (cFault p (wM A)).1 = 1 ∨ (cFault p (wM A)).1 = 2 := by
    unfold cFault
    (repeat' split) <;> first | exact Or.inl rfl | exact Or.inr (Or.inl rfl) | exact Or.inr (Or.inr (rfl))
  rw [e.1, e.2]
  exact ⟨ht, fun w => aIR_of (by have := hvv w; omega) (by have := hvv w; omega)⟩
theorem lV_retire (hI : InvW A) : ((oCmd (cRetire) A).1 = 0 ∨ (oCmd (cRetire) A).1 = 1) ∧ ((oCmd (cRetire) A).1 = 0 → aIR (oCmd (cRetire) A).2.1) := by
  have e := oCmd_1 (A := A) (c := cRetire)
  have hvv : (cRetire (wM A)).1 = 0 → 0 ≤ (cRetire (wM A)).2.1 ∧ (cRetire (wM A)).2.1 ≤ 1000 := exC_v (c := fun i => if i = 0 then 8 else 0) (a := wM A) hI.1.1
  have ht : (cRetire (wM A)).1 = 0 ∨ (cRetire (wM A)).1 = 1 := by
    unfold cRetire
    (repeat' split) <;> first | exact Or.inl rfl | exact Or.inr (rfl)
  rw [e.1, e.2]
  exact ⟨ht, fun w => aIR_of (by have := hvv w; omega) (by have := hvv w; omega)⟩
theorem lV_legPoints {k : Int} (hI : InvW A) : ((qR (isL (wM A) k) (wM A (11 + 3 * k + 2)) A).1 = 0 ∨ (qR (isL (wM A) k) (wM A (11 + 3 * k + 2)) A).1 = 1) ∧ ((qR (isL (wM A) k) (wM A (11 + 3 * k + 2)) A).1 = 0 → aIR (qR (isL (wM A) k) (wM A (11 + 3 * k + 2)) A).2.1) := qR_V (fun hc => (by have cc := hI.1.1.1.1.1; have := (hI.1.1.1.1.2.2.1 k hc.1 hc.2).2; omega))
theorem lV_legOf {k : Int} (hI : InvW A) : ((qR (isG (wM A) k) (wM A (29 + 5 * k)) A).1 = 0 ∨ (qR (isG (wM A) k) (wM A (29 + 5 * k)) A).1 = 1) ∧ ((qR (isG (wM A) k) (wM A (29 + 5 * k)) A).1 = 0 → aIR (qR (isG (wM A) k) (wM A (29 + 5 * k)) A).2.1) := qR_V (fun hc => (by have cc := hI.1.1.1.1.1; have := (hI.1.1.1.1.2.2.2 k hc.1 hc.2).1; omega))
theorem lV_time {r : Int} (hI : InvW A) : ((qR (isN (wM A) r) (wM A (59 + 13 * r + 1)) A).1 = 0 ∨ (qR (isN (wM A) r) (wM A (59 + 13 * r + 1)) A).1 = 1) ∧ ((qR (isN (wM A) r) (wM A (59 + 13 * r + 1)) A).1 = 0 → aIR (qR (isN (wM A) r) (wM A (59 + 13 * r + 1)) A).2.1) := qR_V (fun hc => (by have cc := hI.1.1.1.1.1; have := run_B hI.1.1.1 hc.1 hc.2 (w := 1) (by decide) (by decide); omega))
theorem lV_lineLoss {r : Int} (hI : InvW A) : ((qR (isN (wM A) r) (wM A (59 + 13 * r + 2)) A).1 = 0 ∨ (qR (isN (wM A) r) (wM A (59 + 13 * r + 2)) A).1 = 1) ∧ ((qR (isN (wM A) r) (wM A (59 + 13 * r + 2)) A).1 = 0 → aIR (qR (isN (wM A) r) (wM A (59 + 13 * r + 2)) A).2.1) := qR_V (fun hc => (by have cc := hI.1.1.1.1.1; have := run_B hI.1.1.1 hc.1 hc.2 (w := 2) (by decide) (by decide); omega))
theorem lV_gateLoss {r : Int} (hI : InvW A) : ((qR (isN (wM A) r) (wM A (59 + 13 * r + 3)) A).1 = 0 ∨ (qR (isN (wM A) r) (wM A (59 + 13 * r + 3)) A).1 = 1) ∧ ((qR (isN (wM A) r) (wM A (59 + 13 * r + 3)) A).1 = 0 → aIR (qR (isN (wM A) r) (wM A (59 + 13 * r + 3)) A).2.1) := qR_V (fun hc => (by have cc := hI.1.1.1.1.1; have := run_B hI.1.1.1 hc.1 hc.2 (w := 3) (by decide) (by decide); omega))
theorem lV_faultLoss {r : Int} (hI : InvW A) : ((qR (isN (wM A) r) (wM A (59 + 13 * r + 4)) A).1 = 0 ∨ (qR (isN (wM A) r) (wM A (59 + 13 * r + 4)) A).1 = 1) ∧ ((qR (isN (wM A) r) (wM A (59 + 13 * r + 4)) A).1 = 0 → aIR (qR (isN (wM A) r) (wM A (59 + 13 * r + 4)) A).2.1) := qR_V (fun hc => (by have cc := hI.1.1.1.1.1; have := run_B hI.1.1.1 hc.1 hc.2 (w := 4) (by decide) (by decide); omega))
theorem lV_timeLoss {r : Int} (hI : InvW A) : ((qR (isN (wM A) r) (wM A (59 + 13 * r + 5)) A).1 = 0 ∨ (qR (isN (wM A) r) (wM A (59 + 13 * r + 5)) A).1 = 1) ∧ ((qR (isN (wM A) r) (wM A (59 + 13 * r + 5)) A).1 = 0 → aIR (qR (isN (wM A) r) (wM A (59 + 13 * r + 5)) A).2.1) := qR_V (fun hc => (by have cc := hI.1.1.1.1.1; have := run_B hI.1.1.1 hc.1 hc.2 (w := 5) (by decide) (by decide); omega))
theorem lV_pointsOn {r k : Int} (hI : InvW A) : ((qR (isN (wM A) r ∧ isL (wM A) k) (wM A (59 + 13 * r + 7 + k)) A).1 = 0 ∨ (qR (isN (wM A) r ∧ isL (wM A) k) (wM A (59 + 13 * r + 7 + k)) A).1 = 1) ∧ ((qR (isN (wM A) r ∧ isL (wM A) k) (wM A (59 + 13 * r + 7 + k)) A).1 = 0 → aIR (qR (isN (wM A) r ∧ isL (wM A) k) (wM A (59 + 13 * r + 7 + k)) A).2.1) := qR_V (fun hc => (by have cc := hI.1.1.1.1.1; have := hI.1.1.1.pts hc.1.1 hc.1.2 hc.2.1 hc.2.2; omega))
theorem lV_score {r : Int} (hI : InvW A) : ((qR (isN (wM A) r) (sSum (wM A) r) A).1 = 0 ∨ (qR (isN (wM A) r) (sSum (wM A) r) A).1 = 1) ∧ ((qR (isN (wM A) r) (sSum (wM A) r) A).1 = 0 → aIR (qR (isN (wM A) r) (sSum (wM A) r) A).2.1) := qR_V (fun hc => (by have cc := hI.1.1.1.1.1; have := sSum_B hI.1.1.1 hc.1 hc.2; omega))
theorem lV_rankOf {r : Int} (hI : InvW A) : ((qR (isN (wM A) r) (sRank (wM A) r) A).1 = 0 ∨ (qR (isN (wM A) r) (sRank (wM A) r) A).1 = 1) ∧ ((qR (isN (wM A) r) (sRank (wM A) r) A).1 = 0 → aIR (qR (isN (wM A) r) (sRank (wM A) r) A).2.1) := qR_V (fun hc => (by have cc := hI.1.1.1.1.1; have := sRank_B hI.1.1.1 (r := r); omega))
theorem lV_isOnLine {k : Int} (hI : InvW A) : ((qOnLine k A).1 = 0 ∨ (qOnLine k A).1 = 1) ∧ ((qOnLine k A).1 = 0 → (qOnLine k A).2.1 = 0 ∨ (qOnLine k A).2.1 = 1) := by
  unfold qOnLine
  by_cases hc : isG (wM A) k
  · rw [if_pos hc]
    exact ⟨Or.inl rfl, fun _ => sB_01⟩
  · rw [if_neg hc]
    exact ⟨Or.inr (rfl), fun n => absurd n (by show ¬ ((1 : Int) = 0); decide)⟩
theorem lV_isComplete {r : Int} (hI : InvW A) : ((qComplete r A).1 = 0 ∨ (qComplete r A).1 = 1) ∧ ((qComplete r A).1 = 0 → (qComplete r A).2.1 = 0 ∨ (qComplete r A).2.1 = 1) := by
  unfold qComplete
  by_cases hc : isN (wM A) r
  · rw [if_pos hc]
    exact ⟨Or.inl rfl, fun _ => sB_01⟩
  · rw [if_neg hc]
    exact ⟨Or.inr (rfl), fun n => absurd n (by show ¬ ((1 : Int) = 0); decide)⟩
theorem lV_hasPassed {r k : Int} (hI : InvW A) : ((qPassed r k A).1 = 0 ∨ (qPassed r k A).1 = 1) ∧ ((qPassed r k A).1 = 0 → (qPassed r k A).2.1 = 0 ∨ (qPassed r k A).2.1 = 1) := by
  unfold qPassed
  by_cases hc : isN (wM A) r ∧ isG (wM A) k
  · rw [if_pos hc]
    exact ⟨Or.inl rfl, fun _ => sB_01⟩
  · rw [if_neg hc]
    exact ⟨Or.inr (rfl), fun n => absurd n (by show ¬ ((1 : Int) = 0); decide)⟩
theorem lV_isOffLine {x y : Int} (hI : InvW A) : ((qOff x y A).1 = 0 ∨ (qOff x y A).1 = 1 ∨ (qOff x y A).1 = 2) ∧ ((qOff x y A).1 = 0 → (qOff x y A).2.1 = 0 ∨ (qOff x y A).2.1 = 1) := by
  unfold qOff qAsk
  by_cases hc : sPt x y
  · rw [if_pos hc]
    by_cases hw : wM A 7 = -1
    · rw [if_pos hw]
      exact ⟨Or.inr (Or.inr (rfl)), fun n => absurd n (by show ¬ ((2 : Int) = 0); decide)⟩
    · rw [if_neg hw]
      exact ⟨Or.inl rfl, fun _ => sB_01⟩
  · rw [if_neg hc]
    exact ⟨Or.inr (Or.inl rfl), fun n => absurd n (by show ¬ ((1 : Int) = 0); decide)⟩
theorem lV_presentLeg (hI : InvW A) : ((qGoing (wM A 8) A).1 = 0 ∨ (qGoing (wM A 8) A).1 = 1) ∧ ((qGoing (wM A 8) A).1 = 0 → aIR (qGoing (wM A 8) A).2.1) := by
  unfold qGoing
  by_cases hc : wM A 7 = -1
  · rw [if_pos hc]
    exact ⟨Or.inr (rfl), fun n => absurd n (by show ¬ ((1 : Int) = 0); decide)⟩
  · rw [if_neg hc]
    have gg := hI.1.1.1.go hc
    exact ⟨Or.inl rfl, fun _ => aIR_of (by have cc := hI.1.1.1.1.1; have := gg.2; dsimp only; omega) (by have cc := hI.1.1.1.1.1; have := gg.2; dsimp only; omega)⟩
theorem lV_flockX (hI : InvW A) : ((qGoing (wM A 9) A).1 = 0 ∨ (qGoing (wM A 9) A).1 = 1) ∧ ((qGoing (wM A 9) A).1 = 0 → aIR (qGoing (wM A 9) A).2.1) := by
  unfold qGoing
  by_cases hc : wM A 7 = -1
  · rw [if_pos hc]
    exact ⟨Or.inr (rfl), fun n => absurd n (by show ¬ ((1 : Int) = 0); decide)⟩
  · rw [if_neg hc]
    have gg := hI.1.1.1.go hc
    exact ⟨Or.inl rfl, fun _ => aIR_of (by have cc := hI.1.1.1.1.1; have := gg.2; dsimp only; omega) (by have cc := hI.1.1.1.1.1; have := gg.2; dsimp only; omega)⟩
theorem lV_flockY (hI : InvW A) : ((qGoing (wM A 10) A).1 = 0 ∨ (qGoing (wM A 10) A).1 = 1) ∧ ((qGoing (wM A 10) A).1 = 0 → aIR (qGoing (wM A 10) A).2.1) := by
  unfold qGoing
  by_cases hc : wM A 7 = -1
  · rw [if_pos hc]
    exact ⟨Or.inr (rfl), fun n => absurd n (by show ¬ ((1 : Int) = 0); decide)⟩
  · rw [if_neg hc]
    have gg := hI.1.1.1.go hc
    exact ⟨Or.inl rfl, fun _ => aIR_of (by have cc := hI.1.1.1.1.1; have := gg.2; dsimp only; omega) (by have cc := hI.1.1.1.1.1; have := gg.2; dsimp only; omega)⟩
theorem lV_nextGate (hI : InvW A) : ((qNext A).1 = 0 ∨ (qNext A).1 = 1 ∨ (qNext A).1 = 2) ∧ ((qNext A).1 = 0 → aIR (qNext A).2.1) := by
  unfold qNext
  by_cases hc : wM A 7 = -1
  · rw [if_pos hc]
    exact ⟨Or.inr (Or.inl rfl), fun n => absurd n (by show ¬ ((1 : Int) = 0); decide)⟩
  · rw [if_neg hc]
    by_cases hw : sFs (wM A) (wM A 1).toNat 0 = -1
    · rw [if_pos hw]
      exact ⟨Or.inr (Or.inr (rfl)), fun n => absurd n (by show ¬ ((2 : Int) = 0); decide)⟩
    · rw [if_neg hw]
      exact ⟨Or.inl rfl, fun _ => aIR_of (by have cc := hI.1.1.1.1.1; have := sFs_B (a := wM A) (wM A 1).toNat 0; dsimp only; omega) (by have cc := hI.1.1.1.1.1; have := sFs_B (a := wM A) (wM A 1).toNat 0; dsimp only; omega)⟩
theorem lV_gatesPassedTo {x y : Int} (hI : InvW A) : ((qPassedTo x y A).1 = 0 ∨ (qPassedTo x y A).1 = 1 ∨ (qPassedTo x y A).1 = 2) ∧ ((qPassedTo x y A).1 = 0 → aIR (qPassedTo x y A).2.1) := by
  unfold qPassedTo qAsk
  by_cases hc : sPt x y
  · rw [if_pos hc]
    by_cases hw : wM A 7 = -1
    · rw [if_pos hw]
      exact ⟨Or.inr (Or.inr (rfl)), fun n => absurd n (by show ¬ ((2 : Int) = 0); decide)⟩
    · rw [if_neg hw]
      have cc := hI.1.1.1.1.1
      have gb := sGa_B (a := wM A) (x := x) (y := y) (wM A 1).toNat 0 0 (by omega) (by omega) (by omega) (by omega)
      have pb := sPc_B (sGT (wM A) x y) (wM A 1).toNat 0 0 (by omega) (by omega) gb.1 gb.2 (by omega)
      exact ⟨Or.inl rfl, fun _ => aIR_of (by show -1 ≤ sPc _ _ _ _; omega) (by show sPc _ _ _ _ ≤ 70000; omega)⟩
  · rw [if_neg hc]
    exact ⟨Or.inr (Or.inl rfl), fun n => absurd n (by show ¬ ((1 : Int) = 0); decide)⟩
theorem lV_lossOfStep {x y s : Int} (hI : InvW A) : ((qLoss x y s A).1 = 0 ∨ (qLoss x y s A).1 = 1 ∨ (qLoss x y s A).1 = 2) ∧ ((qLoss x y s A).1 = 0 → aIR (qLoss x y s A).2.1) := by
  have v := lV_walk (x := x) (y := y) (s := s) hI
  have e := oCmd_1 (A := A) (c := cWalk x y s)
  rw [e.1, e.2] at v
  exact v
theorem lV_runAt {k : Int} (hI : InvW A) : ((qRunAt k A).1 = 0 ∨ (qRunAt k A).1 = 1) ∧ ((qRunAt k A).1 = 0 → aIR (qRunAt k A).2.1) := by
  unfold qRunAt
  by_cases hc : sRanked (wM A) k = -1
  · rw [if_pos hc]
    exact ⟨Or.inr (rfl), fun n => absurd n (by show ¬ ((1 : Int) = 0); decide)⟩
  · rw [if_neg hc]
    exact ⟨Or.inl rfl, fun _ => aIR_of (by have cc := hI.1.1.1.1.1; have := sRanked_B hI.1.1.1 (k := k); dsimp only; omega) (by have cc := hI.1.1.1.1.1; have := sRanked_B hI.1.1.1 (k := k); dsimp only; omega)⟩
theorem lV_bestOn {k : Int} (hI : InvW A) : ((qBest k A).1 = 0 ∨ (qBest k A).1 = 1 ∨ (qBest k A).1 = 2) ∧ ((qBest k A).1 = 0 → aIR (qBest k A).2.1) := by
  unfold qBest
  by_cases hc : isL (wM A) k
  · rw [if_pos hc]
    by_cases hw : wM A 2 = 0
    · rw [if_pos hw]
      exact ⟨Or.inr (Or.inr (rfl)), fun n => absurd n (by show ¬ ((2 : Int) = 0); decide)⟩
    · rw [if_neg hw]
      have cc := hI.1.1.1.1.1
      have bb := sBs_B (a := wM A) (leg := k) ((wM A 2).toNat - 1) 1 0 (by omega) (by omega) (by omega)
      exact ⟨Or.inl rfl, fun _ => aIR_of (by have cc := hI.1.1.1.1.1; have := bb; dsimp only; omega) (by have cc := hI.1.1.1.1.1; have := bb; dsimp only; omega)⟩
  · rw [if_neg hc]
    exact ⟨Or.inr (Or.inl rfl), fun n => absurd n (by show ¬ ((1 : Int) = 0); decide)⟩
theorem lV_errorPosition (hI : InvW A) : (((if wE A = -1 then (1, -1, A) else (0, wE A, A) : aRes)).1 = 0 ∨ ((if wE A = -1 then (1, -1, A) else (0, wE A, A) : aRes)).1 = 1) ∧ (((if wE A = -1 then (1, -1, A) else (0, wE A, A) : aRes)).1 = 0 → aIR ((if wE A = -1 then (1, -1, A) else (0, wE A, A) : aRes)).2.1) := by
  by_cases hc : wE A = -1
  · rw [if_pos hc]
    exact ⟨Or.inr (rfl), fun n => absurd n (by show ¬ ((1 : Int) = 0); decide)⟩
  · rw [if_neg hc]
    exact ⟨Or.inl rfl, fun _ => aIR_of (by have cc := hI.1.1.1.1.1; have := hI.2.2.1.1; dsimp only; omega) (by have cc := hI.1.1.1.1.1; have := hI.2.2.1.1; dsimp only; omega)⟩
theorem lV_failedCommand (hI : InvW A) : (((if wF A = -1 then (1, -1, A) else (0, wF A, A) : aRes)).1 = 0 ∨ ((if wF A = -1 then (1, -1, A) else (0, wF A, A) : aRes)).1 = 1) ∧ (((if wF A = -1 then (1, -1, A) else (0, wF A, A) : aRes)).1 = 0 → aIR ((if wF A = -1 then (1, -1, A) else (0, wF A, A) : aRes)).2.1) := by
  by_cases hc : wF A = -1
  · rw [if_pos hc]
    exact ⟨Or.inr (rfl), fun n => absurd n (by show ¬ ((1 : Int) = 0); decide)⟩
  · rw [if_neg hc]
    exact ⟨Or.inl rfl, fun _ => aIR_of (by have cc := hI.1.1.1.1.1; have := hI.2.2.1.2; dsimp only; omega) (by have cc := hI.1.1.1.1.1; have := hI.2.2.1.2; dsimp only; omega)⟩
theorem lV_undo (hI : InvW A) : ((qUndo A).1 = 0 ∨ (qUndo A).1 = 1) ∧ ((qUndo A).1 = 0 → aIR (qUndo A).2.1) := by
  unfold qUndo
  by_cases hc : wC A = 0
  · rw [if_pos hc]
    exact ⟨Or.inr (rfl), fun n => absurd n (by show ¬ ((1 : Int) = 0); decide)⟩
  · rw [if_neg hc]
    exact ⟨Or.inl rfl, fun _ => aIR_of (by have cc := hI.1.1.1.1.1; have := hI.2.1.1; dsimp only; omega) (by have cc := hI.1.1.1.1.1; have := hI.2.1.1; dsimp only; omega)⟩
theorem lV_restore (hI : InvW A) : ((qRestore A).1 = 0 ∨ (qRestore A).1 = 1) ∧ ((qRestore A).1 = 0 → aIR (qRestore A).2.1) := by
  unfold qRestore
  by_cases hc : wSv A = 0
  · rw [if_pos hc]
    exact ⟨Or.inr (rfl), fun n => absurd n (by show ¬ ((1 : Int) = 0); decide)⟩
  · rw [if_neg hc]
    have s1 : wSv A = 1 := by have := hI.1.2.2.1; omega
    exact ⟨Or.inl rfl, fun _ => aIR_of (by have cc := hI.1.1.1.1.1; have := (hI.1.2.2.2 s1).1.1.1; dsimp only; omega) (by have cc := hI.1.1.1.1.1; have := (hI.1.2.2.2 s1).1.1.1; dsimp only; omega)⟩
theorem lV_charAt {k : Int} (hI : InvW A) : ((qChar k A).1 = 0 ∨ (qChar k A).1 = 1) ∧ ((qChar k A).1 = 0 → aIR (qChar k A).2.1) := by
  unfold qChar
  by_cases hc : 0 ≤ k ∧ k < wLn A
  · rw [if_pos hc]
    exact ⟨Or.inl rfl, fun _ => aIR_of (by have cc := hI.1.1.1.1.1; have := hI.2.2.2.2.2 k hc.1 hc.2; dsimp only; omega) (by have cc := hI.1.1.1.1.1; have := hI.2.2.2.2.2 k hc.1 hc.2; dsimp only; omega)⟩
  · rw [if_neg hc]
    exact ⟨Or.inr (rfl), fun n => absurd n (by show ¬ ((1 : Int) = 0); decide)⟩
theorem lV_type {k : Int} (hI : InvW A) : ((qType k A).1 = 0 ∨ (qType k A).1 = 1) ∧ ((qType k A).1 = 0 → aIR (qType k A).2.1) := by
  unfold qType
  by_cases hc : wPn A = 60
  · rw [if_pos hc]
    exact ⟨Or.inr (rfl), fun n => absurd n (by show ¬ ((1 : Int) = 0); decide)⟩
  · rw [if_neg hc]
    exact ⟨Or.inl rfl, fun _ => aIR_of (by have cc := hI.1.1.1.1.1; have := hI.2.2.2.1.1; dsimp only; omega) (by have cc := hI.1.1.1.1.1; have := hI.2.2.2.1.1; dsimp only; omega)⟩
theorem lV_writeRun {r : Int} (hI : InvW A) : ((qWrite r A).1 = 0 ∨ (qWrite r A).1 = 1) ∧ ((qWrite r A).1 = 0 → aIR (qWrite r A).2.1) := by
  unfold qWrite
  by_cases hc : isN (wM A) r
  · rw [if_pos hc]
    have ok := lnRun_ok hI.1.1.1 hc
    have o1 := ok.1.1
    have o2 := ok.2
    exact ⟨Or.inl rfl, fun _ => aIR_of (by show -1 ≤ (lnRun (wM A) r).1; omega) (by show (lnRun (wM A) r).1 ≤ 70000; omega)⟩
  · rw [if_neg hc]
    exact ⟨Or.inr (rfl), fun n => absurd n (by show ¬ ((1 : Int) = 0); decide)⟩
theorem lV_execute (hI : InvW A) : ((qExec A).1 = 0 ∨ (qExec A).1 = 1 ∨ (qExec A).1 = 2) ∧ ((qExec A).1 = 0 → aIR (qExec A).2.1) := by
  have bp := hI.2.2.2.1
  have kr := prs_B (t := wPt A) (n := wPn A) 16 0 0 cm0 (by omega) bp.1.1 (by omega) (by decide) (fun j j0 j1 => by omega)
  unfold qExec
  obtain ⟨r, er⟩ : ∃ r, r = prs (wPt A) (wPn A) 16 0 0 cm0 := ⟨_, rfl⟩
  rw [← er] at kr ⊢
  dsimp only
  by_cases r1 : r.1 = 1
  · rw [if_pos r1]; exact ⟨Or.inr (Or.inl rfl), fun n => absurd n (by show ¬ ((1 : Int) = 0); decide)⟩
  · rw [if_neg r1]
    by_cases x1 : (exA r.2.2.2 r.2.2.1.toNat 0 (wM A)).1 = 1
    · rw [if_pos x1]; exact ⟨Or.inr (Or.inr (rfl)), fun n => absurd n (by show ¬ ((2 : Int) = 0); decide)⟩
    · rw [if_neg x1]
      have m1 : 0 ≤ r.2.2.1 ∧ r.2.2.1 ≤ 16 := kr.2.2.1
      exact ⟨Or.inl rfl, fun _ => aIR_of (by show -1 ≤ r.2.2.1; omega) (by show r.2.2.1 ≤ 70000; omega)⟩
theorem lV_meanScore (hI : InvW A) : ((qMean A).1 = 0 ∨ (qMean A).1 = 1) := by
  unfold qMean
  split
  · exact Or.inr rfl
  · exact Or.inl rfl
theorem lV_passRate {k : Int} (hI : InvW A) : ((qRate k A).1 = 0 ∨ (qRate k A).1 = 1 ∨ (qRate k A).1 = 2) ∧ ((qRate k A).1 = 0 → vf_n64 (FP.f2d (qRate k A).2.1)) := by
  unfold qRate
  split
  · split
    · exact ⟨Or.inr (Or.inr (rfl)), fun n => absurd n (by show ¬ ((2 : Int) = 0); decide)⟩
    · next hc =>
      have cc := hI.1.1.1.1.1
      have bs := sThr_B (a := wM A) (k := k) (wM A 2).toNat 0 0
      have ok := fRate_ok (s := sThr (wM A) k (wM A 2).toNat 0 0) (c := wM A 2) (by omega) (by omega) (by omega) (by omega)
      exact ⟨Or.inl rfl, fun _ => ok.2.1⟩
  · exact ⟨Or.inr (Or.inl rfl), fun n => absurd n (by show ¬ ((1 : Int) = 0); decide)⟩

end K20
