/-! THE LAW: where a run is, a leg is (printed by wip/whole/cls21.py) -/
def iL (a : Int → Int) : Prop := 0 < a 2 → 0 < a 0
def kp (a b : Int → Int) : Prop := b 0 = a 0 ∧ b 2 = a 2
def kq (a b : Int → Int) : Prop := (b 0 = a 0 ∧ b 2 = a 2) ∧ b 7 = a 7 ∧ b 8 = a 8
theorem kp.iL {a b : Int → Int} (h : kp a b) (hl : iL a) : iL b := fun w => by
  have := hl (by rw [← h.2]; exact w)
  rw [h.1]; exact this
section K21
variable {a b : Int → Int}
theorem kq.rf (a : Int → Int) : kq a a := ⟨⟨rfl, rfl⟩, rfl, rfl⟩
theorem kq.ud {i v : Int} (h : kq a b) (hi : 11 ≤ i ∨ i = 9 ∨ i = 10) : kq a (ud b i v) := ⟨⟨by rw [ud_ne (by omega)]; exact h.1.1, by rw [ud_ne (by omega)]; exact h.1.2⟩, by rw [ud_ne (by omega)]; exact h.2.1, by rw [ud_ne (by omega)]; exact h.2.2⟩
theorem kp.ud {i v : Int} (h : kp a b) (hi : i ≠ 0 ∧ i ≠ 2) : kp a (ud b i v) := ⟨by rw [ud_ne (by omega)]; exact h.1, by rw [ud_ne (by omega)]; exact h.2⟩
theorem kq.lo {leg p w : Int} (h : kq a b) (a7 : 0 ≤ a 7) (l0 : 0 ≤ leg) (w0 : 0 ≤ w) : kq a (sLoA b leg p w) := by
  have b7 := h.2.1
  unfold sLoA
  exact (h.ud (by omega)).ud (by omega)
theorem sRe_kq {w : Int} (a7 : 0 ≤ a 7) (w0 : 0 ≤ w) : ∀ (n : Nat) (b : Int → Int) (leg acc : Int), kq a b → 0 ≤ leg → kq a (sRe w n b leg acc).2
  | 0, _, _, _, h, _ => h
  | n + 1, b, leg, acc, h, l0 => sRe_kq a7 w0 n _ (leg + 1) _ (h.lo a7 l0 w0) (by omega)
theorem sCm_kq (a7 : 0 ≤ a 7) (a8 : 0 ≤ a 8) : ∀ (n : Nat) (b : Int → Int) (k acc : Int), kq a b → kq a (sCm n b k acc).2
  | 0, _, _, _, h => h
  | n + 1, b, k, acc, h => by
    unfold sCm
    split
    · exact sCm_kq a7 a8 n _ _ _ (h.lo a7 (by rw [h.2.2]; exact a8) (by decide))
    · exact sCm_kq a7 a8 n _ _ _ h
theorem sEnds_kp (h : kp a b) : kp a (sEnds b) := by
  unfold sEnds
  exact (((h.ud (by decide)).ud (by decide)).ud (by decide)).ud (by decide)
theorem sNx_kp (a7 : 0 ≤ a 7) (h : kq a b) : kp a (sNx b) := by
  have b7 := h.2.1
  unfold sNx
  split
  · exact sEnds_kp ((show kp a b from h.1).ud (by omega))
  · exact (show kp a b from h.1).ud (by decide)
theorem sAr_kp {x y lost : Int} (a7 : 0 ≤ a 7) (a8 : 0 ≤ a 8) (h : kq a b) : kp a (sAr x y lost b).2 := by
  unfold sAr
  split
  · exact sNx_kp a7 (sCm_kq a7 a8 _ _ _ _ h)
  · exact h.1
theorem sLn_kp {x y : Int} (a7 : 0 ≤ a 7) (a8 : 0 ≤ a 8) (h : kq a b) : kp a (sLn x y b).2 := by
  unfold sLn
  split
  · exact sAr_kp a7 a8 (((h.lo a7 (by rw [h.2.2]; exact a8) (by decide)).ud (by decide)).ud (by decide))
  · exact sAr_kp a7 a8 ((h.ud (by decide)).ud (by decide))
theorem sTm_kp {x y : Int} (a7 : 0 ≤ a 7) (a8 : 0 ≤ a 8) (h : kq a b) : kp a (sTm (59 + 13 * a 7) x y b).2 := by
  unfold sTm
  split
  · exact sEnds_kp (sRe_kq a7 (by decide) _ _ _ _ h (by rw [h.2.2]; exact a8)).1
  · unfold sSt
    exact sLn_kp a7 a8 (h.ud (by omega))
theorem cWalk_L {x y s : Int} (hI : Inv a) (hl : iL a) : iL (cWalk x y s a).2.2 := by
  unfold cWalk
  split
  · split
    · exact hl
    · next n7 =>
      have gg := hI.1.go n7
      exact (sTm_kp (by omega) gg.2.1.1 ((kq.rf a).ud (by omega))).iL hl
  · exact hl
theorem cFault_L {p : Int} (hI : Inv a) (hl : iL a) : iL (cFault p a).2.2 := by
  unfold cFault
  split
  · split
    · exact hl
    · next n7 =>
      have gg := hI.1.go n7
      have k : kp a (sLoA a (a 8) p 4) := ((kq.rf a).lo (by omega) gg.2.1.1 (by decide)).1
      exact k.iL hl
  · exact hl
theorem cRetire_L (hI : Inv a) (hl : iL a) : iL (cRetire a).2.2 := by
  unfold cRetire
  split
  · exact hl
  · next n7 =>
    have gg := hI.1.go n7
    exact (sEnds_kp (sRe_kq (by omega) (by decide) _ _ _ _ (kq.rf a) gg.2.1.1).1).iL hl
theorem cStart_L {x y : Int} (hl : iL a) : iL (cStart x y a).2.2 := by
  unfold cStart
  split
  · split
    · exact hl
    · exact (((show kp a a from ⟨rfl, rfl⟩).ud (by decide)).ud (by decide)).iL hl
  · exact hl
theorem cLeg_L {x y p : Int} (hI : Inv a) (hl : iL a) : iL (cLeg x y p a).2.2 := by
  have cc := hI.1.1.1
  unfold cLeg
  split
  · split
    · exact hl
    · intro w
      show 0 < ud (ud (ud (ud a (11 + 3 * a 0) x) (11 + 3 * a 0 + 1) y) (11 + 3 * a 0 + 2) p) 0 (a 0 + 1) 0
      rw [ud_at]
      omega
  · exact hl
theorem cGate_L {leg x1 y1 x2 y2 : Int} (hI : Inv a) (hl : iL a) : iL (cGate leg x1 y1 x2 y2 a).2.2 := by
  have cc := hI.1.1.1
  unfold cGate
  split
  · split
    · split
      · exact hl
      · exact ((((((((show kp a a from ⟨rfl, rfl⟩).ud (by omega)).ud (by omega)).ud (by omega)).ud (by omega)).ud (by omega)).ud (by decide)) : kp a _).iL hl
    · exact hl
  · exact hl
theorem cSet_L {w v lo hi : Int} (hw : w ≠ 0 ∧ w ≠ 2) (hl : iL a) : iL (cSet w v lo hi a).2.2 := by
  unfold cSet
  split
  · split
    · exact hl
    · exact ((show kp a a from ⟨rfl, rfl⟩).ud hw).iL hl
  · exact hl
theorem sPts_kp {r : Int} (r0 : 0 ≤ r) : ∀ (n : Nat) (b : Int → Int) (k : Int), 0 ≤ k → kp a b → kp a (sPts r n b k)
  | 0, _, _, _, h => h
  | n + 1, b, k, k0, h => sPts_kp r0 n _ (k + 1) (by omega) (h.ud (by omega))
theorem cRun_L (hI : Inv a) (hl : iL a) : iL (cRun a).2.2 := by
  have cc := hI.1.1.1
  unfold cRun
  split
  · exact hl
  · next n =>
    intro _
    have k := sPts_kp (a := a) (r := a 2) (by omega) (a 0).toNat a 0 (by decide) ⟨rfl, rfl⟩
    show 0 < sGo (a 2) (sPts (a 2) (a 0).toNat a 0) 0
    unfold sGo
    rw [ud_ne (by decide), ud_ne (by decide), ud_ne (by decide), ud_ne (by decide), ud_ne (by decide), k.1]
    omega
theorem exC_L {c : Int → Int} (hI : Inv a) (hl : iL a) : iL (exC c a).2.2 := by
  unfold exC
  repeat' split
  all_goals first | exact cStart_L hl | exact cLeg_L hI hl | exact cGate_L hI hl | exact cSet_L (by decide) hl | exact cRun_L hI hl | exact cWalk_L hI hl | exact cFault_L hI hl | exact cRetire_L hI hl | exact hl
theorem exA_L {cm : Int → Int → Int} : ∀ (f : Nat) (j : Int) (a : Int → Int), Inv a → iL a → iL (exA cm f j a).2.2
  | 0, _, _, _, h => h
  | f + 1, j, a, hI, h => by
    unfold exA
    split
    · exact exA_L f (j + 1) _ (exC_I hI) (exC_L hI h)
    · exact h
end K21
def InvL (A : aAb) : Prop := iL (wM A) ∧ (wSv A = 1 → iL (wS A)) ∧ ∀ i, 0 ≤ i → i < wC A → iL (wH A i)
section K21b
variable {A : aAb}
theorem hPush_L {a : Int → Int} (h : InvL A) (hc : 0 ≤ wC A ∧ wC A ≤ 8) (ha : iL a) : ∀ i, 0 ≤ i → i < sCnt (wC A) → iL (hPush (wH A) (wC A) a i) := by
  intro i i0 i1
  unfold hPush
  unfold sCnt at i1
  by_cases c8 : wC A = 8
  · rw [if_pos c8] at i1 ⊢
    by_cases i7 : i = 7
    · rw [if_pos i7]; exact ha
    · rw [if_neg i7]; exact h.2.2 (i + 1) (by omega) (by omega)
  · rw [if_neg c8] at i1 ⊢
    by_cases ic : i = wC A
    · rw [if_pos ic]; exact ha
    · rw [if_neg ic]; exact h.2.2 i i0 (by omega)
theorem oCmd_L {c : (Int → Int) → aCmd} (hI : InvW A) (h : InvL A) (hc : iL (c (wM A)).2.2) : InvL (oCmd c A).2.2 := by
  unfold oCmd
  split
  · exact ⟨hc, h.2.1, hPush_L h hI.2.1.1 h.1⟩
  · exact h
theorem qUndo_L (hI : InvW A) (h : InvL A) : InvL (qUndo A).2.2 := by
  have cc := hI.2.1.1
  unfold qUndo
  split
  · exact h
  · exact ⟨h.2.2 (wC A - 1) (by omega) (by omega), h.2.1, fun i i0 i1 => h.2.2 i i0 (by have : i < wC A - 1 := i1; omega)⟩
theorem qSave_L (h : InvL A) : InvL (qSave A).2.2 := ⟨h.1, fun _ => h.1, h.2.2⟩
theorem qRestore_L (hI : InvW A) (h : InvL A) : InvL (qRestore A).2.2 := by
  have sv := hI.1.2.2.1
  unfold qRestore
  split
  · exact h
  · exact ⟨h.2.1 (by omega), h.2.1, fun i i0 i1 => by have i2 : i < (0 : Int) := i1; omega⟩
theorem qType_L {c : Int} (h : InvL A) : InvL (qType c A).2.2 := by
  unfold qType
  split
  · exact h
  · exact h
theorem qWrite_L {r : Int} (h : InvL A) : InvL (qWrite r A).2.2 := by
  unfold qWrite
  split
  · exact h
  · exact h
theorem qWriteR_L (h : InvL A) : InvL (qWriteR A).2.2 := h
theorem qExec_L (hI : InvW A) (h : InvL A) : InvL (qExec A).2.2 := by
  unfold qExec
  dsimp only
  split
  · exact h
  · split
    · exact h
    · exact ⟨exA_L _ _ _ hI.1.1 h.1, h.2.1, hPush_L h hI.2.1.1 h.1⟩
end K21b
