/-! THE LAW'S WALK: what it stands on (printed by wip/whole/law0.py) -/
theorem RelM.fr {z z' : aM} {A : aAb} (h : RelM z A) (e : ∀ q : aP, (q.1 = 16 ∨ q.1 = 17) → z' q = z q) : RelM z' A := by
  unfold RelM at *
  rw [e (16, 0, 0) (Or.inl rfl), e (17, 0, 0) (Or.inr rfl), e (17, 1, 0) (Or.inr rfl), e (17, 2, 0) (Or.inr rfl), e (17, 3, 0) (Or.inr rfl), e (17, 4, 0) (Or.inr rfl), e (17, 5, 0) (Or.inr rfl), e (17, 6, 0) (Or.inr rfl), e (17, 7, 0) (Or.inr rfl), e (17, 8, 0) (Or.inr rfl)]
  exact h
/-- a call of one of the law's wrappers: it may make one thing of six places -/
theorem uL {l : Launch} {g : aG} {y d : Nat} {as rest : List aV} {z : aM} {Q : Option aV → aM → Prop} {K : aSt → List aV → aM → Prop} (h : lOp l g y d as z Q) (k : ∀ r z', Q r z' → aPu r rest (fun st => K none st z')) : aCt l g y d 1 6 none as z (fun r s' z' => aCnt none ≤ aCnt s' ∧ aPu r rest (fun st => K s' st z')) (fun _ _ _ => False) :=
  h.mono (fun r s' z' q => by obtain ⟨rfl, q⟩ := q; exact ⟨Nat.le_refl _, k r z' q⟩) (fun _ _ _ q => q)
/-- the law's state: class and model hold one world -/
def lS (S : Int → Int) (z : aM) (A : aAb) : Prop := (RelC z A ∧ RelM z A) ∧ (InvW A ∧ InvL A) ∧ z (31, 0, 0) = S
theorem lS.mid {S : Int → Int} {z z1 : aM} {A : aAb} (h : lS S z A) (f : fL z z1) : RelM z1 A ∧ z1 (31, 0, 0) = z (31, 0, 0) :=
  ⟨h.1.2.fr (fun q hq => f q (by omega) (by omega) (by omega)), f (31, 0, 0) (by decide) (by decide) (by decide)⟩
theorem lS.fin {S : Int → Int} {z z1 z2 : aM} {A A2 : aAb} (h : lS S z A) (f : fL z z1) (c : RelC z1 A2) (m : RelM z2 A2) (f2 : fM z1 z2) (I : InvW A2) (L : InvL A2) : lS S z2 A2 :=
  ⟨⟨c.fr (fun q hq => f2 q ⟨by omega, by omega⟩), m⟩, ⟨I, L⟩, (f2 (31, 0, 0) ⟨by decide, by decide⟩).trans ((h.mid f).2.trans h.2.2)⟩
theorem aCmp_rf (v : Int) : aCmp v v = 0 := by rcases aCmp_s v v with h | h | h <;> omega
theorem cmpV0 {r : Option Ordering} (h : r = some .eq) : (Op.cmpValue r .l).toInt = 0 := by rw [h]; rfl
theorem uD_rt (x : UInt64) : UInt64.ofNat ((x.toNat : Int)).toNat = x := by
  rw [Int.toNat_natCast]
  exact UInt64.ofNat_toNat
/-- how the law's frame is walked, its tables in pieces -/
abbrev lBt (l : Launch) (g : aG) (Q : Option aV → aSt → aM → Prop) (X : Nat → aSt → aM → Prop) (B : aK → aM → Nat → List (Option aV) → List aV → Prop) : Prop :=
  ∀ (T : aT), T.all (fun q => aOk 281 8 (aMt 281).2.1 q.1 q.2) = true → ∀ (cs : List Nat) (n : Nat) (k : aK) (z : aM) (pc : Nat) (ls : List (Option aV)) (st : List aV), wp l g (20, 603072, 7202922, 2, []) Q X T cs B n k z pc ls st → B k z pc ls st
/-- how a step of the law ends -/
abbrev lNx (S : Int → Int) (B : aK → aM → Nat → List (Option aV) → List aV → Prop) (i : Int) (c1 c2 : Nat) : Prop :=
  ∀ (z' : aM) (A' : aAb) (x6 x7 x8 : Option aV) (n1 n2 : Nat), lS S z' A' → n1 ≤ c1 + 1 → n2 ≤ c2 + 6 → B (none, n1, n2) z' 2859 [some (.inr (.inr (.inl (31, 0, 0)))), some (.inr (.inr (.inl (0, 0, 0)))), some (.inr (.inr (.inl (16, 0, 0)))), some (.inr (.inr (.inl (18, 0, 0)))), some (.inr (.inr (.inl (19, 0, 0)))), some (.inl i), x6, x7, x8] []
/-- what a step of the law begins with -/
abbrev lIn (g : aG) (S : Int → Int) (z : aM) (A : aAb) (i : Int) (c1 c2 : Nat) : Prop :=
  lS S z A ∧ (∀ j, aIR (S j)) ∧ (0 ≤ i ∧ i + 6 ≤ (g.2.2.2.2.2 : Int)) ∧ c1 + 1 ≤ 603072 ∧ c2 + 6 ≤ 7202922
theorem sTot_B {a : Int → Int} (h : Inv0 a) : 0 ≤ sTot a ∧ sTot a ≤ 180 := by
  have cc := h.1.1
  have tb := sN_B (f := fun k => a (11 + 3 * k + 2)) (B := 30) (a 0).toNat (fun k hk => by have := (h.1.2.2.1 k (by omega) (by omega)).2; omega)
  unfold sTot
  omega
section LK
variable {A : aAb}
theorem qR_A {c : Prop} [Decidable c] {v : Int} : (qR c v A).2.2 = A := by unfold qR; split <;> rfl
theorem qOnLine_A {k : Int} : (qOnLine k A).2.2 = A := by unfold qOnLine; split <;> rfl
theorem qGoing_A {v : Int} : (qGoing v A).2.2 = A := by unfold qGoing; split <;> rfl
theorem qNext_A : (qNext A).2.2 = A := by
  unfold qNext
  split
  · rfl
  · split <;> rfl
theorem qAsk_A {x y e v : Int} : (qAsk x y e v A).2.2 = A := by
  unfold qAsk
  split
  · split <;> rfl
  · rfl
theorem qPassedTo_A {x y : Int} : (qPassedTo x y A).2.2 = A := qAsk_A
theorem qOff_A {x y : Int} : (qOff x y A).2.2 = A := qAsk_A
theorem qLoss_A {x y s : Int} : (qLoss x y s A).2.2 = A := rfl
theorem qComplete_A {r : Int} : (qComplete r A).2.2 = A := by unfold qComplete; split <;> rfl
theorem qPassed_A {r k : Int} : (qPassed r k A).2.2 = A := by unfold qPassed; split <;> rfl
theorem qRunAt_A {r : Int} : (qRunAt r A).2.2 = A := by unfold qRunAt; split <;> rfl
theorem qBest_A {r : Int} : (qBest r A).2.2 = A := by
  unfold qBest
  split
  · split <;> rfl
  · rfl
theorem qChar_A {k : Int} : (qChar k A).2.2 = A := by unfold qChar; split <;> rfl
theorem qErr_A {w v : Int} : ((if w = -1 then (1, -1, A) else (0, v, A) : aRes)).2.2 = A := by split <;> rfl
theorem qMean_A : (qMean A).2.2 = A := by unfold qMean; split <;> rfl
theorem qRate_A {k : Int} : (qRate k A).2.2 = A := by
  unfold qRate
  split
  · split <;> rfl
  · rfl
theorem lI_A {R : aAb} (e : R = A) (hI : InvW A) (hL : InvL A) : InvW R ∧ InvL R := by rw [e]; exact ⟨hI, hL⟩
theorem lM_mean (hI : InvW A) : (qMean A).1 = 0 → FP.dcmp (qMean A).2.1 (qMean A).2.1 = some .eq := by
  unfold qMean
  split
  · exact fun n => absurd n (by show ¬ ((1 : Int) = 0); decide)
  · next hc =>
    have cc := hI.1.1.1.1.1
    have bs := sSums_B hI.1.1.1
    intro _
    exact (dMean_ok (s := sSums (wM A)) (c := wM A 2) (by omega) (by omega) (by omega) (by omega)).2
theorem lM_rate {k : Int} (hI : InvW A) : (qRate k A).1 = 0 → FP.dcmp (FP.f2d (qRate k A).2.1) (FP.f2d (qRate k A).2.1) = some .eq := by
  unfold qRate
  split
  · split
    · exact fun n => absurd n (by show ¬ ((2 : Int) = 0); decide)
    · next hc =>
      have cc := hI.1.1.1.1.1
      have bs := sThr_B (a := wM A) (k := k) (wM A 2).toNat 0 0
      exact fun _ => (fRate_ok (s := sThr (wM A) k (wM A 2).toNat 0 0) (c := wM A 2) (by omega) (by omega) (by omega) (by omega)).2.2
  · exact fun n => absurd n (by show ¬ ((1 : Int) = 0); decide)
end LK
