/-! THE WORLD, as the model holds it: state, saved state, past, errors, program, line -/
abbrev aAb : Type := (Int → Int) × (Int × (Int → Int)) × (Int × (Int → Int → Int)) × (Int × Int) × (Int × (Int → Int)) × (Int × (Int → Int))
abbrev wM (A : aAb) : Int → Int := A.1
abbrev wSv (A : aAb) : Int := A.2.1.1
abbrev wS (A : aAb) : Int → Int := A.2.1.2
abbrev wC (A : aAb) : Int := A.2.2.1.1
abbrev wH (A : aAb) : Int → Int → Int := A.2.2.1.2
abbrev wE (A : aAb) : Int := A.2.2.2.1.1
abbrev wF (A : aAb) : Int := A.2.2.2.1.2
abbrev wPn (A : aAb) : Int := A.2.2.2.2.1.1
abbrev wPt (A : aAb) : Int → Int := A.2.2.2.2.1.2
abbrev wLn (A : aAb) : Int := A.2.2.2.2.2.1
abbrev wLt (A : aAb) : Int → Int := A.2.2.2.2.2.2
def ltr : List Int := [115, 116, 97, 114, 116, 32, 108, 101, 103, 32, 103, 97, 116, 101, 32, 108, 105, 109, 105, 116, 32, 119, 105, 100, 116, 104, 32, 114, 117, 110, 119, 97, 108, 107, 32, 102, 97, 117, 108, 116, 32, 114, 101, 116, 105, 114, 101]
def bgn : List Int := [0, 6, 10, 15, 21, 27, 30, 35, 41, 47]
/-- the model's memory holds the world -/
def RelM (z : aM) (A : aAb) : Prop :=
  (z (17, 0, 0) = wM A ∧ z (16, 0, 0) 4 = wSv A ∧ z (17, 3, 0) = wS A) ∧
  (z (16, 0, 0) 6 = wC A ∧ ∀ i, 0 ≤ i → i < wC A → ∀ k, 0 ≤ k → k < 163 → z (17, 4, 0) (163 * i + k) = wH A i k) ∧
  (z (16, 0, 0) 7 = wE A ∧ z (16, 0, 0) 8 = wF A) ∧
  (z (16, 0, 0) 11 = wPn A ∧ ∀ k, 0 ≤ k → k < wPn A → z (17, 5, 0) k = wPt A k) ∧
  (z (16, 0, 0) 13 = wLn A ∧ ∀ k, 0 ≤ k → k < wLn A → z (17, 6, 0) k = wLt A k) ∧
  (vz (z (17, 1, 0)) ∧ vz (z (17, 2, 0))) ∧
  ((∀ k : Nat, k < 47 → z (17, 7, 0) (k : Int) = ltr.getD k 0) ∧ ∀ k : Nat, k < 10 → z (17, 8, 0) (k : Int) = bgn.getD k 0)
/-- what always holds of the world -/
def InvW (A : aAb) : Prop :=
  (Inv (wM A) ∧ vz (wS A) ∧ ((wSv A = 0 ∨ wSv A = 1) ∧ (wSv A = 1 → Inv (wS A)))) ∧
  ((0 ≤ wC A ∧ wC A ≤ 8) ∧ ∀ i, 0 ≤ i → i < wC A → Inv (wH A i)) ∧
  ((-1 ≤ wE A ∧ wE A ≤ 1000) ∧ (-1 ≤ wF A ∧ wF A ≤ 1000)) ∧
  ((0 ≤ wPn A ∧ wPn A ≤ 60) ∧ ∀ k, 0 ≤ k → k < wPn A → 0 ≤ wPt A k ∧ wPt A k < 65536) ∧
  ((0 ≤ wLn A ∧ wLn A ≤ 60) ∧ ∀ k, 0 ≤ k → k < wLn A → 0 ≤ wLt A k ∧ wLt A k < 65536)
/-- only the model's things differ -/
def fM (z z' : aM) : Prop := ∀ q : aP, (q.1 ≠ 16 ∧ q.1 ≠ 17) → z' q = z q
theorem fM.rf (z : aM) : fM z z := fun _ _ => rfl
theorem fM.tr {z z' z'' : aM} (h : fM z z') (h' : fM z' z'') : fM z z'' := fun q hq => (h' q hq).trans (h q hq)
theorem fM.pS {z z' : aM} {p : aP} {f : Int → Int} (h : fM z z') (hp : p.1 = 16 ∨ p.1 = 17) : fM z (pS z' p f) := fun q hq => by
  rw [pS_ne (by intro e; rw [e] at hq; omega)]
  exact h q hq
theorem fM.wr {z z' : aM} {p : aP} {k x : Int} (h : fM z z') (hp : p.1 = 16 ∨ p.1 = 17) : fM z (aWr z' p k x) := by
  rw [aWr_pS]
  exact h.pS hp
/-- a call's outcome: what is thrown, what is answered, the world then -/
abbrev aRes : Type := Int × Int × aAb
def mOp (l : Launch) (g : aG) (y d : Nat) (as : List aV) (z : aM) (R : aRes) : Prop := aM1 l g y d as z (fun r z' => r = some (.inl R.2.1) ∧ (RelM z' R.2.2 ∧ z' (16, 0, 0) 9 = R.1) ∧ fM z z')
def hPush (h : Int → Int → Int) (c : Int) (a : Int → Int) : Int → Int → Int := if c = 8 then (fun i => if i = 7 then a else h (i + 1)) else (fun i => if i = c then a else h i)
def oCmd (c : (Int → Int) → aCmd) (A : aAb) : aRes := if (c (wM A)).1 = 0 then (0, (c (wM A)).2.1, ((c (wM A)).2.2, A.2.1, (sCnt (wC A), hPush (wH A) (wC A) (wM A)), A.2.2.2)) else ((c (wM A)).1, (c (wM A)).2.1, A)
theorem sPast_s {t a : Int → Int} {c : Int} {h : Int → Int → Int} (c0 : 0 ≤ c) (c1 : c ≤ 8) (e : ∀ i, 0 ≤ i → i < c → ∀ k, 0 ≤ k → k < 163 → t (163 * i + k) = h i k) : ∀ i, 0 ≤ i → i < sCnt c → ∀ k, 0 ≤ k → k < 163 → sPast t a c (163 * i + k) = hPush h c a i k := by
  intro i i0 i1 k k0 k1
  unfold sPast hPush
  unfold sCnt at i1
  by_cases q : c = 8
  · rw [if_pos q] at i1 ⊢
    rw [if_pos q]
    unfold cpo
    by_cases q7 : i = 7
    · rw [if_pos (by omega), if_pos q7]
      congr 1
      omega
    · rw [if_neg (by omega), if_neg q7]
      unfold sShift
      rw [if_pos (by omega), ← e (i + 1) (by omega) (by omega) k k0 k1]
      congr 1
      omega
  · rw [if_neg q] at i1 ⊢
    rw [if_neg q]
    unfold cpo
    by_cases qc : i = c
    · rw [if_pos (by omega), if_pos qc]
      congr 1
      omega
    · rw [if_neg (by omega), if_neg qc]
      exact e i i0 (by omega) k k0 k1
theorem InvW.push {A : aAb} {a' : Int → Int} (h : InvW A) (h' : Inv a') : InvW (a', A.2.1, (sCnt (wC A), hPush (wH A) (wC A) (wM A)), A.2.2.2) := by
  obtain ⟨⟨h1, h2⟩, ⟨h3, h4⟩, h5⟩ := h
  refine ⟨⟨h', h2⟩, ⟨?_, fun i i0 i1 => ?_⟩, h5⟩
  · show 0 ≤ sCnt (wC A) ∧ sCnt (wC A) ≤ 8
    unfold sCnt
    split <;> omega
  · show Inv (hPush (wH A) (wC A) (wM A) i)
    have i1' : i < sCnt (wC A) := i1
    unfold sCnt at i1'
    unfold hPush
    split
    · next q =>
      rw [if_pos q] at i1'
      show Inv (if i = 7 then wM A else wH A (i + 1))
      split
      · exact h1
      · exact h4 _ (by omega) (by omega)
    · next q =>
      rw [if_neg q] at i1'
      show Inv (if i = wC A then wM A else wH A i)
      split
      · exact h1
      · exact h4 _ (by omega) (by omega)
theorem oCmd_I {c : (Int → Int) → aCmd} {A : aAb} (h : InvW A) (hc : Inv (c (wM A)).2.2) : InvW (oCmd c A).2.2 := by
  unfold oCmd
  split
  · exact h.push hc
  · exact h
/-- the memory at the commands' beginning and end -/
def zSt (z : aM) : aM := pS (aWr z (16, 0, 0) 9 0) (17, 1, 0) (z (17, 0, 0))
def zPu (z : aM) : aM := aWr (pS z (17, 4, 0) (sPast (z (17, 4, 0)) (z (17, 1, 0)) (z (16, 0, 0) 6))) (16, 0, 0) 6 (sCnt (z (16, 0, 0) 6))
theorem zSt_m (z : aM) : zSt z (17, 0, 0) = z (17, 0, 0) := by
  unfold zSt
  rw [pS_ne (by decide), aWr_pS, pS_ne (by decide)]
theorem zSt_6 (z : aM) : zSt z (16, 0, 0) 6 = z (16, 0, 0) 6 := by
  unfold zSt
  rw [pS_ne (by decide), aWr_pS, pS_at, ud_ne (by decide)]
theorem zSt_9 (z : aM) : zSt z (16, 0, 0) 9 = 0 := by
  unfold zSt
  rw [pS_ne (by decide), aWr_pS, pS_at, ud_at]
theorem RelM.st {z : aM} {A : aAb} (h : RelM z A) (hI : InvW A) : RelM (zSt z) A ∧ fM z (zSt z) := by
  obtain ⟨⟨h1, h2, h3⟩, ⟨h4, h5⟩, ⟨h6, h7⟩, ⟨h8, h9⟩, ⟨h10, h11⟩, ⟨h12, h13⟩, h14, h15⟩ := h
  have e : ∀ q : aP, q ≠ (17, 1, 0) → q ≠ (16, 0, 0) → zSt z q = z q := fun q q1 q2 => by
    unfold zSt
    rw [pS_ne q1, aWr_pS, pS_ne q2]
  have e16 : ∀ k, k ≠ 9 → zSt z (16, 0, 0) k = z (16, 0, 0) k := fun k hk => by
    unfold zSt
    rw [pS_ne (by decide), aWr_pS, pS_at, ud_ne hk]
  have e1 : zSt z (17, 1, 0) = z (17, 0, 0) := by
    unfold zSt
    rw [pS_at]
  unfold RelM
  rw [e (17, 0, 0) (by decide) (by decide), e (17, 3, 0) (by decide) (by decide), e (17, 4, 0) (by decide) (by decide), e (17, 5, 0) (by decide) (by decide), e (17, 6, 0) (by decide) (by decide), e (17, 2, 0) (by decide) (by decide), e (17, 7, 0) (by decide) (by decide), e (17, 8, 0) (by decide) (by decide), e16 4 (by decide), e16 6 (by decide), e16 7 (by decide), e16 8 (by decide), e16 11 (by decide), e16 13 (by decide), e1]
  exact ⟨⟨⟨h1, h2, h3⟩, ⟨h4, h5⟩, ⟨h6, h7⟩, ⟨h8, h9⟩, ⟨h10, h11⟩, ⟨by rw [h1]; exact hI.1.1.1.2.2.2.2, h13⟩, h14, h15⟩, ((fM.rf z).wr (Or.inl rfl)).pS (Or.inr rfl)⟩
theorem RelM.thr {z : aM} {A : aAb} (h : RelM z A) (t : Int) : RelM (aWr z (16, 0, 0) 9 t) A ∧ aWr z (16, 0, 0) 9 t (16, 0, 0) 9 = t := by
  obtain ⟨⟨h1, h2, h3⟩, ⟨h4, h5⟩, ⟨h6, h7⟩, ⟨h8, h9⟩, ⟨h10, h11⟩, ⟨h12, h13⟩, h14, h15⟩ := h
  have e : ∀ q : aP, q ≠ (16, 0, 0) → aWr z (16, 0, 0) 9 t q = z q := fun q q2 => by rw [aWr_pS, pS_ne q2]
  have e16 : ∀ k, k ≠ 9 → aWr z (16, 0, 0) 9 t (16, 0, 0) k = z (16, 0, 0) k := fun k hk => by rw [aWr_pS, pS_at, ud_ne hk]
  refine ⟨?_, by rw [aWr_pS, pS_at, ud_at]⟩
  unfold RelM
  rw [e (17, 0, 0) (by decide), e (17, 1, 0) (by decide), e (17, 3, 0) (by decide), e (17, 4, 0) (by decide), e (17, 5, 0) (by decide), e (17, 6, 0) (by decide), e (17, 2, 0) (by decide), e (17, 7, 0) (by decide), e (17, 8, 0) (by decide), e16 4 (by decide), e16 6 (by decide), e16 7 (by decide), e16 8 (by decide), e16 11 (by decide), e16 13 (by decide)]
  exact ⟨⟨h1, h2, h3⟩, ⟨h4, h5⟩, ⟨h6, h7⟩, ⟨h8, h9⟩, ⟨h10, h11⟩, ⟨h12, h13⟩, h14, h15⟩
/-- the state is replaced, the one before kept -/
theorem RelM.pu {z : aM} {A : aAb} {a' : Int → Int} (h : RelM z A) (hI : InvW A) (ha : z (17, 1, 0) = wM A) : RelM (zPu (pS z (17, 0, 0) a')) (a', A.2.1, (sCnt (wC A), hPush (wH A) (wC A) (wM A)), A.2.2.2) ∧ zPu (pS z (17, 0, 0) a') (16, 0, 0) 9 = z (16, 0, 0) 9 ∧ fM z (zPu (pS z (17, 0, 0) a')) := by
  obtain ⟨⟨h1, h2, h3⟩, ⟨h4, h5⟩, ⟨h6, h7⟩, ⟨h8, h9⟩, ⟨h10, h11⟩, ⟨h12, h13⟩, h14, h15⟩ := h
  obtain ⟨z1, hz1⟩ : ∃ z1, z1 = zPu (pS z (17, 0, 0) a') := ⟨_, rfl⟩
  have f16 : pS z (17, 0, 0) a' (16, 0, 0) = z (16, 0, 0) := pS_ne (by decide)
  have f4 : pS z (17, 0, 0) a' (17, 4, 0) = z (17, 4, 0) := pS_ne (by decide)
  have f1 : pS z (17, 0, 0) a' (17, 1, 0) = z (17, 1, 0) := pS_ne (by decide)
  have e : ∀ q : aP, q ≠ (17, 0, 0) → q ≠ (17, 4, 0) → q ≠ (16, 0, 0) → z1 q = z q := fun q q1 q2 q3 => by
    rw [hz1]; unfold zPu
    rw [aWr_pS, pS_ne q3, pS_ne q2, pS_ne q1]
  have e0 : z1 (17, 0, 0) = a' := by
    rw [hz1]; unfold zPu
    rw [aWr_pS, pS_ne (by decide), pS_ne (by decide), pS_at]
  have e4 : z1 (17, 4, 0) = sPast (z (17, 4, 0)) (wM A) (wC A) := by
    rw [hz1]; unfold zPu
    rw [aWr_pS, pS_ne (by decide), pS_at, f4, f1, f16, ha, h4]
  have e6 : z1 (16, 0, 0) 6 = sCnt (wC A) := by
    rw [hz1]; unfold zPu
    rw [aWr_pS, pS_at, ud_at, f16, h4]
  have e16 : ∀ k, k ≠ 6 → z1 (16, 0, 0) k = z (16, 0, 0) k := fun k hk => by
    rw [hz1]; unfold zPu
    rw [aWr_pS, pS_at, ud_ne hk, pS_ne (by decide), f16]
  have cc := hI.2.1.1
  rw [← hz1]
  refine ⟨?_, e16 9 (by decide), fun q hq => e q (by intro w; rw [w] at hq; exact hq.2 rfl) (by intro w; rw [w] at hq; exact hq.2 rfl) (by intro w; rw [w] at hq; exact hq.1 rfl)⟩
  unfold RelM
  rw [e0, e4, e6, e (17, 1, 0) (by decide) (by decide) (by decide), e (17, 3, 0) (by decide) (by decide) (by decide), e (17, 5, 0) (by decide) (by decide) (by decide), e (17, 6, 0) (by decide) (by decide) (by decide), e (17, 2, 0) (by decide) (by decide) (by decide), e (17, 7, 0) (by decide) (by decide) (by decide), e (17, 8, 0) (by decide) (by decide) (by decide), e16 4 (by decide), e16 7 (by decide), e16 8 (by decide), e16 11 (by decide), e16 13 (by decide)]
  exact ⟨⟨rfl, h2, h3⟩, ⟨rfl, sPast_s cc.1 cc.2 h5⟩, ⟨h6, h7⟩, ⟨h8, h9⟩, ⟨h10, h11⟩, ⟨h12, h13⟩, h14, h15⟩
