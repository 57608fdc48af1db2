/-! PROGRAMS: what they do; THE MODEL'S METHODS that do it (printed by wip/whole/model15.py) -/
section CG
variable {t t' : Int → Int} {n : Int}
abbrev tEq (t t' : Int → Int) (n : Int) : Prop := ∀ k, 0 ≤ k → k < n → t k = t' k
theorem dgt_cg (h : tEq t t' n) {p : Int} (p0 : 0 ≤ p) : dgt t n p ↔ dgt t' n p := by
  by_cases hp : p < n
  · unfold dgt; rw [h p p0 hp]
  · exact ⟨fun q => absurd q.1 hp, fun q => absurd q.1 hp⟩
theorem xE_cg (h : tEq t t' n) {c p w : Int} (p0 : 0 ≤ p) : xE t n c p w = xE t' n c p w := by
  unfold xE
  by_cases hp : p < n
  · rw [h p p0 hp]
  · rw [if_neg (fun q => hp q.2.1), if_neg (fun q => hp q.2.1)]
theorem xD_cg (h : tEq t t' n) {p w : Int} (p0 : 0 ≤ p) : xD t n p w = xD t' n p w := by
  unfold xD
  by_cases hp : p < n
  · unfold dgt; rw [h p p0 hp]
  · rw [if_neg (fun q => hp q.2.1), if_neg (fun q => hp q.2.1)]
theorem xN_cg (h : tEq t t' n) {p w : Int} (p0 : 0 ≤ p) : xN t n p w = xN t' n p w := by
  unfold xN
  by_cases h0 : w = 0 ∧ dgt t n p
  · have h0' : w = 0 ∧ dgt t' n p := ⟨h0.1, (dgt_cg h p0).mp h0.2⟩
    rw [if_pos h0, if_pos h0', h p p0 h0.2.1]
    by_cases h1 : dgt t n (p + 1)
    · rw [if_pos h1, if_pos ((dgt_cg h (by omega)).mp h1), h (p + 1) (by omega) h1.1]
      by_cases h2 : dgt t n (p + 2)
      · rw [if_pos h2, if_pos ((dgt_cg h (by omega)).mp h2), h (p + 2) (by omega) h2.1]
      · rw [if_neg h2, if_neg (fun q => h2 ((dgt_cg h (by omega)).mpr q))]
    · rw [if_neg h1, if_neg (fun q => h1 ((dgt_cg h (by omega)).mpr q))]
  · rw [if_neg h0, if_neg (fun q => h0 ⟨q.1, (dgt_cg h p0).mpr q.2⟩)]
theorem xA_cg (h : tEq t t' n) : ∀ (g : List Int) (p w : Int), 0 ≤ p → p ≤ n → xA t n g p w = xA t' n g p w
  | [], _, _, _, _ => rfl
  | c :: g, p, w, p0, p1 => by
    have bN := xN_B (t := t) (w := w) p1
    have bD := xD_B (t := t) (w := w) p1
    have bE := xE_B (t := t) (c := c) (w := w) p1
    unfold xA
    split
    · rw [xA_cg h g _ _ (by omega) bN.1.2, xN_cg h p0]
    · split
      · rw [xA_cg h g _ _ (by omega) bD.1.2, xD_cg h p0]
      · rw [xA_cg h g _ _ (by omega) bE.1.2, xE_cg h p0]
theorem lkF_cg (h : tEq t t' n) {ch : Int → Int} {p : Int} (p0 : 0 ≤ p) : ∀ (f : Nat) (i : Int), 0 ≤ i → lkF t n p ch f i = lkF t' n p ch f i
  | 0, _, _ => rfl
  | f + 1, i, i0 => by
    unfold lkF
    by_cases hp : p + i < n
    · rw [h (p + i) (by omega) hp, lkF_cg h p0 f (i + 1) (by omega)]
    · rw [if_neg (fun q => hp q.1), if_neg (fun q => hp q.1)]
theorem lik_cg (h : tEq t t' n) {p b : Int} (p0 : 0 ≤ p) : lik t n p b = lik t' n p b := lkF_cg h p0 _ 0 (by omega)
theorem bwF_cg (h : tEq t t' n) {p : Int} (p0 : 0 ≤ p) : ∀ (f : Nat) (k b : Int), bwF t n p f k b = bwF t' n p f k b
  | 0, _, _ => rfl
  | f + 1, k, b => by
    unfold bwF
    rw [lik_cg h p0, lik_cg h p0, bwF_cg h p0 f]
theorem bw_cg (h : tEq t t' n) {p : Int} (p0 : 0 ≤ p) : bw t n p = bw t' n p := bwF_cg h p0 8 1 0
theorem ags_cg (h : tEq t t' n) {b q : Int} (q0 : 0 ≤ q) (q1 : q ≤ n) : ags t n b q = ags t' n b q := xA_cg h _ _ _ q0 q1
theorem prs_cg (h : tEq t t' n) : ∀ (f : Nat) (p m : Int) (cm : Int → Int → Int), 0 ≤ p → p ≤ n → prs t n f p m cm = prs t' n f p m cm
  | 0, _, _, _, _, _ => rfl
  | f + 1, p, m, cm, p0, p1 => by
    have bb := bw_B t' n p
    have lb := lik_B (t := t') (n := n) (p := p) bb.1 bb.2
    have ln := lik_n (t := t') (n := n) (p := p) (b := bw t' n p) p1
    have ab := xA_B (t := t') (n := n) (gks.getD (bw t' n p).toNat []) (p + lik t' n p (bw t' n p)) 0 ln (Or.inl rfl)
    unfold prs
    rw [bw_cg h p0, lik_cg h p0, ags_cg h (by omega) ln]
    obtain ⟨r, er⟩ : ∃ r, r = ags t' n (bw t' n p) (p + lik t' n p (bw t' n p)) := ⟨_, rfl⟩
    have ab' : (p + lik t' n p (bw t' n p) ≤ r.2.1 ∧ r.2.1 ≤ n) := by rw [er]; exact ab.1
    rw [← er]
    by_cases hr : r.2.1 < n
    · rw [h r.2.1 (by omega) hr, prs_cg h f (r.2.1 + 1) (m + 1) _ (by omega) (by omega)]
    · rw [if_neg hr, if_neg hr]
end CG
def exC (cm : Int → Int) (a : Int → Int) : aCmd := if cm 0 = 0 then cStart (cm 1) (cm 2) a else if cm 0 = 1 then cLeg (cm 1) (cm 2) (cm 3) a else if cm 0 = 2 then cGate (cm 1) (cm 2) (cm 3) (cm 4) (cm 5) a else if cm 0 = 3 then cSet 6 (cm 1) 60 999 a else if cm 0 = 4 then cSet 5 (cm 1) 1 20 a else if cm 0 = 5 then cRun a else if cm 0 = 6 then cWalk (cm 1) (cm 2) (cm 3) a else if cm 0 = 7 then cFault (cm 1) a else cRetire a
def exA (cm : Int → Int → Int) : Nat → Int → (Int → Int) → Int × Int × (Int → Int)
  | 0, j, a => (0, j, a)
  | f + 1, j, a => if (exC (cm j) a).1 = 0 then exA cm f (j + 1) (exC (cm j) a).2.2 else (1, j, a)
def cm0 : Int → Int → Int := fun _ _ => 0
def qExec (A : aAb) : aRes :=
  let r := prs (wPt A) (wPn A) 16 0 0 cm0
  if r.1 = 1 then (1, -1, (A.1, A.2.1, A.2.2.1, (r.2.1, wF A), (0, wPt A), A.2.2.2.2.2)) else
  let x := exA r.2.2.2 r.2.2.1.toNat 0 (wM A)
  if x.1 = 1 then (2, -1, (A.1, A.2.1, A.2.2.1, (wE A, x.2.1), (0, wPt A), A.2.2.2.2.2)) else
  (0, r.2.2.1, (x.2.2, A.2.1, (sCnt (wC A), hPush (wH A) (wC A) (wM A)), A.2.2.2.1, (0, wPt A), A.2.2.2.2.2))
/-- a command of the row is as told -/
def cmR (c : Int → Int) : Prop := (0 ≤ c 0 ∧ c 0 < 9) ∧ ∀ i, 1 ≤ i → i ≤ nAr.getD (c 0).toNat 0 → 0 ≤ c i ∧ c i ≤ 999
theorem exC_cg {c c' : Int → Int} {a : Int → Int} (h0 : c 0 = c' 0) (hr : 0 ≤ c 0 ∧ c 0 < 9) (h : ∀ i, 1 ≤ i → i ≤ nAr.getD (c 0).toNat 0 → c i = c' i) : exC c a = exC c' a := by
  have hk : c 0 = 0 ∨ c 0 = 1 ∨ c 0 = 2 ∨ c 0 = 3 ∨ c 0 = 4 ∨ c 0 = 5 ∨ c 0 = 6 ∨ c 0 = 7 ∨ c 0 = 8 := by omega
  unfold exC
  rw [← h0]
  rcases hk with k | k | k | k | k | k | k | k | k <;> rw [k] at h ⊢
  · rw [if_pos rfl, if_pos rfl, h 1 (by decide) (by decide), h 2 (by decide) (by decide)]
  · simp only [Int.reduceEq, if_false, if_true, reduceIte]
    rw [h 1 (by decide) (by decide), h 2 (by decide) (by decide), h 3 (by decide) (by decide)]
  · simp only [Int.reduceEq, if_false, if_true, reduceIte]
    rw [h 1 (by decide) (by decide), h 2 (by decide) (by decide), h 3 (by decide) (by decide), h 4 (by decide) (by decide), h 5 (by decide) (by decide)]
  · simp only [Int.reduceEq, if_false, if_true, reduceIte]
    rw [h 1 (by decide) (by decide)]
  · simp only [Int.reduceEq, if_false, if_true, reduceIte]
    rw [h 1 (by decide) (by decide)]
  · simp only [Int.reduceEq, if_false, if_true, reduceIte]
  · simp only [Int.reduceEq, if_false, if_true, reduceIte]
    rw [h 1 (by decide) (by decide), h 2 (by decide) (by decide), h 3 (by decide) (by decide)]
  · simp only [Int.reduceEq, if_false, if_true, reduceIte]
    rw [h 1 (by decide) (by decide)]
  · simp only [Int.reduceEq, if_false, if_true, reduceIte]
theorem exC_I {c : Int → Int} {a : Int → Int} (h : Inv a) : Inv (exC c a).2.2 := by
  unfold exC
  (repeat' split) <;> first | exact cStart_I h | exact cLeg_I h | exact cGate_I h | exact cSet_I h (Or.inr ⟨rfl, by decide, by decide⟩) | exact cSet_I h (Or.inl ⟨rfl, by decide, by decide⟩) | exact cRun_I h | exact (cWalk_I h).1 | exact cFault_I h | exact cRetire_I h
theorem exC_t {c : Int → Int} {a : Int → Int} : 0 ≤ (exC c a).1 ∧ (exC c a).1 ≤ 3 := by
  unfold exC
  (repeat' split) <;> first | (unfold cStart) | (unfold cLeg) | (unfold cGate) | (unfold cSet) | (unfold cRun) | (unfold cWalk) | (unfold cFault) | (unfold cRetire)
  all_goals ((repeat' split) <;> first | (show (0 : Int) ≤ 0 ∧ (0 : Int) ≤ 3; decide) | (show (0 : Int) ≤ 1 ∧ (1 : Int) ≤ 3; decide) | (show (0 : Int) ≤ 2 ∧ (2 : Int) ≤ 3; decide) | (show (0 : Int) ≤ 3 ∧ (3 : Int) ≤ 3; decide))
theorem exA_s {cm : Int → Int → Int} : ∀ (f : Nat) (j : Int) (a : Int → Int), Inv a → Inv (exA cm f j a).2.2 ∧ (j ≤ (exA cm f j a).2.1 ∧ (exA cm f j a).2.1 ≤ j + (f : Int)) ∧ ((exA cm f j a).1 = 0 ∨ (exA cm f j a).1 = 1)
  | 0, j, a, h => ⟨h, ⟨Int.le_refl j, by show j ≤ j + ((0 : Nat) : Int); omega⟩, Or.inl rfl⟩
  | f + 1, j, a, h => by
    unfold exA
    split
    · have := exA_s (cm := cm) f (j + 1) _ (exC_I (c := cm j) h)
      refine ⟨this.1, ?_, this.2.2⟩
      omega
    · exact ⟨h, ⟨Int.le_refl j, by show j ≤ j + ((f + 1 : Nat) : Int); omega⟩, Or.inr rfl⟩
theorem gks_n {b : Int} (b0 : 0 ≤ b) (b1 : b < 9) {t : Int → Int} {n p w : Int} : ((xA t n (gks.getD b.toNat []) p w).1.length : Int) = nAr.getD b.toNat 0 := by
  have key : ∀ (g : List Int) (p w : Int), (xA t n g p w).1.length = (g.filter (fun c => c = 35 ∨ c = 63)).length := by
    intro g
    induction g with
    | nil => intro p w; rfl
    | cons c g ih =>
      intro p w
      unfold xA
      by_cases h1 : c = 35
      · rw [if_pos h1, List.filter_cons_of_pos (by simp [h1])]
        show (xA t n g _ _).1.length + 1 = _
        rw [ih]; rfl
      · rw [if_neg h1]
        by_cases h2 : c = 63
        · rw [if_pos h2, List.filter_cons_of_pos (by simp [h2])]
          show (xA t n g _ _).1.length + 1 = _
          rw [ih]; rfl
        · rw [if_neg h2, List.filter_cons_of_neg (by simp [h1, h2]), ih]
  rw [key]
  have k2 : ∀ b : Nat, b < 9 → ((((gks.getD b []).filter (fun c => c = 35 ∨ c = 63)).length : Nat) : Int) = nAr.getD b 0 := by decide +kernel
  exact k2 b.toNat (by omega)
/-- what reading a text gives -/
def prsK (n : Int) (r : Int × Int × Int × (Int → Int → Int)) : Prop := (r.1 = 1 ∨ r.1 = 0) ∧ (0 ≤ r.2.1 ∧ r.2.1 ≤ n) ∧ (0 ≤ r.2.2.1 ∧ r.2.2.1 ≤ 16) ∧ (r.1 = 0 → ∀ j, 0 ≤ j → j < r.2.2.1 → cmR (r.2.2.2 j))
theorem prs_B {t : Int → Int} {n : Int} : ∀ (f : Nat) (p m : Int) (cm : Int → Int → Int), 0 ≤ p → p ≤ n → 0 ≤ m → m + (f : Int) ≤ 16 → (∀ j, 0 ≤ j → j < m → cmR (cm j)) → prsK n (prs t n f p m cm)
  | 0, p, m, cm, p0, p1, m0, m1, h => ⟨Or.inl rfl, ⟨p0, p1⟩, ⟨m0, by show m ≤ 16; omega⟩, fun q => by cases q⟩
  | f + 1, p, m, cm, p0, p1, m0, m1, h => by
    have bb := bw_B t n p
    have lb := lik_B (t := t) (n := n) (p := p) bb.1 bb.2
    have ln := lik_n (t := t) (n := n) (p := p) (b := bw t n p) p1
    have ab := xA_B (t := t) (n := n) (gks.getD (bw t n p).toNat []) (p + lik t n p (bw t n p)) 0 ln (Or.inl rfl)
    have gn := gks_n bb.1 bb.2 (t := t) (n := n) (p := p + lik t n p (bw t n p)) (w := 0)
    unfold prs
    obtain ⟨r, er⟩ : ∃ r, r = ags t n (bw t n p) (p + lik t n p (bw t n p)) := ⟨_, rfl⟩
    have ab' : (p + lik t n p (bw t n p) ≤ r.2.1 ∧ r.2.1 ≤ n) ∧ (∀ v ∈ r.1, 0 ≤ v ∧ v ≤ 999) := by rw [er]; exact ⟨ab.1, ab.2.2⟩
    have gn' : (r.1.length : Int) = nAr.getD (bw t n p).toNat 0 := by rw [er]; exact gn
    rw [← er]
    have hc : ∀ j, 0 ≤ j → j < m + 1 → cmR (cmI cm m (bw t n p) r.1 j) := by
      intro j j0 j1
      unfold cmI
      by_cases e : j = m
      · rw [if_pos e]
        refine ⟨bb, fun i i0 i1 => ?_⟩
        have i2 : i ≤ nAr.getD (bw t n p).toNat 0 := i1
        show 0 ≤ (if i = 0 then bw t n p else r.1.getD (i - 1).toNat 0) ∧ (if i = 0 then bw t n p else r.1.getD (i - 1).toNat 0) ≤ 999
        rw [if_neg (by omega)]
        have hl : (i - 1).toNat < r.1.length := by omega
        rw [List.getD_eq_getElem?_getD, List.getElem?_eq_getElem hl]
        exact ab'.2 _ (List.getElem_mem hl)
      · rw [if_neg e]
        exact h j j0 (by omega)
    split
    · exact ⟨Or.inl rfl, ⟨by show 0 ≤ p + lik t n p (bw t n p); omega, ln⟩, ⟨m0, by show m ≤ 16; omega⟩, fun q => by cases q⟩
    · split
      · exact ⟨Or.inl rfl, ⟨by show 0 ≤ r.2.1; omega, ab'.1.2⟩, ⟨m0, by show m ≤ 16; omega⟩, fun q => by cases q⟩
      · split
        · split
          · exact prs_B f (r.2.1 + 1) (m + 1) _ (by omega) (by omega) (by omega) (by omega) hc
          · exact ⟨Or.inl rfl, ⟨by show 0 ≤ r.2.1; omega, ab'.1.2⟩, ⟨m0, by show m ≤ 16; omega⟩, fun q => by cases q⟩
        · exact ⟨Or.inr rfl, ⟨by show 0 ≤ r.2.1; omega, ab'.1.2⟩, ⟨by show 0 ≤ m + 1; omega, by show m + 1 ≤ 16; omega⟩, fun _ => hc⟩
theorem qExec_I {A : aAb} (h : InvW A) : InvW (qExec A).2.2 := by
  have bp := h.2.2.2.1.1
  have k := prs_B (t := wPt A) (n := wPn A) 16 0 0 cm0 (by omega) (by omega) (by omega) (by decide) (fun j j0 j1 => by omega)
  obtain ⟨r, er⟩ : ∃ r, r = prs (wPt A) (wPn A) 16 0 0 cm0 := ⟨_, rfl⟩
  rw [← er] at k
  obtain ⟨h1, h2, h3, h4, h5⟩ := h
  have hp : (0 ≤ (0 : Int) ∧ (0 : Int) ≤ 60) ∧ ∀ k, 0 ≤ k → k < (0 : Int) → 0 ≤ wPt A k ∧ wPt A k < 65536 := ⟨by decide, fun k k0 k1 => by omega⟩
  unfold qExec
  rw [← er]
  dsimp only
  have x := exA_s (cm := r.2.2.2) r.2.2.1.toNat 0 (wM A) h1.1
  split
  · exact ⟨h1, h2, ⟨⟨by show -1 ≤ r.2.1; have := k.2.1; omega, by show r.2.1 ≤ 1000; have := k.2.1; omega⟩, h3.2⟩, hp, h5⟩
  · split
    · exact ⟨h1, h2, ⟨h3.1, ⟨by show -1 ≤ (exA r.2.2.2 r.2.2.1.toNat 0 (wM A)).2.1; omega, by show (exA r.2.2.2 r.2.2.1.toNat 0 (wM A)).2.1 ≤ 1000; have := k.2.2.1; omega⟩⟩, hp, h5⟩
    · have hA : InvW (A.1, A.2.1, A.2.2.1, A.2.2.2.1, ((0 : Int), wPt A), A.2.2.2.2.2) := ⟨h1, h2, h3, hp, h5⟩
      exact hA.push x.1
section M15
variable {l : Launch} {g : aG} {d : Nat} {z : aM} {f : Int → Int} {p w : Int}
theorem cM_readArguments {b to : Int} (hd : 4 ≤ d) (hz : tOk z) (p0 : 0 ≤ p) (p1 : p ≤ z (16, 0, 0) 19) (b0 : 0 ≤ b) (b1 : b < 9) (t0 : 0 ≤ to) (t1 : to ≤ 361) : aE0 l g nX7_readArguments d [.inr (.inr (.inl (16, 0, 0))), .inl b, .inl to] (mem z f p 0) (mem z (udl f to (ags (z (17, 5, 0)) (z (16, 0, 0) 19) b p).1) (ags (z (17, 5, 0)) (z (16, 0, 0) 19) b p).2.1 (ags (z (17, 5, 0)) (z (16, 0, 0) 19) b p).2.2) := by
  have hk : b = 0 ∨ b = 1 ∨ b = 2 ∨ b = 3 ∨ b = 4 ∨ b = 5 ∨ b = 6 ∨ b = 7 ∨ b = 8 := by omega
  rcases hk with rfl | rfl | rfl | rfl | rfl | rfl | rfl | rfl | rfl
  · exact cM_readArguments0 hd hz p0 p1 (Or.inl rfl) t0 t1
  · exact cM_readArguments1 hd hz p0 p1 (Or.inl rfl) t0 t1
  · exact cM_readArguments2 hd hz p0 p1 (Or.inl rfl) t0 t1
  · exact cM_readArguments3 hd hz p0 p1 (Or.inl rfl) t0 t1
  · exact cM_readArguments4 hd hz p0 p1 (Or.inl rfl) t0 t1
  · exact cM_readArguments5 hd hz p0 p1 (Or.inl rfl) t0 t1
  · exact cM_readArguments6 hd hz p0 p1 (Or.inl rfl) t0 t1
  · exact cM_readArguments7 hd hz p0 p1 (Or.inl rfl) t0 t1
  · exact cM_readArguments8 hd hz p0 p1 (Or.inl rfl) t0 t1

theorem cM_readCommand {m : Int} (hd : 5 ≤ d) (hz : tOk z) (hk : wOk z) (p0 : 0 ≤ p) (p1 : p ≤ z (16, 0, 0) 19) (hm : z (16, 0, 0) 17 = m) (m0 : 0 ≤ m) (m1 : m < 60) {q : Int} {zf : aM} (eq : q = p + lik (z (17, 5, 0)) (z (16, 0, 0) 19) p (bw (z (17, 5, 0)) (z (16, 0, 0) 19) p))
    (ez : zf = (if lik (z (17, 5, 0)) (z (16, 0, 0) 19) p (bw (z (17, 5, 0)) (z (16, 0, 0) 19) p) < wL (bw (z (17, 5, 0)) (z (16, 0, 0) 19) p) then mem z f q 1 else mem (aWr z (16, 0, 0) 17 (m + 1)) (udl (ud f (6 * m) (bw (z (17, 5, 0)) (z (16, 0, 0) 19) p)) (6 * m + 1) (ags (z (17, 5, 0)) (z (16, 0, 0) 19) (bw (z (17, 5, 0)) (z (16, 0, 0) 19) p) q).1) (ags (z (17, 5, 0)) (z (16, 0, 0) 19) (bw (z (17, 5, 0)) (z (16, 0, 0) 19) p) q).2.1 (ags (z (17, 5, 0)) (z (16, 0, 0) 19) (bw (z (17, 5, 0)) (z (16, 0, 0) 19) p) q).2.2)) : aE0 l g nX7_readCommand d [.inr (.inr (.inl (16, 0, 0)))] (mem z f p 0) zf := by
  have n0 := hz.1
  obtain ⟨b, eb⟩ : ∃ b, b = bw (z (17, 5, 0)) (z (16, 0, 0) 19) p := ⟨_, rfl⟩
  have bb := bw_B (z (17, 5, 0)) (z (16, 0, 0) 19) p
  rw [← eb] at bb eq ez
  obtain ⟨L, eL⟩ : ∃ L, L = lik (z (17, 5, 0)) (z (16, 0, 0) 19) p b := ⟨_, rfl⟩
  have lb := lik_B (t := (z (17, 5, 0))) (n := (z (16, 0, 0) 19)) (p := p) bb.1 bb.2
  have ln := lik_n (t := (z (17, 5, 0))) (n := (z (16, 0, 0) 19)) (p := p) (b := b) p1
  have wb := wL_B bb.1 bb.2
  rw [← eL] at lb ln eq ez
  have e8 : ∀ (p w : Int), mem z f p w (17, 8, 0) b = wB b := fun p w => by
    rw [mem_q z f p w (by decide) (by decide), ← Int.toNat_of_nonneg bb.1, hk.2 b.toNat (by omega)]
    unfold wB
    rw [Int.toNat_of_nonneg bb.1]
  have e8' : ∀ (p w : Int), mem z f p w (17, 8, 0) (b + 1) = wB b + wL b := fun p w => by
    have := hk.2 (b.toNat + 1) (by omega)
    rw [show ((b.toNat + 1 : Nat) : Int) = b + 1 by omega] at this
    rw [mem_q z f p w (by decide) (by decide), this]
    unfold wB wL
    omega
  refine aM1_of kX7_readCommand rfl (fun B hB => ?_)
  have s87 : ∀ v : Int, ((v = 1 ∧ L < wL b) ∨ (v = 0 ∧ ¬ L < wL b)) → B (none, 0, 0) (mem z f q v) 87 [some (.inr (.inr (.inl (16, 0, 0)))), some (.inl (6 * m)), some (.inl b), some (.inl L)] [] := by
    intro v hv
    have e20 := mem_20 z f q v
    rcases hv with ⟨rfl, hv⟩ | ⟨rfl, hv⟩
    · rw [if_pos hv] at ez
      refine hB [] 1000 _ _ _ _ _ ?_
      repeat' (first | exact ez.symm | refine And.intro ?_ ?_ | (intro hh; first | exact absurd hh (by decide) | exact absurd rfl hh | (exfalso; omega) | skip) | fail)
      all_goals first | omega | (exact rfl)
    · rw [if_neg hv] at ez
      have hz' : tOk (aWr z (16, 0, 0) 17 (m + 1)) := by
        refine ⟨?_, fun k k0 k1 => ?_⟩
        · rw [aWr_pS, pS_at, ud_ne (by decide)]; exact hz.1
        · rw [aWr_pS, pS_at, ud_ne (by decide)] at k1
          rw [aWr_ne2 (by decide)]; exact hz.2 k k0 k1
      have e5 : aWr z (16, 0, 0) 17 (m + 1) (17, 5, 0) = z (17, 5, 0) := aWr_ne2 (by decide)
      have e19 : aWr z (16, 0, 0) 17 (m + 1) (16, 0, 0) 19 = z (16, 0, 0) 19 := by rw [aWr_pS, pS_at, ud_ne (by decide)]
      have ra := cM_readArguments (l := l) (g := g) (d := d - 1) (z := aWr z (16, 0, 0) 17 (m + 1)) (f := ud f (6 * m) b) (p := q) (b := b) (to := 6 * m + 1) (by omega) hz' (by omega) (by rw [e19]; omega) bb.1 bb.2 (by omega) (by omega)
      rw [e5, e19, ← ez] at ra
      have s111 : B (none, 0, 0) (mem (aWr z (16, 0, 0) 17 (m + 1)) (ud f (6 * m) b) q 0) 111 [some (.inr (.inr (.inl (16, 0, 0)))), some (.inl (6 * m)), some (.inl b), some (.inl L)] [] := by
        refine hB [] 1000 _ _ _ _ _ ?_
        repeat' (first | refine And.intro ?_ ?_ | refine Or.inl (uE0 ra ?_) | fail)
        all_goals first | omega | (exact rfl)
      have g17 : aWr (mem z f q 0) (17, 9, 0) (6 * m) b (16, 0, 0) 17 = m := by rw [aWr_ne2 (by decide), mem_o z f q 0 (by decide) (by decide), hm]
      refine hB [111] 1000 _ _ _ _ _ ?_
      repeat' (first | refine And.intro ?_ ?_ | (intro hh; first | exact absurd hh (by decide) | exact absurd rfl hh | (exfalso; omega) | skip) | fail)
      all_goals first | omega | (exact rfl) | skip
      show B (none, 0, 0) (aWr (aWr (mem z f q 0) (17, 9, 0) (6 * m) b) (16, 0, 0) 17 (aWr (mem z f q 0) (17, 9, 0) (6 * m) b (16, 0, 0) 17 + 1)) 111 _ _
      rw [g17, mem_w9, mem_w17]
      exact s111
  have s59 : B (none, 0, 0) (mem z f q 0) 59 [some (.inr (.inr (.inl (16, 0, 0)))), some (.inl (6 * m)), some (.inl b), some (.inl L)] [] := by
    have k1 := e8 q 0
    have k2 := e8' q 0
    refine hB [87] 1000 _ _ _ _ _ ?_
    repeat' (first | refine And.intro ?_ ?_ | (intro hh; skip) | fail)
    all_goals first | omega | (exact rfl) | (exact Or.inl rfl) | (exact Or.inr rfl) | skip
    · show B (none, 0, 0) (aWr (mem z f q 0) (16, 0, 0) 20 _) 87 _ _
      rw [mem_w20]
      exact s87 _ (by omega)
    · show B (none, 0, 0) (aWr (mem z f q 0) (16, 0, 0) 20 _) 87 _ _
      rw [mem_w20]
      exact s87 _ (by omega)
  have g18 : mem z f p 0 (16, 0, 0) 18 = p := mem_18 z f p 0
  have g17 : mem z f p 0 (16, 0, 0) 17 = m := by rw [mem_o z f p 0 (by decide) (by decide), hm]
  have hlk : ∀ k : Int, 0 ≤ k → k < 9 → aE1 l g nX7_likeness (d - 1) [.inr (.inr (.inl (16, 0, 0))), .inl k] (mem z f p 0) (lik (z (17, 5, 0)) (z (16, 0, 0) 19) p k) (mem z f p 0) := fun k k0 k1 => cM_likeness hz p0 p1 (Or.inl rfl) hk k0 k1
  have s43 : B (none, 0, 0) (mem z f p 0) 43 [some (.inr (.inr (.inl (16, 0, 0)))), some (.inl (6 * m)), some (.inl b), some (.inl 9)] [] := by
    have hl := hlk b bb.1 bb.2
    rw [← eL] at hl
    refine hB [59] 1000 _ _ _ _ _ ?_
    repeat' (first | refine And.intro ?_ ?_ | refine Or.inl (uE hl ?_) | fail)
    all_goals first | omega | (exact rfl) | skip
    show B (none, 0, 0) (aWr (mem z f p 0) (16, 0, 0) 18 (mem z f p 0 (16, 0, 0) 18 + L)) 59 _ _
    rw [mem_w18, g18, ← eq]
    exact s59
  have loop : ∀ (n : Nat) (k b' : Int), k + (n : Int) = 9 → 1 ≤ k → 0 ≤ b' → b' < 9 → bwF (z (17, 5, 0)) (z (16, 0, 0) 19) p n k b' = b → B (none, 0, 0) (mem z f p 0) 12 [some (.inr (.inr (.inl (16, 0, 0)))), some (.inl (6 * m)), some (.inl b'), some (.inl k)] [] := by
    intro n
    induction n with
    | zero =>
      intro k b' h1 h2 h3 h4 e
      have e' : b' = b := e
      have ek : k = 9 := by omega
      subst e' ek
      refine hB [43] 1000 _ _ _ _ _ ?_
      repeat' (first | exact s43 | refine And.intro ?_ ?_ | (intro hh; first | exact absurd hh (by decide) | exact absurd rfl hh | (exfalso; omega) | skip) | fail)
      all_goals first | omega | (exact rfl)
    | succ n ih =>
      intro k b' h1 h2 h3 h4 e
      have e' : bwF (z (17, 5, 0)) (z (16, 0, 0) 19) p n (k + 1) (if lik (z (17, 5, 0)) (z (16, 0, 0) 19) p b' < lik (z (17, 5, 0)) (z (16, 0, 0) 19) p k then k else b') = b := e
      have l1 := hlk k (by omega) (by omega)
      have l2 := hlk b' h3 h4
      have c1 := lik_B (t := (z (17, 5, 0))) (n := (z (16, 0, 0) 19)) (p := p) (b := k) (by omega) (by omega)
      have c2 := lik_B (t := (z (17, 5, 0))) (n := (z (16, 0, 0) 19)) (p := p) (b := b') h3 h4
      have c3 := wL_B (b := k) (by omega) (by omega)
      have c4 := wL_B (b := b') (by omega) (by omega)
      obtain ⟨x1, hx1⟩ : ∃ x1, x1 = lik (z (17, 5, 0)) (z (16, 0, 0) 19) p k := ⟨_, rfl⟩
      obtain ⟨x2, hx2⟩ : ∃ x2, x2 = lik (z (17, 5, 0)) (z (16, 0, 0) 19) p b' := ⟨_, rfl⟩
      rw [← hx1] at l1 c1 e'
      rw [← hx2] at l2 c2 e'
      by_cases hc : x2 < x1
      · rw [if_pos hc] at e'
        have nx := ih (k + 1) k (by omega) (by omega) (by omega) (by omega) e'
        refine hB [12] 1000 _ _ _ _ _ ?_
        repeat' (first | exact nx | refine And.intro ?_ ?_ | (intro hh; first | exact absurd hh (by decide) | exact absurd rfl hh | (exfalso; omega) | skip) | refine Or.inl (uE l1 ?_) | refine Or.inl (uE l2 ?_) | fail)
        all_goals first | omega | (exact rfl)
      · rw [if_neg hc] at e'
        have nx := ih (k + 1) b' (by omega) (by omega) (by omega) (by omega) e'
        refine hB [12] 1000 _ _ _ _ _ ?_
        repeat' (first | exact nx | refine And.intro ?_ ?_ | (intro hh; first | exact absurd hh (by decide) | exact absurd rfl hh | (exfalso; omega) | skip) | refine Or.inl (uE l1 ?_) | refine Or.inl (uE l2 ?_) | fail)
        all_goals first | omega | (exact rfl)
  have st := loop 8 1 0 (by decide) (by decide) (by decide) (by decide) eb.symm
  refine hB [12] 1000 _ _ _ _ _ ?_
  repeat' (first | refine And.intro ?_ ?_ | fail)
  all_goals first | omega | (exact rfl) | skip
  show B (none, 0, 0) _ 12 [some (.inr (.inr (.inl (16, 0, 0)))), some (.inl (6 * (mem z f p 0 (16, 0, 0) 17))), some (.inl 0), some (.inl 1)] []
  rw [g17]
  exact st

theorem cM_does {j : Int} {c : Int → Int} (hd : 6 ≤ d) (hJ : Inv (z (17, 0, 0))) (j0 : 0 ≤ j) (j1 : j ≤ 60) (hc : ∀ i, 0 ≤ i → i ≤ 5 → z (17, 9, 0) (6 * j + i) = c i) (hr : cmR c) : aE0 l g nX7_does d [.inr (.inr (.inl (16, 0, 0))), .inl (6 * j)] z (mR z (exC c (z (17, 0, 0))).1 (exC c (z (17, 0, 0))).2.2) := by
  have hk : c 0 = 0 ∨ c 0 = 1 ∨ c 0 = 2 ∨ c 0 = 3 ∨ c 0 = 4 ∨ c 0 = 5 ∨ c 0 = 6 ∨ c 0 = 7 ∨ c 0 = 8 := by have := hr.1; omega
  have g0 : z (17, 9, 0) (6 * j) = c 0 := by have := hc 0 (by decide) (by decide); rw [Int.add_zero] at this; exact this
  have g1 := hc 1 (by decide) (by decide)
  have g2 := hc 2 (by decide) (by decide)
  have g3 := hc 3 (by decide) (by decide)
  have g4 := hc 4 (by decide) (by decide)
  have g5 := hc 5 (by decide) (by decide)
  have ha := hr.2
  have hmR : ∀ (t t' : Int) (a : Int → Int) (v : Int), t = t' → mR z t a = mR z t' a := fun _ _ _ _ e => by rw [e]
  rcases hk with k | k | k | k | k | k | k | k | k
  · rw [k] at ha
    have r1 := ha 1 (by decide) (by decide)
    have r2 := ha 2 (by decide) (by decide)
    have ex : exC c (z (17, 0, 0)) = cStart (c 1) (c 2) (z (17, 0, 0)) := by
      unfold exC
      rw [k]
      exact if_pos rfl
    rw [ex]
    refine aM1_of kX7_does rfl (fun B hB => ?_)
    refine hB [] 1000 _ _ _ _ _ ?_
    repeat' (first | refine And.intro ?_ ?_ | (intro hh; first | exact absurd hh (by decide) | exact absurd rfl hh | (exfalso; omega) | skip) | refine Or.inl (uE (cM_startIt ?_ hJ.1 ?_ ?_) ?_) | fail)
    all_goals first | omega | (exact rfl) | (unfold aIR; omega) | (simp only [g1, g2, g3, g4, g5]; done) | fail "left"
  · rw [k] at ha
    have r1 := ha 1 (by decide) (by decide)
    have r2 := ha 2 (by decide) (by decide)
    have r3 := ha 3 (by decide) (by decide)
    have ex : exC c (z (17, 0, 0)) = cLeg (c 1) (c 2) (c 3) (z (17, 0, 0)) := by
      unfold exC
      rw [k]
      simp only [Int.reduceEq, if_false, if_true, reduceIte]
    rw [ex]
    refine aM1_of kX7_does rfl (fun B hB => ?_)
    refine hB [] 1000 _ _ _ _ _ ?_
    repeat' (first | refine And.intro ?_ ?_ | (intro hh; first | exact absurd hh (by decide) | exact absurd rfl hh | (exfalso; omega) | skip) | refine Or.inl (uE (cM_legIt ?_ hJ.1 ?_ ?_ ?_) ?_) | fail)
    all_goals first | omega | (exact rfl) | (unfold aIR; omega) | (simp only [g1, g2, g3, g4, g5]; done) | fail "left"
  · rw [k] at ha
    have r1 := ha 1 (by decide) (by decide)
    have r2 := ha 2 (by decide) (by decide)
    have r3 := ha 3 (by decide) (by decide)
    have r4 := ha 4 (by decide) (by decide)
    have r5 := ha 5 (by decide) (by decide)
    have ex : exC c (z (17, 0, 0)) = cGate (c 1) (c 2) (c 3) (c 4) (c 5) (z (17, 0, 0)) := by
      unfold exC
      rw [k]
      simp only [Int.reduceEq, if_false, if_true, reduceIte]
    rw [ex]
    refine aM1_of kX7_does rfl (fun B hB => ?_)
    refine hB [] 1000 _ _ _ _ _ ?_
    repeat' (first | refine And.intro ?_ ?_ | (intro hh; first | exact absurd hh (by decide) | exact absurd rfl hh | (exfalso; omega) | skip) | refine Or.inl (uE (cM_gateIt ?_ hJ.1 ?_ ?_ ?_ ?_ ?_) ?_) | fail)
    all_goals first | omega | (exact rfl) | (unfold aIR; omega) | (simp only [g1, g2, g3, g4, g5]; done) | fail "left"
  · rw [k] at ha
    have r1 := ha 1 (by decide) (by decide)
    have ex : exC c (z (17, 0, 0)) = cSet 6 (c 1) 60 999 (z (17, 0, 0)) := by
      unfold exC
      rw [k]
      simp only [Int.reduceEq, if_false, if_true, reduceIte]
    rw [ex]
    refine aM1_of kX7_does rfl (fun B hB => ?_)
    refine hB [] 1000 _ _ _ _ _ ?_
    repeat' (first | refine And.intro ?_ ?_ | (intro hh; first | exact absurd hh (by decide) | exact absurd rfl hh | (exfalso; omega) | skip) | refine Or.inl (uE (cM_setsIt ?_ hJ.1 ?_ ?_ ?_ ?_ ?_) ?_) | fail)
    all_goals first | omega | (exact rfl) | (unfold aIR; omega) | (simp only [g1, g2, g3, g4, g5]; done) | fail "left"
  · rw [k] at ha
    have r1 := ha 1 (by decide) (by decide)
    have ex : exC c (z (17, 0, 0)) = cSet 5 (c 1) 1 20 (z (17, 0, 0)) := by
      unfold exC
      rw [k]
      simp only [Int.reduceEq, if_false, if_true, reduceIte]
    rw [ex]
    refine aM1_of kX7_does rfl (fun B hB => ?_)
    refine hB [] 1000 _ _ _ _ _ ?_
    repeat' (first | refine And.intro ?_ ?_ | (intro hh; first | exact absurd hh (by decide) | exact absurd rfl hh | (exfalso; omega) | skip) | refine Or.inl (uE (cM_setsIt ?_ hJ.1 ?_ ?_ ?_ ?_ ?_) ?_) | fail)
    all_goals first | omega | (exact rfl) | (unfold aIR; omega) | (simp only [g1, g2, g3, g4, g5]; done) | fail "left"
  · rw [k] at ha
    have ex : exC c (z (17, 0, 0)) = cRun (z (17, 0, 0)) := by
      unfold exC
      rw [k]
      simp only [Int.reduceEq, if_false, if_true, reduceIte]
    rw [ex]
    refine aM1_of kX7_does rfl (fun B hB => ?_)
    refine hB [] 1000 _ _ _ _ _ ?_
    repeat' (first | refine And.intro ?_ ?_ | (intro hh; first | exact absurd hh (by decide) | exact absurd rfl hh | (exfalso; omega) | skip) | refine Or.inl (uE (cM_runIt ?_ hJ.1) ?_) | fail)
    all_goals first | omega | (exact rfl) | (unfold aIR; omega) | (simp only [g1, g2, g3, g4, g5]; done) | fail "left"
  · rw [k] at ha
    have r1 := ha 1 (by decide) (by decide)
    have r2 := ha 2 (by decide) (by decide)
    have r3 := ha 3 (by decide) (by decide)
    have ex : exC c (z (17, 0, 0)) = cWalk (c 1) (c 2) (c 3) (z (17, 0, 0)) := by
      unfold exC
      rw [k]
      simp only [Int.reduceEq, if_false, if_true, reduceIte]
    rw [ex]
    refine aM1_of kX7_does rfl (fun B hB => ?_)
    refine hB [] 1000 _ _ _ _ _ ?_
    repeat' (first | refine And.intro ?_ ?_ | (intro hh; first | exact absurd hh (by decide) | exact absurd rfl hh | (exfalso; omega) | skip) | refine Or.inl (uE (cM_walkIt ?_ hJ ?_ ?_ ?_) ?_) | fail)
    all_goals first | omega | (exact rfl) | (unfold aIR; omega) | (simp only [g1, g2, g3, g4, g5]; done) | fail "left"
  · rw [k] at ha
    have r1 := ha 1 (by decide) (by decide)
    have ex : exC c (z (17, 0, 0)) = cFault (c 1) (z (17, 0, 0)) := by
      unfold exC
      rw [k]
      simp only [Int.reduceEq, if_false, if_true, reduceIte]
    rw [ex]
    refine aM1_of kX7_does rfl (fun B hB => ?_)
    refine hB [] 1000 _ _ _ _ _ ?_
    repeat' (first | refine And.intro ?_ ?_ | (intro hh; first | exact absurd hh (by decide) | exact absurd rfl hh | (exfalso; omega) | skip) | refine Or.inl (uE (cM_faultIt ?_ hJ.1 ?_) ?_) | fail)
    all_goals first | omega | (exact rfl) | (unfold aIR; omega) | (simp only [g1, g2, g3, g4, g5]; done) | fail "left"
  · rw [k] at ha
    have ex : exC c (z (17, 0, 0)) = cRetire (z (17, 0, 0)) := by
      unfold exC
      rw [k]
      simp only [Int.reduceEq, if_false, if_true, reduceIte]
    rw [ex]
    refine aM1_of kX7_does rfl (fun B hB => ?_)
    refine hB [] 1000 _ _ _ _ _ ?_
    repeat' (first | refine And.intro ?_ ?_ | (intro hh; first | exact absurd hh (by decide) | exact absurd rfl hh | (exfalso; omega) | skip) | refine Or.inl (uE (cM_retireIt ?_ hJ.1) ?_) | fail)
    all_goals first | omega | (exact rfl) | (unfold aIR; omega) | (simp only [g1, g2, g3, g4, g5]; done) | fail "left"

end M15
