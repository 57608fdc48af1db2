/-! PROGRAMS: what a text is read as; THE MODEL'S METHODS that read it (printed by wip/whole/model14.py) -/
abbrev dgt (t : Int → Int) (n p : Int) : Prop := p < n ∧ (48 ≤ t p ∧ t p ≤ 57)
def xE (t : Int → Int) (n c p w : Int) : Int × Int := if w = 0 ∧ (p < n ∧ t p = c) then (p + 1, 0) else (p, 1)
def xD (t : Int → Int) (n p w : Int) : Int × Int × Int := if w = 0 ∧ dgt t n p then (t p - 48, p + 1, 0) else (0, p, 1)
def xN (t : Int → Int) (n p w : Int) : Int × Int × Int := if w = 0 ∧ dgt t n p then (if dgt t n (p + 1) then (if dgt t n (p + 2) then (10 * (10 * (t p - 48) + (t (p + 1) - 48)) + (t (p + 2) - 48), p + 3, 0) else (10 * (t p - 48) + (t (p + 1) - 48), p + 2, 0)) else (t p - 48, p + 1, 0)) else (0, p, 1)
def xA (t : Int → Int) (n : Int) : List Int → Int → Int → List Int × Int × Int
  | [], p, w => ([], p, w)
  | c :: g, p, w => if c = 35 then ((xN t n p w).1 :: (xA t n g (xN t n p w).2.1 (xN t n p w).2.2).1, (xA t n g (xN t n p w).2.1 (xN t n p w).2.2).2) else if c = 63 then ((xD t n p w).1 :: (xA t n g (xD t n p w).2.1 (xD t n p w).2.2).1, (xA t n g (xD t n p w).2.1 (xD t n p w).2.2).2) else xA t n g (xE t n c p w).1 (xE t n c p w).2
def gks : List (List Int) := [[35, 44, 35], [35, 44, 35, 61, 35], [63, 32, 35, 44, 35, 45, 35, 44, 35], [35], [35], [], [35, 44, 35, 43, 35], [63], []]
def nAr : List Int := [2, 3, 5, 1, 1, 0, 3, 1, 0]
def wB (b : Int) : Int := bgn.getD b.toNat 0
def wL (b : Int) : Int := bgn.getD (b.toNat + 1) 0 - bgn.getD b.toNat 0
def wCh (b i : Int) : Int := ltr.getD (wB b + i).toNat 0
def lkF (t : Int → Int) (n p : Int) (ch : Int → Int) : Nat → Int → Int
  | 0, i => i
  | f + 1, i => if p + i < n ∧ t (p + i) = ch i then lkF t n p ch f (i + 1) else i
def lik (t : Int → Int) (n p b : Int) : Int := lkF t n p (wCh b) (wL b).toNat 0
def bwF (t : Int → Int) (n p : Int) : Nat → Int → Int → Int
  | 0, _, b => b
  | f + 1, k, b => bwF t n p f (k + 1) (if lik t n p b < lik t n p k then k else b)
def bw (t : Int → Int) (n p : Int) : Int := bwF t n p 8 1 0
def ags (t : Int → Int) (n b q : Int) : List Int × Int × Int := xA t n (gks.getD b.toNat []) q 0
def cmI (cm : Int → Int → Int) (m b : Int) (as : List Int) : Int → Int → Int := fun j => if j = m then (fun i => if i = 0 then b else as.getD (i - 1).toNat 0) else cm j
/-- the text from p on, when m commands were read: (wrong?, place, how many, commands) -/
def prs (t : Int → Int) (n : Int) : Nat → Int → Int → (Int → Int → Int) → Int × Int × Int × (Int → Int → Int)
  | 0, p, m, cm => (1, p, m, cm)
  | f + 1, p, m, cm =>
    if lik t n p (bw t n p) < wL (bw t n p) then (1, p + lik t n p (bw t n p), m, cm) else
    if (ags t n (bw t n p) (p + lik t n p (bw t n p))).2.2 = 1 then (1, (ags t n (bw t n p) (p + lik t n p (bw t n p))).2.1, m, cm) else
    if (ags t n (bw t n p) (p + lik t n p (bw t n p))).2.1 < n then
      (if t (ags t n (bw t n p) (p + lik t n p (bw t n p))).2.1 = 59 then prs t n f ((ags t n (bw t n p) (p + lik t n p (bw t n p))).2.1 + 1) (m + 1) (cmI cm m (bw t n p) (ags t n (bw t n p) (p + lik t n p (bw t n p))).1) else (1, (ags t n (bw t n p) (p + lik t n p (bw t n p))).2.1, m, cm))
    else (0, (ags t n (bw t n p) (p + lik t n p (bw t n p))).2.1, m + 1, cmI cm m (bw t n p) (ags t n (bw t n p) (p + lik t n p (bw t n p))).1)
theorem xE_B {t : Int → Int} {n c p w : Int} (p1 : p ≤ n) : (p ≤ (xE t n c p w).1 ∧ (xE t n c p w).1 ≤ n) ∧ ((xE t n c p w).2 = 0 ∨ (xE t n c p w).2 = 1) := by
  unfold xE
  split
  · exact ⟨by show p ≤ p + 1 ∧ p + 1 ≤ n; omega, Or.inl rfl⟩
  · exact ⟨⟨Int.le_refl p, p1⟩, Or.inr rfl⟩
theorem xD_B {t : Int → Int} {n p w : Int} (p1 : p ≤ n) : (p ≤ (xD t n p w).2.1 ∧ (xD t n p w).2.1 ≤ n) ∧ ((xD t n p w).2.2 = 0 ∨ (xD t n p w).2.2 = 1) ∧ (0 ≤ (xD t n p w).1 ∧ (xD t n p w).1 ≤ 9) := by
  unfold xD
  split
  · exact ⟨by show p ≤ p + 1 ∧ p + 1 ≤ n; omega, Or.inl rfl, by show 0 ≤ t p - 48 ∧ t p - 48 ≤ 9; omega⟩
  · exact ⟨⟨Int.le_refl p, p1⟩, Or.inr rfl, by show (0 : Int) ≤ 0 ∧ (0 : Int) ≤ 9; decide⟩
theorem xN_B {t : Int → Int} {n p w : Int} (p1 : p ≤ n) : (p ≤ (xN t n p w).2.1 ∧ (xN t n p w).2.1 ≤ n) ∧ ((xN t n p w).2.2 = 0 ∨ (xN t n p w).2.2 = 1) ∧ (0 ≤ (xN t n p w).1 ∧ (xN t n p w).1 ≤ 999) := by
  unfold xN
  split
  · split
    · split
      · exact ⟨by show p ≤ p + 3 ∧ p + 3 ≤ n; omega, Or.inl rfl, by show 0 ≤ 10 * (10 * (t p - 48) + (t (p + 1) - 48)) + (t (p + 2) - 48) ∧ 10 * (10 * (t p - 48) + (t (p + 1) - 48)) + (t (p + 2) - 48) ≤ 999; omega⟩
      · exact ⟨by show p ≤ p + 2 ∧ p + 2 ≤ n; omega, Or.inl rfl, by show 0 ≤ 10 * (t p - 48) + (t (p + 1) - 48) ∧ 10 * (t p - 48) + (t (p + 1) - 48) ≤ 999; omega⟩
    · exact ⟨by show p ≤ p + 1 ∧ p + 1 ≤ n; omega, Or.inl rfl, by show 0 ≤ t p - 48 ∧ t p - 48 ≤ 999; omega⟩
  · exact ⟨⟨Int.le_refl p, p1⟩, Or.inr rfl, by show (0 : Int) ≤ 0 ∧ (0 : Int) ≤ 999; decide⟩
theorem xA_B {t : Int → Int} {n : Int} : ∀ (g : List Int) (p w : Int), p ≤ n → (w = 0 ∨ w = 1) → (p ≤ (xA t n g p w).2.1 ∧ (xA t n g p w).2.1 ≤ n) ∧ ((xA t n g p w).2.2 = 0 ∨ (xA t n g p w).2.2 = 1) ∧ (∀ v ∈ (xA t n g p w).1, 0 ≤ v ∧ v ≤ 999)
  | [], p, w, p1, hw => ⟨⟨Int.le_refl p, p1⟩, hw, fun v hv => absurd hv List.not_mem_nil⟩
  | c :: g, p, w, p1, hw => by
    have bN := xN_B (t := t) (w := w) p1
    have bD := xD_B (t := t) (w := w) p1
    have bE := xE_B (t := t) (c := c) (w := w) p1
    unfold xA
    split
    · have := xA_B (t := t) (n := n) g (xN t n p w).2.1 (xN t n p w).2.2 bN.1.2 bN.2.1
      refine ⟨by dsimp only; omega, this.2.1, fun v hv => ?_⟩
      rcases List.mem_cons.mp hv with rfl | hv
      · exact bN.2.2
      · exact this.2.2 v hv
    · split
      · have := xA_B (t := t) (n := n) g (xD t n p w).2.1 (xD t n p w).2.2 bD.1.2 bD.2.1
        refine ⟨by dsimp only; omega, this.2.1, fun v hv => ?_⟩
        rcases List.mem_cons.mp hv with rfl | hv
        · omega
        · exact this.2.2 v hv
      · have := xA_B (t := t) (n := n) g (xE t n c p w).1 (xE t n c p w).2 bE.1.2 bE.2
        exact ⟨by omega, this.2⟩
theorem xA_n {t : Int → Int} {n p w v p' w' : Int} {g : List Int} (e : xN t n p w = (v, p', w')) : xA t n (35 :: g) p w = (v :: (xA t n g p' w').1, (xA t n g p' w').2) := by
  rw [xA, if_pos rfl, e]
theorem xA_d {t : Int → Int} {n p w v p' w' : Int} {g : List Int} (e : xD t n p w = (v, p', w')) : xA t n (63 :: g) p w = (v :: (xA t n g p' w').1, (xA t n g p' w').2) := by
  rw [xA, if_neg (by decide), if_pos rfl, e]
theorem xA_c {t : Int → Int} {n p w c : Int} {g : List Int} (h1 : c ≠ 35) (h2 : c ≠ 63) : xA t n (c :: g) p w = xA t n g (xE t n c p w).1 (xE t n c p w).2 := by
  rw [xA, if_neg h1, if_neg h2]
theorem xA_b {t : Int → Int} {n p w c v p' w' : Int} {g : List Int} (h1 : c ≠ 35) (h2 : c ≠ 63) (e : xN t n (xE t n c p w).1 (xE t n c p w).2 = (v, p', w')) : xA t n (c :: 35 :: g) p w = (v :: (xA t n g p' w').1, (xA t n g p' w').2) := by
  rw [xA_c h1 h2, xA_n e]
theorem wL_B {b : Int} (b0 : 0 ≤ b) (b1 : b < 9) : (0 ≤ wB b ∧ wB b + wL b ≤ 47) ∧ (3 ≤ wL b ∧ wL b ≤ 7) := by
  have key : ∀ b : Nat, b < 9 → (0 ≤ wB (b : Int) ∧ wB (b : Int) + wL (b : Int) ≤ 47) ∧ (3 ≤ wL (b : Int) ∧ wL (b : Int) ≤ 7) := by decide +kernel
  have := key b.toNat (by omega)
  rw [Int.toNat_of_nonneg b0] at this
  exact this
theorem lkF_B {t ch : Int → Int} {n p : Int} : ∀ (f : Nat) (i : Int), i ≤ lkF t n p ch f i ∧ lkF t n p ch f i ≤ i + (f : Int)
  | 0, i => ⟨Int.le_refl i, by show i ≤ i + ((0 : Nat) : Int); omega⟩
  | f + 1, i => by
    have := lkF_B (t := t) (n := n) (p := p) (ch := ch) f (i + 1)
    unfold lkF
    split <;> omega
theorem lkF_n {t ch : Int → Int} {n p : Int} : ∀ (f : Nat) (i : Int), p + i ≤ n → p + lkF t n p ch f i ≤ n
  | 0, i, h => h
  | f + 1, i, h => by
    unfold lkF
    split
    · exact lkF_n f (i + 1) (by omega)
    · exact h
theorem lik_B {t : Int → Int} {n p b : Int} (b0 : 0 ≤ b) (b1 : b < 9) : 0 ≤ lik t n p b ∧ lik t n p b ≤ wL b := by
  have := wL_B b0 b1
  have := lkF_B (t := t) (n := n) (p := p) (ch := wCh b) (wL b).toNat 0
  unfold lik
  omega
theorem lik_n {t : Int → Int} {n p b : Int} (h : p ≤ n) : p + lik t n p b ≤ n := lkF_n _ 0 (by omega)
theorem bwF_B {t : Int → Int} {n p : Int} : ∀ (f : Nat) (k b : Int), 0 ≤ b → b < 9 → 0 ≤ k → k + (f : Int) ≤ 9 → 0 ≤ bwF t n p f k b ∧ bwF t n p f k b < 9
  | 0, k, b, b0, b1, _, _ => ⟨b0, b1⟩
  | f + 1, k, b, b0, b1, k0, k1 => by
    unfold bwF
    refine bwF_B f (k + 1) _ ?_ ?_ (by omega) (by omega)
    · split <;> omega
    · split <;> omega
theorem bw_B (t : Int → Int) (n p : Int) : 0 ≤ bw t n p ∧ bw t n p < 9 := bwF_B 8 1 0 (by decide) (by decide) (by decide) (by decide)
/-- the model's memory while it reads: commands f, place p, wrong w -/
def mem (z : aM) (f : Int → Int) (p w : Int) : aM := pS (pS z (17, 9, 0) f) (16, 0, 0) (ud (ud (z (16, 0, 0)) 20 w) 18 p)
theorem mem_16 (z : aM) (f : Int → Int) (p w : Int) : mem z f p w (16, 0, 0) = ud (ud (z (16, 0, 0)) 20 w) 18 p := by unfold mem; rw [pS_at]
theorem mem_18 (z : aM) (f : Int → Int) (p w : Int) : mem z f p w (16, 0, 0) 18 = p := by rw [mem_16, ud_at]
theorem mem_20 (z : aM) (f : Int → Int) (p w : Int) : mem z f p w (16, 0, 0) 20 = w := by rw [mem_16, ud_ne (by decide), ud_at]
theorem mem_o (z : aM) (f : Int → Int) (p w : Int) {k : Int} (h1 : k ≠ 18) (h2 : k ≠ 20) : mem z f p w (16, 0, 0) k = z (16, 0, 0) k := by rw [mem_16, ud_ne h1, ud_ne h2]
theorem mem_9 (z : aM) (f : Int → Int) (p w : Int) : mem z f p w (17, 9, 0) = f := by unfold mem; rw [pS_ne (by decide), pS_at]
theorem mem_q (z : aM) (f : Int → Int) (p w : Int) {q : aP} (h1 : q ≠ (16, 0, 0)) (h2 : q ≠ (17, 9, 0)) : mem z f p w q = z q := by unfold mem; rw [pS_ne h1, pS_ne h2]
theorem mem_w9 (z : aM) (f : Int → Int) (p w k v : Int) : aWr (mem z f p w) (17, 9, 0) k v = mem z (ud f k v) p w := by
  rw [aWr_pS, mem_9]
  unfold mem
  rw [pS_sw (by decide), pS_pS]
theorem mem_w18 (z : aM) (f : Int → Int) (p w v : Int) : aWr (mem z f p w) (16, 0, 0) 18 v = mem z f v w := by
  rw [aWr_pS, mem_16]
  unfold mem
  rw [pS_pS, ud_ud]
theorem ud_sw {a : Int → Int} {i j x y : Int} (h : i ≠ j) : ud (ud a i x) j y = ud (ud a j y) i x := by
  funext k
  unfold ud
  by_cases h1 : k = i
  · by_cases h2 : k = j
    · omega
    · simp [h1, h2, h]
  · simp [h1]
theorem mem_w20 (z : aM) (f : Int → Int) (p w v : Int) : aWr (mem z f p w) (16, 0, 0) 20 v = mem z f p v := by
  rw [aWr_pS, mem_16]
  unfold mem
  rw [pS_pS, ud_sw (i := 18) (j := 20) (by decide), ud_ud]
theorem mem_w17 (z : aM) (f : Int → Int) (p w v : Int) : aWr (mem z f p w) (16, 0, 0) 17 v = mem (aWr z (16, 0, 0) 17 v) f p w := by
  rw [aWr_pS, mem_16]
  unfold mem
  rw [pS_pS, aWr_pS, pS_at, pS_sw (z := z) (p := (16, 0, 0)) (q := (17, 9, 0)) (by decide), pS_pS, ud_sw (i := 18) (j := 17) (by decide), ud_sw (i := 20) (j := 17) (by decide)]
theorem mem_id (z : aM) : mem z (z (17, 9, 0)) (z (16, 0, 0) 18) (z (16, 0, 0) 20) = z := by
  unfold mem
  rw [ud_id, ud_id, pS_id, pS_id]
/-- the text that the model reads -/
def tOk (z : aM) : Prop := (0 ≤ z (16, 0, 0) 19 ∧ z (16, 0, 0) 19 ≤ 60) ∧ ∀ k, 0 ≤ k → k < z (16, 0, 0) 19 → 0 ≤ z (17, 5, 0) k ∧ z (17, 5, 0) k < 65536
section M14
variable {l : Launch} {g : aG} {d : Nat} {z : aM} {f : Int → Int} {p w : Int}
theorem cM_here1 (hz : tOk z) (p0 : 0 ≤ p) (p1 : p ≤ z (16, 0, 0) 19) (hw : w = 0 ∨ w = 1) (h : p < z (16, 0, 0) 19) : aE1 l g nX7_here d [.inr (.inr (.inl (16, 0, 0)))] (mem z f p w) (z (17, 5, 0) p) (mem z f p w) := by
  have n0 := hz.1
  have e18 := mem_18 z f p w
  have e20 := mem_20 z f p w
  have e19 : mem z f p w (16, 0, 0) 19 = z (16, 0, 0) 19 := mem_o z f p w (by decide) (by decide)
  have e5 : mem z f p w (17, 5, 0) = z (17, 5, 0) := mem_q z f p w (by decide) (by decide)
  have q18 : ∀ v, aWr (mem z f p w) (16, 0, 0) 20 v (16, 0, 0) 18 = p := fun v => by rw [mem_w20, mem_18]
  have q20 : ∀ v, aWr (mem z f p w) (16, 0, 0) 20 v (16, 0, 0) 20 = v := fun v => by rw [mem_w20, mem_20]
  have r18 := q18 0
  have s18 := q18 1
  have r20 := q20 0
  have s20 := q20 1
  refine aM1_of kX7_here rfl (fun B hB => ?_)
  refine hB [] 1000 _ _ _ _ _ ?_
  repeat' (first | refine And.intro ?_ ?_ | (intro hh; first | exact absurd hh (by decide) | exact absurd rfl hh | (exfalso; omega) | skip) | fail)
  all_goals first | omega | (exact rfl) | (rw [e5, e18])
theorem cM_here0 (hz : tOk z) (p0 : 0 ≤ p) (p1 : p ≤ z (16, 0, 0) 19) (hw : w = 0 ∨ w = 1) (h : ¬ p < z (16, 0, 0) 19) : aE1 l g nX7_here d [.inr (.inr (.inl (16, 0, 0)))] (mem z f p w) (-1) (mem z f p w) := by
  have n0 := hz.1
  have e18 := mem_18 z f p w
  have e20 := mem_20 z f p w
  have e19 : mem z f p w (16, 0, 0) 19 = z (16, 0, 0) 19 := mem_o z f p w (by decide) (by decide)
  have e5 : mem z f p w (17, 5, 0) = z (17, 5, 0) := mem_q z f p w (by decide) (by decide)
  have q18 : ∀ v, aWr (mem z f p w) (16, 0, 0) 20 v (16, 0, 0) 18 = p := fun v => by rw [mem_w20, mem_18]
  have q20 : ∀ v, aWr (mem z f p w) (16, 0, 0) 20 v (16, 0, 0) 20 = v := fun v => by rw [mem_w20, mem_20]
  have r18 := q18 0
  have s18 := q18 1
  have r20 := q20 0
  have s20 := q20 1
  refine aM1_of kX7_here rfl (fun B hB => ?_)
  refine hB [] 1000 _ _ _ _ _ ?_
  repeat' (first | refine And.intro ?_ ?_ | (intro hh; first | exact absurd hh (by decide) | exact absurd rfl hh | (exfalso; omega) | skip) | fail)
  all_goals first | omega | (exact rfl)

theorem cM_expects {c : Int} (hd : 1 ≤ d) (hz : tOk z) (p0 : 0 ≤ p) (p1 : p ≤ z (16, 0, 0) 19) (hw : w = 0 ∨ w = 1) (c0 : 0 ≤ c) (c1 : c < 65536) : aE0 l g nX7_expects d [.inr (.inr (.inl (16, 0, 0))), .inl c] (mem z f p w) (mem z f (xE (z (17, 5, 0)) (z (16, 0, 0) 19) c p w).1 (xE (z (17, 5, 0)) (z (16, 0, 0) 19) c p w).2) := by
  have n0 := hz.1
  have e18 := mem_18 z f p w
  have e20 := mem_20 z f p w
  have e19 : mem z f p w (16, 0, 0) 19 = z (16, 0, 0) 19 := mem_o z f p w (by decide) (by decide)
  have e5 : mem z f p w (17, 5, 0) = z (17, 5, 0) := mem_q z f p w (by decide) (by decide)
  have q18 : ∀ v, aWr (mem z f p w) (16, 0, 0) 20 v (16, 0, 0) 18 = p := fun v => by rw [mem_w20, mem_18]
  have q20 : ∀ v, aWr (mem z f p w) (16, 0, 0) 20 v (16, 0, 0) 20 = v := fun v => by rw [mem_w20, mem_20]
  have r18 := q18 0
  have s18 := q18 1
  have r20 := q20 0
  have s20 := q20 1
  by_cases hp : p < z (16, 0, 0) 19
  · have tb := hz.2 p p0 hp
    by_cases hc : w = 0 ∧ z (17, 5, 0) p = c
    · have ex : xE (z (17, 5, 0)) (z (16, 0, 0) 19) c p w = (p + 1, 0) := if_pos ⟨hc.1, hp, hc.2⟩
      rw [ex]
      have fin : ∀ v, v = p + 1 → aWr (aWr (mem z f p w) (16, 0, 0) 20 0) (16, 0, 0) 18 v = mem z f (p + 1) 0 := fun v ev => by rw [ev, mem_w20, mem_w18]
      refine aM1_of kX7_expects rfl (fun B hB => ?_)
      refine hB [] 1000 _ _ _ _ _ ?_
      repeat' (first | refine And.intro ?_ ?_ | (intro hh; first | exact absurd hh (by decide) | exact absurd rfl hh | (exfalso; omega) | skip) | refine Or.inl (uB (cM_in ?_ ?_ ?_) ?_ ?_) | refine Or.inl (uE (cM_here1 hz p0 p1 hw hp) ?_) | fail)
      all_goals first | omega | (exact rfl) | (exact Or.inl rfl) | (exact Or.inr rfl) | (exact fin _ (by omega)) | (unfold aIR; omega) | (exact sI (by omega)) | fail "left"
    · have ex : xE (z (17, 5, 0)) (z (16, 0, 0) 19) c p w = (p, 1) := if_neg (fun q => hc ⟨q.1, q.2.2⟩)
      rw [ex]
      have fin : ∀ v, v = p → aWr (aWr (mem z f p w) (16, 0, 0) 20 1) (16, 0, 0) 18 v = mem z f (p) 1 := fun v ev => by rw [ev, mem_w20, mem_w18]
      refine aM1_of kX7_expects rfl (fun B hB => ?_)
      refine hB [] 1000 _ _ _ _ _ ?_
      repeat' (first | refine And.intro ?_ ?_ | (intro hh; first | exact absurd hh (by decide) | exact absurd rfl hh | (exfalso; omega) | skip) | refine Or.inl (uB (cM_in ?_ ?_ ?_) ?_ ?_) | refine Or.inl (uE (cM_here1 hz p0 p1 hw hp) ?_) | fail)
      all_goals first | omega | (exact rfl) | (exact Or.inl rfl) | (exact Or.inr rfl) | (exact fin _ (by omega)) | (unfold aIR; omega) | (exact sI (by omega)) | fail "left"
  · have ex : xE (z (17, 5, 0)) (z (16, 0, 0) 19) c p w = (p, 1) := if_neg (fun q => hp q.2.1)
    rw [ex]
    have fin : ∀ v, v = p → aWr (aWr (mem z f p w) (16, 0, 0) 20 1) (16, 0, 0) 18 v = mem z f (p) 1 := fun v ev => by rw [ev, mem_w20, mem_w18]
    refine aM1_of kX7_expects rfl (fun B hB => ?_)
    refine hB [] 1000 _ _ _ _ _ ?_
    repeat' (first | refine And.intro ?_ ?_ | (intro hh; first | exact absurd hh (by decide) | exact absurd rfl hh | (exfalso; omega) | skip) | refine Or.inl (uB (cM_in ?_ ?_ ?_) ?_ ?_) | refine Or.inl (uE (cM_here0 hz p0 p1 hw hp) ?_) | fail)
    all_goals first | omega | (exact rfl) | (exact Or.inl rfl) | (exact Or.inr rfl) | (exact fin _ (by omega)) | (unfold aIR; omega) | (exact sI (by omega)) | fail "left"

set_option maxRecDepth 20000 in
theorem cM_digit (hd : 1 ≤ d) (hz : tOk z) (p0 : 0 ≤ p) (p1 : p ≤ z (16, 0, 0) 19) (hw : w = 0 ∨ w = 1) : aE1 l g nX7_digit d [.inr (.inr (.inl (16, 0, 0)))] (mem z f p w) (xD (z (17, 5, 0)) (z (16, 0, 0) 19) p w).1 (mem z f (xD (z (17, 5, 0)) (z (16, 0, 0) 19) p w).2.1 (xD (z (17, 5, 0)) (z (16, 0, 0) 19) p w).2.2) := by
  have n0 := hz.1
  have e18 := mem_18 z f p w
  have e20 := mem_20 z f p w
  have q18 : ∀ v, aWr (mem z f p w) (16, 0, 0) 20 v (16, 0, 0) 18 = p := fun v => by rw [mem_w20, mem_18]
  have q20 : ∀ v, aWr (mem z f p w) (16, 0, 0) 20 v (16, 0, 0) 20 = v := fun v => by rw [mem_w20, mem_20]
  have r18 := q18 0
  have s18 := q18 1
  have r20 := q20 0
  have s20 := q20 1
  have qf : ∀ v u, aWr (aWr (mem z f p w) (16, 0, 0) 20 u) (16, 0, 0) 18 v = mem z f v u := fun v u => by rw [mem_w20, mem_w18]
  by_cases hp : p < z (16, 0, 0) 19
  · have tb := hz.2 p p0 hp
    have h1 := cM_here1 (l := l) (g := g) (d := d - 1) (f := f) hz p0 p1 hw hp
    have h20 : aE1 l g nX7_here (d - 1) [.inr (.inr (.inl (16, 0, 0)))] (aWr (mem z f p w) (16, 0, 0) 20 0) (z (17, 5, 0) p) (aWr (mem z f p w) (16, 0, 0) 20 0) := by rw [mem_w20]; exact cM_here1 hz p0 p1 (Or.inl rfl) hp
    by_cases hc : w = 0 ∧ (48 ≤ z (17, 5, 0) p ∧ z (17, 5, 0) p ≤ 57)
    · have ex : xD (z (17, 5, 0)) (z (16, 0, 0) 19) p w = (z (17, 5, 0) p - 48, p + 1, 0) := if_pos ⟨hc.1, hp, hc.2⟩
      rw [ex]
      obtain ⟨y, ey⟩ : ∃ y, y = mem z f p w := ⟨_, rfl⟩
      have fin : ∀ v, v = p + 1 → aWr (aWr y (16, 0, 0) 20 0) (16, 0, 0) 18 v = mem z f (p + 1) 0 := fun v ev => by rw [ey, ev]; exact qf _ _
      rw [← ey] at e18 e20 r18 s18 r20 s20 h1 h20 ⊢
      clear ey qf q18 q20
      obtain ⟨yf, eyf⟩ : ∃ yf, yf = mem z f (p + 1) 0 := ⟨_, rfl⟩
      rw [← eyf] at fin ⊢
      clear eyf
      refine aM1_of kX7_digit rfl (fun B hB => ?_)
      refine hB [] 1000 _ _ _ _ _ ?_
      repeat' (first | refine And.intro ?_ ?_ | (intro hh; first | exact absurd hh (by decide) | exact absurd rfl hh | (exfalso; omega) | skip) | refine Or.inl (uE h1 ?_) | refine Or.inl (uE h20 ?_) | refine Or.inl (uB (cM_in ?_ ?_ ?_) ?_ ?_) | fail)
      all_goals first | omega | (exact fin _ (by omega)) | (exact rfl) | (exact Or.inl rfl) | (exact Or.inr rfl) | (unfold aIR; omega) | (exact sI (by omega)) | fail "left"
    · have ex : xD (z (17, 5, 0)) (z (16, 0, 0) 19) p w = (0, p, 1) := if_neg (fun q => hc ⟨q.1, q.2.2⟩)
      rw [ex]
      obtain ⟨y, ey⟩ : ∃ y, y = mem z f p w := ⟨_, rfl⟩
      have fin : ∀ v, v = p → aWr (aWr y (16, 0, 0) 20 1) (16, 0, 0) 18 v = mem z f (p) 1 := fun v ev => by rw [ey, ev]; exact qf _ _
      rw [← ey] at e18 e20 r18 s18 r20 s20 h1 ⊢
      clear ey qf q18 q20
      obtain ⟨yf, eyf⟩ : ∃ yf, yf = mem z f (p) 1 := ⟨_, rfl⟩
      rw [← eyf] at fin ⊢
      clear eyf
      refine aM1_of kX7_digit rfl (fun B hB => ?_)
      refine hB [] 1000 _ _ _ _ _ ?_
      repeat' (first | refine And.intro ?_ ?_ | (intro hh; first | exact absurd hh (by decide) | exact absurd rfl hh | (exfalso; omega) | skip) | refine Or.inl (uE h1 ?_) | refine Or.inl (uB (cM_in ?_ ?_ ?_) ?_ ?_) | fail)
      all_goals first | omega | (exact fin _ (by omega)) | (exact rfl) | (exact Or.inl rfl) | (exact Or.inr rfl) | (unfold aIR; omega) | (exact sI (by omega)) | fail "left"
  · have h0 := cM_here0 (l := l) (g := g) (d := d - 1) (f := f) hz p0 p1 hw hp
    have ex : xD (z (17, 5, 0)) (z (16, 0, 0) 19) p w = (0, p, 1) := if_neg (fun q => hp q.2.1)
    rw [ex]
    obtain ⟨y, ey⟩ : ∃ y, y = mem z f p w := ⟨_, rfl⟩
    have fin : ∀ v, v = p → aWr (aWr y (16, 0, 0) 20 1) (16, 0, 0) 18 v = mem z f (p) 1 := fun v ev => by rw [ey, ev]; exact qf _ _
    rw [← ey] at e18 e20 r18 s18 r20 s20 h0 ⊢
    clear ey qf q18 q20
    obtain ⟨yf, eyf⟩ : ∃ yf, yf = mem z f (p) 1 := ⟨_, rfl⟩
    rw [← eyf] at fin ⊢
    clear eyf
    refine aM1_of kX7_digit rfl (fun B hB => ?_)
    refine hB [] 1000 _ _ _ _ _ ?_
    repeat' (first | refine And.intro ?_ ?_ | (intro hh; first | exact absurd hh (by decide) | exact absurd rfl hh | (exfalso; omega) | skip) | refine Or.inl (uE h0 ?_) | refine Or.inl (uB (cM_in ?_ ?_ ?_) ?_ ?_) | fail)
    all_goals first | omega | (exact fin _ (by omega)) | (exact rfl) | (exact Or.inl rfl) | (exact Or.inr rfl) | (unfold aIR; omega) | (exact sI (by omega)) | fail "left"

theorem cM_number (hd : 2 ≤ d) (hz : tOk z) (p0 : 0 ≤ p) (p1 : p ≤ z (16, 0, 0) 19) (hw : w = 0 ∨ w = 1) : aE1 l g nX7_number d [.inr (.inr (.inl (16, 0, 0)))] (mem z f p w) (xN (z (17, 5, 0)) (z (16, 0, 0) 19) p w).1 (mem z f (xN (z (17, 5, 0)) (z (16, 0, 0) 19) p w).2.1 (xN (z (17, 5, 0)) (z (16, 0, 0) 19) p w).2.2) := by
  have n0 := hz.1
  refine aM1_of kX7_number rfl (fun B hB => ?_)
  -- the loop's head with k digits read behind the first
  have l2 : ∀ (v q : Int), (v, q, 0) = xN (z (17, 5, 0)) (z (16, 0, 0) 19) p w → B (none, 0, 0) (mem z f q 0) 7 [some (.inr (.inr (.inl (16, 0, 0)))), some (.inl v), some (.inl 2)] [] := by
    intro v q e
    rw [← e] at hB
    refine hB [] 1000 _ _ _ _ _ ?_
    repeat' (first | refine And.intro ?_ ?_ | (intro hh; first | exact absurd hh (by decide) | exact absurd rfl hh | (exfalso; omega) | skip) | fail)
    all_goals first | omega | (exact rfl)
  have lst : ∀ (v q k : Int), 0 ≤ k → k < 2 → 0 ≤ q → q ≤ z (16, 0, 0) 19 → ¬ dgt (z (17, 5, 0)) (z (16, 0, 0) 19) q → (v, q, 0) = xN (z (17, 5, 0)) (z (16, 0, 0) 19) p w → B (none, 0, 0) (mem z f q 0) 7 [some (.inr (.inr (.inl (16, 0, 0)))), some (.inl v), some (.inl k)] [] := by
    intro v q k k0 k1 q0 q1 hn e
    rw [← e] at hB
    have e20 := mem_20 z f q 0
    by_cases hp : q < z (16, 0, 0) 19
    · have tb := hz.2 q q0 hp
      refine hB [] 1000 _ _ _ _ _ ?_
      repeat' (first | refine And.intro ?_ ?_ | (intro hh; first | exact absurd hh (by decide) | exact absurd rfl hh | (exfalso; omega) | skip) | refine Or.inl (uE (cM_here1 hz q0 q1 (Or.inl rfl) hp) ?_) | refine Or.inl (uB (cM_in ?_ ?_ ?_) ?_ ?_) | fail)
      all_goals first | omega | (exact rfl) | (unfold aIR; omega)
    · refine hB [] 1000 _ _ _ _ _ ?_
      repeat' (first | refine And.intro ?_ ?_ | (intro hh; first | exact absurd hh (by decide) | exact absurd rfl hh | (exfalso; omega) | skip) | refine Or.inl (uE (cM_here0 hz q0 q1 (Or.inl rfl) hp) ?_) | refine Or.inl (uB (cM_in ?_ ?_ ?_) ?_ ?_) | fail)
      all_goals first | omega | (exact rfl) | (unfold aIR; omega)
  have nxt : ∀ (v q k : Int), 0 ≤ k → k < 2 → 0 ≤ q → q ≤ z (16, 0, 0) 19 → dgt (z (17, 5, 0)) (z (16, 0, 0) 19) q → B (none, 0, 0) (mem z f (q + 1) 0) 7 [some (.inr (.inr (.inl (16, 0, 0)))), some (.inl (10 * v + (z (17, 5, 0) q - 48))), some (.inl (k + 1))] [] → B (none, 0, 0) (mem z f q 0) 7 [some (.inr (.inr (.inl (16, 0, 0)))), some (.inl v), some (.inl k)] [] := by
    intro v q k k0 k1 q0 q1 hn e
    have e20 := mem_20 z f q 0
    have hp := hn.1
    have tb := hz.2 q q0 hp
    have ex : xD (z (17, 5, 0)) (z (16, 0, 0) 19) q 0 = (z (17, 5, 0) q - 48, q + 1, 0) := if_pos ⟨rfl, hn⟩
    have hdg : aE1 l g nX7_digit (d - 1) [.inr (.inr (.inl (16, 0, 0)))] (mem z f q 0) (z (17, 5, 0) q - 48) (mem z f (q + 1) 0) := by
      have := cM_digit (l := l) (g := g) (f := f) (d := d - 1) (by omega) hz q0 q1 (Or.inl rfl)
      rw [ex] at this
      exact this
    refine hB [7] 1000 _ _ _ _ _ ?_
    repeat' (first | exact e | refine And.intro ?_ ?_ | (intro hh; first | exact absurd hh (by decide) | exact absurd rfl hh | (exfalso; omega) | skip) | refine Or.inl (uE (cM_here1 hz q0 q1 (Or.inl rfl) hp) ?_) | refine Or.inl (uB (cM_in ?_ ?_ ?_) ?_ ?_) | refine Or.inl (uE hdg ?_) | fail)
    all_goals first | omega | (exact rfl) | (unfold aIR; omega)
  by_cases hc : w = 0 ∧ dgt (z (17, 5, 0)) (z (16, 0, 0) 19) p
  · have ex : xD (z (17, 5, 0)) (z (16, 0, 0) 19) p w = (z (17, 5, 0) p - 48, p + 1, 0) := if_pos hc
    have hdg : aE1 l g nX7_digit (d - 1) [.inr (.inr (.inl (16, 0, 0)))] (mem z f p w) (z (17, 5, 0) p - 48) (mem z f (p + 1) 0) := by
      have := cM_digit (l := l) (g := g) (f := f) (d := d - 1) (by omega) hz p0 p1 hw
      rw [ex] at this
      exact this
    have go : B (none, 0, 0) (mem z f (p + 1) 0) 7 [some (.inr (.inr (.inl (16, 0, 0)))), some (.inl (z (17, 5, 0) p - 48)), some (.inl 0)] [] := by
      by_cases h1 : dgt (z (17, 5, 0)) (z (16, 0, 0) 19) (p + 1)
      · refine nxt _ _ 0 (by decide) (by decide) (by omega) (by omega) h1 ?_
        rw [show p + 1 + 1 = p + 2 by omega]
        by_cases h2 : dgt (z (17, 5, 0)) (z (16, 0, 0) 19) (p + 2)
        · refine nxt _ _ 1 (by decide) (by decide) (by omega) (by omega) h2 ?_
          rw [show p + 2 + 1 = p + 3 by omega]
          refine l2 _ _ ?_
          unfold xN
          rw [if_pos hc, if_pos h1, if_pos h2]
        · refine lst _ _ 1 (by decide) (by decide) (by omega) (by omega) h2 ?_
          unfold xN
          rw [if_pos hc, if_pos h1, if_neg h2]
      · refine lst _ _ 0 (by decide) (by decide) (by omega) (by omega) h1 ?_
        unfold xN
        rw [if_pos hc, if_neg h1]
    refine hB [7] 1000 _ _ _ _ _ ?_
    repeat' (first | exact go | refine And.intro ?_ ?_ | refine Or.inl (uE hdg ?_) | fail)
    all_goals first | omega | (exact rfl)
  · have ex : xD (z (17, 5, 0)) (z (16, 0, 0) 19) p w = (0, p, 1) := if_neg hc
    have ex2 : xN (z (17, 5, 0)) (z (16, 0, 0) 19) p w = (0, p, 1) := if_neg hc
    have hdg : aE1 l g nX7_digit (d - 1) [.inr (.inr (.inl (16, 0, 0)))] (mem z f p w) 0 (mem z f p 1) := by
      have := cM_digit (l := l) (g := g) (f := f) (d := d - 1) (by omega) hz p0 p1 hw
      rw [ex] at this
      exact this
    have e20 := mem_20 z f p 1
    rw [ex2] at hB
    refine hB [] 1000 _ _ _ _ _ ?_
    repeat' (first | refine And.intro ?_ ?_ | (intro hh; first | exact absurd hh (by decide) | exact absurd rfl hh | (exfalso; omega) | skip) | refine Or.inl (uE hdg ?_) | fail)
    all_goals first | omega | (exact rfl)

theorem cM_numberBehind {c : Int} (hd : 3 ≤ d) (hz : tOk z) (p0 : 0 ≤ p) (p1 : p ≤ z (16, 0, 0) 19) (hw : w = 0 ∨ w = 1) (c0 : 0 ≤ c) (c1 : c < 65536) : aE1 l g nX7_numberBehind d [.inr (.inr (.inl (16, 0, 0))), .inl c] (mem z f p w) (xN (z (17, 5, 0)) (z (16, 0, 0) 19) (xE (z (17, 5, 0)) (z (16, 0, 0) 19) c p w).1 (xE (z (17, 5, 0)) (z (16, 0, 0) 19) c p w).2).1 (mem z f (xN (z (17, 5, 0)) (z (16, 0, 0) 19) (xE (z (17, 5, 0)) (z (16, 0, 0) 19) c p w).1 (xE (z (17, 5, 0)) (z (16, 0, 0) 19) c p w).2).2.1 (xN (z (17, 5, 0)) (z (16, 0, 0) 19) (xE (z (17, 5, 0)) (z (16, 0, 0) 19) c p w).1 (xE (z (17, 5, 0)) (z (16, 0, 0) 19) c p w).2).2.2) := by
  have b := xE_B (t := z (17, 5, 0)) (c := c) (w := w) p1
  refine aM1_of kX7_numberBehind rfl (fun B hB => ?_)
  refine hB [] 1000 _ _ _ _ _ ?_
  repeat' (first | refine And.intro ?_ ?_ | refine Or.inl (uE0 (cM_expects (by omega) hz p0 p1 hw c0 c1) ?_) | refine Or.inl (uE (cM_number (by omega) hz (by omega) b.1.2 b.2) ?_) | fail)
  all_goals first | omega | (exact rfl)

def wOk (z : aM) : Prop := (∀ k : Nat, k < 47 → z (17, 7, 0) (k : Int) = ltr.getD k 0) ∧ ∀ k : Nat, k < 10 → z (17, 8, 0) (k : Int) = bgn.getD k 0
theorem cM_lik0 {y : aM} {b n p W0 W L : Int} {t ch : Int → Int} (e18 : y (16, 0, 0) 18 = p) (e19 : y (16, 0, 0) 19 = n) (e5 : y (17, 5, 0) = t) (p0 : 0 ≤ p) (p1 : p ≤ n) (n0 : n ≤ 60) (ht : ∀ k, 0 ≤ k → k < n → 0 ≤ t k ∧ t k < 65536) (b0 : 0 ≤ b) (b1 : b < 9)
    (k8 : y (17, 8, 0) b = W0) (k8' : y (17, 8, 0) (b + 1) = W0 + W) (w0 : 0 ≤ W0) (w1 : W0 + W ≤ 47) (w2 : 3 ≤ W) (k7 : ∀ i, 0 ≤ i → i < W → y (17, 7, 0) (W0 + i) = ch i) (chb : ∀ i, 0 ≤ i → i < W → 0 ≤ ch i ∧ ch i < 128) (eL : lkF t n p ch W.toNat 0 = L) : aE1 l g nX7_likeness d [.inr (.inr (.inl (16, 0, 0))), .inl b] y L y := by
  refine aM1_of kX7_likeness rfl (fun B hB => ?_)
  have loop : ∀ (m : Nat) (i : Int), i + (m : Int) = W → 0 ≤ i → p + i ≤ n → lkF t n p ch m i = L → B (none, 0, 0) y 18 [some (.inr (.inr (.inl (16, 0, 0)))), some (.inl b), some (.inl i), some (.inl W)] [] := by
    intro m
    induction m with
    | zero =>
      intro i hi i0 i1 e
      have e2 : i = L := e
      refine hB [] 1000 _ _ _ _ _ ?_
      repeat' (first | refine And.intro ?_ ?_ | (intro hh; first | exact absurd hh (by decide) | exact absurd rfl hh | (exfalso; omega) | skip) | fail)
      all_goals first | omega | (exact sI e2) | (exact rfl)
    | succ m ih =>
      intro i hi i0 i1 e
      have e' : (if p + i < n ∧ t (p + i) = ch i then lkF t n p ch m (i + 1) else i) = L := e
      have c7 := k7 i i0 (by omega)
      have cb := chb i i0 (by omega)
      have k7' : y (17, 7, 0) (y (17, 8, 0) b + i) = ch i := by rw [k8]; exact c7
      have k5 : y (17, 5, 0) (y (16, 0, 0) 18 + i) = t (p + i) := by rw [e5, e18]
      by_cases hp : p + i < n
      · have tb := ht (p + i) (by omega) hp
        by_cases hc : t (p + i) = ch i
        · rw [if_pos ⟨hp, hc⟩] at e'
          refine hB [18] 1000 _ _ _ _ _ ?_
          repeat' (first | refine And.intro ?_ ?_ | (intro hh; first | exact absurd hh (by decide) | exact absurd rfl hh | (exfalso; omega) | skip) | fail)
          all_goals first | omega | (exact rfl) | (unfold aIR; omega) | exact ih _ (by omega) (by omega) (by omega) e'
        · rw [if_neg (fun q => hc q.2)] at e'
          refine hB [18] 1000 _ _ _ _ _ ?_
          repeat' (first | refine And.intro ?_ ?_ | (intro hh; first | exact absurd hh (by decide) | exact absurd rfl hh | (exfalso; omega) | skip) | fail)
          all_goals first | omega | (exact sI e') | (exact rfl) | (unfold aIR; omega)
      · rw [if_neg (fun q => hp q.1)] at e'
        refine hB [18] 1000 _ _ _ _ _ ?_
        repeat' (first | refine And.intro ?_ ?_ | (intro hh; first | exact absurd hh (by decide) | exact absurd rfl hh | (exfalso; omega) | skip) | fail)
        all_goals first | omega | (exact sI e') | (exact rfl) | (unfold aIR; omega)
  have st := loop W.toNat 0 (by omega) (by omega) (by omega) eL
  refine hB [18] 1000 _ _ _ _ _ ?_
  repeat' (first | refine And.intro ?_ ?_ | (intro hh; first | exact absurd hh (by decide) | exact absurd rfl hh | skip) | fail)
  all_goals first | omega | (exact rfl) | skip
  show B (none, 0, 0) _ 18 [some (.inr (.inr (.inl (16, 0, 0)))), some (.inl b), some (.inl 0), some (.inl (y (17, 8, 0) (b + 1) - y (17, 8, 0) b))] []
  rw [k8, k8', show W0 + W - W0 = W by omega]
  exact st
theorem cM_likeness {b : Int} (hz : tOk z) (p0 : 0 ≤ p) (p1 : p ≤ z (16, 0, 0) 19) (hw : w = 0 ∨ w = 1) (hk : wOk z) (b0 : 0 ≤ b) (b1 : b < 9) : aE1 l g nX7_likeness d [.inr (.inr (.inl (16, 0, 0))), .inl b] (mem z f p w) (lik (z (17, 5, 0)) (z (16, 0, 0) 19) p b) (mem z f p w) := by
  have bb := wL_B b0 b1
  refine cM_lik0 (W0 := wB b) (W := wL b) (ch := wCh b) (mem_18 z f p w) (mem_o z f p w (by decide) (by decide)) (mem_q z f p w (by decide) (by decide)) p0 p1 hz.1.2 hz.2 b0 b1 ?_ ?_ bb.1.1 bb.1.2 bb.2.1 ?_ ?_ rfl
  · rw [mem_q z f p w (by decide) (by decide), ← Int.toNat_of_nonneg b0, hk.2 b.toNat (by omega)]
    unfold wB
    rw [Int.toNat_of_nonneg b0]
  · have := hk.2 (b.toNat + 1) (by omega)
    rw [show ((b.toNat + 1 : Nat) : Int) = b + 1 by omega] at this
    rw [mem_q z f p w (by decide) (by decide), this]
    unfold wB wL
    omega
  · intro i i0 i1
    have := hk.1 (wB b + i).toNat (by omega)
    rw [Int.toNat_of_nonneg (by omega)] at this
    rw [mem_q z f p w (by decide) (by decide), this]
    unfold wCh
    rfl
  · intro i i0 i1
    have key : ∀ k : Nat, k < 47 → 0 ≤ ltr.getD k 0 ∧ ltr.getD k 0 < 128 := by decide +kernel
    exact key (wB b + i).toNat (by omega)

/-- numbers are put into the row of commands -/
def udl (f : Int → Int) (to : Int) : List Int → (Int → Int)
  | [] => f
  | v :: vs => udl (ud f to v) (to + 1) vs
theorem udl_lt : ∀ (vs : List Int) (f : Int → Int) (to k : Int), k < to → udl f to vs k = f k
  | [], _, _, _, _ => rfl
  | v :: vs, f, to, k, h => by
    show udl (ud f to v) (to + 1) vs k = f k
    rw [udl_lt vs _ _ _ (by omega), ud_ne (by omega)]
theorem udl_at : ∀ (vs : List Int) (f : Int → Int) (to : Int) (i : Nat), i < vs.length → udl f to vs (to + (i : Int)) = vs.getD i 0
  | [], _, _, i, h => absurd h (Nat.not_lt_zero _)
  | v :: vs, f, to, 0, _ => by
    show udl (ud f to v) (to + 1) vs (to + ((0 : Nat) : Int)) = v
    rw [udl_lt vs _ _ _ (by omega), show to + ((0 : Nat) : Int) = to by omega, ud_at]
  | v :: vs, f, to, i + 1, h => by
    show udl (ud f to v) (to + 1) vs (to + ((i + 1 : Nat) : Int)) = vs.getD i 0
    rw [show to + ((i + 1 : Nat) : Int) = to + 1 + (i : Int) by omega]
    exact udl_at vs _ _ i (Nat.lt_of_succ_lt_succ h)

theorem cM_readArguments0 {to : Int} (hd : 4 ≤ d) (hz : tOk z) (p0 : 0 ≤ p) (p1 : p ≤ z (16, 0, 0) 19) (hw : w = 0 ∨ w = 1) (t0 : 0 ≤ to) (t1 : to ≤ 361) : aE0 l g nX7_readArguments d [.inr (.inr (.inl (16, 0, 0))), .inl 0, .inl to] (mem z f p w) (mem z (udl f to (xA (z (17, 5, 0)) (z (16, 0, 0) 19) [35, 44, 35] p w).1) (xA (z (17, 5, 0)) (z (16, 0, 0) 19) [35, 44, 35] p w).2.1 (xA (z (17, 5, 0)) (z (16, 0, 0) 19) [35, 44, 35] p w).2.2) := by
  have n0 := hz.1
  refine aM1_of kX7_readArguments rfl (fun B hB => ?_)
  have bk : ∀ z' , z' = (mem z (udl f to (xA (z (17, 5, 0)) (z (16, 0, 0) 19) [35, 44, 35] p w).1) (xA (z (17, 5, 0)) (z (16, 0, 0) 19) [35, 44, 35] p w).2.1 (xA (z (17, 5, 0)) (z (16, 0, 0) 19) [35, 44, 35] p w).2.2) → B (none, 0, 0) z' 252 [some (.inr (.inr (.inl (16, 0, 0)))), some (.inl 0), some (.inl to)] [] := by
    intro z' e
    refine hB [] 1000 _ _ _ _ _ ?_
    repeat' (first | refine And.intro ?_ ?_ | fail)
    all_goals first | omega | (exact rfl) | (exact e)
  have b0 : (p ≤ p ∧ p ≤ (z (16, 0, 0) 19)) ∧ (w = 0 ∨ w = 1) := ⟨⟨Int.le_refl p, p1⟩, hw⟩
  obtain ⟨P0, eP0⟩ : ∃ P0, P0 = p := ⟨_, rfl⟩
  have d0 := xN_B (t := z (17, 5, 0)) (w := w) b0.1.2
  obtain ⟨v2, p2, w2, e0⟩ : ∃ v p' w', xN (z (17, 5, 0)) (z (16, 0, 0) 19) p w = (v, p', w') := ⟨_, _, _, rfl⟩
  rw [e0] at d0
  dsimp only at d0
  have b1 : (p ≤ p2 ∧ p2 ≤ (z (16, 0, 0) 19)) ∧ (w2 = 0 ∨ w2 = 1) := ⟨⟨by have := d0.1.1; omega, d0.1.2⟩, d0.2.1⟩
  have c1 := xE_B (t := z (17, 5, 0)) (c := 44) (w := w2) b1.1.2
  have d1 := xN_B (t := z (17, 5, 0)) (w := (xE (z (17, 5, 0)) (z (16, 0, 0) 19) 44 p2 w2).2) c1.1.2
  obtain ⟨v3, p3, w3, e1⟩ : ∃ v p' w', xN (z (17, 5, 0)) (z (16, 0, 0) 19) (xE (z (17, 5, 0)) (z (16, 0, 0) 19) 44 p2 w2).1 (xE (z (17, 5, 0)) (z (16, 0, 0) 19) 44 p2 w2).2 = (v, p', w') := ⟨_, _, _, rfl⟩
  rw [e1] at d1
  dsimp only at d1
  have b2 : (p2 ≤ p3 ∧ p3 ≤ (z (16, 0, 0) 19)) ∧ (w3 = 0 ∨ w3 = 1) := ⟨⟨by have := d1.1.1; have := c1.1.1; omega, d1.1.2⟩, d1.2.1⟩
  have ef : xA (z (17, 5, 0)) (z (16, 0, 0) 19) [35, 44, 35] p w = ([v2, v3], p3, w3) := by
    rw [xA_n e0, xA_b (by decide) (by decide) e1]
    rfl
  rw [ef] at bk hB
  have s2 : B (none, 0, 0) (mem z (ud (ud f to v2) (to + 1) v3) p3 w3) 72 [some (.inr (.inr (.inl (16, 0, 0)))), some (.inl 0), some (.inl to)] [] := by
    refine hB [252] 1000 _ _ _ _ _ ?_
    repeat' (first | refine And.intro ?_ ?_ | fail)
    all_goals first | omega | (exact rfl) | skip
    refine bk _ ?_
    show mem z (ud (ud f to v2) (to + 1) v3) p3 w3 = mem z (udl f to [v2, v3]) p3 w3
    simp only [udl, Int.add_assoc, Int.reduceAdd]
  have h1 := cM_numberBehind (l := l) (g := g) (d := d - 1) (f := (ud f to v2)) (c := 44) (by omega) hz (p := p2) (w := w2) (by omega) b1.1.2 b1.2 (by decide) (by decide)
  rw [e1] at h1
  have s1 : B (none, 0, 0) (mem z (ud f to v2) p2 w2) 58 [some (.inr (.inr (.inl (16, 0, 0)))), some (.inl 0), some (.inl to)] [] := by
    refine hB [72] 1000 _ _ _ _ _ ?_
    repeat' (first | refine And.intro ?_ ?_ | refine Or.inl (uE h1 ?_) | fail)
    all_goals first | omega | (exact rfl) | skip
    show B (none, 0, 0) (aWr (mem z (ud f to v2) p3 w3) (17, 9, 0) (to + 1) v3) 72 [some (.inr (.inr (.inl (16, 0, 0)))), some (.inl 0), some (.inl to)] []
    rw [mem_w9]
    exact s2
  have h0 := cM_number (l := l) (g := g) (d := d - 1) (f := f) (by omega) hz (p := p) (w := w) (by omega) b0.1.2 b0.2
  rw [e0] at h0
  have s0 : B (none, 0, 0) (mem z f p w) 48 [some (.inr (.inr (.inl (16, 0, 0)))), some (.inl 0), some (.inl to)] [] := by
    refine hB [58] 1000 _ _ _ _ _ ?_
    repeat' (first | refine And.intro ?_ ?_ | refine Or.inl (uE h0 ?_) | fail)
    all_goals first | omega | (exact rfl) | skip
    show B (none, 0, 0) (aWr (mem z f p2 w2) (17, 9, 0) to v2) 58 [some (.inr (.inr (.inl (16, 0, 0)))), some (.inl 0), some (.inl to)] []
    rw [mem_w9]
    exact s1
  refine hB [48] 1000 _ _ _ _ _ ?_
  repeat' (first | refine And.intro ?_ ?_ | (intro hh; first | exact absurd hh (by decide) | exact absurd rfl hh | (exfalso; omega) | skip) | fail)
  all_goals first | omega | (exact rfl) | exact s0

theorem cM_readArguments1 {to : Int} (hd : 4 ≤ d) (hz : tOk z) (p0 : 0 ≤ p) (p1 : p ≤ z (16, 0, 0) 19) (hw : w = 0 ∨ w = 1) (t0 : 0 ≤ to) (t1 : to ≤ 361) : aE0 l g nX7_readArguments d [.inr (.inr (.inl (16, 0, 0))), .inl 1, .inl to] (mem z f p w) (mem z (udl f to (xA (z (17, 5, 0)) (z (16, 0, 0) 19) [35, 44, 35, 61, 35] p w).1) (xA (z (17, 5, 0)) (z (16, 0, 0) 19) [35, 44, 35, 61, 35] p w).2.1 (xA (z (17, 5, 0)) (z (16, 0, 0) 19) [35, 44, 35, 61, 35] p w).2.2) := by
  have n0 := hz.1
  refine aM1_of kX7_readArguments rfl (fun B hB => ?_)
  have bk : ∀ z' , z' = (mem z (udl f to (xA (z (17, 5, 0)) (z (16, 0, 0) 19) [35, 44, 35, 61, 35] p w).1) (xA (z (17, 5, 0)) (z (16, 0, 0) 19) [35, 44, 35, 61, 35] p w).2.1 (xA (z (17, 5, 0)) (z (16, 0, 0) 19) [35, 44, 35, 61, 35] p w).2.2) → B (none, 0, 0) z' 252 [some (.inr (.inr (.inl (16, 0, 0)))), some (.inl 1), some (.inl to)] [] := by
    intro z' e
    refine hB [] 1000 _ _ _ _ _ ?_
    repeat' (first | refine And.intro ?_ ?_ | fail)
    all_goals first | omega | (exact rfl) | (exact e)
  have b0 : (p ≤ p ∧ p ≤ (z (16, 0, 0) 19)) ∧ (w = 0 ∨ w = 1) := ⟨⟨Int.le_refl p, p1⟩, hw⟩
  obtain ⟨P0, eP0⟩ : ∃ P0, P0 = p := ⟨_, rfl⟩
  have d0 := xN_B (t := z (17, 5, 0)) (w := w) b0.1.2
  obtain ⟨v2, p2, w2, e0⟩ : ∃ v p' w', xN (z (17, 5, 0)) (z (16, 0, 0) 19) p w = (v, p', w') := ⟨_, _, _, rfl⟩
  rw [e0] at d0
  dsimp only at d0
  have b1 : (p ≤ p2 ∧ p2 ≤ (z (16, 0, 0) 19)) ∧ (w2 = 0 ∨ w2 = 1) := ⟨⟨by have := d0.1.1; omega, d0.1.2⟩, d0.2.1⟩
  have c1 := xE_B (t := z (17, 5, 0)) (c := 44) (w := w2) b1.1.2
  have d1 := xN_B (t := z (17, 5, 0)) (w := (xE (z (17, 5, 0)) (z (16, 0, 0) 19) 44 p2 w2).2) c1.1.2
  obtain ⟨v3, p3, w3, e1⟩ : ∃ v p' w', xN (z (17, 5, 0)) (z (16, 0, 0) 19) (xE (z (17, 5, 0)) (z (16, 0, 0) 19) 44 p2 w2).1 (xE (z (17, 5, 0)) (z (16, 0, 0) 19) 44 p2 w2).2 = (v, p', w') := ⟨_, _, _, rfl⟩
  rw [e1] at d1
  dsimp only at d1
  have b2 : (p2 ≤ p3 ∧ p3 ≤ (z (16, 0, 0) 19)) ∧ (w3 = 0 ∨ w3 = 1) := ⟨⟨by have := d1.1.1; have := c1.1.1; omega, d1.1.2⟩, d1.2.1⟩
  have c2 := xE_B (t := z (17, 5, 0)) (c := 61) (w := w3) b2.1.2
  have d2 := xN_B (t := z (17, 5, 0)) (w := (xE (z (17, 5, 0)) (z (16, 0, 0) 19) 61 p3 w3).2) c2.1.2
  obtain ⟨v4, p4, w4, e2⟩ : ∃ v p' w', xN (z (17, 5, 0)) (z (16, 0, 0) 19) (xE (z (17, 5, 0)) (z (16, 0, 0) 19) 61 p3 w3).1 (xE (z (17, 5, 0)) (z (16, 0, 0) 19) 61 p3 w3).2 = (v, p', w') := ⟨_, _, _, rfl⟩
  rw [e2] at d2
  dsimp only at d2
  have b3 : (p3 ≤ p4 ∧ p4 ≤ (z (16, 0, 0) 19)) ∧ (w4 = 0 ∨ w4 = 1) := ⟨⟨by have := d2.1.1; have := c2.1.1; omega, d2.1.2⟩, d2.2.1⟩
  have ef : xA (z (17, 5, 0)) (z (16, 0, 0) 19) [35, 44, 35, 61, 35] p w = ([v2, v3, v4], p4, w4) := by
    rw [xA_n e0, xA_b (by decide) (by decide) e1, xA_b (by decide) (by decide) e2]
    rfl
  rw [ef] at bk hB
  have s3 : B (none, 0, 0) (mem z (ud (ud (ud f to v2) (to + 1) v3) (to + 2) v4) p4 w4) 113 [some (.inr (.inr (.inl (16, 0, 0)))), some (.inl 1), some (.inl to)] [] := by
    refine hB [252] 1000 _ _ _ _ _ ?_
    repeat' (first | refine And.intro ?_ ?_ | fail)
    all_goals first | omega | (exact rfl) | skip
    refine bk _ ?_
    show mem z (ud (ud (ud f to v2) (to + 1) v3) (to + 2) v4) p4 w4 = mem z (udl f to [v2, v3, v4]) p4 w4
    simp only [udl, Int.add_assoc, Int.reduceAdd]
  have h2 := cM_numberBehind (l := l) (g := g) (d := d - 1) (f := (ud (ud f to v2) (to + 1) v3)) (c := 61) (by omega) hz (p := p3) (w := w3) (by omega) b2.1.2 b2.2 (by decide) (by decide)
  rw [e2] at h2
  have s2 : B (none, 0, 0) (mem z (ud (ud f to v2) (to + 1) v3) p3 w3) 99 [some (.inr (.inr (.inl (16, 0, 0)))), some (.inl 1), some (.inl to)] [] := by
    refine hB [113] 1000 _ _ _ _ _ ?_
    repeat' (first | refine And.intro ?_ ?_ | refine Or.inl (uE h2 ?_) | fail)
    all_goals first | omega | (exact rfl) | skip
    show B (none, 0, 0) (aWr (mem z (ud (ud f to v2) (to + 1) v3) p4 w4) (17, 9, 0) (to + 2) v4) 113 [some (.inr (.inr (.inl (16, 0, 0)))), some (.inl 1), some (.inl to)] []
    rw [mem_w9]
    exact s3
  have h1 := cM_numberBehind (l := l) (g := g) (d := d - 1) (f := (ud f to v2)) (c := 44) (by omega) hz (p := p2) (w := w2) (by omega) b1.1.2 b1.2 (by decide) (by decide)
  rw [e1] at h1
  have s1 : B (none, 0, 0) (mem z (ud f to v2) p2 w2) 85 [some (.inr (.inr (.inl (16, 0, 0)))), some (.inl 1), some (.inl to)] [] := by
    refine hB [99] 1000 _ _ _ _ _ ?_
    repeat' (first | refine And.intro ?_ ?_ | refine Or.inl (uE h1 ?_) | fail)
    all_goals first | omega | (exact rfl) | skip
    show B (none, 0, 0) (aWr (mem z (ud f to v2) p3 w3) (17, 9, 0) (to + 1) v3) 99 [some (.inr (.inr (.inl (16, 0, 0)))), some (.inl 1), some (.inl to)] []
    rw [mem_w9]
    exact s2
  have h0 := cM_number (l := l) (g := g) (d := d - 1) (f := f) (by omega) hz (p := p) (w := w) (by omega) b0.1.2 b0.2
  rw [e0] at h0
  have s0 : B (none, 0, 0) (mem z f p w) 75 [some (.inr (.inr (.inl (16, 0, 0)))), some (.inl 1), some (.inl to)] [] := by
    refine hB [85] 1000 _ _ _ _ _ ?_
    repeat' (first | refine And.intro ?_ ?_ | refine Or.inl (uE h0 ?_) | fail)
    all_goals first | omega | (exact rfl) | skip
    show B (none, 0, 0) (aWr (mem z f p2 w2) (17, 9, 0) to v2) 85 [some (.inr (.inr (.inl (16, 0, 0)))), some (.inl 1), some (.inl to)] []
    rw [mem_w9]
    exact s1
  refine hB [75] 1000 _ _ _ _ _ ?_
  repeat' (first | refine And.intro ?_ ?_ | (intro hh; first | exact absurd hh (by decide) | exact absurd rfl hh | (exfalso; omega) | skip) | fail)
  all_goals first | omega | (exact rfl) | exact s0

theorem cM_readArguments2 {to : Int} (hd : 4 ≤ d) (hz : tOk z) (p0 : 0 ≤ p) (p1 : p ≤ z (16, 0, 0) 19) (hw : w = 0 ∨ w = 1) (t0 : 0 ≤ to) (t1 : to ≤ 361) : aE0 l g nX7_readArguments d [.inr (.inr (.inl (16, 0, 0))), .inl 2, .inl to] (mem z f p w) (mem z (udl f to (xA (z (17, 5, 0)) (z (16, 0, 0) 19) [63, 32, 35, 44, 35, 45, 35, 44, 35] p w).1) (xA (z (17, 5, 0)) (z (16, 0, 0) 19) [63, 32, 35, 44, 35, 45, 35, 44, 35] p w).2.1 (xA (z (17, 5, 0)) (z (16, 0, 0) 19) [63, 32, 35, 44, 35, 45, 35, 44, 35] p w).2.2) := by
  have n0 := hz.1
  refine aM1_of kX7_readArguments rfl (fun B hB => ?_)
  have bk : ∀ z' , z' = (mem z (udl f to (xA (z (17, 5, 0)) (z (16, 0, 0) 19) [63, 32, 35, 44, 35, 45, 35, 44, 35] p w).1) (xA (z (17, 5, 0)) (z (16, 0, 0) 19) [63, 32, 35, 44, 35, 45, 35, 44, 35] p w).2.1 (xA (z (17, 5, 0)) (z (16, 0, 0) 19) [63, 32, 35, 44, 35, 45, 35, 44, 35] p w).2.2) → B (none, 0, 0) z' 252 [some (.inr (.inr (.inl (16, 0, 0)))), some (.inl 2), some (.inl to)] [] := by
    intro z' e
    refine hB [] 1000 _ _ _ _ _ ?_
    repeat' (first | refine And.intro ?_ ?_ | fail)
    all_goals first | omega | (exact rfl) | (exact e)
  have b0 : (p ≤ p ∧ p ≤ (z (16, 0, 0) 19)) ∧ (w = 0 ∨ w = 1) := ⟨⟨Int.le_refl p, p1⟩, hw⟩
  obtain ⟨P0, eP0⟩ : ∃ P0, P0 = p := ⟨_, rfl⟩
  have d0 := xD_B (t := z (17, 5, 0)) (w := w) b0.1.2
  obtain ⟨v2, p2, w2, e0⟩ : ∃ v p' w', xD (z (17, 5, 0)) (z (16, 0, 0) 19) p w = (v, p', w') := ⟨_, _, _, rfl⟩
  rw [e0] at d0
  dsimp only at d0
  have b1 : (p ≤ p2 ∧ p2 ≤ (z (16, 0, 0) 19)) ∧ (w2 = 0 ∨ w2 = 1) := ⟨⟨by have := d0.1.1; omega, d0.1.2⟩, d0.2.1⟩
  have c1 := xE_B (t := z (17, 5, 0)) (c := 32) (w := w2) b1.1.2
  have d1 := xN_B (t := z (17, 5, 0)) (w := (xE (z (17, 5, 0)) (z (16, 0, 0) 19) 32 p2 w2).2) c1.1.2
  obtain ⟨v3, p3, w3, e1⟩ : ∃ v p' w', xN (z (17, 5, 0)) (z (16, 0, 0) 19) (xE (z (17, 5, 0)) (z (16, 0, 0) 19) 32 p2 w2).1 (xE (z (17, 5, 0)) (z (16, 0, 0) 19) 32 p2 w2).2 = (v, p', w') := ⟨_, _, _, rfl⟩
  rw [e1] at d1
  dsimp only at d1
  have b2 : (p2 ≤ p3 ∧ p3 ≤ (z (16, 0, 0) 19)) ∧ (w3 = 0 ∨ w3 = 1) := ⟨⟨by have := d1.1.1; have := c1.1.1; omega, d1.1.2⟩, d1.2.1⟩
  have c2 := xE_B (t := z (17, 5, 0)) (c := 44) (w := w3) b2.1.2
  have d2 := xN_B (t := z (17, 5, 0)) (w := (xE (z (17, 5, 0)) (z (16, 0, 0) 19) 44 p3 w3).2) c2.1.2
  obtain ⟨v4, p4, w4, e2⟩ : ∃ v p' w', xN (z (17, 5, 0)) (z (16, 0, 0) 19) (xE (z (17, 5, 0)) (z (16, 0, 0) 19) 44 p3 w3).1 (xE (z (17, 5, 0)) (z (16, 0, 0) 19) 44 p3 w3).2 = (v, p', w') := ⟨_, _, _, rfl⟩
  rw [e2] at d2
  dsimp only at d2
  have b3 : (p3 ≤ p4 ∧ p4 ≤ (z (16, 0, 0) 19)) ∧ (w4 = 0 ∨ w4 = 1) := ⟨⟨by have := d2.1.1; have := c2.1.1; omega, d2.1.2⟩, d2.2.1⟩
  have c3 := xE_B (t := z (17, 5, 0)) (c := 45) (w := w4) b3.1.2
  have d3 := xN_B (t := z (17, 5, 0)) (w := (xE (z (17, 5, 0)) (z (16, 0, 0) 19) 45 p4 w4).2) c3.1.2
  obtain ⟨v5, p5, w5, e3⟩ : ∃ v p' w', xN (z (17, 5, 0)) (z (16, 0, 0) 19) (xE (z (17, 5, 0)) (z (16, 0, 0) 19) 45 p4 w4).1 (xE (z (17, 5, 0)) (z (16, 0, 0) 19) 45 p4 w4).2 = (v, p', w') := ⟨_, _, _, rfl⟩
  rw [e3] at d3
  dsimp only at d3
  have b4 : (p4 ≤ p5 ∧ p5 ≤ (z (16, 0, 0) 19)) ∧ (w5 = 0 ∨ w5 = 1) := ⟨⟨by have := d3.1.1; have := c3.1.1; omega, d3.1.2⟩, d3.2.1⟩
  have c4 := xE_B (t := z (17, 5, 0)) (c := 44) (w := w5) b4.1.2
  have d4 := xN_B (t := z (17, 5, 0)) (w := (xE (z (17, 5, 0)) (z (16, 0, 0) 19) 44 p5 w5).2) c4.1.2
  obtain ⟨v6, p6, w6, e4⟩ : ∃ v p' w', xN (z (17, 5, 0)) (z (16, 0, 0) 19) (xE (z (17, 5, 0)) (z (16, 0, 0) 19) 44 p5 w5).1 (xE (z (17, 5, 0)) (z (16, 0, 0) 19) 44 p5 w5).2 = (v, p', w') := ⟨_, _, _, rfl⟩
  rw [e4] at d4
  dsimp only at d4
  have b5 : (p5 ≤ p6 ∧ p6 ≤ (z (16, 0, 0) 19)) ∧ (w6 = 0 ∨ w6 = 1) := ⟨⟨by have := d4.1.1; have := c4.1.1; omega, d4.1.2⟩, d4.2.1⟩
  have ef : xA (z (17, 5, 0)) (z (16, 0, 0) 19) [63, 32, 35, 44, 35, 45, 35, 44, 35] p w = ([v2, v3, v4, v5, v6], p6, w6) := by
    rw [xA_d e0, xA_b (by decide) (by decide) e1, xA_b (by decide) (by decide) e2, xA_b (by decide) (by decide) e3, xA_b (by decide) (by decide) e4]
    rfl
  rw [ef] at bk hB
  have s5 : B (none, 0, 0) (mem z (ud (ud (ud (ud (ud f to v2) (to + 1) v3) (to + 2) v4) (to + 3) v5) (to + 4) v6) p6 w6) 182 [some (.inr (.inr (.inl (16, 0, 0)))), some (.inl 2), some (.inl to)] [] := by
    refine hB [252] 1000 _ _ _ _ _ ?_
    repeat' (first | refine And.intro ?_ ?_ | fail)
    all_goals first | omega | (exact rfl) | skip
    refine bk _ ?_
    show mem z (ud (ud (ud (ud (ud f to v2) (to + 1) v3) (to + 2) v4) (to + 3) v5) (to + 4) v6) p6 w6 = mem z (udl f to [v2, v3, v4, v5, v6]) p6 w6
    simp only [udl, Int.add_assoc, Int.reduceAdd]
  have h4 := cM_numberBehind (l := l) (g := g) (d := d - 1) (f := (ud (ud (ud (ud f to v2) (to + 1) v3) (to + 2) v4) (to + 3) v5)) (c := 44) (by omega) hz (p := p5) (w := w5) (by omega) b4.1.2 b4.2 (by decide) (by decide)
  rw [e4] at h4
  have s4 : B (none, 0, 0) (mem z (ud (ud (ud (ud f to v2) (to + 1) v3) (to + 2) v4) (to + 3) v5) p5 w5) 168 [some (.inr (.inr (.inl (16, 0, 0)))), some (.inl 2), some (.inl to)] [] := by
    refine hB [182] 1000 _ _ _ _ _ ?_
    repeat' (first | refine And.intro ?_ ?_ | refine Or.inl (uE h4 ?_) | fail)
    all_goals first | omega | (exact rfl) | skip
    show B (none, 0, 0) (aWr (mem z (ud (ud (ud (ud f to v2) (to + 1) v3) (to + 2) v4) (to + 3) v5) p6 w6) (17, 9, 0) (to + 4) v6) 182 [some (.inr (.inr (.inl (16, 0, 0)))), some (.inl 2), some (.inl to)] []
    rw [mem_w9]
    exact s5
  have h3 := cM_numberBehind (l := l) (g := g) (d := d - 1) (f := (ud (ud (ud f to v2) (to + 1) v3) (to + 2) v4)) (c := 45) (by omega) hz (p := p4) (w := w4) (by omega) b3.1.2 b3.2 (by decide) (by decide)
  rw [e3] at h3
  have s3 : B (none, 0, 0) (mem z (ud (ud (ud f to v2) (to + 1) v3) (to + 2) v4) p4 w4) 154 [some (.inr (.inr (.inl (16, 0, 0)))), some (.inl 2), some (.inl to)] [] := by
    refine hB [168] 1000 _ _ _ _ _ ?_
    repeat' (first | refine And.intro ?_ ?_ | refine Or.inl (uE h3 ?_) | fail)
    all_goals first | omega | (exact rfl) | skip
    show B (none, 0, 0) (aWr (mem z (ud (ud (ud f to v2) (to + 1) v3) (to + 2) v4) p5 w5) (17, 9, 0) (to + 3) v5) 168 [some (.inr (.inr (.inl (16, 0, 0)))), some (.inl 2), some (.inl to)] []
    rw [mem_w9]
    exact s4
  have h2 := cM_numberBehind (l := l) (g := g) (d := d - 1) (f := (ud (ud f to v2) (to + 1) v3)) (c := 44) (by omega) hz (p := p3) (w := w3) (by omega) b2.1.2 b2.2 (by decide) (by decide)
  rw [e2] at h2
  have s2 : B (none, 0, 0) (mem z (ud (ud f to v2) (to + 1) v3) p3 w3) 140 [some (.inr (.inr (.inl (16, 0, 0)))), some (.inl 2), some (.inl to)] [] := by
    refine hB [154] 1000 _ _ _ _ _ ?_
    repeat' (first | refine And.intro ?_ ?_ | refine Or.inl (uE h2 ?_) | fail)
    all_goals first | omega | (exact rfl) | skip
    show B (none, 0, 0) (aWr (mem z (ud (ud f to v2) (to + 1) v3) p4 w4) (17, 9, 0) (to + 2) v4) 154 [some (.inr (.inr (.inl (16, 0, 0)))), some (.inl 2), some (.inl to)] []
    rw [mem_w9]
    exact s3
  have h1 := cM_numberBehind (l := l) (g := g) (d := d - 1) (f := (ud f to v2)) (c := 32) (by omega) hz (p := p2) (w := w2) (by omega) b1.1.2 b1.2 (by decide) (by decide)
  rw [e1] at h1
  have s1 : B (none, 0, 0) (mem z (ud f to v2) p2 w2) 126 [some (.inr (.inr (.inl (16, 0, 0)))), some (.inl 2), some (.inl to)] [] := by
    refine hB [140] 1000 _ _ _ _ _ ?_
    repeat' (first | refine And.intro ?_ ?_ | refine Or.inl (uE h1 ?_) | fail)
    all_goals first | omega | (exact rfl) | skip
    show B (none, 0, 0) (aWr (mem z (ud f to v2) p3 w3) (17, 9, 0) (to + 1) v3) 140 [some (.inr (.inr (.inl (16, 0, 0)))), some (.inl 2), some (.inl to)] []
    rw [mem_w9]
    exact s2
  have h0 := cM_digit (l := l) (g := g) (d := d - 1) (f := f) (by omega) hz (p := p) (w := w) (by omega) b0.1.2 b0.2
  rw [e0] at h0
  have s0 : B (none, 0, 0) (mem z f p w) 116 [some (.inr (.inr (.inl (16, 0, 0)))), some (.inl 2), some (.inl to)] [] := by
    refine hB [126] 1000 _ _ _ _ _ ?_
    repeat' (first | refine And.intro ?_ ?_ | refine Or.inl (uE h0 ?_) | fail)
    all_goals first | omega | (exact rfl) | skip
    show B (none, 0, 0) (aWr (mem z f p2 w2) (17, 9, 0) to v2) 126 [some (.inr (.inr (.inl (16, 0, 0)))), some (.inl 2), some (.inl to)] []
    rw [mem_w9]
    exact s1
  refine hB [116] 1000 _ _ _ _ _ ?_
  repeat' (first | refine And.intro ?_ ?_ | (intro hh; first | exact absurd hh (by decide) | exact absurd rfl hh | (exfalso; omega) | skip) | fail)
  all_goals first | omega | (exact rfl) | exact s0

theorem cM_readArguments3 {to : Int} (hd : 4 ≤ d) (hz : tOk z) (p0 : 0 ≤ p) (p1 : p ≤ z (16, 0, 0) 19) (hw : w = 0 ∨ w = 1) (t0 : 0 ≤ to) (t1 : to ≤ 361) : aE0 l g nX7_readArguments d [.inr (.inr (.inl (16, 0, 0))), .inl 3, .inl to] (mem z f p w) (mem z (udl f to (xA (z (17, 5, 0)) (z (16, 0, 0) 19) [35] p w).1) (xA (z (17, 5, 0)) (z (16, 0, 0) 19) [35] p w).2.1 (xA (z (17, 5, 0)) (z (16, 0, 0) 19) [35] p w).2.2) := by
  have n0 := hz.1
  refine aM1_of kX7_readArguments rfl (fun B hB => ?_)
  have bk : ∀ z' , z' = (mem z (udl f to (xA (z (17, 5, 0)) (z (16, 0, 0) 19) [35] p w).1) (xA (z (17, 5, 0)) (z (16, 0, 0) 19) [35] p w).2.1 (xA (z (17, 5, 0)) (z (16, 0, 0) 19) [35] p w).2.2) → B (none, 0, 0) z' 252 [some (.inr (.inr (.inl (16, 0, 0)))), some (.inl 3), some (.inl to)] [] := by
    intro z' e
    refine hB [] 1000 _ _ _ _ _ ?_
    repeat' (first | refine And.intro ?_ ?_ | fail)
    all_goals first | omega | (exact rfl) | (exact e)
  have b0 : (p ≤ p ∧ p ≤ (z (16, 0, 0) 19)) ∧ (w = 0 ∨ w = 1) := ⟨⟨Int.le_refl p, p1⟩, hw⟩
  obtain ⟨P0, eP0⟩ : ∃ P0, P0 = p := ⟨_, rfl⟩
  have d0 := xN_B (t := z (17, 5, 0)) (w := w) b0.1.2
  obtain ⟨v2, p2, w2, e0⟩ : ∃ v p' w', xN (z (17, 5, 0)) (z (16, 0, 0) 19) p w = (v, p', w') := ⟨_, _, _, rfl⟩
  rw [e0] at d0
  dsimp only at d0
  have b1 : (p ≤ p2 ∧ p2 ≤ (z (16, 0, 0) 19)) ∧ (w2 = 0 ∨ w2 = 1) := ⟨⟨by have := d0.1.1; omega, d0.1.2⟩, d0.2.1⟩
  have ef : xA (z (17, 5, 0)) (z (16, 0, 0) 19) [35] p w = ([v2], p2, w2) := by
    rw [xA_n e0]
    rfl
  rw [ef] at bk hB
  have s1 : B (none, 0, 0) (mem z (ud f to v2) p2 w2) 195 [some (.inr (.inr (.inl (16, 0, 0)))), some (.inl 3), some (.inl to)] [] := by
    refine hB [252] 1000 _ _ _ _ _ ?_
    repeat' (first | refine And.intro ?_ ?_ | fail)
    all_goals first | omega | (exact rfl) | skip
    refine bk _ ?_
    show mem z (ud f to v2) p2 w2 = mem z (udl f to [v2]) p2 w2
    simp only [udl, Int.add_assoc, Int.reduceAdd]
  have h0 := cM_number (l := l) (g := g) (d := d - 1) (f := f) (by omega) hz (p := p) (w := w) (by omega) b0.1.2 b0.2
  rw [e0] at h0
  have s0 : B (none, 0, 0) (mem z f p w) 185 [some (.inr (.inr (.inl (16, 0, 0)))), some (.inl 3), some (.inl to)] [] := by
    refine hB [195] 1000 _ _ _ _ _ ?_
    repeat' (first | refine And.intro ?_ ?_ | refine Or.inl (uE h0 ?_) | fail)
    all_goals first | omega | (exact rfl) | skip
    show B (none, 0, 0) (aWr (mem z f p2 w2) (17, 9, 0) to v2) 195 [some (.inr (.inr (.inl (16, 0, 0)))), some (.inl 3), some (.inl to)] []
    rw [mem_w9]
    exact s1
  refine hB [185] 1000 _ _ _ _ _ ?_
  repeat' (first | refine And.intro ?_ ?_ | (intro hh; first | exact absurd hh (by decide) | exact absurd rfl hh | (exfalso; omega) | skip) | fail)
  all_goals first | omega | (exact rfl) | exact s0

theorem cM_readArguments4 {to : Int} (hd : 4 ≤ d) (hz : tOk z) (p0 : 0 ≤ p) (p1 : p ≤ z (16, 0, 0) 19) (hw : w = 0 ∨ w = 1) (t0 : 0 ≤ to) (t1 : to ≤ 361) : aE0 l g nX7_readArguments d [.inr (.inr (.inl (16, 0, 0))), .inl 4, .inl to] (mem z f p w) (mem z (udl f to (xA (z (17, 5, 0)) (z (16, 0, 0) 19) [35] p w).1) (xA (z (17, 5, 0)) (z (16, 0, 0) 19) [35] p w).2.1 (xA (z (17, 5, 0)) (z (16, 0, 0) 19) [35] p w).2.2) := by
  have n0 := hz.1
  refine aM1_of kX7_readArguments rfl (fun B hB => ?_)
  have bk : ∀ z' , z' = (mem z (udl f to (xA (z (17, 5, 0)) (z (16, 0, 0) 19) [35] p w).1) (xA (z (17, 5, 0)) (z (16, 0, 0) 19) [35] p w).2.1 (xA (z (17, 5, 0)) (z (16, 0, 0) 19) [35] p w).2.2) → B (none, 0, 0) z' 252 [some (.inr (.inr (.inl (16, 0, 0)))), some (.inl 4), some (.inl to)] [] := by
    intro z' e
    refine hB [] 1000 _ _ _ _ _ ?_
    repeat' (first | refine And.intro ?_ ?_ | fail)
    all_goals first | omega | (exact rfl) | (exact e)
  have b0 : (p ≤ p ∧ p ≤ (z (16, 0, 0) 19)) ∧ (w = 0 ∨ w = 1) := ⟨⟨Int.le_refl p, p1⟩, hw⟩
  obtain ⟨P0, eP0⟩ : ∃ P0, P0 = p := ⟨_, rfl⟩
  have d0 := xN_B (t := z (17, 5, 0)) (w := w) b0.1.2
  obtain ⟨v2, p2, w2, e0⟩ : ∃ v p' w', xN (z (17, 5, 0)) (z (16, 0, 0) 19) p w = (v, p', w') := ⟨_, _, _, rfl⟩
  rw [e0] at d0
  dsimp only at d0
  have b1 : (p ≤ p2 ∧ p2 ≤ (z (16, 0, 0) 19)) ∧ (w2 = 0 ∨ w2 = 1) := ⟨⟨by have := d0.1.1; omega, d0.1.2⟩, d0.2.1⟩
  have ef : xA (z (17, 5, 0)) (z (16, 0, 0) 19) [35] p w = ([v2], p2, w2) := by
    rw [xA_n e0]
    rfl
  rw [ef] at bk hB
  have s1 : B (none, 0, 0) (mem z (ud f to v2) p2 w2) 195 [some (.inr (.inr (.inl (16, 0, 0)))), some (.inl 4), some (.inl to)] [] := by
    refine hB [252] 1000 _ _ _ _ _ ?_
    repeat' (first | refine And.intro ?_ ?_ | fail)
    all_goals first | omega | (exact rfl) | skip
    refine bk _ ?_
    show mem z (ud f to v2) p2 w2 = mem z (udl f to [v2]) p2 w2
    simp only [udl, Int.add_assoc, Int.reduceAdd]
  have h0 := cM_number (l := l) (g := g) (d := d - 1) (f := f) (by omega) hz (p := p) (w := w) (by omega) b0.1.2 b0.2
  rw [e0] at h0
  have s0 : B (none, 0, 0) (mem z f p w) 185 [some (.inr (.inr (.inl (16, 0, 0)))), some (.inl 4), some (.inl to)] [] := by
    refine hB [195] 1000 _ _ _ _ _ ?_
    repeat' (first | refine And.intro ?_ ?_ | refine Or.inl (uE h0 ?_) | fail)
    all_goals first | omega | (exact rfl) | skip
    show B (none, 0, 0) (aWr (mem z f p2 w2) (17, 9, 0) to v2) 195 [some (.inr (.inr (.inl (16, 0, 0)))), some (.inl 4), some (.inl to)] []
    rw [mem_w9]
    exact s1
  refine hB [185] 1000 _ _ _ _ _ ?_
  repeat' (first | refine And.intro ?_ ?_ | (intro hh; first | exact absurd hh (by decide) | exact absurd rfl hh | (exfalso; omega) | skip) | fail)
  all_goals first | omega | (exact rfl) | exact s0

theorem cM_readArguments5 {to : Int} (hd : 4 ≤ d) (hz : tOk z) (p0 : 0 ≤ p) (p1 : p ≤ z (16, 0, 0) 19) (hw : w = 0 ∨ w = 1) (t0 : 0 ≤ to) (t1 : to ≤ 361) : aE0 l g nX7_readArguments d [.inr (.inr (.inl (16, 0, 0))), .inl 5, .inl to] (mem z f p w) (mem z (udl f to (xA (z (17, 5, 0)) (z (16, 0, 0) 19) [] p w).1) (xA (z (17, 5, 0)) (z (16, 0, 0) 19) [] p w).2.1 (xA (z (17, 5, 0)) (z (16, 0, 0) 19) [] p w).2.2) := by
  have n0 := hz.1
  refine aM1_of kX7_readArguments rfl (fun B hB => ?_)
  have bk : ∀ z' , z' = (mem z (udl f to (xA (z (17, 5, 0)) (z (16, 0, 0) 19) [] p w).1) (xA (z (17, 5, 0)) (z (16, 0, 0) 19) [] p w).2.1 (xA (z (17, 5, 0)) (z (16, 0, 0) 19) [] p w).2.2) → B (none, 0, 0) z' 252 [some (.inr (.inr (.inl (16, 0, 0)))), some (.inl 5), some (.inl to)] [] := by
    intro z' e
    refine hB [] 1000 _ _ _ _ _ ?_
    repeat' (first | refine And.intro ?_ ?_ | fail)
    all_goals first | omega | (exact rfl) | (exact e)
  refine hB [252] 1000 _ _ _ _ _ ?_
  repeat' (first | refine And.intro ?_ ?_ | (intro hh; first | exact absurd hh (by decide) | exact absurd rfl hh | (exfalso; omega) | skip) | fail)
  all_goals first | omega | (exact rfl) | exact bk _ rfl

theorem cM_readArguments6 {to : Int} (hd : 4 ≤ d) (hz : tOk z) (p0 : 0 ≤ p) (p1 : p ≤ z (16, 0, 0) 19) (hw : w = 0 ∨ w = 1) (t0 : 0 ≤ to) (t1 : to ≤ 361) : aE0 l g nX7_readArguments d [.inr (.inr (.inl (16, 0, 0))), .inl 6, .inl to] (mem z f p w) (mem z (udl f to (xA (z (17, 5, 0)) (z (16, 0, 0) 19) [35, 44, 35, 43, 35] p w).1) (xA (z (17, 5, 0)) (z (16, 0, 0) 19) [35, 44, 35, 43, 35] p w).2.1 (xA (z (17, 5, 0)) (z (16, 0, 0) 19) [35, 44, 35, 43, 35] p w).2.2) := by
  have n0 := hz.1
  refine aM1_of kX7_readArguments rfl (fun B hB => ?_)
  have bk : ∀ z' , z' = (mem z (udl f to (xA (z (17, 5, 0)) (z (16, 0, 0) 19) [35, 44, 35, 43, 35] p w).1) (xA (z (17, 5, 0)) (z (16, 0, 0) 19) [35, 44, 35, 43, 35] p w).2.1 (xA (z (17, 5, 0)) (z (16, 0, 0) 19) [35, 44, 35, 43, 35] p w).2.2) → B (none, 0, 0) z' 252 [some (.inr (.inr (.inl (16, 0, 0)))), some (.inl 6), some (.inl to)] [] := by
    intro z' e
    refine hB [] 1000 _ _ _ _ _ ?_
    repeat' (first | refine And.intro ?_ ?_ | fail)
    all_goals first | omega | (exact rfl) | (exact e)
  have b0 : (p ≤ p ∧ p ≤ (z (16, 0, 0) 19)) ∧ (w = 0 ∨ w = 1) := ⟨⟨Int.le_refl p, p1⟩, hw⟩
  obtain ⟨P0, eP0⟩ : ∃ P0, P0 = p := ⟨_, rfl⟩
  have d0 := xN_B (t := z (17, 5, 0)) (w := w) b0.1.2
  obtain ⟨v2, p2, w2, e0⟩ : ∃ v p' w', xN (z (17, 5, 0)) (z (16, 0, 0) 19) p w = (v, p', w') := ⟨_, _, _, rfl⟩
  rw [e0] at d0
  dsimp only at d0
  have b1 : (p ≤ p2 ∧ p2 ≤ (z (16, 0, 0) 19)) ∧ (w2 = 0 ∨ w2 = 1) := ⟨⟨by have := d0.1.1; omega, d0.1.2⟩, d0.2.1⟩
  have c1 := xE_B (t := z (17, 5, 0)) (c := 44) (w := w2) b1.1.2
  have d1 := xN_B (t := z (17, 5, 0)) (w := (xE (z (17, 5, 0)) (z (16, 0, 0) 19) 44 p2 w2).2) c1.1.2
  obtain ⟨v3, p3, w3, e1⟩ : ∃ v p' w', xN (z (17, 5, 0)) (z (16, 0, 0) 19) (xE (z (17, 5, 0)) (z (16, 0, 0) 19) 44 p2 w2).1 (xE (z (17, 5, 0)) (z (16, 0, 0) 19) 44 p2 w2).2 = (v, p', w') := ⟨_, _, _, rfl⟩
  rw [e1] at d1
  dsimp only at d1
  have b2 : (p2 ≤ p3 ∧ p3 ≤ (z (16, 0, 0) 19)) ∧ (w3 = 0 ∨ w3 = 1) := ⟨⟨by have := d1.1.1; have := c1.1.1; omega, d1.1.2⟩, d1.2.1⟩
  have c2 := xE_B (t := z (17, 5, 0)) (c := 43) (w := w3) b2.1.2
  have d2 := xN_B (t := z (17, 5, 0)) (w := (xE (z (17, 5, 0)) (z (16, 0, 0) 19) 43 p3 w3).2) c2.1.2
  obtain ⟨v4, p4, w4, e2⟩ : ∃ v p' w', xN (z (17, 5, 0)) (z (16, 0, 0) 19) (xE (z (17, 5, 0)) (z (16, 0, 0) 19) 43 p3 w3).1 (xE (z (17, 5, 0)) (z (16, 0, 0) 19) 43 p3 w3).2 = (v, p', w') := ⟨_, _, _, rfl⟩
  rw [e2] at d2
  dsimp only at d2
  have b3 : (p3 ≤ p4 ∧ p4 ≤ (z (16, 0, 0) 19)) ∧ (w4 = 0 ∨ w4 = 1) := ⟨⟨by have := d2.1.1; have := c2.1.1; omega, d2.1.2⟩, d2.2.1⟩
  have ef : xA (z (17, 5, 0)) (z (16, 0, 0) 19) [35, 44, 35, 43, 35] p w = ([v2, v3, v4], p4, w4) := by
    rw [xA_n e0, xA_b (by decide) (by decide) e1, xA_b (by decide) (by decide) e2]
    rfl
  rw [ef] at bk hB
  have s3 : B (none, 0, 0) (mem z (ud (ud (ud f to v2) (to + 1) v3) (to + 2) v4) p4 w4) 236 [some (.inr (.inr (.inl (16, 0, 0)))), some (.inl 6), some (.inl to)] [] := by
    refine hB [252] 1000 _ _ _ _ _ ?_
    repeat' (first | refine And.intro ?_ ?_ | fail)
    all_goals first | omega | (exact rfl) | skip
    refine bk _ ?_
    show mem z (ud (ud (ud f to v2) (to + 1) v3) (to + 2) v4) p4 w4 = mem z (udl f to [v2, v3, v4]) p4 w4
    simp only [udl, Int.add_assoc, Int.reduceAdd]
  have h2 := cM_numberBehind (l := l) (g := g) (d := d - 1) (f := (ud (ud f to v2) (to + 1) v3)) (c := 43) (by omega) hz (p := p3) (w := w3) (by omega) b2.1.2 b2.2 (by decide) (by decide)
  rw [e2] at h2
  have s2 : B (none, 0, 0) (mem z (ud (ud f to v2) (to + 1) v3) p3 w3) 222 [some (.inr (.inr (.inl (16, 0, 0)))), some (.inl 6), some (.inl to)] [] := by
    refine hB [236] 1000 _ _ _ _ _ ?_
    repeat' (first | refine And.intro ?_ ?_ | refine Or.inl (uE h2 ?_) | fail)
    all_goals first | omega | (exact rfl) | skip
    show B (none, 0, 0) (aWr (mem z (ud (ud f to v2) (to + 1) v3) p4 w4) (17, 9, 0) (to + 2) v4) 236 [some (.inr (.inr (.inl (16, 0, 0)))), some (.inl 6), some (.inl to)] []
    rw [mem_w9]
    exact s3
  have h1 := cM_numberBehind (l := l) (g := g) (d := d - 1) (f := (ud f to v2)) (c := 44) (by omega) hz (p := p2) (w := w2) (by omega) b1.1.2 b1.2 (by decide) (by decide)
  rw [e1] at h1
  have s1 : B (none, 0, 0) (mem z (ud f to v2) p2 w2) 208 [some (.inr (.inr (.inl (16, 0, 0)))), some (.inl 6), some (.inl to)] [] := by
    refine hB [222] 1000 _ _ _ _ _ ?_
    repeat' (first | refine And.intro ?_ ?_ | refine Or.inl (uE h1 ?_) | fail)
    all_goals first | omega | (exact rfl) | skip
    show B (none, 0, 0) (aWr (mem z (ud f to v2) p3 w3) (17, 9, 0) (to + 1) v3) 222 [some (.inr (.inr (.inl (16, 0, 0)))), some (.inl 6), some (.inl to)] []
    rw [mem_w9]
    exact s2
  have h0 := cM_number (l := l) (g := g) (d := d - 1) (f := f) (by omega) hz (p := p) (w := w) (by omega) b0.1.2 b0.2
  rw [e0] at h0
  have s0 : B (none, 0, 0) (mem z f p w) 198 [some (.inr (.inr (.inl (16, 0, 0)))), some (.inl 6), some (.inl to)] [] := by
    refine hB [208] 1000 _ _ _ _ _ ?_
    repeat' (first | refine And.intro ?_ ?_ | refine Or.inl (uE h0 ?_) | fail)
    all_goals first | omega | (exact rfl) | skip
    show B (none, 0, 0) (aWr (mem z f p2 w2) (17, 9, 0) to v2) 208 [some (.inr (.inr (.inl (16, 0, 0)))), some (.inl 6), some (.inl to)] []
    rw [mem_w9]
    exact s1
  refine hB [198] 1000 _ _ _ _ _ ?_
  repeat' (first | refine And.intro ?_ ?_ | (intro hh; first | exact absurd hh (by decide) | exact absurd rfl hh | (exfalso; omega) | skip) | fail)
  all_goals first | omega | (exact rfl) | exact s0

theorem cM_readArguments7 {to : Int} (hd : 4 ≤ d) (hz : tOk z) (p0 : 0 ≤ p) (p1 : p ≤ z (16, 0, 0) 19) (hw : w = 0 ∨ w = 1) (t0 : 0 ≤ to) (t1 : to ≤ 361) : aE0 l g nX7_readArguments d [.inr (.inr (.inl (16, 0, 0))), .inl 7, .inl to] (mem z f p w) (mem z (udl f to (xA (z (17, 5, 0)) (z (16, 0, 0) 19) [63] p w).1) (xA (z (17, 5, 0)) (z (16, 0, 0) 19) [63] p w).2.1 (xA (z (17, 5, 0)) (z (16, 0, 0) 19) [63] p w).2.2) := by
  have n0 := hz.1
  refine aM1_of kX7_readArguments rfl (fun B hB => ?_)
  have bk : ∀ z' , z' = (mem z (udl f to (xA (z (17, 5, 0)) (z (16, 0, 0) 19) [63] p w).1) (xA (z (17, 5, 0)) (z (16, 0, 0) 19) [63] p w).2.1 (xA (z (17, 5, 0)) (z (16, 0, 0) 19) [63] p w).2.2) → B (none, 0, 0) z' 252 [some (.inr (.inr (.inl (16, 0, 0)))), some (.inl 7), some (.inl to)] [] := by
    intro z' e
    refine hB [] 1000 _ _ _ _ _ ?_
    repeat' (first | refine And.intro ?_ ?_ | fail)
    all_goals first | omega | (exact rfl) | (exact e)
  have b0 : (p ≤ p ∧ p ≤ (z (16, 0, 0) 19)) ∧ (w = 0 ∨ w = 1) := ⟨⟨Int.le_refl p, p1⟩, hw⟩
  obtain ⟨P0, eP0⟩ : ∃ P0, P0 = p := ⟨_, rfl⟩
  have d0 := xD_B (t := z (17, 5, 0)) (w := w) b0.1.2
  obtain ⟨v2, p2, w2, e0⟩ : ∃ v p' w', xD (z (17, 5, 0)) (z (16, 0, 0) 19) p w = (v, p', w') := ⟨_, _, _, rfl⟩
  rw [e0] at d0
  dsimp only at d0
  have b1 : (p ≤ p2 ∧ p2 ≤ (z (16, 0, 0) 19)) ∧ (w2 = 0 ∨ w2 = 1) := ⟨⟨by have := d0.1.1; omega, d0.1.2⟩, d0.2.1⟩
  have ef : xA (z (17, 5, 0)) (z (16, 0, 0) 19) [63] p w = ([v2], p2, w2) := by
    rw [xA_d e0]
    rfl
  rw [ef] at bk hB
  have s1 : B (none, 0, 0) (mem z (ud f to v2) p2 w2) 249 [some (.inr (.inr (.inl (16, 0, 0)))), some (.inl 7), some (.inl to)] [] := by
    refine hB [252] 1000 _ _ _ _ _ ?_
    repeat' (first | refine And.intro ?_ ?_ | fail)
    all_goals first | omega | (exact rfl) | skip
    refine bk _ ?_
    show mem z (ud f to v2) p2 w2 = mem z (udl f to [v2]) p2 w2
    simp only [udl, Int.add_assoc, Int.reduceAdd]
  have h0 := cM_digit (l := l) (g := g) (d := d - 1) (f := f) (by omega) hz (p := p) (w := w) (by omega) b0.1.2 b0.2
  rw [e0] at h0
  have s0 : B (none, 0, 0) (mem z f p w) 239 [some (.inr (.inr (.inl (16, 0, 0)))), some (.inl 7), some (.inl to)] [] := by
    refine hB [249] 1000 _ _ _ _ _ ?_
    repeat' (first | refine And.intro ?_ ?_ | refine Or.inl (uE h0 ?_) | fail)
    all_goals first | omega | (exact rfl) | skip
    show B (none, 0, 0) (aWr (mem z f p2 w2) (17, 9, 0) to v2) 249 [some (.inr (.inr (.inl (16, 0, 0)))), some (.inl 7), some (.inl to)] []
    rw [mem_w9]
    exact s1
  refine hB [239] 1000 _ _ _ _ _ ?_
  repeat' (first | refine And.intro ?_ ?_ | (intro hh; first | exact absurd hh (by decide) | exact absurd rfl hh | (exfalso; omega) | skip) | fail)
  all_goals first | omega | (exact rfl) | exact s0

theorem cM_readArguments8 {to : Int} (hd : 4 ≤ d) (hz : tOk z) (p0 : 0 ≤ p) (p1 : p ≤ z (16, 0, 0) 19) (hw : w = 0 ∨ w = 1) (t0 : 0 ≤ to) (t1 : to ≤ 361) : aE0 l g nX7_readArguments d [.inr (.inr (.inl (16, 0, 0))), .inl 8, .inl to] (mem z f p w) (mem z (udl f to (xA (z (17, 5, 0)) (z (16, 0, 0) 19) [] p w).1) (xA (z (17, 5, 0)) (z (16, 0, 0) 19) [] p w).2.1 (xA (z (17, 5, 0)) (z (16, 0, 0) 19) [] p w).2.2) := by
  have n0 := hz.1
  refine aM1_of kX7_readArguments rfl (fun B hB => ?_)
  have bk : ∀ z' , z' = (mem z (udl f to (xA (z (17, 5, 0)) (z (16, 0, 0) 19) [] p w).1) (xA (z (17, 5, 0)) (z (16, 0, 0) 19) [] p w).2.1 (xA (z (17, 5, 0)) (z (16, 0, 0) 19) [] p w).2.2) → B (none, 0, 0) z' 252 [some (.inr (.inr (.inl (16, 0, 0)))), some (.inl 8), some (.inl to)] [] := by
    intro z' e
    refine hB [] 1000 _ _ _ _ _ ?_
    repeat' (first | refine And.intro ?_ ?_ | fail)
    all_goals first | omega | (exact rfl) | (exact e)
  refine hB [252] 1000 _ _ _ _ _ ?_
  repeat' (first | refine And.intro ?_ ?_ | (intro hh; first | exact absurd hh (by decide) | exact absurd rfl hh | (exfalso; omega) | skip) | fail)
  all_goals first | omega | (exact rfl) | exact bk _ rfl

end M14
