/-! THE CLASS: programs parsed (printed by wip/whole/cls9.py) -/
def plk (k : Int) : List Int := aPtc.getD k.toNat []
def wWd (k : Int) : List Int := (List.range (wL k).toNat).map (fun (i : Nat) => wCh k (i : Int))
theorem plk_ok : ∀ k : Nat, k < 9 → (plk (k : Int) = wWd (k : Int) ++ gks.getD k [] ∧ ((wWd (k : Int)).length : Int) = wL (k : Int)) ∧ ((∀ c ∈ wWd (k : Int), c ≠ 35 ∧ c ≠ 63) ∧ ∀ c ∈ plk (k : Int), 0 ≤ c ∧ c < 128) := by decide +kernel
theorem wWd_at : ∀ k : Nat, k < 9 → ∀ q : Nat, q < (wWd (k : Int)).length → (wWd (k : Int)).getD q 0 = wCh (k : Int) (q : Int) := by decide +kernel
theorem two_ok : ∀ j : Nat, j < 9 → ∀ k : Nat, k < 9 → wCh (j : Int) 0 = wCh (k : Int) 0 → wCh (j : Int) 1 = wCh (k : Int) 1 → j = k := by decide +kernel
theorem xA_lits {t ch : Int → Int} {n p : Int} {G : List Int} : ∀ (W : List Int) (i : Int), (∀ c ∈ W, c ≠ 35 ∧ c ≠ 63) → (∀ q : Nat, q < W.length → W.getD q 0 = ch (i + (q : Int))) → (lkF t n p ch W.length i < i + (W.length : Int) → (xA t n (W ++ G) (p + i) 0).2 = (p + lkF t n p ch W.length i, 1)) ∧ (lkF t n p ch W.length i = i + (W.length : Int) → xA t n (W ++ G) (p + i) 0 = xA t n G (p + lkF t n p ch W.length i) 0)
  | [], i, _, _ => ⟨fun h => by have h' : i < i + ((0 : Nat) : Int) := h; omega, fun _ => rfl⟩
  | c :: W, i, hW, hc => by
    have c0 := hW c List.mem_cons_self
    have e0 := hc 0 (Nat.succ_pos _)
    have e0' : c = ch i := by have : (c :: W).getD 0 0 = ch (i + ((0 : Nat) : Int)) := e0; rw [show i + ((0 : Nat) : Int) = i by omega] at this; exact this
    have ih := xA_lits (t := t) (ch := ch) (n := n) (p := p) (G := G) W (i + 1) (fun c' h' => hW c' (List.mem_cons_of_mem _ h')) (fun q hq => by
      have := hc (q + 1) (Nat.succ_lt_succ hq)
      rw [show i + ((q + 1 : Nat) : Int) = i + 1 + (q : Int) by omega] at this
      exact this)
    have ex : xA t n (c :: W ++ G) (p + i) 0 = xA t n (W ++ G) (xE t n c (p + i) 0).1 (xE t n c (p + i) 0).2 := xA_c c0.1 c0.2
    rw [ex]
    show ((if p + i < n ∧ t (p + i) = ch i then lkF t n p ch W.length (i + 1) else i) < i + ((W.length + 1 : Nat) : Int) → (xA t n (W ++ G) (xE t n c (p + i) 0).1 (xE t n c (p + i) 0).2).2 = (p + (if p + i < n ∧ t (p + i) = ch i then lkF t n p ch W.length (i + 1) else i), 1)) ∧ ((if p + i < n ∧ t (p + i) = ch i then lkF t n p ch W.length (i + 1) else i) = i + ((W.length + 1 : Nat) : Int) → xA t n (W ++ G) (xE t n c (p + i) 0).1 (xE t n c (p + i) 0).2 = xA t n G (p + (if p + i < n ∧ t (p + i) = ch i then lkF t n p ch W.length (i + 1) else i)) 0)
    by_cases q : p + i < n ∧ t (p + i) = ch i
    · have eE : xE t n c (p + i) 0 = (p + i + 1, 0) := if_pos ⟨rfl, q.1, by rw [e0']; exact q.2⟩
      rw [if_pos q, eE]
      dsimp only
      rw [show p + i + 1 = p + (i + 1) by omega, show i + ((W.length + 1 : Nat) : Int) = i + 1 + (W.length : Int) by omega]
      exact ih
    · have eE : xE t n c (p + i) 0 = (p + i, 1) := if_neg (fun w => q ⟨w.2.1, by rw [← e0']; exact w.2.2⟩)
      rw [if_neg q, eE]
      exact ⟨fun _ => xA_w _ _, fun w => by omega⟩
theorem xA_pl {t : Int → Int} {n p k : Int} (k0 : 0 ≤ k) (k1 : k < 9) : (lik t n p k < wL k → (xA t n (plk k) p 0).2 = (p + lik t n p k, 1)) ∧ (¬ lik t n p k < wL k → xA t n (plk k) p 0 = ags t n k (p + lik t n p k)) := by
  have ok := plk_ok k.toNat (by omega)
  have wa := wWd_at k.toNat (by omega)
  rw [Int.toNat_of_nonneg k0] at ok wa
  have lb := lik_B (t := t) (n := n) (p := p) k0 k1
  have xl := xA_lits (t := t) (ch := wCh k) (n := n) (p := p) (G := gks.getD k.toNat []) (wWd k) 0 ok.2.1 (fun q hq => by rw [Int.zero_add]; exact wa q hq)
  have el : (wWd k).length = (wL k).toNat := by have := ok.1.2; omega
  rw [el, Int.add_zero] at xl
  have e2 : ((wL k).toNat : Int) = wL k := by have := wL_B k0 k1; omega
  rw [e2, Int.zero_add] at xl
  have xl' : (lik t n p k < wL k → (xA t n (wWd k ++ gks.getD k.toNat []) p 0).2 = (p + lik t n p k, 1)) ∧ (lik t n p k = wL k → xA t n (wWd k ++ gks.getD k.toNat []) p 0 = xA t n (gks.getD k.toNat []) (p + lik t n p k) 0) := xl
  rw [ok.1.1]
  exact ⟨xl'.1, fun h => xl'.2 (by omega)⟩
theorem lik_2 {t : Int → Int} {n p k : Int} (k0 : 0 ≤ k) (k1 : k < 9) (h : 2 ≤ lik t n p k) : t p = wCh k 0 ∧ t (p + 1) = wCh k 1 := by
  have w := wL_B k0 k1
  unfold lik at h
  obtain ⟨m, hm⟩ : ∃ m, (wL k).toNat = m + 2 := ⟨(wL k).toNat - 2, by omega⟩
  rw [hm] at h
  by_cases q0 : p + 0 < n ∧ t (p + 0) = wCh k 0
  · have e1 : lkF t n p (wCh k) (m + 2) 0 = lkF t n p (wCh k) (m + 1) (0 + 1) := if_pos q0
    rw [e1] at h
    by_cases q1 : p + (0 + 1) < n ∧ t (p + (0 + 1)) = wCh k (0 + 1)
    · exact ⟨by have := q0.2; rw [Int.add_zero] at this; exact this, by have := q1.2; rw [Int.zero_add] at this; exact this⟩
    · have e2 : lkF t n p (wCh k) (m + 1) (0 + 1) = 0 + 1 := if_neg q1
      omega
  · have e1 : lkF t n p (wCh k) (m + 2) 0 = 0 := if_neg q0
    omega
theorem lik_u {t : Int → Int} {n p j k : Int} (j0 : 0 ≤ j) (j1 : j < 9) (k0 : 0 ≤ k) (k1 : k < 9) (hk : 2 ≤ lik t n p k) (hj : 2 ≤ lik t n p j) : j = k := by
  have a := lik_2 k0 k1 hk
  have b := lik_2 j0 j1 hj
  have := two_ok j.toNat (by omega) k.toNat (by omega)
  rw [Int.toNat_of_nonneg j0, Int.toNat_of_nonneg k0] at this
  have := this (by rw [← a.1, ← b.1]) (by rw [← a.2, ← b.2])
  omega
theorem bwF_mx {t : Int → Int} {n p : Int} : ∀ (f : Nat) (k b : Int), lik t n p b ≤ lik t n p (bwF t n p f k b) ∧ ∀ j, k ≤ j → j < k + (f : Int) → lik t n p j ≤ lik t n p (bwF t n p f k b)
  | 0, k, b => ⟨Int.le_refl _, fun j j0 j1 => by omega⟩
  | f + 1, k, b => by
    have ih := bwF_mx (t := t) (n := n) (p := p) f (k + 1) (if lik t n p b < lik t n p k then k else b)
    show lik t n p b ≤ lik t n p (bwF t n p f (k + 1) (if lik t n p b < lik t n p k then k else b)) ∧ ∀ j, k ≤ j → j < k + ((f + 1 : Nat) : Int) → lik t n p j ≤ lik t n p (bwF t n p f (k + 1) (if lik t n p b < lik t n p k then k else b))
    have hk : lik t n p b ≤ lik t n p (if lik t n p b < lik t n p k then k else b) ∧ lik t n p k ≤ lik t n p (if lik t n p b < lik t n p k then k else b) := by
      split <;> omega
    refine ⟨by omega, fun j j0 j1 => ?_⟩
    by_cases e : j = k
    · rw [e]; omega
    · exact ih.2 j (by omega) (by omega)
theorem bw_mx {t : Int → Int} {n p j : Int} (j0 : 0 ≤ j) (j1 : j < 9) : lik t n p j ≤ lik t n p (bw t n p) := by
  have h := bwF_mx (t := t) (n := n) (p := p) 8 1 0
  by_cases e : j = 0
  · rw [e]; exact h.1
  · exact h.2 j (by omega) (by omega)
def okx (x : Option aV) : Prop := x = none ∨ ∃ v : Int, x = some (.inl v)
theorem drop_c {l g : List Int} {c : Int} {n : Nat} (h : l.drop n = c :: g) : n < l.length ∧ l.getD n 0 = c ∧ l.drop (n + 1) = g ∧ c ∈ l := by
  have hn : n < l.length := by
    refine Classical.byContradiction (fun w => ?_)
    rw [List.drop_eq_nil_of_le (by omega)] at h
    cases h
  have h2 := List.drop_eq_getElem_cons hn
  rw [h] at h2
  injection h2 with h3 h4
  refine ⟨hn, ?_, h4.symm, ?_⟩
  · rw [List.getD_eq_getElem?_getD, List.getElem?_eq_getElem hn, h3]; rfl
  · rw [h3]; exact List.getElem_mem hn
section K9
variable {l : Launch} {g : aG} {d : Nat} {z : aM} {fk fa : Int → Int} {p k : Int}
theorem cK_patternOf (k0 : 0 ≤ k) (k1 : k < 9) : aEp l g nX3_patternOf d [.inl k] z (30, k, 0) z := by
  have hk : k = 0 ∨ k = 1 ∨ k = 2 ∨ k = 3 ∨ k = 4 ∨ k = 5 ∨ k = 6 ∨ k = 7 ∨ k = 8 := by omega
  rcases hk with rfl | rfl | rfl | rfl | rfl | rfl | rfl | rfl | rfl
  all_goals (
    refine aM1_of kX3_patternOf rfl (fun B hB => ?_)
    refine hB [] 1000 _ _ _ _ _ ?_
    repeat' (first | refine And.intro ?_ ?_ | (intro hh; first | exact absurd hh (by decide) | exact absurd rfl hh | (exfalso; omega) | skip) | fail)
    all_goals first | omega | (exact rfl))
def mQ (z : aM) (fk fa : Int → Int) (arg : Int) (R : List Int × Int × Int) : Option aV → aM → Prop := fun r z' => (R.2.2 = 0 → r = some (.inl 1) ∧ z' = pmem z fk (udl fa arg R.1) R.2.1) ∧ (R.2.2 = 1 → r = some (.inl 0) ∧ ∃ fa', z' = pmem z fk fa' R.2.1 ∧ ∀ j, j < arg → fa' j = fa j)
set_option maxHeartbeats 8000000 in
theorem cK_matches {pos r0 m : Int} (hd : 6 ≤ d) (hz : pOk z) (k0 : 0 ≤ k) (k1 : k < 9) (p0 : 0 ≤ pos) (p1 : pos ≤ z (12, 0, 0) 1) (hm : z (12, 0, 0) 2 = m) (m0 : 0 ≤ m) (m1 : m ≤ 15) : aM1 l g nX3_matches d [.inr (.inr (.inl (12, 0, 0))), .inr (.inr (.inl (30, k, 0))), .inl pos] (pmem z fk fa r0) (mQ z fk fa (5 * m) (xA (z (13, 0, 0)) (z (12, 0, 0) 1) (plk k) pos 0)) := by
  have n0 := hz.1
  obtain ⟨t, et⟩ : ∃ t, t = (z (13, 0, 0)) := ⟨_, rfl⟩
  obtain ⟨n, en⟩ : ∃ n, n = (z (12, 0, 0) 1) := ⟨_, rfl⟩
  rw [← et, ← en]
  obtain ⟨R, eR⟩ : ∃ R, R = xA t n (plk k) pos 0 := ⟨_, rfl⟩
  rw [← eR]
  have pc : ∀ c ∈ plk k, 0 ≤ c ∧ c < 128 := by
    have ok := plk_ok k.toNat (by omega)
    rw [Int.toNat_of_nonneg k0] at ok
    exact ok.2.2
  obtain ⟨pl, epl⟩ : ∃ pl, pl = plk k := ⟨_, rfl⟩
  rw [← epl] at eR pc
  have epl2 : aPtc.getD k.toNat [] = pl := by rw [epl]; rfl
  have RL : (R.1.length : Int) ≤ 5 := by
    have ok := plk_ok k.toNat (by omega)
    rw [Int.toNat_of_nonneg k0] at ok
    have key : ∀ (g : List Int) (p w : Int), (xA t n g p w).1.length = (g.filter (fun c => c = 35 ∨ c = 63)).length := by
      intro g
      induction g with
      | nil => intro p w; rfl
      | cons c g ih =>
        intro p w
        unfold xA
        by_cases h1 : c = 35
        · rw [if_pos h1, List.filter_cons_of_pos (by simp [h1])]
          show (xA t n g _ _).1.length + 1 = _
          rw [ih]; rfl
        · rw [if_neg h1]
          by_cases h2 : c = 63
          · rw [if_pos h2, List.filter_cons_of_pos (by simp [h2])]
            show (xA t n g _ _).1.length + 1 = _
            rw [ih]; rfl
          · rw [if_neg h2, List.filter_cons_of_neg (by simp [h1, h2]), ih]
    have k2 : ∀ k : Nat, k < 9 → (((plk (k : Int)).filter (fun c => c = 35 ∨ c = 63)).length : Int) ≤ 5 := by decide +kernel
    have := k2 k.toNat (by omega)
    rw [Int.toNat_of_nonneg k0] at this
    rw [eR, key, epl]
    exact this
  refine aM1_of kX3_matches rfl (fun B hB => ?_)
  have loop : ∀ (G : List Int) (i arg q : Int) (f : Int → Int) (x5 x6 : Option aV), okx x5 → okx x6 → pl.drop i.toNat = G → (0 ≤ i ∧ i ≤ (pl.length : Int)) → 0 ≤ q → q ≤ n → 5 * m ≤ arg → arg + ((xA t n G q 0).1.length : Int) ≤ 80 → (xA t n G q 0).2 = R.2 → udl f arg (xA t n G q 0).1 = udl fa (5 * m) R.1 → (∀ j, j < 5 * m → f j = fa j) → B (none, 0, 0) (pmem z fk f q) 15 [some (.inr (.inr (.inl (12, 0, 0)))), some (.inr (.inr (.inl (30, k, 0)))), some (.inl pos), some (.inl arg), some (.inl i), x5, x6] [] := by
    intro G
    induction G with
    | nil =>
      intro i arg q f x5 x6 hx5 hx6 hG i0 q0 q1 a0 a1 e1 e2 hf
      have hl : (pl.length : Int) ≤ i := by
        have := List.drop_eq_nil_iff.mp hG
        omega
      have hb : pl.length < 2147483647 := by
        have : pl.length ≤ 100 := by
          have ok : ∀ k : Nat, k < 9 → (plk (k : Int)).length ≤ 100 := by decide +kernel
          have := ok k.toNat (by omega)
          rw [Int.toNat_of_nonneg k0, ← epl] at this
          exact this
        omega
      have e1' : (q, (0 : Int)) = R.2 := e1
      have e2' : f = udl fa (5 * m) R.1 := e2
      have fin : mQ z fk fa (5 * m) R (some (.inl 1)) (pmem z fk f q) := ⟨fun _ => ⟨rfl, by rw [← e1', ← e2']⟩, fun w => absurd w (by rw [← e1']; show ¬ ((0 : Int) = 1); decide)⟩
      have hl2 : ((aPtc.getD k.toNat []).length : Int) = (pl.length : Int) := by rw [epl2]
      have hl2' : ((aPtc.getD (((30 : Nat), k, (0 : Int)) : aP).2.1.toNat []).length : Int) = (pl.length : Int) := hl2
      rcases hx5 with rfl | ⟨v5, rfl⟩ <;> rcases hx6 with rfl | ⟨v6, rfl⟩
      all_goals (
        refine hB [15, 24] 1000 _ _ _ _ _ ?_
        repeat' (first | exact ⟨rfl, fin⟩ | refine And.intro ?_ ?_ | (intro hh; first | exact absurd hh (by decide) | exact absurd rfl hh | (exfalso; omega) | skip) | fail)
        all_goals first | omega | (exact rfl) | (exact Or.inl rfl) | (exact Or.inr rfl))
    | cons c G ih =>
      intro i arg q f x5 x6 hx5 hx6 hG i0 q0 q1 a0 a1 e1 e2 hf
      have dc := drop_c hG
      have cb := pc c dc.2.2.2
      have hl2 : ((aPtc.getD k.toNat []).length : Int) = (pl.length : Int) := by rw [epl2]
      have hl2' : ((aPtc.getD (((30 : Nat), k, (0 : Int)) : aP).2.1.toNat []).length : Int) = (pl.length : Int) := hl2
      have hl3 : pl.length ≤ 100 := by
        have ok : ∀ k : Nat, k < 9 → (plk (k : Int)).length ≤ 100 := by decide +kernel
        have := ok k.toNat (by omega)
        rw [Int.toNat_of_nonneg k0, ← epl] at this
        exact this
      have hch : ((aPtc.getD k.toNat []).getD i.toNat 0) = c := by rw [epl2]; exact dc.2.1
      have hch' : ((aPtc.getD (((30 : Nat), k, (0 : Int)) : aP).2.1.toNat []).getD i.toNat 0) = c := hch
      have hi1 : (i + 1).toNat = i.toNat + 1 := by omega
      have k5 := pm_5 z fk f q
      have k1 := pm_o z fk f q (show (1 : Int) ≠ 5 by decide)
      have hil : i < (pl.length : Int) := by have := dc.1; omega
      by_cases h35 : c = 35
      · have sk := cK_skipDigits (l := l) (g := g) (d := d - 1) (z := z) (fk := fk) (fa := f) (p := q) (m := 3) (by omega) hz q0 (by rw [← en]; exact q1) (by decide)
        rw [← et, ← en] at sk
        by_cases hd0 : dgN t n 3 q = q
        · have eN : xN t n q 0 = (0, q, 1) := by rw [xN_d q1, if_pos hd0]
          have e1' : (q, (1 : Int)) = R.2 := by
            rw [← e1, h35, xA_n eN]
            exact (xA_w G q).symm
          have fin : mQ z fk fa (5 * m) R (some (.inl 0)) (pmem z fk f q) := ⟨fun w => absurd w (by rw [← e1']; show ¬ ((1 : Int) = 0); decide), fun _ => ⟨rfl, f, by rw [← e1'], hf⟩⟩
          rw [hd0] at sk
          rcases hx5 with rfl | ⟨v5, rfl⟩ <;> rcases hx6 with rfl | ⟨v6, rfl⟩
          all_goals (
            refine hB [] 1000 _ _ _ _ _ ?_
            repeat' (first | exact ⟨rfl, fin⟩ | refine And.intro ?_ ?_ | (intro hh; first | exact absurd hh (by decide) | exact absurd rfl hh | (exfalso; omega) | skip) | refine Or.inl (uE0 sk ?_) | fail)
            all_goals first | omega | (exact rfl) | (exact Or.inl rfl) | (exact Or.inr rfl))
        · have eN : xN t n q 0 = (vdF t (dgN t n 3 q - q).toNat q 0, dgN t n 3 q, 0) := by rw [xN_d q1, if_neg hd0]
          have db := dgN_B (t := t) (n := n) 3 q q1
          have vd := cK_valueOfDigits (l := l) (g := g) (d := d - 1) (z := z) (fk := fk) (fa := f) (p := q) (q := dgN t n 3 q) (r := dgN t n 3 q) hz q0 db.1 (by rw [← en]; exact db.2.2)
          rw [← et] at vd
          obtain ⟨q', eq'⟩ : ∃ q', q' = dgN t n 3 q := ⟨_, rfl⟩
          rw [← eq'] at sk vd eN hd0 db
          obtain ⟨v, ev⟩ : ∃ v, v = vdF t (q' - q).toNat q 0 := ⟨_, rfl⟩
          rw [← ev] at vd eN
          rw [h35, xA_n eN] at e1 e2 a1
          have a1' : arg + (((xA t n G q' 0).1.length + 1 : Nat) : Int) ≤ 80 := a1
          have nx : ∀ y5 y6, okx y5 → okx y6 → B (none, 0, 0) (pmem z fk (ud f arg v) q') 15 [some (.inr (.inr (.inl (12, 0, 0)))), some (.inr (.inr (.inl (30, k, 0)))), some (.inl pos), some (.inl (arg + 1)), some (.inl (i + 1)), y5, y6] [] := fun y5 y6 h5 h6 => ih (i + 1) (arg + 1) q' (ud f arg v) y5 y6 h5 h6 (by rw [hi1]; exact dc.2.2.1) (by omega) (by omega) (by omega) (by omega) (by omega) e1 e2 (fun j hj => by rw [ud_ne (by omega)]; exact hf j hj)
          rw [← pm_w15] at nx
          have g5 := pm_5 z fk f q'
          have vd1 : aE1 l g nX3_valueOfDigits (d - 1) [.inr (.inr (.inl (12, 0, 0))), .inl (pmem z fk f q (12, 0, 0) 5), .inl (pmem z fk f q' (12, 0, 0) 5)] (pmem z fk f q') v (pmem z fk f q') := by rw [k5, g5]; exact vd
          rcases hx5 with rfl | ⟨v5, rfl⟩ <;> rcases hx6 with rfl | ⟨v6, rfl⟩
          all_goals (
            refine hB [15] 1000 _ _ _ _ _ ?_
            repeat' (first | exact nx _ _ (Or.inr ⟨_, rfl⟩) (Or.inr ⟨_, rfl⟩) | refine And.intro ?_ ?_ | (intro hh; first | exact absurd hh (by decide) | exact absurd rfl hh | (exfalso; omega) | skip) | refine Or.inl (uE0 sk ?_) | refine Or.inl (uE vd1 ?_) | fail)
            all_goals first | omega | (exact rfl) | (exact Or.inl rfl) | (exact Or.inr rfl))
      · by_cases h35' : c = 63
        · have sk := cK_skipDigits (l := l) (g := g) (d := d - 1) (z := z) (fk := fk) (fa := f) (p := q) (m := 1) (by omega) hz q0 (by rw [← en]; exact q1) (by decide)
          rw [← et, ← en] at sk
          by_cases hd0 : dgN t n 1 q = q
          · have eN : xD t n q 0 = (0, q, 1) := by rw [xD_d q1, if_pos hd0]
            have e1' : (q, (1 : Int)) = R.2 := by
              rw [← e1, h35', xA_d eN]
              exact (xA_w G q).symm
            have fin : mQ z fk fa (5 * m) R (some (.inl 0)) (pmem z fk f q) := ⟨fun w => absurd w (by rw [← e1']; show ¬ ((1 : Int) = 0); decide), fun _ => ⟨rfl, f, by rw [← e1'], hf⟩⟩
            rw [hd0] at sk
            rcases hx5 with rfl | ⟨v5, rfl⟩ <;> rcases hx6 with rfl | ⟨v6, rfl⟩
            all_goals (
              refine hB [] 1000 _ _ _ _ _ ?_
              repeat' (first | exact ⟨rfl, fin⟩ | refine And.intro ?_ ?_ | (intro hh; first | exact absurd hh (by decide) | exact absurd rfl hh | (exfalso; omega) | skip) | refine Or.inl (uE0 sk ?_) | fail)
              all_goals first | omega | (exact rfl) | (exact Or.inl rfl) | (exact Or.inr rfl))
          · have eN : xD t n q 0 = (vdF t (dgN t n 1 q - q).toNat q 0, dgN t n 1 q, 0) := by rw [xD_d q1, if_neg hd0]
            have db := dgN_B (t := t) (n := n) 1 q q1
            have vd := cK_valueOfDigits (l := l) (g := g) (d := d - 1) (z := z) (fk := fk) (fa := f) (p := q) (q := dgN t n 1 q) (r := dgN t n 1 q) hz q0 db.1 (by rw [← en]; exact db.2.2)
            rw [← et] at vd
            obtain ⟨q', eq'⟩ : ∃ q', q' = dgN t n 1 q := ⟨_, rfl⟩
            rw [← eq'] at sk vd eN hd0 db
            obtain ⟨v, ev⟩ : ∃ v, v = vdF t (q' - q).toNat q 0 := ⟨_, rfl⟩
            rw [← ev] at vd eN
            rw [h35', xA_d eN] at e1 e2 a1
            have a1' : arg + (((xA t n G q' 0).1.length + 1 : Nat) : Int) ≤ 80 := a1
            have nx : ∀ y5 y6, okx y5 → okx y6 → B (none, 0, 0) (pmem z fk (ud f arg v) q') 15 [some (.inr (.inr (.inl (12, 0, 0)))), some (.inr (.inr (.inl (30, k, 0)))), some (.inl pos), some (.inl (arg + 1)), some (.inl (i + 1)), y5, y6] [] := fun y5 y6 h5 h6 => ih (i + 1) (arg + 1) q' (ud f arg v) y5 y6 h5 h6 (by rw [hi1]; exact dc.2.2.1) (by omega) (by omega) (by omega) (by omega) (by omega) e1 e2 (fun j hj => by rw [ud_ne (by omega)]; exact hf j hj)
            rw [← pm_w15] at nx
            have g5 := pm_5 z fk f q'
            have vd1 : aE1 l g nX3_valueOfDigits (d - 1) [.inr (.inr (.inl (12, 0, 0))), .inl (pmem z fk f q (12, 0, 0) 5), .inl (pmem z fk f q' (12, 0, 0) 5)] (pmem z fk f q') v (pmem z fk f q') := by rw [k5, g5]; exact vd
            rcases hx5 with rfl | ⟨v5, rfl⟩ <;> rcases hx6 with rfl | ⟨v6, rfl⟩
            all_goals (
              refine hB [15] 1000 _ _ _ _ _ ?_
              repeat' (first | exact nx _ _ (Or.inr ⟨_, rfl⟩) (Or.inr ⟨_, rfl⟩) | refine And.intro ?_ ?_ | (intro hh; first | exact absurd hh (by decide) | exact absurd rfl hh | (exfalso; omega) | skip) | refine Or.inl (uE0 sk ?_) | refine Or.inl (uE vd1 ?_) | fail)
              all_goals first | omega | (exact rfl) | (exact Or.inl rfl) | (exact Or.inr rfl))
        · have hX : xA t n (c :: G) q 0 = xA t n G (xE t n c q 0).1 (xE t n c q 0).2 := xA_c h35 h35'
          rw [hX] at e1 e2 a1
          by_cases hE : q < n ∧ t q = c
          · have eE : xE t n c q 0 = (q + 1, 0) := if_pos ⟨rfl, hE⟩
            rw [eE] at e1 e2 a1
            have tb := hz.2 q q0 (by rw [← en]; exact hE.1)
            have kt : pmem z fk f q (13, 0, 0) (pmem z fk f q (12, 0, 0) 5) = c := by rw [k5, pm_q z fk f q (by decide) (by decide) (by decide), ← et]; exact hE.2
            have nx : ∀ y5 y6, okx y5 → okx y6 → B (none, 0, 0) (pmem z fk f (q + 1)) 15 [some (.inr (.inr (.inl (12, 0, 0)))), some (.inr (.inr (.inl (30, k, 0)))), some (.inl pos), some (.inl arg), some (.inl (i + 1)), y5, y6] [] := fun y5 y6 h5 h6 => ih (i + 1) arg (q + 1) f y5 y6 h5 h6 (by rw [hi1]; exact dc.2.2.1) (by omega) (by omega) (by omega) a0 a1 e1 e2 hf
            have e5 : aWr (pmem z fk f q) (12, 0, 0) 5 (pmem z fk f q (12, 0, 0) 5 + 1) = pmem z fk f (q + 1) := by rw [k5, pm_w5]
            rw [← e5] at nx
            rcases hx5 with rfl | ⟨v5, rfl⟩ <;> rcases hx6 with rfl | ⟨v6, rfl⟩
            all_goals (
              refine hB [15] 1000 _ _ _ _ _ ?_
              repeat' (first | exact nx _ _ (Or.inr ⟨_, rfl⟩) (Or.inl rfl) | exact nx _ _ (Or.inr ⟨_, rfl⟩) (Or.inr ⟨_, rfl⟩) | refine And.intro ?_ ?_ | (intro hh; first | exact absurd hh (by decide) | exact absurd rfl hh | (exfalso; omega) | skip) | fail)
              all_goals first | omega | (exact rfl) | (exact Or.inl rfl) | (exact Or.inr rfl))
          · have eE : xE t n c q 0 = (q, 1) := if_neg (fun w => hE w.2)
            rw [eE] at e1
            have e1' : (q, (1 : Int)) = R.2 := by rw [← e1]; exact (xA_w G q).symm
            have fin : mQ z fk fa (5 * m) R (some (.inl 0)) (pmem z fk f q) := ⟨fun w => absurd w (by rw [← e1']; show ¬ ((1 : Int) = 0); decide), fun _ => ⟨rfl, f, by rw [← e1'], hf⟩⟩
            by_cases hn : q < n
            · have tb := hz.2 q q0 (by rw [← en]; exact hn)
              have kt : pmem z fk f q (13, 0, 0) (pmem z fk f q (12, 0, 0) 5) = z (13, 0, 0) q := by rw [k5, pm_q z fk f q (by decide) (by decide) (by decide)]
              have hne : z (13, 0, 0) q ≠ c := fun w => hE ⟨hn, by rw [et]; exact w⟩
              rcases hx5 with rfl | ⟨v5, rfl⟩ <;> rcases hx6 with rfl | ⟨v6, rfl⟩
              all_goals (
                refine hB [] 1000 _ _ _ _ _ ?_
                repeat' (first | exact ⟨rfl, fin⟩ | refine And.intro ?_ ?_ | (intro hh; first | exact absurd hh (by decide) | exact absurd rfl hh | (exfalso; omega) | skip) | fail)
                all_goals first | omega | (exact rfl) | (exact Or.inl rfl) | (exact Or.inr rfl))
            · rcases hx5 with rfl | ⟨v5, rfl⟩ <;> rcases hx6 with rfl | ⟨v6, rfl⟩
              all_goals (
                refine hB [] 1000 _ _ _ _ _ ?_
                repeat' (first | exact ⟨rfl, fin⟩ | refine And.intro ?_ ?_ | (intro hh; first | exact absurd hh (by decide) | exact absurd rfl hh | (exfalso; omega) | skip) | fail)
                all_goals first | omega | (exact rfl) | (exact Or.inl rfl) | (exact Or.inr rfl))
  have st := loop pl 0 (5 * m) pos fa none none (Or.inl rfl) (Or.inl rfl) (by rfl) ⟨by omega, by omega⟩ p0 (by rw [en]; exact p1) (Int.le_refl _) (by rw [← eR]; omega) (by rw [← eR]) (by rw [← eR]) (fun j _ => rfl)
  have e5 : aWr (pmem z fk fa r0) (12, 0, 0) 5 pos = pmem z fk fa pos := pm_w5 _ _ _ _ _
  have k2 := pm_o z fk fa pos (show (2 : Int) ≠ 5 by decide)
  refine hB [15] 1000 _ _ _ _ _ ?_
  repeat' (first | refine And.intro ?_ ?_ | fail)
  all_goals first | omega | (exact rfl) | skip
  show B (none, 0, 0) (aWr (pmem z fk fa r0) (12, 0, 0) 5 pos) 15 [some (.inr (.inr (.inl (12, 0, 0)))), some (.inr (.inr (.inl (30, k, 0)))), some (.inl pos), some (.inl (aWr (pmem z fk fa r0) (12, 0, 0) 5 pos (12, 0, 0) 2 * 5)), some (.inl 0), none, none] []
  rw [e5, k2, hm, Int.mul_comm m 5]
  exact st
end K9
