/-! THE MODEL'S METHODS: the output line (printed by wip/whole/model13.py) -/
abbrev aLine : Type := Int × (Int → Int)
def lp (L : aLine) (c : Int) : aLine := (L.1 + 1, ud L.2 L.1 c)
def wrN (v : Int) (L : aLine) : aLine := if v < 10 then lp L (48 + v) else if v < 100 then lp (lp L (48 + v / 10)) (48 + v % 10) else lp (lp (lp L (48 + v / 100)) (48 + v / 10 % 10)) (48 + v % 10)
theorem lp_n (L : aLine) (c : Int) : (lp L c).1 = L.1 + 1 := rfl
theorem wrN_n {v : Int} (L : aLine) : L.1 + 1 ≤ (wrN v L).1 ∧ (wrN v L).1 ≤ L.1 + 3 := by
  unfold wrN
  split
  · rw [lp_n]; omega
  · split
    · rw [lp_n, lp_n]; omega
    · rw [lp_n, lp_n, lp_n]; omega
theorem wrN_1 {v : Int} (L : aLine) (h : v < 10) : (wrN v L).1 = L.1 + 1 := by
  unfold wrN
  rw [if_pos h, lp_n]
theorem wrN_2 {v : Int} (L : aLine) (h : v < 100) : (wrN v L).1 ≤ L.1 + 2 := by
  unfold wrN
  split
  · rw [lp_n]; omega
  · (try rw [if_pos h])
    rw [lp_n, lp_n]; omega
/-- the line's signs are chars -/
def lnOk (L : aLine) : Prop := 0 ≤ L.1 ∧ ∀ k, 0 ≤ k → k < L.1 → 0 ≤ L.2 k ∧ L.2 k < 65536
theorem lnOk.lp {L : aLine} (h : lnOk L) {c : Int} (c0 : 0 ≤ c) (c1 : c < 65536) : lnOk (lp L c) := by
  refine ⟨by rw [lp_n]; have := h.1; omega, fun k k0 k1 => ?_⟩
  rw [lp_n] at k1
  show 0 ≤ ud L.2 L.1 c k ∧ ud L.2 L.1 c k < 65536
  by_cases e : k = L.1
  · rw [e, ud_at]; exact ⟨c0, c1⟩
  · rw [ud_ne e]; exact h.2 k k0 (by omega)
theorem lnOk.wr {L : aLine} (h : lnOk L) {v : Int} (v0 : 0 ≤ v) (v1 : v ≤ 999) : lnOk (wrN v L) := by
  unfold wrN
  split
  · exact h.lp (by omega) (by omega)
  · split
    · exact (h.lp (by omega) (by omega)).lp (by omega) (by omega)
    · exact ((h.lp (by omega) (by omega)).lp (by omega) (by omega)).lp (by omega) (by omega)
def ln0 : aLine := (0, fun _ => 0)
theorem ln0_ok : lnOk ln0 := ⟨Int.le_refl 0, fun k k0 k1 => by have k2 : k < 0 := k1; omega⟩
def lnP (a : Int → Int) (r : Int) : Nat → Int → aLine → aLine
  | 0, _, L => L
  | n + 1, k, L => lnP a r n (k + 1) (wrN (a (59 + 13 * r + 7 + k)) (if 0 < k then lp L 43 else L))
def lnE (a : Int → Int) (r : Int) (L : aLine) : aLine := let L3 := wrN (sSum a r) (lp L 61); if a 7 = r then lp L3 42 else if a (59 + 13 * r) = 1 then lp L3 33 else L3
def lnRun (a : Int → Int) (r : Int) : aLine := lnE a r (lnP a r (a 0).toNat 0 (lp (wrN r ln0) 58))
def lnK (a : Int → Int) : Nat → Int → aLine → aLine
  | 0, _, L => L
  | n + 1, k, L => lnK a n (k + 1) (wrN (sSum a (sRanked a k)) (lp (wrN (sRanked a k) (if 0 < k then lp L 32 else L)) 61))
def lnRank (a : Int → Int) : aLine := lnK a (a 2).toNat 0 ln0
def qWrite (r : Int) (A : aAb) : aRes := if isN (wM A) r then (0, (lnRun (wM A) r).1, (A.1, A.2.1, A.2.2.1, A.2.2.2.1, A.2.2.2.2.1, lnRun (wM A) r)) else (1, -1, A)
def qWriteR (A : aAb) : aRes := (0, (lnRank (wM A)).1, (A.1, A.2.1, A.2.2.1, A.2.2.2.1, A.2.2.2.2.1, lnRank (wM A)))
theorem lnP_ok {a : Int → Int} {r : Int} (h : Inv0 a) (hn : isN a r) : ∀ (n : Nat) (k : Int) (L : aLine), 0 ≤ k → k + (n : Int) = a 0 → lnOk L → lnOk (lnP a r n k L) ∧ (L.1 ≤ (lnP a r n k L).1 ∧ (lnP a r n k L).1 ≤ L.1 + 4 * (n : Int))
  | 0, k, L, _, _, hL => ⟨hL, Int.le_refl _, by show L.1 ≤ L.1 + 4 * ((0 : Nat) : Int); omega⟩
  | n + 1, k, L, k0, k1, hL => by
    have p := h.pts hn.1 hn.2 k0 (by omega)
    have hM : lnOk (if 0 < k then lp L 43 else L) ∧ (L.1 ≤ (if 0 < k then lp L 43 else L).1 ∧ (if 0 < k then lp L 43 else L).1 ≤ L.1 + 1) := by
      split
      · exact ⟨hL.lp (by omega) (by omega), by rw [lp_n]; omega⟩
      · exact ⟨hL, by omega⟩
    obtain ⟨M, eM⟩ : ∃ M, M = (if 0 < k then lp L 43 else L) := ⟨_, rfl⟩
    rw [← eM] at hM
    have w := wrN_n (v := a (59 + 13 * r + 7 + k)) M
    have := lnP_ok h hn n (k + 1) _ (by omega) (by omega) (hM.1.wr p.1 (by omega))
    show lnOk (lnP a r n (k + 1) (wrN (a (59 + 13 * r + 7 + k)) (if 0 < k then lp L 43 else L))) ∧ (L.1 ≤ (lnP a r n (k + 1) (wrN (a (59 + 13 * r + 7 + k)) (if 0 < k then lp L 43 else L))).1 ∧ (lnP a r n (k + 1) (wrN (a (59 + 13 * r + 7 + k)) (if 0 < k then lp L 43 else L))).1 ≤ L.1 + 4 * ((n + 1 : Nat) : Int))
    rw [← eM]
    refine ⟨this.1, ?_⟩
    omega
theorem lnE_ok {a : Int → Int} {r : Int} (h : Inv0 a) (hn : isN a r) {L : aLine} (hL : lnOk L) : lnOk (lnE a r L) ∧ (lnE a r L).1 ≤ L.1 + 5 := by
  have sb := sSum_B h hn.1 hn.2
  have h3 := (hL.lp (c := 61) (by omega) (by omega)).wr (v := sSum a r) sb.1 (by omega)
  have w := wrN_n (v := sSum a r) (lp L 61)
  rw [lp_n] at w
  unfold lnE
  dsimp only
  split
  · exact ⟨h3.lp (by omega) (by omega), by rw [lp_n]; omega⟩
  · split
    · exact ⟨h3.lp (by omega) (by omega), by rw [lp_n]; omega⟩
    · exact ⟨h3, by omega⟩
theorem lnRun_ok {a : Int → Int} {r : Int} (h : Inv0 a) (hn : isN a r) : lnOk (lnRun a r) ∧ (lnRun a r).1 ≤ 60 := by
  have cc := h.1.1
  have w := wrN_n (v := r) ln0
  have h1 := (ln0_ok.wr (v := r) hn.1 (by omega)).lp (c := 58) (by omega) (by omega)
  have h2 := lnP_ok h hn (a 0).toNat 0 _ (by omega) (by omega) h1
  have h3 := lnE_ok h hn h2.1
  rw [lp_n] at h2
  have e0 : ln0.1 = 0 := rfl
  exact ⟨h3.1, by unfold lnRun; omega⟩
theorem lnK_ok {a : Int → Int} (h : Inv0 a) : ∀ (n : Nat) (k : Int) (L : aLine), 0 ≤ k → k + (n : Int) = a 2 → lnOk L → lnOk (lnK a n k L) ∧ (L.1 ≤ (lnK a n k L).1 ∧ (lnK a n k L).1 ≤ L.1 + 6 * (n : Int))
  | 0, k, L, _, _, hL => ⟨hL, Int.le_refl _, by show L.1 ≤ L.1 + 6 * ((0 : Nat) : Int); omega⟩
  | n + 1, k, L, k0, k1, hL => by
    have cc := h.1.1
    have rk := sRanked_0 (a := a) (j := k) k0 (by omega)
    have sb := sSum_B h rk.1 rk.2
    have hM : lnOk (if 0 < k then lp L 32 else L) ∧ (L.1 ≤ (if 0 < k then lp L 32 else L).1 ∧ (if 0 < k then lp L 32 else L).1 ≤ L.1 + 1) := by
      split
      · exact ⟨hL.lp (by omega) (by omega), by rw [lp_n]; omega⟩
      · exact ⟨hL, by omega⟩
    obtain ⟨M, eM⟩ : ∃ M, M = (if 0 < k then lp L 32 else L) := ⟨_, rfl⟩
    rw [← eM] at hM
    have w1 := wrN_1 (v := sRanked a k) M (by omega)
    have w2 := wrN_n (v := sSum a (sRanked a k)) (lp (wrN (sRanked a k) M) 61)
    rw [lp_n] at w2
    have := lnK_ok h n (k + 1) _ (by omega) (by omega) (((hM.1.wr (v := sRanked a k) rk.1 (by omega)).lp (c := 61) (by omega) (by omega)).wr (v := sSum a (sRanked a k)) sb.1 (by omega))
    show lnOk (lnK a n (k + 1) (wrN (sSum a (sRanked a k)) (lp (wrN (sRanked a k) (if 0 < k then lp L 32 else L)) 61))) ∧ (L.1 ≤ (lnK a n (k + 1) (wrN (sSum a (sRanked a k)) (lp (wrN (sRanked a k) (if 0 < k then lp L 32 else L)) 61))).1 ∧ (lnK a n (k + 1) (wrN (sSum a (sRanked a k)) (lp (wrN (sRanked a k) (if 0 < k then lp L 32 else L)) 61))).1 ≤ L.1 + 6 * ((n + 1 : Nat) : Int))
    rw [← eM]
    refine ⟨this.1, ?_⟩
    omega
theorem lnRank_ok {a : Int → Int} (h : Inv0 a) : lnOk (lnRank a) ∧ (lnRank a).1 ≤ 60 := by
  have cc := h.1.1
  have h2 := lnK_ok h (a 2).toNat 0 _ (by omega) (by omega) ln0_ok
  have e0 : ln0.1 = 0 := rfl
  exact ⟨h2.1, by unfold lnRank; omega⟩
theorem qWrite_I {A : aAb} {r : Int} (h : InvW A) : InvW (qWrite r A).2.2 := by
  unfold qWrite
  split
  · next hn =>
    have ok := lnRun_ok h.1.1.1 hn
    exact ⟨h.1, h.2.1, h.2.2.1, h.2.2.2.1, ⟨ok.1.1, ok.2⟩, ok.1.2⟩
  · exact h
theorem qWriteR_I {A : aAb} (h : InvW A) : InvW (qWriteR A).2.2 := by
  have ok := lnRank_ok h.1.1.1
  exact ⟨h.1, h.2.1, h.2.2.1, h.2.2.2.1, ⟨ok.1.1, ok.2⟩, ok.1.2⟩
/-- the model's line is L; all else as it was -/
def mL (z0 z : aM) (L : aLine) : Prop := (z (16, 0, 0) 13 = L.1 ∧ ∀ k, 0 ≤ k → k < L.1 → z (17, 6, 0) k = L.2 k) ∧ (∀ q, q ≠ (17, 6, 0) → q ≠ (16, 0, 0) → z q = z0 q) ∧ (∀ k, k ≠ 13 → z (16, 0, 0) k = z0 (16, 0, 0) k)
section M13
variable {l : Launch} {g : aG} {d : Nat} {z z0 : aM} {A : aAb} {L : aLine}
theorem cM_sign {c : Int} (h : mL z0 z L) (n0 : 0 ≤ L.1) (n1 : L.1 < 80) : aM1 l g nX7_sign d [.inr (.inr (.inl (16, 0, 0))), .inl c] z (aRv0 (fun z' => mL z0 z' (lp L c))) := by
  have e13 := h.1.1
  have g13 : aWr z (17, 6, 0) (z (16, 0, 0) 13) c (16, 0, 0) 13 = L.1 := by rw [aWr_ne2 (by decide), e13]
  have fin : mL z0 (aWr (aWr z (17, 6, 0) (z (16, 0, 0) 13) c) (16, 0, 0) 13 (aWr z (17, 6, 0) (z (16, 0, 0) 13) c (16, 0, 0) 13 + 1)) (lp L c) := by
    rw [g13, e13]
    refine ⟨⟨by rw [aWr_pS, pS_at, ud_at]; rfl, fun k k0 k1 => ?_⟩, fun q q1 q2 => by rw [aWr_ne2 q2, aWr_ne2 q1]; exact h.2.1 q q1 q2, fun k hk => by rw [aWr_pS, pS_at, ud_ne hk, aWr_ne2 (by decide)]; exact h.2.2 k hk⟩
    rw [lp_n] at k1
    rw [aWr_ne2 (by decide), aWr_pS, pS_at]
    show ud (z (17, 6, 0)) L.1 c k = ud L.2 L.1 c k
    by_cases e : k = L.1
    · rw [e, ud_at, ud_at]
    · rw [ud_ne e, ud_ne e]; exact h.1.2 k k0 (by omega)
  refine aM1_of kX7_sign rfl (fun B hB => ?_)
  refine hB [] 1000 _ _ _ _ _ ?_
  repeat' (first | exact fin | refine And.intro ?_ ?_ | fail)
  all_goals first | omega | (exact rfl)
theorem cM_writesNumber {v : Int} (hd : 1 ≤ d) (h : mL z0 z L) (n0 : 0 ≤ L.1) (n1 : L.1 ≤ 77) (v0 : 0 ≤ v) (v1 : v ≤ 999) : aM1 l g nX7_writesNumber d [.inr (.inr (.inl (16, 0, 0))), .inl v] z (aRv0 (fun z' => mL z0 z' (wrN v L))) := by
  refine aM1_of kX7_writesNumber rfl (fun B hB => ?_)
  have l1 : ∀ (z1 : aM) (L1 : aLine), mL z0 z1 L1 → 0 ≤ L1.1 → L1.1 ≤ 79 → lp L1 (48 + v % 10) = wrN v L → B (none, 0, 0) z1 18 [some (.inr (.inr (.inl (16, 0, 0)))), some (.inl v), some (.inl 1)] [] := by
    intro z1 L1 h1 m0 m1 e
    refine hB [] 1000 _ _ _ _ _ ?_
    rw [← e, show v % 10 = v / 1 % 10 by omega]
    repeat' (first | assumption | refine And.intro ?_ ?_ | (intro hh; first | exact absurd hh (by decide) | exact absurd rfl hh | (exfalso; omega) | skip) | refine Or.inl (uV (cM_sign h1 m0 (by omega)) ?_) | fail)
    all_goals first | omega | (exact rfl)
  have l10 : ∀ (z1 : aM) (L1 : aLine), mL z0 z1 L1 → 0 ≤ L1.1 → L1.1 ≤ 78 → lp (lp L1 (48 + v / 10 % 10)) (48 + v % 10) = wrN v L → B (none, 0, 0) z1 18 [some (.inr (.inr (.inl (16, 0, 0)))), some (.inl v), some (.inl 10)] [] := by
    intro z1 L1 h1 m0 m1 e
    refine hB [18] 1000 _ _ _ _ _ ?_
    repeat' (first | refine And.intro ?_ ?_ | (intro hh; first | exact absurd hh (by decide) | exact absurd rfl hh | (exfalso; omega) | skip) | refine Or.inl (uV (cM_sign h1 m0 (by omega)) ?_) | fail)
    all_goals first | omega | (exact rfl) | (refine l1 _ _ (by assumption) ?_ ?_ e)
    all_goals (rw [lp_n]; omega)
  have l100 : ∀ (z1 : aM) (L1 : aLine), mL z0 z1 L1 → 0 ≤ L1.1 → L1.1 ≤ 77 → lp (lp (lp L1 (48 + v / 100 % 10)) (48 + v / 10 % 10)) (48 + v % 10) = wrN v L → B (none, 0, 0) z1 18 [some (.inr (.inr (.inl (16, 0, 0)))), some (.inl v), some (.inl 100)] [] := by
    intro z1 L1 h1 m0 m1 e
    refine hB [18] 1000 _ _ _ _ _ ?_
    repeat' (first | refine And.intro ?_ ?_ | (intro hh; first | exact absurd hh (by decide) | exact absurd rfl hh | (exfalso; omega) | skip) | refine Or.inl (uV (cM_sign h1 m0 (by omega)) ?_) | fail)
    all_goals first | omega | (exact rfl) | (refine l10 _ _ (by assumption) ?_ ?_ e)
    all_goals (rw [lp_n]; omega)
  by_cases c1 : v < 10
  · refine hB [18] 1000 _ _ _ _ _ ?_
    repeat' (first | refine And.intro ?_ ?_ | (intro hh; first | exact absurd hh (by decide) | exact absurd rfl hh | (exfalso; omega) | skip) | fail)
    all_goals first | omega | (exact rfl) | skip
    refine l1 z L h n0 (by omega) ?_
    unfold wrN
    rw [if_pos c1, show v % 10 = v by omega]
  · by_cases c2 : v < 100
    · refine hB [18] 1000 _ _ _ _ _ ?_
      repeat' (first | refine And.intro ?_ ?_ | (intro hh; first | exact absurd hh (by decide) | exact absurd rfl hh | (exfalso; omega) | skip) | fail)
      all_goals first | omega | (exact rfl) | skip
      refine l10 z L h n0 (by omega) ?_
      unfold wrN
      rw [if_neg c1, if_pos c2, show v / 10 % 10 = v / 10 by omega]
    · refine hB [18] 1000 _ _ _ _ _ ?_
      repeat' (first | refine And.intro ?_ ?_ | (intro hh; first | exact absurd hh (by decide) | exact absurd rfl hh | (exfalso; omega) | skip) | fail)
      all_goals first | omega | (exact rfl) | skip
      refine l100 z L h n0 (by omega) ?_
      unfold wrN
      rw [if_neg c1, if_neg c2, show v / 100 % 10 = v / 100 by omega]

theorem RelM.line {z z1 : aM} (h : RelM z A) (h1 : mL z z1 L) : RelM z1 (A.1, A.2.1, A.2.2.1, A.2.2.2.1, A.2.2.2.2.1, L) ∧ (z1 (16, 0, 0) 9 = z (16, 0, 0) 9 ∧ fM z z1) := by
  obtain ⟨⟨k1, k2, k3⟩, ⟨k4, k5⟩, ⟨k6, k7⟩, ⟨k8, k9⟩, ⟨k10, k11⟩, ⟨k12, k13⟩, k14, k15⟩ := h
  obtain ⟨⟨q1, q2⟩, q3, q4⟩ := h1
  refine ⟨?_, q4 9 (by decide), fun q hq => q3 q (by intro e; rw [e] at hq; exact hq.2 rfl) (by intro e; rw [e] at hq; exact hq.1 rfl)⟩
  unfold RelM
  rw [q3 (17, 0, 0) (by decide) (by decide), q3 (17, 1, 0) (by decide) (by decide), q3 (17, 2, 0) (by decide) (by decide), q3 (17, 3, 0) (by decide) (by decide), q3 (17, 4, 0) (by decide) (by decide), q3 (17, 5, 0) (by decide) (by decide), q3 (17, 7, 0) (by decide) (by decide), q3 (17, 8, 0) (by decide) (by decide), q4 4 (by decide), q4 6 (by decide), q4 7 (by decide), q4 8 (by decide), q4 11 (by decide)]
  exact ⟨⟨k1, k2, k3⟩, ⟨k4, k5⟩, ⟨k6, k7⟩, ⟨k8, k9⟩, ⟨q1, q2⟩, ⟨k12, k13⟩, k14, k15⟩
theorem mL_0 (z : aM) : mL z (aWr z (16, 0, 0) 13 0) ln0 := ⟨⟨by rw [aWr_pS, pS_at, ud_at]; rfl, fun k k0 k1 => by have k2 : k < 0 := k1; omega⟩, fun q q1 q2 => aWr_ne2 q2, fun k hk => by rw [aWr_pS, pS_at, ud_ne hk]⟩

theorem cM_writeRun {r : Int} (hr : aIR r) (hd : 4 ≤ d) (hR : RelM z A) (hI : InvW A) : mOp l g nX7_writeRun d [.inr (.inr (.inl (16, 0, 0))), .inl r] z (qWrite r A) := by
  try unfold aIR at *
  obtain ⟨R, eR⟩ : ∃ R : aRes, R = qWrite r A := ⟨_, rfl⟩
  rw [← eR, mOp]
  refine aM1_of kX7_writeRun rfl (fun B hB => ?_)
  have h5 : ∀ z1 : aM, RelM z1 A → z1 (16, 0, 0) 9 = 0 → fM z z1 → B (none, 0, 0) z1 5 [some (.inr (.inr (.inl (16, 0, 0)))), some (.inl r), none] [] := by
    intro z1 h1 h9 hF
    clear hR
    obtain ⟨m, T⟩ := A
    have em : z1 (17, 0, 0) = m := h1.1.1
    subst em
    have hJ : Inv (z1 (17, 0, 0)) := hI.1.1
    have cc := hJ.1.1.1
    have ct := hJ.1.1.2.1
    have ga : -1 ≤ z1 (17, 0, 0) 7 ∧ z1 (17, 0, 0) 7 < 8 := by rcases hJ.1.2.1 with q | q <;> omega
    by_cases hc0 : isN (z1 (17, 0, 0)) r
    · have hRq : R = (0, (lnRun (z1 (17, 0, 0)) r).1, (z1 (17, 0, 0), T.1, T.2.1, T.2.2.1, T.2.2.2.1, lnRun (z1 (17, 0, 0)) r)) := by rw [eR]; exact if_pos hc0
      have fin : ∀ z2, mL z1 z2 (lnRun (z1 (17, 0, 0)) r) → (some (.inl (z2 (16, 0, 0) 13)) : Option aV) = some (.inl R.2.1) ∧ (RelM z2 R.2.2 ∧ z2 (16, 0, 0) 9 = R.1) ∧ fM z z2 := fun z2 h2 => by
        have f := h1.line h2
        rw [hRq, h2.1.1]
        exact ⟨rfl, ⟨f.1, by rw [f.2.1]; exact h9⟩, hF.tr f.2.2⟩
      have sb := sSum_B hJ.1 hc0.1 hc0.2
      have tail : ∀ (z2 : aM) (L : aLine), mL z1 z2 L → 0 ≤ L.1 → L.1 ≤ 30 → lnE (z1 (17, 0, 0)) r L = lnRun (z1 (17, 0, 0)) r → B (none, 0, 0) z2 81 [some (.inr (.inr (.inl (16, 0, 0)))), some (.inl r), some (.inl (z1 (17, 0, 0) 0))] [] := by
        intro z2 L h2 n0 n1 e
        have t135 : ∀ z3 : aM, mL z1 z3 (lnRun (z1 (17, 0, 0)) r) → B (none, 0, 0) z3 135 [some (.inr (.inr (.inl (16, 0, 0)))), some (.inl r), some (.inl (z1 (17, 0, 0) 0))] [] := by
          intro z3 h3
          refine hB [] 1000 _ _ _ _ _ ?_
          repeat' (first | exact ⟨rfl, fin _ h3⟩ | refine And.intro ?_ ?_ | fail)
          all_goals first | omega | (exact rfl)
        have t96 : ∀ (z3 : aM) (L3 : aLine), mL z1 z3 L3 → 0 ≤ L3.1 → L3.1 ≤ 50 → (if z1 (17, 0, 0) 7 = r then lp L3 42 else if z1 (17, 0, 0) (59 + 13 * r) = 1 then lp L3 33 else L3) = lnRun (z1 (17, 0, 0)) r → B (none, 0, 0) z3 96 [some (.inr (.inr (.inl (16, 0, 0)))), some (.inl r), some (.inl (z1 (17, 0, 0) 0))] [] := by
          intro z3 L3 h3 m0 m1 e3
          have ez : z3 (17, 0, 0) = z1 (17, 0, 0) := h3.2.1 _ (by decide) (by decide)
          have ok := (hJ.1.2.2.1 r hc0.1 hc0.2).1.1
          have ez7 : z3 (17, 0, 0) 7 = z1 (17, 0, 0) 7 := by rw [ez]
          have ezr : z3 (17, 0, 0) (59 + 13 * r) = z1 (17, 0, 0) (59 + 13 * r) := by rw [ez]
          by_cases ca : z1 (17, 0, 0) 7 = r
          · rw [if_pos ca] at e3
            refine hB [135] 1000 _ _ _ _ _ ?_
            repeat' (first | refine And.intro ?_ ?_ | (intro hh; first | exact absurd hh (by decide) | exact absurd rfl hh | (exfalso; omega) | skip) | refine Or.inl (uE cM_runAtPlace ?_) | refine Or.inl (uV (cM_sign h3 m0 (by omega)) ?_) | fail)
            all_goals first | omega | (exact rfl) | (refine t135 _ ?_; rw [← e3]; assumption)
          · rw [if_neg ca] at e3
            by_cases cb : z1 (17, 0, 0) (59 + 13 * r) = 1
            · rw [if_pos cb] at e3
              refine hB [135] 1000 _ _ _ _ _ ?_
              repeat' (first | refine And.intro ?_ ?_ | (intro hh; first | exact absurd hh (by decide) | exact absurd rfl hh | (exfalso; omega) | skip) | refine Or.inl (uE cM_runAtPlace ?_) | refine Or.inl (uV (cM_sign h3 m0 (by omega)) ?_) | fail)
              all_goals first | omega | (exact rfl) | (refine t135 _ ?_; rw [← e3]; assumption)
            · rw [if_neg cb] at e3
              refine hB [135] 1000 _ _ _ _ _ ?_
              repeat' (first | refine And.intro ?_ ?_ | (intro hh; first | exact absurd hh (by decide) | exact absurd rfl hh | (exfalso; omega) | skip) | refine Or.inl (uE cM_runAtPlace ?_) | refine Or.inl (uV (cM_sign h3 m0 (by omega)) ?_) | fail)
              all_goals first | omega | (exact rfl) | (refine t135 _ ?_; rw [← e3]; assumption)
        refine hB [96] 1000 _ _ _ _ _ ?_
        refine And.intro ?_ ?_
        · exact ⟨⟨rfl, rfl⟩, by omega⟩
        refine Or.inl (uV (cM_sign h2 n0 (by omega)) ?_)
        intro z3 h3
        have ez : z3 (17, 0, 0) = z1 (17, 0, 0) := h3.2.1 _ (by decide) (by decide)
        have hJ3 : Inv0 (z3 (17, 0, 0)) := by rw [ez]; exact hJ.1
        have n3 : (lp L 61).1 = L.1 + 1 := rfl
        refine And.intro ?_ ?_
        · exact ⟨⟨rfl, rfl⟩, by omega⟩
        refine Or.inl (uE (cM_scoreOf (by omega) hJ3 hc0.1 (by omega)) ?_)
        rw [ez]
        refine And.intro ?_ ?_
        · exact ⟨⟨rfl, rfl⟩, by omega⟩
        refine Or.inl (uV (cM_writesNumber (by omega) h3 (by omega) (by omega) sb.1 (by omega)) ?_)
        intro z4 h4
        have w := wrN_n (v := sSum (z1 (17, 0, 0)) r) (lp L 61)
        exact t96 z4 _ h4 (by omega) (by omega) e
      have loop : ∀ (n : Nat) (z2 : aM) (L : aLine) (k : Int), 0 ≤ k → k + (n : Int) = z1 (17, 0, 0) 0 → mL z1 z2 L → 0 ≤ L.1 → L.1 ≤ 5 + 4 * k → lnE (z1 (17, 0, 0)) r (lnP (z1 (17, 0, 0)) r n k L) = lnRun (z1 (17, 0, 0)) r → B (none, 0, 0) z2 37 [some (.inr (.inr (.inl (16, 0, 0)))), some (.inl r), some (.inl k)] [] := by
        intro n
        induction n with
        | zero =>
          intro z2 L k k0 k1 h2 n0 n1 e
          have ek : k = z1 (17, 0, 0) 0 := by omega
          subst ek
          have ez : z2 (17, 0, 0) = z1 (17, 0, 0) := h2.2.1 _ (by decide) (by decide)
          have ez0 : z2 (17, 0, 0) 0 = z1 (17, 0, 0) 0 := by rw [ez]
          refine hB [81] 1000 _ _ _ _ _ ?_
          repeat' (first | refine And.intro ?_ ?_ | (intro hh; first | exact absurd hh (by decide) | exact absurd rfl hh | (exfalso; omega) | skip) | fail)
          all_goals first | omega | (exact rfl) | exact tail z2 L h2 n0 (by omega) e
        | succ n ih =>
          intro z2 L k k0 k1 h2 n0 n1 e
          have p := hJ.1.pts hc0.1 hc0.2 k0 (by omega)
          have ez : z2 (17, 0, 0) = z1 (17, 0, 0) := h2.2.1 _ (by decide) (by decide)
          have ez0 : z2 (17, 0, 0) 0 = z1 (17, 0, 0) 0 := by rw [ez]
          have e' : lnE (z1 (17, 0, 0)) r (lnP (z1 (17, 0, 0)) r n (k + 1) (wrN (z1 (17, 0, 0) (59 + 13 * r + 7 + k)) (if 0 < k then lp L 43 else L))) = lnRun (z1 (17, 0, 0)) r := e
          have t57 : ∀ (z3 : aM) (L3 : aLine), mL z1 z3 L3 → 0 ≤ L3.1 → L3.1 ≤ 5 + 4 * k + 1 → L3 = (if 0 < k then lp L 43 else L) → B (none, 0, 0) z3 57 [some (.inr (.inr (.inl (16, 0, 0)))), some (.inl r), some (.inl k)] [] := by
            intro z3 L3 h3 m0 m1 e3
            have ez3 : z3 (17, 0, 0) = z1 (17, 0, 0) := h3.2.1 _ (by decide) (by decide)
            have ezp : z3 (17, 0, 0) (59 + 13 * r + 7 + k) = z1 (17, 0, 0) (59 + 13 * r + 7 + k) := by rw [ez3]
            have w := wrN_2 (v := z1 (17, 0, 0) (59 + 13 * r + 7 + k)) L3 (by omega)
            have w0 := wrN_n (v := z1 (17, 0, 0) (59 + 13 * r + 7 + k)) L3
            refine hB [37] 1000 _ _ _ _ _ ?_
            repeat' (first | refine And.intro ?_ ?_ | (intro z4 h4; exact ih z4 _ (k + 1) (by omega) (by omega) (by rw [ezp] at h4; exact h4) (by omega) (by omega) (by rw [e3]; exact e')) | refine Or.inl (uE cM_runAtPlace ?_) | refine Or.inl (uV (cM_writesNumber (by omega) h3 m0 (by omega) (by omega) (by omega)) ?_) | fail)
            all_goals first | omega | (exact rfl)
          by_cases ck : 0 < k
          · rw [if_pos ck] at t57
            refine hB [57] 1000 _ _ _ _ _ ?_
            repeat' (first | refine And.intro ?_ ?_ | (intro z3 h3; exact t57 z3 _ h3 (by rw [lp_n]; omega) (by rw [lp_n]; omega) rfl) | (intro hh; first | exact absurd hh (by decide) | exact absurd rfl hh | (exfalso; omega) | skip) | refine Or.inl (uV (cM_sign h2 n0 (by omega)) ?_) | fail)
            all_goals first | omega | (exact rfl)
          · rw [if_neg ck] at t57
            refine hB [57] 1000 _ _ _ _ _ ?_
            repeat' (first | refine And.intro ?_ ?_ | (intro hh; first | exact absurd hh (by decide) | exact absurd rfl hh | (exfalso; omega) | skip) | refine Or.inl (uV (cM_sign h2 n0 (by omega)) ?_) | fail)
            all_goals first | omega | (exact rfl) | exact t57 z2 _ h2 n0 (by omega) rfl
      have w1 := wrN_1 (v := r) ln0 (by omega)
      have e0 : ln0.1 = 0 := rfl
      refine hB [37] 1000 _ _ _ _ _ ?_
      repeat' (first | refine And.intro ?_ ?_ | (intro z3 h3; refine And.intro ?_ (Or.inl (uV (cM_sign h3 (by omega) (by omega)) ?_)); (exact ⟨⟨rfl, rfl⟩, by omega⟩); intro z4 h4; exact loop (z1 (17, 0, 0) 0).toNat z4 _ 0 (by omega) (by omega) h4 (by rw [lp_n]; omega) (by rw [lp_n]; omega) rfl) | (intro hh; first | exact absurd hh (by decide) | exact absurd rfl hh | (exfalso; omega) | skip) | refine Or.inl (uB (cM_isRun ?_ ?_ ?_ ?_) ?_ ?_) | refine Or.inl (uV (cM_writesNumber (by omega) (mL_0 z1) (by decide) (by decide) hc0.1 (by omega)) ?_) | fail)
      all_goals first | omega | (exact rfl) | contradiction
    · have fin : ∀ v' : Int, v' = (-1) → (some (.inl v') : Option aV) = some (.inl R.2.1) ∧ (RelM (aWr z1 (16, 0, 0) 9 1) R.2.2 ∧ (aWr z1 (16, 0, 0) 9 1) (16, 0, 0) 9 = R.1) ∧ fM z (aWr z1 (16, 0, 0) 9 1) := fun v' e9 => by
        have hRq : R = (1, (-1), (z1 (17, 0, 0), T)) := by
          rw [eR]; unfold qWrite
          exact if_neg hc0
        rw [hRq, e9]
        exact ⟨rfl, h1.thr 1, hF.wr (Or.inl rfl)⟩
      refine hB [] 1000 _ _ _ _ _ ?_
      repeat' (first | (refine ⟨rfl, fin _ ?_⟩) | refine And.intro ?_ ?_ | (intro hh; first | exact absurd hh (by decide) | exact absurd rfl hh | (exfalso; omega) | skip) | refine Or.inl (uE cM_throwing ?_) | refine Or.inl (uB (cM_isRun ?_ ?_ ?_ ?_) ?_ ?_) | fail)
      all_goals first | omega | (exact rfl) | (exact Or.inl rfl) | (exact Or.inr rfl) | contradiction | (exact (sB_1 (by assumption)).symm) | (exact (sB_0 (by assumption)).symm) | fail "left"
  refine hB [5] 1000 _ _ _ _ _ ?_
  repeat' (first | refine And.intro ?_ ?_ | fail)
  all_goals first | (exact rfl) | (exact Or.inl rfl) | exact h5 _ (hR.thr 0).1 (hR.thr 0).2 ((fM.rf z).wr (Or.inl rfl))


theorem cM_writeRanking  (hd : 6 ≤ d) (hR : RelM z A) (hI : InvW A) : mOp l g nX7_writeRanking d [.inr (.inr (.inl (16, 0, 0)))] z (qWriteR A) := by
  try unfold aIR at *
  obtain ⟨R, eR⟩ : ∃ R : aRes, R = qWriteR A := ⟨_, rfl⟩
  rw [← eR, mOp]
  refine aM1_of kX7_writeRanking rfl (fun B hB => ?_)
  have h5 : ∀ z1 : aM, RelM z1 A → z1 (16, 0, 0) 9 = 0 → fM z z1 → B (none, 0, 0) z1 5 [some (.inr (.inr (.inl (16, 0, 0)))), none] [] := by
    intro z1 h1 h9 hF
    clear hR
    obtain ⟨m, T⟩ := A
    have em : z1 (17, 0, 0) = m := h1.1.1
    subst em
    have hJ : Inv (z1 (17, 0, 0)) := hI.1.1
    have cc := hJ.1.1.1
    have ct := hJ.1.1.2.1
    have ga : -1 ≤ z1 (17, 0, 0) 7 ∧ z1 (17, 0, 0) 7 < 8 := by rcases hJ.1.2.1 with q | q <;> omega
    have fin : ∀ z2, mL z1 z2 (lnRank (z1 (17, 0, 0))) → (some (.inl (z2 (16, 0, 0) 13)) : Option aV) = some (.inl R.2.1) ∧ (RelM z2 R.2.2 ∧ z2 (16, 0, 0) 9 = R.1) ∧ fM z z2 := fun z2 h2 => by
      have f := h1.line h2
      rw [eR, h2.1.1]
      exact ⟨rfl, ⟨f.1, by rw [f.2.1]; exact h9⟩, hF.tr f.2.2⟩
    have loop : ∀ (n : Nat) (z2 : aM) (L : aLine) (k : Int), 0 ≤ k → k + (n : Int) = z1 (17, 0, 0) 2 → mL z1 z2 L → 0 ≤ L.1 → L.1 ≤ 6 * k → lnK (z1 (17, 0, 0)) n k L = lnRank (z1 (17, 0, 0)) → B (none, 0, 0) z2 12 [some (.inr (.inr (.inl (16, 0, 0)))), some (.inl k)] [] := by
      intro n
      induction n with
      | zero =>
        intro z2 L k k0 k1 h2 n0 n1 e
        have e9 : L = lnRank (z1 (17, 0, 0)) := e
        have ez : z2 (17, 0, 0) = z1 (17, 0, 0) := h2.2.1 _ (by decide) (by decide)
        have ez0 : z2 (17, 0, 0) 2 = z1 (17, 0, 0) 2 := by rw [ez]
        refine hB [] 1000 _ _ _ _ _ ?_
        repeat' (first | exact ⟨rfl, fin _ (by rw [← e9]; exact h2)⟩ | refine And.intro ?_ ?_ | (intro hh; first | exact absurd hh (by decide) | exact absurd rfl hh | (exfalso; omega) | skip) | fail)
        all_goals first | omega | (exact rfl)
      | succ n ih =>
        intro z2 L k k0 k1 h2 n0 n1 e
        have rk := sRanked_0 (a := z1 (17, 0, 0)) (j := k) k0 (by omega)
        have sb := sSum_B hJ.1 rk.1 rk.2
        have ez : z2 (17, 0, 0) = z1 (17, 0, 0) := h2.2.1 _ (by decide) (by decide)
        have ez0 : z2 (17, 0, 0) 2 = z1 (17, 0, 0) 2 := by rw [ez]
        have e' : lnK (z1 (17, 0, 0)) n (k + 1) (wrN (sSum (z1 (17, 0, 0)) (sRanked (z1 (17, 0, 0)) k)) (lp (wrN (sRanked (z1 (17, 0, 0)) k) (if 0 < k then lp L 32 else L)) 61)) = lnRank (z1 (17, 0, 0)) := e
        have t32 : ∀ (z3 : aM) (L3 : aLine), mL z1 z3 L3 → 0 ≤ L3.1 → L3.1 ≤ 6 * k + 1 → L3 = (if 0 < k then lp L 32 else L) → B (none, 0, 0) z3 32 [some (.inr (.inr (.inl (16, 0, 0)))), some (.inl k)] [] := by
          intro z3 L3 h3 m0 m1 e3
          have ez3 : z3 (17, 0, 0) = z1 (17, 0, 0) := h3.2.1 _ (by decide) (by decide)
          have hJ3 : Inv0 (z3 (17, 0, 0)) := by rw [ez3]; exact hJ.1
          have w1 := wrN_1 (v := sRanked (z1 (17, 0, 0)) k) L3 (by omega)
          refine hB [12] 1000 _ _ _ _ _ ?_
          refine And.intro (by exact ⟨⟨rfl, rfl⟩, by omega⟩) (Or.inl (uE (cM_runRanked (by omega) (by unfold aIR; omega) hJ3) ?_))
          rw [ez3]
          refine And.intro (by exact ⟨⟨rfl, rfl⟩, by omega⟩) (Or.inl (uV (cM_writesNumber (by omega) h3 m0 (by omega) rk.1 (by omega)) ?_))
          intro z4 h4
          refine And.intro (by exact ⟨⟨rfl, rfl⟩, by omega⟩) (Or.inl (uV (cM_sign h4 (by omega) (by omega)) ?_))
          intro z5 h5
          have ez5 : z5 (17, 0, 0) = z1 (17, 0, 0) := h5.2.1 _ (by decide) (by decide)
          have hJ5 : Inv0 (z5 (17, 0, 0)) := by rw [ez5]; exact hJ.1
          have n5 : (lp (wrN (sRanked (z1 (17, 0, 0)) k) L3) 61).1 = (wrN (sRanked (z1 (17, 0, 0)) k) L3).1 + 1 := rfl
          refine And.intro (by exact ⟨⟨rfl, rfl⟩, by omega⟩) (Or.inl (uE (cM_runRanked (by omega) (by unfold aIR; omega) hJ5) ?_))
          rw [ez5]
          refine And.intro (by exact ⟨⟨rfl, rfl⟩, by omega⟩) (Or.inl (uE (cM_scoreOf (by omega) hJ5 rk.1 (by omega)) ?_))
          rw [ez5]
          refine And.intro (by exact ⟨⟨rfl, rfl⟩, by omega⟩) (Or.inl (uV (cM_writesNumber (by omega) h5 (by omega) (by omega) sb.1 (by omega)) ?_))
          intro z6 h6
          have w2 := wrN_n (v := sSum (z1 (17, 0, 0)) (sRanked (z1 (17, 0, 0)) k)) (lp (wrN (sRanked (z1 (17, 0, 0)) k) L3) 61)
          exact ih z6 _ (k + 1) (by omega) (by omega) h6 (by omega) (by omega) (by rw [e3]; exact e')
        by_cases ck : 0 < k
        · rw [if_pos ck] at t32
          refine hB [32] 1000 _ _ _ _ _ ?_
          repeat' (first | refine And.intro ?_ ?_ | (intro z3 h3; exact t32 z3 _ h3 (by rw [lp_n]; omega) (by rw [lp_n]; omega) rfl) | (intro hh; first | exact absurd hh (by decide) | exact absurd rfl hh | (exfalso; omega) | skip) | refine Or.inl (uV (cM_sign h2 n0 (by omega)) ?_) | fail)
          all_goals first | omega | (exact rfl)
        · rw [if_neg ck] at t32
          refine hB [32] 1000 _ _ _ _ _ ?_
          repeat' (first | refine And.intro ?_ ?_ | (intro hh; first | exact absurd hh (by decide) | exact absurd rfl hh | (exfalso; omega) | skip) | refine Or.inl (uV (cM_sign h2 n0 (by omega)) ?_) | fail)
          all_goals first | omega | (exact rfl) | exact t32 z2 _ h2 n0 (by omega) rfl
    refine hB [12] 1000 _ _ _ _ _ ?_
    repeat' (first | refine And.intro ?_ ?_ | (intro hh; first | exact absurd hh (by decide) | exact absurd rfl hh | (exfalso; omega) | skip) | fail)
    all_goals first | omega | (exact rfl) | skip
    exact loop (z1 (17, 0, 0) 2).toNat _ ln0 0 (by omega) (by omega) (mL_0 z1) (by decide) (by decide) rfl
  refine hB [5] 1000 _ _ _ _ _ ?_
  repeat' (first | refine And.intro ?_ ?_ | fail)
  all_goals first | (exact rfl) | (exact Or.inl rfl) | exact h5 _ (hR.thr 0).1 (hR.thr 0).2 ((fM.rf z).wr (Or.inl rfl))


end M13
