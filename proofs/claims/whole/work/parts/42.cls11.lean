/-! THE CLASS: a program parsed and performed (printed by wip/whole/cls11.py) -/
section K11
variable {l : Launch} {g : aG} {d : Nat} {z : aM} {fk fa : Int → Int} {p s : Int} {a : Int → Int}
def paQ (z : aM) (R : Int × Int × Int × (Int → Int → Int)) : Option aV → aM → Prop := fun r z' => ((R.1 = 1 → r = some (.inl R.2.1)) ∧ (R.1 = 0 → r = some (.inl (-1)))) ∧ ∃ m' fk' fa' r', z' = pmem (aWr z (12, 0, 0) 2 m') fk' fa' r' ∧ (R.1 = 0 → m' = R.2.2.1 ∧ cmG fk' fa' R.2.2.2 m')
theorem aWr_2 (z : aM) (p : aP) (k x y : Int) : aWr (aWr z p k x) p k y = aWr z p k y := by rw [aWr_pS, aWr_pS, aWr_pS, pS_pS, pS_at, ud_ud]
theorem cK_parse (hd : 8 ≤ d) (hz : pOk z) : aM1 l g nX3_parse d [.inr (.inr (.inl (12, 0, 0)))] z (paQ z (prs (z (13, 0, 0)) (z (12, 0, 0) 1) 16 0 0 cm0)) := by
  have n0 := hz.1
  obtain ⟨t, et⟩ : ∃ t, t = (z (13, 0, 0)) := ⟨_, rfl⟩
  obtain ⟨n, en⟩ : ∃ n, n = (z (12, 0, 0) 1) := ⟨_, rfl⟩
  rw [← et, ← en]
  rw [← en] at n0
  obtain ⟨R, eR⟩ : ∃ R, R = prs t n 16 0 0 cm0 := ⟨_, rfl⟩
  rw [← eR]
  have R01 := (prs_B (t := t) (n := n) 16 0 0 cm0 (by omega) n0.1 (by omega) (by decide) (fun j j0 j1 => by omega)).1
  rw [← eR] at R01
  refine aM1_of kX3_parse rfl (fun B hB => ?_)
  have loop : ∀ (f : Nat) (q m r : Int) (fk fa : Int → Int) (cm : Int → Int → Int), m + (f : Int) = 16 → 0 ≤ m → 4 * m ≤ q → q ≤ n → cmG fk fa cm m → prs t n f q m cm = R → B (none, 0, 0) (pmem (aWr z (12, 0, 0) 2 m) fk fa r) 7 [some (.inr (.inr (.inl (12, 0, 0)))), some (.inl q)] [] := by
    intro f
    induction f with
    | zero =>
      intro q m r fk fa cm h1 h2 h3 h4 hc e
      omega
    | succ f ih =>
      intro q m r fk fa cm h1 h2 h3 h4 hc e
      obtain ⟨zz, ezz⟩ : ∃ zz, zz = aWr z (12, 0, 0) 2 m := ⟨_, rfl⟩
      have k1 : zz (12, 0, 0) 1 = n := by rw [ezz, aWr_j (by decide), ← en]
      have k13 : zz (13, 0, 0) = t := by rw [ezz, aWr_ne2 (by decide), ← et]
      have k2 : zz (12, 0, 0) 2 = m := by rw [ezz, aWr_k]
      have hzz : pOk zz := ⟨by rw [k1]; exact n0, fun k k0 kl => by rw [k1] at kl; rw [k13, et]; exact hz.2 k k0 (by rw [← en]; exact kl)⟩
      have pc := cK_parseCommand (l := l) (g := g) (d := d - 1) (z := zz) (fk := fk) (fa := fa) (p := q) (r0 := r) (m := m) (by omega) hzz (by omega) (by rw [k1]; exact h4) k2 h2 (by omega)
      rw [k13, k1] at pc
      obtain ⟨b, eb⟩ : ∃ b, b = bw t n q := ⟨_, rfl⟩
      have bb := bw_B t n q
      have lb := lik_B (t := t) (n := n) (p := q) bb.1 bb.2
      have ln := lik_n (t := t) (n := n) (p := q) (b := bw t n q) h4
      have wb := wL_B bb.1 bb.2
      obtain ⟨L, eL⟩ : ∃ L, L = lik t n q (bw t n q) := ⟨_, rfl⟩
      obtain ⟨u, eu⟩ : ∃ u, u = ags t n (bw t n q) (q + lik t n q (bw t n q)) := ⟨_, rfl⟩
      have ab := xA_B (t := t) (n := n) (gks.getD (bw t n q).toNat []) (q + lik t n q (bw t n q)) 0 ln (Or.inl rfl)
      have gn := gks_n bb.1 bb.2 (t := t) (n := n) (p := q + lik t n q (bw t n q)) (w := 0)
      have ab' : (q + lik t n q (bw t n q) ≤ u.2.1 ∧ u.2.1 ≤ n) ∧ (u.2.2 = 0 ∨ u.2.2 = 1) := by rw [eu]; exact ⟨ab.1, ab.2.1⟩
      have gn' : (u.1.length : Int) = nAr.getD (bw t n q).toNat 0 := by rw [eu]; exact gn
      obtain ⟨W, eW⟩ : ∃ W, W = rdW t n q := ⟨_, rfl⟩
      have eW2 : W = if L < wL (bw t n q) then (q + L, 1) else u.2 := by rw [eW, eL, eu]; rfl
      have e' := e
      unfold prs at e'
      rw [← eu, ← eL] at e'
      rw [← eW, ← eu] at pc
      rw [← eL] at lb ln ab'
      rw [← eb] at pc e' gn' eW2 bb lb wb
      have bad : W.2 = 1 → ∀ (f' : Int → Int), B (none, 0, 0) (pmem zz fk f' W.1) 21 [some (.inr (.inr (.inl (12, 0, 0)))), some (.inl q)] [.inl 0] := by
        intro w1 f'
        have eR2 : R.1 = 1 ∧ R.2.1 = W.1 := by
          by_cases hL : L < wL b
          · rw [if_pos hL] at e' eW2
            rw [← e', eW2]; exact ⟨rfl, rfl⟩
          · rw [if_neg hL] at e' eW2
            rw [eW2] at w1
            rw [if_pos w1] at e'
            rw [← e', eW2]; exact ⟨rfl, rfl⟩
        have fin : paQ z R (some (.inl (pmem zz fk f' W.1 (12, 0, 0) 5))) (pmem zz fk f' W.1) := ⟨⟨fun _ => by rw [pm_5, eR2.2], fun w => by omega⟩, m, fk, f', W.1, by rw [ezz], fun w => by omega⟩
        refine hB [] 1000 _ _ _ _ _ ?_
        repeat' (first | exact ⟨rfl, fin⟩ | refine And.intro ?_ ?_ | (intro hh; first | exact absurd hh (by decide) | exact absurd rfl hh | (exfalso; omega) | skip) | fail)
        all_goals first | omega | (exact rfl) | (exact Or.inl rfl) | (exact Or.inr rfl)
      have good : W.2 = 0 → ∀ (f' : Int → Int), cmG (ud fk m b) f' (cmI cm m b u.1) (m + 1) → B (none, 0, 0) (pmem zz (ud fk m b) f' W.1) 21 [some (.inr (.inr (.inl (12, 0, 0)))), some (.inl q)] [.inl 1] := by
        intro w0 f' hc'
        have hL : ¬ L < wL b := by
          intro q
          rw [if_pos q] at eW2
          rw [eW2] at w0
          cases w0
        rw [if_neg hL] at e' eW2
        rw [eW2] at w0
        rw [if_neg (by omega)] at e'
        have eW1 : W.1 = u.2.1 := by rw [eW2]
        rw [eW1]
        obtain ⟨y, ey⟩ : ∃ y, y = pmem (aWr z (12, 0, 0) 2 (m + 1)) (ud fk m b) f' u.2.1 := ⟨_, rfl⟩
        have y5 : y (12, 0, 0) 5 = u.2.1 := by rw [ey, pm_5]
        have y1 : y (12, 0, 0) 1 = n := by rw [ey, pm_o _ _ _ _ (by decide), aWr_j (by decide), ← en]
        have y13 : y (13, 0, 0) = t := by rw [ey, pm_q _ _ _ _ (by decide) (by decide) (by decide), aWr_ne2 (by decide), ← et]
        have g2 : pmem zz (ud fk m b) f' u.2.1 (12, 0, 0) 2 = m := by rw [pm_o _ _ _ _ (by decide), k2]
        have s39 : B (none, 0, 0) y 39 [some (.inr (.inr (.inl (12, 0, 0)))), some (.inl q)] [] := by
          by_cases hn : u.2.1 < n
          · rw [if_pos hn] at e'
            have tb := hz.2 u.2.1 (by omega) (by rw [← en]; exact hn)
            have yt : y (13, 0, 0) (y (12, 0, 0) 5) = t u.2.1 := by rw [y5, y13]
            rw [← et] at tb
            by_cases ht : t u.2.1 = 59
            · rw [if_pos ht] at e'
              have nx := ih (u.2.1 + 1) (m + 1) u.2.1 (ud fk m b) f' _ (by omega) (by omega) (by omega) (by omega) hc' e'
              rw [← ey] at nx
              have nx2 : B (none, 0, 0) y 7 [some (.inr (.inr (.inl (12, 0, 0)))), some (.inl (y (12, 0, 0) 5 + 1))] [] := by rw [y5]; exact nx
              refine hB [7] 1000 _ _ _ _ _ ?_
              repeat' (first | exact nx2 | refine And.intro ?_ ?_ | (intro hh; first | exact absurd hh (by decide) | exact absurd rfl hh | (exfalso; omega) | skip) | fail)
              all_goals first | omega | (exact rfl)
            · rw [if_neg ht] at e'
              have fin : paQ z R (some (.inl (y (12, 0, 0) 5))) y := ⟨⟨fun _ => by rw [y5, ← e'], fun w => by rw [← e'] at w; exact absurd w (by show ¬ ((1 : Int) = 0); decide)⟩, m + 1, ud fk m b, f', u.2.1, ey, fun w => by rw [← e'] at w; exact absurd w (by show ¬ ((1 : Int) = 0); decide)⟩
              refine hB [] 1000 _ _ _ _ _ ?_
              repeat' (first | exact ⟨rfl, fin⟩ | refine And.intro ?_ ?_ | (intro hh; first | exact absurd hh (by decide) | exact absurd rfl hh | (exfalso; omega) | skip) | fail)
              all_goals first | omega | (exact rfl) | (exact Or.inl rfl) | (exact Or.inr rfl)
          · rw [if_neg hn] at e'
            have fin : paQ z R (some (.inl (-1))) y := ⟨⟨fun w => by rw [← e'] at w; exact absurd w (by show ¬ ((0 : Int) = 1); decide), fun _ => rfl⟩, m + 1, ud fk m b, f', u.2.1, ey, fun _ => ⟨by rw [← e'], by rw [← e']; exact hc'⟩⟩
            refine hB [] 1000 _ _ _ _ _ ?_
            repeat' (first | exact ⟨rfl, fin⟩ | refine And.intro ?_ ?_ | (intro hh; first | exact absurd hh (by decide) | exact absurd rfl hh | (exfalso; omega) | skip) | fail)
            all_goals first | omega | (exact rfl) | (exact Or.inl rfl) | (exact Or.inr rfl)
        have ew : aWr (pmem zz (ud fk m b) f' u.2.1) (12, 0, 0) 2 (pmem zz (ud fk m b) f' u.2.1 (12, 0, 0) 2 + 1) = y := by rw [g2, pm_w2, ezz, aWr_2, ey]
        rw [← ew] at s39
        refine hB [39] 1000 _ _ _ _ _ ?_
        repeat' (first | exact s39 | refine And.intro ?_ ?_ | (intro hh; first | exact absurd hh (by decide) | exact absurd rfl hh | (exfalso; omega) | skip) | fail)
        all_goals first | omega | (exact rfl)
      rw [← ezz]
      have g2 : pmem zz fk fa r (12, 0, 0) 2 = m := by rw [pm_o _ _ _ _ (by decide), k2]
      refine hB [21] 1000 _ _ _ _ _ ?_
      refine And.intro ⟨⟨by omega, by omega⟩, ⟨by decide, by decide⟩⟩ (And.intro (fun hh => by exfalso; have : 16 ≤ pmem zz fk fa r (12, 0, 0) 2 := hh; omega) (fun _ => ?_))
      refine And.intro ⟨⟨rfl, rfl⟩, by omega⟩ (Or.inl (uA pc ?_))
      intro r' z' hq
      rcases ab'.2 with w | w
      all_goals (
        have W01 : W.2 = 0 ∨ W.2 = 1 := by
          rw [eW2]
          split
          · exact Or.inr rfl
          · exact ab'.2
        rcases W01 with w0 | w1
        · obtain ⟨rfl, f', ez', hf', hv'⟩ := hq.2 w0
          rw [ez']
          exact good w0 f' (cmG_s hc h2 gn' hf' hv')
        · obtain ⟨rfl, f', ez', hf'⟩ := hq.1 w1
          rw [ez']
          exact bad w1 f')
  have st := loop 16 0 0 (z (12, 0, 0) 5) (z (14, 0, 0)) (z (15, 0, 0)) cm0 (by decide) (by decide) (by decide) n0.1 (fun j j0 j1 => by omega) eR.symm
  have ez0 : pmem (aWr z (12, 0, 0) 2 0) (z (14, 0, 0)) (z (15, 0, 0)) (z (12, 0, 0) 5) = aWr z (12, 0, 0) 2 0 := by
    have := pm_id (aWr z (12, 0, 0) 2 0)
    rw [aWr_ne2 (by decide), aWr_ne2 (by decide), aWr_j (by decide)] at this
    exact this
  rw [ez0] at st
  refine hB [7] 1000 _ _ _ _ _ ?_
  repeat' (first | exact st | refine And.intro ?_ ?_ | fail)
  all_goals first | omega | (exact rfl)
/-- a command performed -/
def pfQ (z : aM) (s : Int) (X : aCmd) : Option aV → aM → Prop := fun r z' => ∃ v : Int, r = some (.inl v) ∧ ((X.1 = 0 → (0 ≤ v ∧ v ≤ 1000) ∧ Sim z' s X.2.2) ∧ (X.1 ≠ 0 → -4 ≤ v ∧ v < 0)) ∧ fS s z z'
theorem pfQ.of {y : Nat} {as : List aV} {X : aCmd} {code : Int → Int} (h : sOp l g y d s as z X code) (hX : X.1 = 0 → 0 ≤ X.2.1 ∧ X.2.1 ≤ 1000) (hc : ∀ t, 1 ≤ t → t ≤ 3 → -4 ≤ code t ∧ code t < 0) (ht : 0 ≤ X.1 ∧ X.1 ≤ 3) : aM1 l g y d as z (pfQ z s X) := by
  refine h.mono (fun r s' z' q => ⟨q.1, ?_⟩) (fun _ _ _ q => q)
  obtain ⟨-, ⟨q1, q2⟩, q3⟩ := q
  by_cases e : X.1 = 0
  · exact ⟨X.2.1, (q1 e).1, ⟨fun _ => ⟨hX e, (q1 e).2⟩, fun n => absurd e n⟩, q3⟩
  · exact ⟨code X.1, q2 e, ⟨fun n => absurd n e, fun _ => hc _ (by omega) (by omega)⟩, q3⟩
theorem cd_B : (∀ t, 1 ≤ t → t ≤ 3 → -4 ≤ cdA t ∧ cdA t < 0) ∧ (∀ t, 1 ≤ t → t ≤ 3 → -4 ≤ cdG t ∧ cdG t < 0) ∧ (∀ t, 1 ≤ t → t ≤ 1 → -4 ≤ cdR t ∧ cdR t < 0) := by
  unfold cdA cdG cdR
  exact ⟨fun t _ _ => by omega, fun t _ _ => by omega, fun t _ _ => by omega⟩

theorem pfQ.of1 {y : Nat} {as : List aV} {X : aCmd} {code : Int → Int} (h : sOp l g y d s as z X code) (hX : X.1 = 0 → 0 ≤ X.2.1 ∧ X.2.1 ≤ 1000) (hc : ∀ t, 1 ≤ t → t ≤ 1 → -4 ≤ code t ∧ code t < 0) (ht : X.1 = 0 ∨ X.1 = 1) : aM1 l g y d as z (pfQ z s X) := by
  refine h.mono (fun r s' z' q => ⟨q.1, ?_⟩) (fun _ _ _ q => q)
  obtain ⟨-, ⟨q1, q2⟩, q3⟩ := q
  by_cases e : X.1 = 0
  · exact ⟨X.2.1, (q1 e).1, ⟨fun _ => ⟨hX e, (q1 e).2⟩, fun n => absurd e n⟩, q3⟩
  · exact ⟨code X.1, q2 e, ⟨fun n => absurd n e, fun _ => hc _ (by omega) (by omega)⟩, q3⟩
theorem cRun_t {a : Int → Int} : (cRun a).1 = 0 ∨ (cRun a).1 = 1 := by
  unfold cRun
  split
  · exact Or.inr rfl
  · exact Or.inl rfl
theorem cRetire_t {a : Int → Int} : (cRetire a).1 = 0 ∨ (cRetire a).1 = 1 := by
  unfold cRetire
  split
  · exact Or.inr rfl
  · exact Or.inl rfl
theorem cK_perform {j : Int} {c : Int → Int} (hd : 6 ≤ d) (h : Sim z s a) (hI : Inv a) (j0 : 0 ≤ j) (j1 : j ≤ 15) (hk : z (14, 0, 0) j = c 0) (ha : ∀ i, 1 ≤ i → i ≤ nAr.getD (c 0).toNat 0 → z (15, 0, 0) (5 * j + (i - 1)) = c i) (hr : cmR c) : aM1 l g nX3_perform d [.inr (.inr (.inl (12, 0, 0))), .inr (.inr (.inl (1, s, 0))), .inl j] z (pfQ z s (exC c a)) := by
  have hk9 : c 0 = 0 ∨ c 0 = 1 ∨ c 0 = 2 ∨ c 0 = 3 ∨ c 0 = 4 ∨ c 0 = 5 ∨ c 0 = 6 ∨ c 0 = 7 ∨ c 0 = 8 := by have := hr.1; omega
  have hv := exC_v (c := c) (a := a) hI
  have ht := exC_t (c := c) (a := a)
  have hr2 := hr.2
  rcases hk9 with k | k | k | k | k | k | k | k | k
  · rw [k] at ha hr2 hk
    have r1 := hr2 1 (by decide) (by decide)
    have v1 : z (15, 0, 0) (j * 5) = c 1 := by have := ha 1 (by decide) (by decide); rw [← this]; congr 1; omega
    have r2 := hr2 2 (by decide) (by decide)
    have v2 : z (15, 0, 0) (j * 5 + 1) = c 2 := by have := ha 2 (by decide) (by decide); rw [← this]; congr 1; omega
    have ex : exC c a = cStart (c 1) (c 2) a := by
      unfold exC
      rw [k]
      exact if_pos rfl
    rw [ex] at hv ht ⊢
    have cm := pfQ.of (cK_placeStart (l := l) (g := g) (d := d - 1) (by omega) h hI.1 (by unfold aIR; omega) (by unfold aIR; omega)) hv cd_B.1 ht
    rw [← v1, ← v2] at cm
    refine aM1_of kX3_perform rfl (fun B hB => ?_)
    refine hB [] 1000 _ _ _ _ _ ?_
    repeat' (first | (intro r1 z1 hz1; obtain ⟨v, rfl, hz2⟩ := hz1; refine ⟨rfl, v, rfl, ?_⟩; (try rw [v1, v2] at hz2); exact hz2) | refine And.intro ?_ ?_ | (intro hh; first | exact absurd hh (by decide) | exact absurd rfl hh | (exfalso; omega) | skip) | refine Or.inl (uA cm ?_) | fail)
    all_goals first | omega | (exact rfl) | (unfold aIR; omega) | fail "left"
  · rw [k] at ha hr2 hk
    have r1 := hr2 1 (by decide) (by decide)
    have v1 : z (15, 0, 0) (j * 5) = c 1 := by have := ha 1 (by decide) (by decide); rw [← this]; congr 1; omega
    have r2 := hr2 2 (by decide) (by decide)
    have v2 : z (15, 0, 0) (j * 5 + 1) = c 2 := by have := ha 2 (by decide) (by decide); rw [← this]; congr 1; omega
    have r3 := hr2 3 (by decide) (by decide)
    have v3 : z (15, 0, 0) (j * 5 + 2) = c 3 := by have := ha 3 (by decide) (by decide); rw [← this]; congr 1; omega
    have ex : exC c a = cLeg (c 1) (c 2) (c 3) a := by
      unfold exC
      rw [k]
      simp only [Int.reduceEq, if_false, if_true, reduceIte]
    rw [ex] at hv ht ⊢
    have cm := pfQ.of (cK_appendLeg (l := l) (g := g) (d := d - 1) (by omega) h hI.1 (by unfold aIR; omega) (by unfold aIR; omega) (by unfold aIR; omega)) hv cd_B.1 ht
    rw [← v1, ← v2, ← v3] at cm
    refine aM1_of kX3_perform rfl (fun B hB => ?_)
    refine hB [] 1000 _ _ _ _ _ ?_
    repeat' (first | (intro r1 z1 hz1; obtain ⟨v, rfl, hz2⟩ := hz1; refine ⟨rfl, v, rfl, ?_⟩; (try rw [v1, v2, v3] at hz2); exact hz2) | refine And.intro ?_ ?_ | (intro hh; first | exact absurd hh (by decide) | exact absurd rfl hh | (exfalso; omega) | skip) | refine Or.inl (uA cm ?_) | fail)
    all_goals first | omega | (exact rfl) | (unfold aIR; omega) | fail "left"
  · rw [k] at ha hr2 hk
    have r1 := hr2 1 (by decide) (by decide)
    have v1 : z (15, 0, 0) (j * 5) = c 1 := by have := ha 1 (by decide) (by decide); rw [← this]; congr 1; omega
    have r2 := hr2 2 (by decide) (by decide)
    have v2 : z (15, 0, 0) (j * 5 + 1) = c 2 := by have := ha 2 (by decide) (by decide); rw [← this]; congr 1; omega
    have r3 := hr2 3 (by decide) (by decide)
    have v3 : z (15, 0, 0) (j * 5 + 2) = c 3 := by have := ha 3 (by decide) (by decide); rw [← this]; congr 1; omega
    have r4 := hr2 4 (by decide) (by decide)
    have v4 : z (15, 0, 0) (j * 5 + 3) = c 4 := by have := ha 4 (by decide) (by decide); rw [← this]; congr 1; omega
    have r5 := hr2 5 (by decide) (by decide)
    have v5 : z (15, 0, 0) (j * 5 + 4) = c 5 := by have := ha 5 (by decide) (by decide); rw [← this]; congr 1; omega
    have ex : exC c a = cGate (c 1) (c 2) (c 3) (c 4) (c 5) a := by
      unfold exC
      rw [k]
      simp only [Int.reduceEq, if_false, if_true, reduceIte]
    rw [ex] at hv ht ⊢
    have cm := pfQ.of (cK_appendGate (l := l) (g := g) (d := d - 1) (by omega) h hI.1 (by unfold aIR; omega) (by unfold aIR; omega) (by unfold aIR; omega) (by unfold aIR; omega) (by unfold aIR; omega)) hv cd_B.2.1 ht
    rw [← v1, ← v2, ← v3, ← v4, ← v5] at cm
    refine aM1_of kX3_perform rfl (fun B hB => ?_)
    refine hB [] 1000 _ _ _ _ _ ?_
    repeat' (first | (intro r1 z1 hz1; obtain ⟨v, rfl, hz2⟩ := hz1; refine ⟨rfl, v, rfl, ?_⟩; (try rw [v1, v2, v3, v4, v5] at hz2); exact hz2) | refine And.intro ?_ ?_ | (intro hh; first | exact absurd hh (by decide) | exact absurd rfl hh | (exfalso; omega) | skip) | refine Or.inl (uA cm ?_) | fail)
    all_goals first | omega | (exact rfl) | (unfold aIR; omega) | fail "left"
  · rw [k] at ha hr2 hk
    have r1 := hr2 1 (by decide) (by decide)
    have v1 : z (15, 0, 0) (j * 5) = c 1 := by have := ha 1 (by decide) (by decide); rw [← this]; congr 1; omega
    have ex : exC c a = cSet 6 (c 1) 60 999 a := by
      unfold exC
      rw [k]
      simp only [Int.reduceEq, if_false, if_true, reduceIte]
    rw [ex] at hv ht ⊢
    have cm := pfQ.of (cK_changeTimeLimit (l := l) (g := g) (d := d - 1) (by omega) h hI.1 (by unfold aIR; omega)) hv cd_B.1 ht
    rw [← v1] at cm
    refine aM1_of kX3_perform rfl (fun B hB => ?_)
    refine hB [] 1000 _ _ _ _ _ ?_
    repeat' (first | (intro r1 z1 hz1; obtain ⟨v, rfl, hz2⟩ := hz1; refine ⟨rfl, v, rfl, ?_⟩; (try rw [v1] at hz2); exact hz2) | refine And.intro ?_ ?_ | (intro hh; first | exact absurd hh (by decide) | exact absurd rfl hh | (exfalso; omega) | skip) | refine Or.inl (uA cm ?_) | fail)
    all_goals first | omega | (exact rfl) | (unfold aIR; omega) | fail "left"
  · rw [k] at ha hr2 hk
    have r1 := hr2 1 (by decide) (by decide)
    have v1 : z (15, 0, 0) (j * 5) = c 1 := by have := ha 1 (by decide) (by decide); rw [← this]; congr 1; omega
    have ex : exC c a = cSet 5 (c 1) 1 20 a := by
      unfold exC
      rw [k]
      simp only [Int.reduceEq, if_false, if_true, reduceIte]
    rw [ex] at hv ht ⊢
    have cm := pfQ.of (cK_changeTolerance (l := l) (g := g) (d := d - 1) (by omega) h hI.1 (by unfold aIR; omega)) hv cd_B.1 ht
    rw [← v1] at cm
    refine aM1_of kX3_perform rfl (fun B hB => ?_)
    refine hB [] 1000 _ _ _ _ _ ?_
    repeat' (first | (intro r1 z1 hz1; obtain ⟨v, rfl, hz2⟩ := hz1; refine ⟨rfl, v, rfl, ?_⟩; (try rw [v1] at hz2); exact hz2) | refine And.intro ?_ ?_ | (intro hh; first | exact absurd hh (by decide) | exact absurd rfl hh | (exfalso; omega) | skip) | refine Or.inl (uA cm ?_) | fail)
    all_goals first | omega | (exact rfl) | (unfold aIR; omega) | fail "left"
  · rw [k] at ha hr2 hk
    have ex : exC c a = cRun a := by
      unfold exC
      rw [k]
      simp only [Int.reduceEq, if_false, if_true, reduceIte]
    rw [ex] at hv ht ⊢
    have cm := pfQ.of1 (cK_beginRun (l := l) (g := g) (d := d - 1) (by omega) h hI.1) hv cd_B.2.2 cRun_t
    refine aM1_of kX3_perform rfl (fun B hB => ?_)
    refine hB [] 1000 _ _ _ _ _ ?_
    repeat' (first | (intro r1 z1 hz1; obtain ⟨v, rfl, hz2⟩ := hz1; refine ⟨rfl, v, rfl, ?_⟩; exact hz2) | refine And.intro ?_ ?_ | (intro hh; first | exact absurd hh (by decide) | exact absurd rfl hh | (exfalso; omega) | skip) | refine Or.inl (uA cm ?_) | fail)
    all_goals first | omega | (exact rfl) | (unfold aIR; omega) | fail "left"
  · rw [k] at ha hr2 hk
    have r1 := hr2 1 (by decide) (by decide)
    have v1 : z (15, 0, 0) (j * 5) = c 1 := by have := ha 1 (by decide) (by decide); rw [← this]; congr 1; omega
    have r2 := hr2 2 (by decide) (by decide)
    have v2 : z (15, 0, 0) (j * 5 + 1) = c 2 := by have := ha 2 (by decide) (by decide); rw [← this]; congr 1; omega
    have r3 := hr2 3 (by decide) (by decide)
    have v3 : z (15, 0, 0) (j * 5 + 2) = c 3 := by have := ha 3 (by decide) (by decide); rw [← this]; congr 1; omega
    have ex : exC c a = cWalk (c 1) (c 2) (c 3) a := by
      unfold exC
      rw [k]
      simp only [Int.reduceEq, if_false, if_true, reduceIte]
    rw [ex] at hv ht ⊢
    have cm := pfQ.of (cK_makeStep (l := l) (g := g) (d := d - 1) (by omega) h hI (by unfold aIR; omega) (by unfold aIR; omega) (by unfold aIR; omega)) hv cd_B.1 ht
    rw [← v1, ← v2, ← v3] at cm
    refine aM1_of kX3_perform rfl (fun B hB => ?_)
    refine hB [] 1000 _ _ _ _ _ ?_
    repeat' (first | (intro r1 z1 hz1; obtain ⟨v, rfl, hz2⟩ := hz1; refine ⟨rfl, v, rfl, ?_⟩; (try rw [v1, v2, v3] at hz2); exact hz2) | refine And.intro ?_ ?_ | (intro hh; first | exact absurd hh (by decide) | exact absurd rfl hh | (exfalso; omega) | skip) | refine Or.inl (uA cm ?_) | fail)
    all_goals first | omega | (exact rfl) | (unfold aIR; omega) | fail "left"
  · rw [k] at ha hr2 hk
    have r1 := hr2 1 (by decide) (by decide)
    have v1 : z (15, 0, 0) (j * 5) = c 1 := by have := ha 1 (by decide) (by decide); rw [← this]; congr 1; omega
    have ex : exC c a = cFault (c 1) a := by
      unfold exC
      rw [k]
      simp only [Int.reduceEq, if_false, if_true, reduceIte]
    rw [ex] at hv ht ⊢
    have cm := pfQ.of (cK_deductFault (l := l) (g := g) (d := d - 1) (by omega) h hI.1 (by unfold aIR; omega)) hv cd_B.1 ht
    rw [← v1] at cm
    refine aM1_of kX3_perform rfl (fun B hB => ?_)
    refine hB [] 1000 _ _ _ _ _ ?_
    repeat' (first | (intro r1 z1 hz1; obtain ⟨v, rfl, hz2⟩ := hz1; refine ⟨rfl, v, rfl, ?_⟩; (try rw [v1] at hz2); exact hz2) | refine And.intro ?_ ?_ | (intro hh; first | exact absurd hh (by decide) | exact absurd rfl hh | (exfalso; omega) | skip) | refine Or.inl (uA cm ?_) | fail)
    all_goals first | omega | (exact rfl) | (unfold aIR; omega) | fail "left"
  · rw [k] at ha hr2 hk
    have ex : exC c a = cRetire a := by
      unfold exC
      rw [k]
      simp only [Int.reduceEq, if_false, if_true, reduceIte]
    rw [ex] at hv ht ⊢
    have cm := pfQ.of1 (cK_giveUpRun (l := l) (g := g) (d := d - 1) (by omega) h hI.1) hv cd_B.2.2 cRetire_t
    refine aM1_of kX3_perform rfl (fun B hB => ?_)
    refine hB [] 1000 _ _ _ _ _ ?_
    repeat' (first | (intro r1 z1 hz1; obtain ⟨v, rfl, hz2⟩ := hz1; refine ⟨rfl, v, rfl, ?_⟩; exact hz2) | refine And.intro ?_ ?_ | (intro hh; first | exact absurd hh (by decide) | exact absurd rfl hh | (exfalso; omega) | skip) | refine Or.inl (uA cm ?_) | fail)
    all_goals first | omega | (exact rfl) | (unfold aIR; omega) | fail "left"

theorem cK_performOn {m : Int} {cm : Int → Int → Int} (hs : 0 ≤ s) (hd : 7 ≤ d) (h : Sim z s a) (hI : Inv a) (hm : z (12, 0, 0) 2 = m) (m0 : 0 ≤ m) (m1 : m ≤ 16) (hc : cmG (z (14, 0, 0)) (z (15, 0, 0)) cm m) (hr : ∀ j, 0 ≤ j → j < m → cmR (cm j)) : aM1 l g nX3_performOn d [.inr (.inr (.inl (12, 0, 0))), .inr (.inr (.inl (1, s, 0)))] z (fun r z' => (((exA cm m.toNat 0 a).1 = 0 → r = some (.inl (-1)) ∧ Sim z' s (exA cm m.toNat 0 a).2.2) ∧ ((exA cm m.toNat 0 a).1 = 1 → r = some (.inl (exA cm m.toNat 0 a).2.1))) ∧ fS s z z') := by
  obtain ⟨X, eX⟩ : ∃ X, X = exA cm m.toNat 0 a := ⟨_, rfl⟩
  rw [← eX]
  refine aM1_of kX3_performOn rfl (fun B hB => ?_)
  have loop : ∀ (n : Nat) (j : Int) (z1 : aM) (b : Int → Int), j + (n : Int) = m → 0 ≤ j → Sim z1 s b → Inv b → fS s z z1 → exA cm n j b = X → B (none, 0, 0) z1 2 [some (.inr (.inr (.inl (12, 0, 0)))), some (.inr (.inr (.inl (1, s, 0)))), some (.inl j)] [] := by
    intro n
    induction n with
    | zero =>
      intro j z1 b hj j0 S1 I1 F1 e
      have e' : (0, j, b) = X := e
      have ej : j = m := by omega
      have z12 : z1 (12, 0, 0) = z (12, 0, 0) := F1 _ (by show ¬ ((1 ≤ 12 ∧ 12 ≤ 6) ∧ _); omega)
      have z122 : z1 (12, 0, 0) 2 = m := by rw [z12, hm]
      have fin : ((X.1 = 0 → (some (.inl (-1)) : Option aV) = some (.inl (-1)) ∧ Sim z1 s X.2.2) ∧ (X.1 = 1 → (some (.inl (-1)) : Option aV) = some (.inl X.2.1))) ∧ fS s z z1 := by
        rw [← e']; exact ⟨⟨fun _ => ⟨rfl, S1⟩, fun w => absurd w (by show ¬ ((0 : Int) = 1); decide)⟩, F1⟩
      refine hB [] 1000 _ _ _ _ _ ?_
      repeat' (first | exact ⟨rfl, fin⟩ | refine And.intro ?_ ?_ | (intro hh; first | exact absurd hh (by decide) | exact absurd rfl hh | (exfalso; omega) | skip) | fail)
      all_goals first | omega | (exact rfl)
    | succ n ih =>
      intro j z1 b hj j0 S1 I1 F1 e
      have z12 : z1 (12, 0, 0) = z (12, 0, 0) := F1 _ (by show ¬ ((1 ≤ 12 ∧ 12 ≤ 6) ∧ _); omega)
      have z14 : z1 (14, 0, 0) = z (14, 0, 0) := F1 _ (by show ¬ ((1 ≤ 14 ∧ 14 ≤ 6) ∧ _); omega)
      have z15 : z1 (15, 0, 0) = z (15, 0, 0) := F1 _ (by show ¬ ((1 ≤ 15 ∧ 15 ≤ 6) ∧ _); omega)
      have z122 : z1 (12, 0, 0) 2 = m := by rw [z12, hm]
      have cj := hc j j0 (by omega)
      have pf := cK_perform (l := l) (g := g) (d := d - 1) (z := z1) (s := s) (a := b) (j := j) (c := cm j) (by omega) S1 I1 j0 (by omega) (by rw [z14]; exact cj.1) (by rw [z15]; exact cj.2) (hr j j0 (by omega))
      have e' : (if (exC (cm j) b).1 = 0 then exA cm n (j + 1) (exC (cm j) b).2.2 else (1, j, b)) = X := e
      refine hB [2, 16] 1000 _ _ _ _ _ ?_
      refine And.intro ⟨⟨by omega, by omega⟩, ⟨by rw [z122]; omega, by rw [z122]; omega⟩⟩ (And.intro (fun hh => by exfalso; have : z1 (12, 0, 0) 2 ≤ j := hh; omega) (fun _ => ?_))
      refine And.intro ⟨⟨rfl, rfl⟩, by omega⟩ (Or.inl (uA pf ?_))
      intro r' z2 hq
      obtain ⟨v, rfl, ⟨q1, q2⟩, F2⟩ := hq
      show B (none, 0, 0) z2 16 [some (.inr (.inr (.inl (12, 0, 0)))), some (.inr (.inr (.inl (1, s, 0)))), some (.inl j)] [.inl v]
      by_cases ht : (exC (cm j) b).1 = 0
      · rw [if_pos ht] at e'
        obtain ⟨vb, S2⟩ := q1 ht
        have nx := ih (j + 1) z2 _ (by omega) (by omega) S2 (exC_I I1) (F1.tr F2) e'
        refine hB [2] 1000 _ _ _ _ _ ?_
        repeat' (first | exact nx | refine And.intro ?_ ?_ | (intro hh; first | exact absurd hh (by decide) | exact absurd rfl hh | (exfalso; omega) | skip) | fail)
        all_goals first | omega | (exact rfl)
      · rw [if_neg ht] at e'
        have vb := q2 ht
        have fin : ((X.1 = 0 → (some (.inl j) : Option aV) = some (.inl (-1)) ∧ Sim z2 s X.2.2) ∧ (X.1 = 1 → (some (.inl j) : Option aV) = some (.inl X.2.1))) ∧ fS s z z2 := by
          rw [← e']; exact ⟨⟨fun w => absurd w (by show ¬ ((1 : Int) = 0); decide), fun _ => rfl⟩, F1.tr F2⟩
        refine hB [] 1000 _ _ _ _ _ ?_
        repeat' (first | exact ⟨rfl, fin⟩ | refine And.intro ?_ ?_ | (intro hh; first | exact absurd hh (by decide) | exact absurd rfl hh | (exfalso; omega) | skip) | fail)
        all_goals first | omega | (exact rfl)
  have st := loop m.toNat 0 z a (by omega) (by omega) h hI (fS.rf s z) eX.symm
  refine hB [2] 1000 _ _ _ _ _ ?_
  repeat' (first | exact st | refine And.intro ?_ ?_ | fail)
  all_goals first | omega | (exact rfl)
end K11
