/-! THE JVM KEEPS TO THE STEP: the texts' methods, as the walk sees them -/
set_option maxRecDepth 100000 in
theorem aPms_str : aPms.all (fun q => (!(Nat.beq q.2.2.1 9) || (Nat.beq q.1 3 && Nat.beq q.2.1 68)) && (!(Nat.beq q.2.2.1 10) || (Nat.beq q.1 3 && Nat.beq q.2.1 73))) = true := by decide +kernel
theorem aPms_9 {o i8 b : Nat} (h : (o, i8, 9, b) ∈ aPms) : o = 3 ∧ i8 = 68 := by
  have h1 := List.all_eq_true.mp aPms_str _ h
  simp at h1
  exact h1.1
theorem aPms_10 {o i8 b : Nat} (h : (o, i8, 10, b) ∈ aPms) : o = 3 ∧ i8 = 73 := by
  have h1 := List.all_eq_true.mp aPms_str _ h
  simp at h1
  exact h1.2
theorem aLp_30 {s : aSt} {q : aP} (h : aLp s q) (hq : q.1 = 30) : q.2.1.toNat < 9 := by
  rcases h with h | h | h
  · have := (aOkp h.1).2.2
    omega
  · exact h.2
  · omega
theorem aAd_30 {g : aG} {q : aP} (hq : q.1 = 30) : aAd g q = g.2.2.1 q.2.1.toNat := by
  obtain ⟨a, b, c⟩ := q
  cases hq
  rfl
theorem jLs_at : ∀ i : Nat, i < 9 → jLs.getD i 0 = (aPtc.getD i []).length := by decide +kernel

theorem sk_slen {l : Launch} {g : aG} {f : aFr} {y0 o : Nat} {Q : Option aV → aSt → aM → Prop} {X : Nat → aSt → aM → Prop} {p : Program} {e : Env} {R : Room} {s : State} {m : MethodId} {args : Array Value} {below : List Frame} {meth : Method} {c : Code} (hF : aFrm l g f y0 o p e R s m args below meth c) {pc i8 b : Nat} {k : aK} {z : aM} {ls : List (Option aV)} {st : List aV} {K : aK → aM → Nat → List (Option aV) → List aV → Prop}
    (hq : (o, i8, 9, b) ∈ aPms) (hd : decode (aMt y0).2.1 pc = .ok (.invokevirtual i8, 3)) (h : aPrim f 9 (pc + 3) k z ls st K) (hK : ∀ k z pc ls st, K k z pc ls st → aBs l g f Q X p e R s m args below meth c k z pc ls st) : aBs l g f Q X p e R s m args below meth c k z pc ls st := by
  obtain ⟨⟨hx, hst, hb, hml, hown, hlk, hrt⟩, ⟨hKN, hbs, hold⟩, ⟨hex, hnm, hrk, hho, hhc⟩, hr1, hr2, hr3, hr4, hr5⟩ := hF
  obtain ⟨rfl, rfl⟩ := aPms_9 hq
  rcases st with _ | ⟨q1, st⟩
  · exact False.elim h
  rcases q1 with q1 | q1 | q1 | q1
  · exact False.elim h
  · exact False.elim h
  · obtain ⟨⟨h30, hsm, hd4⟩, h9⟩ := h
    intro hs hl hbd hlen H locs la hR hS hL
    have hi := aLp_30 (hs (.inr (.inr (.inl q1))) List.mem_cons_self) h30
    refine W.eq (g2 := F0 m pc la (([] : List Value).reverse ++ .ref (g.2.2.1 q1.2.1.toNat) :: st.map (aC g))) (by simp [aC, aAd_30 h30]) ?_
    have hT := (hKN.2.2.2.2.2.2.2.2.2.1.1.kept (fun q h1 h2 => hold q h1))
    refine jCallV (n := 0) (own := RX3) (jLen_ct (l := l) (g := g) hi) hx hb hown hL.1 hKN ⟨hR.2.2.2.1, hR.2.1⟩ ⟨⟨jW hKN _ 0 rfl, jW hKN _ 2 rfl⟩, ⟨jW hKN _ 3 rfl, jW hKN _ 20 rfl⟩, jW hKN _ 4 rfl⟩ (by decide) (by decide +kernel) rfl (vk_recv hT hi hS) (aSm_w hsm) hd (by omega) (by show 8 + (1 + 11) + 100 * 1 ≤ R.locals; omega) ⟨Nat.le_trans hbd.1 hr2, Nat.le_trans hbd.2 hr3⟩ ?_
    rw [jLs_at _ hi]
    exact hK _ _ _ _ _ h9 (aLv_c (w := .inl ((aPtc.getD q1.2.1.toNat []).length : Int)) trivial (aLv_tl hs)) hl hbd hlen H locs la hR hS hL
  · exact False.elim h

theorem sk_sat {l : Launch} {g : aG} {f : aFr} {y0 o : Nat} {Q : Option aV → aSt → aM → Prop} {X : Nat → aSt → aM → Prop} {p : Program} {e : Env} {R : Room} {s : State} {m : MethodId} {args : Array Value} {below : List Frame} {meth : Method} {c : Code} (hF : aFrm l g f y0 o p e R s m args below meth c) {pc i8 b : Nat} {k : aK} {z : aM} {ls : List (Option aV)} {st : List aV} {K : aK → aM → Nat → List (Option aV) → List aV → Prop}
    (hq : (o, i8, 10, b) ∈ aPms) (hd : decode (aMt y0).2.1 pc = .ok (.invokevirtual i8, 3)) (h : aPrim f 10 (pc + 3) k z ls st K) (hK : ∀ k z pc ls st, K k z pc ls st → aBs l g f Q X p e R s m args below meth c k z pc ls st) : aBs l g f Q X p e R s m args below meth c k z pc ls st := by
  obtain ⟨⟨hx, hst, hb, hml, hown, hlk, hrt⟩, ⟨hKN, hbs, hold⟩, ⟨hex, hnm, hrk, hho, hhc⟩, hr1, hr2, hr3, hr4, hr5⟩ := hF
  obtain ⟨rfl, rfl⟩ := aPms_10 hq
  rcases st with _ | ⟨x1, st⟩
  · exact False.elim h
  rcases x1 with x1 | x1 | x1 | x1
  · rcases st with _ | ⟨q1, st⟩
    · exact False.elim h
    rcases q1 with q1 | q1 | q1 | q1
    · exact False.elim h
    · exact False.elim h
    · obtain ⟨⟨⟨h30, hsm, hd4⟩, hx0, hx1⟩, h9⟩ := h
      intro hs hl hbd hlen H locs la hR hS hL
      have hi := aLp_30 (hs (.inr (.inr (.inl q1))) (by simp)) h30
      refine W.eq (g2 := F0 m pc la (([.int (iZ x1)] : List Value).reverse ++ .ref (g.2.2.1 q1.2.1.toNat) :: st.map (aC g))) (by simp [aC, aAd_30 h30]) ?_
      have hT := (hKN.2.2.2.2.2.2.2.2.2.1.1.kept (fun q h1 h2 => hold q h1))
      refine jCallV (n := 1) (own := RX3) (jCh_ct (l := l) (g := g) (x := x1) hi hx0 (by rw [jLs_at _ hi]; exact hx1)) hx hb hown hL.1 hKN ⟨hR.2.2.2.1, hR.2.1⟩ ⟨⟨jW hKN _ 1 rfl, jW hKN _ 5 rfl⟩, ⟨jW hKN _ 6 rfl, jW hKN _ 20 rfl⟩, jW hKN _ 7 rfl⟩ (by decide) (by decide +kernel) rfl (vk_recv hT hi hS) (aSm_w hsm) hd (by omega) (by show 8 + (2 + 11) + 100 * 3 ≤ R.locals; omega) ⟨Nat.le_trans hbd.1 hr2, Nat.le_trans hbd.2 hr3⟩ ?_
      exact hK _ _ _ _ _ h9 (aLv_c (w := .inl ((aPtc.getD q1.2.1.toNat []).getD x1.toNat 0)) trivial (aLv_tl (aLv_tl hs))) hl hbd hlen H locs la hR hS hL
    · exact False.elim h
  · exact False.elim h
  · exact False.elim h
  · exact False.elim h

