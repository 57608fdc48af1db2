/-! THE JVM KEEPS TO THE STEP: fields and arrays -/
theorem aKN.w {g : aG} {U : State} (h : aKN g U) {w : Cond} (hm : w ∈ lw_tbl) (ha : aWarm w = true) (args : Array Value) : w.before args U = true := by
  have hb := h.1 w hm ha
  by_cases hg : goodWord w = true
  · exact word_at (State.WarmedH.refl U) (good_of_word hg) hb
  · have ho : w.onTables = true := by
      unfold aWarm at ha
      rw [Bool.or_eq_true] at ha
      rcases ha with ha | ha
      · exact absurd ha hg
      · split at ha
        · rfl
        · rfl
        · rfl
        · cases ha
    exact va_tabs ho rfl hb
theorem aCl_at : ∀ ci : Nat, ci < 8 → aCl[ci]? = some (aRn ci, aTX ci, (aFl ci).length)
  | 0, _ => rfl
  | 1, _ => rfl
  | 2, _ => rfl
  | 3, _ => rfl
  | 4, _ => rfl
  | 5, _ => rfl
  | 6, _ => rfl
  | 7, _ => rfl
  | n + 8, h => absurd h (by omega)
theorem aLays {l : List Cond} {ps : List Nat} (h1 : l = ps.filterMap (fun i => lw_tbl[i]?)) (h2 : l.all aWarm = true) : ∀ w ∈ l, w ∈ lw_tbl ∧ aWarm w = true := by
  intro w hw
  refine ⟨?_, List.all_eq_true.mp h2 w hw⟩
  rw [h1] at hw
  obtain ⟨i, -, hi⟩ := List.mem_filterMap.mp hw
  exact List.mem_of_getElem? hi
theorem aUws : ∀ ci : Nat, ci < 8 → ∀ w ∈ u_ws (aRn ci) (aTX ci) (aFl ci).length, w ∈ lw_tbl ∧ aWarm w = true
  | 0, _ => aLays aInX0_at aInX0_ok
  | 1, _ => aLays aInX1_at aInX1_ok
  | 2, _ => aLays aInX2_at aInX2_ok
  | 3, _ => aLays aInX3_at aInX3_ok
  | 4, _ => aLays aInX4_at aInX4_ok
  | 5, _ => aLays aInX5_at aInX5_ok
  | 6, _ => aLays aInX6_at aInX6_ok
  | 7, _ => aLays aInX7_at aInX7_ok
  | n + 8, h => absurd h (by omega)
theorem aTy_ok : ∀ ci : Nat, ci < 8 → ∀ k, k < (aFl ci).length → parseFieldDescriptor (aTX ci k).2.2.1 = some (aTy ci k)
  | 0, _ => tyX0_ok
  | 1, _ => tyX1_ok
  | 2, _ => tyX2_ok
  | 3, _ => tyX3_ok
  | 4, _ => tyX4_ok
  | 5, _ => tyX5_ok
  | 6, _ => tyX6_ok
  | 7, _ => tyX7_ok
  | n + 8, h => absurd h (by omega)
theorem aNm_ok : ∀ ci : Nat, ci < 8 → ∀ a, a < (aFl ci).length → ∀ b, b < (aFl ci).length → a ≠ b → (aTX ci a).2.1 ≠ (aTX ci b).2.1
  | 0, _ => nmX0
  | 1, _ => nmX1
  | 2, _ => nmX2
  | 3, _ => nmX3
  | 4, _ => nmX4
  | 5, _ => nmX5
  | 6, _ => nmX6
  | 7, _ => nmX7
  | n + 8, h => absurd h (by omega)
theorem aPf_w {q : Nat × Nat × Nat × Nat} (h : q ∈ aPfs) : aPfW q ∈ lw_tbl ∧ aWarm (aPfW q) = true ∧ q.2.2.2 < (aFl q.2.2.1).length ∧ q.2.2.1 < 8 := by
  have h1 := List.all_eq_true.mp aPfs_ok q h
  simp only [Bool.and_eq_true, decide_eq_true_eq] at h1
  refine ⟨?_, h1.1.1, h1.1.2, h1.2⟩
  have h2 : aPfW q ∈ aPfs.map aPfW := List.mem_map_of_mem h
  rw [aPfs_at] at h2
  obtain ⟨i, -, hi⟩ := List.mem_filterMap.mp h2
  exact List.mem_of_getElem? hi
theorem aLp_in {s : aSt} {p : aP} (h : aLp s p) (hk : aSh p ≠ .inr (9, 0)) : aAll[aOff p]? = some p ∧ aOff p < aCnt s := by
  rcases h with h | h | h
  · exact h
  · exact absurd (by obtain ⟨a, b, c⟩ := p; cases h.1; rfl) hk
  · exact absurd (by obtain ⟨a, b, c⟩ := p; cases h; rfl) hk
theorem aTy_k : ∀ ci : Nat, ci < 8 → ∀ k : Nat, k < 21 → ((aFl ci)[k]? = some 0 → aTy ci k = .int) ∧ ((aFl ci)[k]? = some 1 → aTy ci k = .boolean) ∧ ((aFl ci)[k]? = some 2 → refKind (aTy ci k) = true) := by decide +kernel
theorem aFl_21 : ∀ ci : Nat, ci < 8 → (aFl ci).length ≤ 21 := by decide +kernel
def aRfb (p : aP) (k : Nat) : Bool := match aSh p with
  | .inl ci => decide ((aFl ci)[k]? = some 2 → aAll[aOff (aRf p (k : Int))]? = some (aRf p (k : Int)))
  | .inr (ty, m) => decide ((ty = 2 ∨ ty = 3) → (k : Int) < m → aAll[aOff (aRf p (k : Int))]? = some (aRf p (k : Int)))
theorem aRf_all : ∀ i : Nat, i < 320 → ∀ k : Nat, k < 21 → aRfb (aAll.getD i (0, 0, 0)) k = true := by decide +kernel
def aShb (p : aP) : Bool := match aSh p with
  | .inl ci => decide (ci < 8)
  | .inr (ty, m) => decide (ty < 6 ∧ 0 ≤ m ∧ m ≤ 2000 ∧ ((ty = 2 ∨ ty = 3) → m ≤ 8))
theorem aSh_all : ∀ i : Nat, i < 320 → aShb (aAll.getD i (0, 0, 0)) = true := by decide +kernel
theorem aSh_o {p : aP} {ci : Nat} (hp : aAll[aOff p]? = some p) (hs : aSh p = .inl ci) : ci < 8 := by
  have h := aSh_all _ (aOkp hp).1
  rw [(aOkp hp).2.1] at h
  unfold aShb at h
  rw [hs] at h
  exact of_decide_eq_true h
theorem aSh_r {p : aP} {ty : Nat} {m : Int} (hp : aAll[aOff p]? = some p) (hs : aSh p = .inr (ty, m)) : ty < 6 ∧ 0 ≤ m ∧ m ≤ 2000 ∧ ((ty = 2 ∨ ty = 3) → m ≤ 8) := by
  have h := aSh_all _ (aOkp hp).1
  rw [(aOkp hp).2.1] at h
  unfold aShb at h
  rw [hs] at h
  exact of_decide_eq_true h
theorem aRef_lv {s : aSt} {p : aP} {ci b : Nat} (hp : aAll[aOff p]? = some p) (hs : aSh p = .inl ci) (hb : (aFl ci)[b]? = some 2) (hc : s = none ∨ aOff (aRf p (b : Int)) < aCnt s) : aLp s (aRf p (b : Int)) := by
  obtain ⟨h1, h2, h3⟩ := aOkp hp
  have hb21 : b < 21 := Nat.lt_of_lt_of_le (List.getElem?_eq_some_iff.mp hb).1 (aFl_21 ci (aSh_o hp hs))
  have h4 := aRf_all _ h1 b hb21
  rw [h2] at h4
  unfold aRfb at h4
  rw [hs] at h4
  have h5 := of_decide_eq_true h4 hb
  rcases hc with rfl | hc
  · exact Or.inl ⟨h5, (aOkp h5).1⟩
  · exact Or.inl ⟨h5, hc⟩
theorem aRefA_lv {s : aSt} {p : aP} {ty : Nat} {m i : Int} (hp : aAll[aOff p]? = some p) (hs : aSh p = .inr (ty, m)) (ht : ty = 2 ∨ ty = 3) (h0 : 0 ≤ i) (hi : i < m) (hc : s = none ∨ aOff (aRf p i) < aCnt s) : aLp s (aRf p i) := by
  obtain ⟨h1, h2, h3⟩ := aOkp hp
  have hci := aSh_r hp hs
  obtain ⟨b, rfl⟩ := Int.eq_ofNat_of_zero_le h0
  have h4 := aRf_all _ h1 b (by have := hci.2.2.2 ht; omega)
  rw [h2] at h4
  unfold aRfb at h4
  rw [hs] at h4
  have h5 := of_decide_eq_true h4 ht hi
  rcases hc with rfl | hc
  · exact Or.inl ⟨h5, (aOkp h5).1⟩
  · exact Or.inl ⟨h5, hc⟩
theorem aAd_A {g : aG} {p : aP} (hp : aAll[aOff p]? = some p) : aA g (aAd g p) := by
  show aBase g ≤ aAd g p
  rw [aAd_of (aOkp hp).2.2]
  omega
theorem aRep_cnt {g : aG} {s : aSt} {z : aM} {H : Heap} (h : aRep g s z H) : aCnt s ≤ 320 := by
  rcases s with _ | ⟨n, r⟩
  · exact Nat.le_refl _
  · exact h.2.2.1.2
/-- memory and heap after one thing has changed -/
theorem aRep.put {g : aG} {s s' : aSt} {z z' : aM} {H H1 : Heap} {p : aP} (hR : aRep g s z H) (hp : aAll[aOff p]? = some p) (hc : aOff p < aCnt s) (hs : s' = s ∨ ∃ n r r', s = some (n, r) ∧ s' = some (n, r'))
    (hsz : H1.size = H.size) (hq : ∀ q : Nat, q ≠ aAd g p → H1[q]? = H[q]?) (he : va_at g.1 aCl (aAd g p, aCe g s' z' p) H1) (ho : ∀ q : aP, q ≠ p → aCe g s' z' q = aCe g s z q) (h31 : ∀ j, z' (31, 0, 0) j = z (31, 0, 0) j) : aRep g s' z' H1 := by
  have hcs : aCnt s' = aCnt s := by
    rcases hs with rfl | ⟨n, r, r', rfl, rfl⟩
    · rfl
    · rfl
  obtain ⟨h1, h2, h3, h4, h5⟩ := id hR
  refine ⟨?_, fun q hq2 => ?_, ?_, by rw [hsz]; exact h4, by obtain ⟨scr, a1, a2, a3⟩ := h5; exact ⟨scr, a1, a2, fun j hj => by rw [h31]; exact a3 j hj⟩⟩
  · rw [← aWs_set (z' := z') (s' := s') hp hc (aRep_cnt hR) hcs rfl ho]
    exact h1.set aWs_D (aWs_at hp hc) he hq
  · rw [hq q (fun e => ?_), h2 q hq2]
    have := aAd_A (g := g) hp
    rw [← e] at this
    exact absurd this (Nat.not_le.mpr hq2)
  · rcases hs with rfl | ⟨n, r, r', rfl, rfl⟩
    · rcases s' with _ | ⟨n, r⟩
      · trivial
      · exact ⟨by rw [hsz]; exact h3.1, h3.2⟩
    · exact ⟨by rw [hsz]; exact h3.1, h3.2⟩
