/-! THE JVM KEEPS TO THE STEP: a call, as the walk sees it -/
theorem aLv_mono {s s' : aSt} {v : aV} (h : aCnt s ≤ aCnt s') (hv : aLv s v) : aLv s' v := by
  rcases v with v | v | v | v
  · trivial
  · trivial
  · rcases hv with hv | hv
    · exact Or.inl ⟨hv.1, Nat.lt_of_lt_of_le hv.2 h⟩
    · exact Or.inr hv
  · trivial
theorem sk_inv {l : Launch} {g : aG} {f : aFr} {y0 o : Nat} {Q : Option aV → aSt → aM → Prop} {X : Nat → aSt → aM → Prop} {p : Program} {e : Env} {R : Room} {s : State} {m : MethodId} {args : Array Value} {below : List Frame} {meth : Method} {c : Code} (hF : aFrm l g f y0 o p e R s m args below meth c) {pc i8 kd y t : Nat} {ins : Instr} {k : aK} {z : aM} {ls : List (Option aV)} {st : List aV} {K : aK → aM → Nat → List (Option aV) → List aV → Prop}
    (hq : (o, i8, kd, y) ∈ aPms) (hi : (kd = 0 ∧ ins = .invokevirtual i8 ∧ (parseMethodDescriptor (aMt y).1.desc).map (fun d => d.parameters.length + 1) = some t) ∨ ((kd = 1 ∨ kd = 5) ∧ ins = .invokestatic i8 ∧ (parseMethodDescriptor (aMt y).1.desc).map (fun d => d.parameters.length) = some t) ∨ ((kd = 3 ∨ kd = 4) ∧ ins = .invokespecial i8 ∧ (parseMethodDescriptor (aMt y).1.desc).map (fun d => d.parameters.length + 1) = some t))
    (hd : decode (aMt y0).2.1 pc = .ok (ins, 3)) (h : aInv l g f X kd pc y (pc + 3) t k z ls st K) (hK : ∀ k z pc ls st, K k z pc ls st → aBs l g f Q X p e R s m args below meth c k z pc ls st) : aBs l g f Q X p e R s m args below meth c k z pc ls st := by
  obtain ⟨⟨hx, hst, hb, hml, hown, hlk, hrt⟩, ⟨hKN, hbs, hold⟩, ⟨hex, hnm, hrk, hho, hhc⟩, hr1, hr2, hr3, hr4, hr5⟩ := hF
  obtain ⟨ws, rest, rfl, hwl, hc⟩ := aPop_s _ _ _ _ h
  rw [List.append_nil] at hc
  obtain ⟨as, rfl⟩ : ∃ as : List aV, ws = as.reverse := ⟨ws.reverse, by simp⟩
  rw [List.reverse_reverse] at hc
  rw [List.length_reverse] at hwl
  obtain ⟨⟨⟨hsm, hrc⟩, hd1⟩, halt⟩ := hc
  intro hs hl hbd hlen H locs la hR hS hL
  have hlvA : ∀ v ∈ as, aLv k.1 v := fun v hv => hs v (List.mem_append_left _ (List.mem_reverse.mpr hv))
  have hlvR : ∀ v ∈ rest, aLv k.1 v := fun v hv => hs v (List.mem_append_right _ hv)
  refine W.eq (g2 := F0 m pc la ((as.map (aC g)).reverse ++ rest.map (aC g))) (by rw [List.map_append, List.map_reverse]) ?_
  have hfr : f.1 - 1 + 1 ≤ R.frames := by omega
  have hlo : 500 * (f.1 - 1 + 1) ≤ R.locals := by rw [Nat.sub_add_cancel hd1]; exact hr4
  have back : ∀ (r : Option aV) (s' : aSt) (z' : aM) (H1 : Heap) (locs1 : List Loc) (u' v' : Nat), aCnt k.1 ≤ aCnt s' → (∀ v, r = some v → aLv s' v) → aPu r rest (fun st' => K (s', u', v') z' (pc + 3) ls st') → u' ≤ f.2.1 → v' ≤ f.2.2.1 → aRep g s' z' H1 → va_S (aA g) s.heap H1 locs1 → W p l e R s m args below meth c H1 locs1 u' v' (vx_MQ below (aQ g Q) (aX g X) args s f.2.1 f.2.2.1 (aA g)) (F0 m (pc + 3) la ((r.map (aC g)).toList ++ rest.map (aC g))) := by
    intro r s' z' H1 locs1 u' v' hcn hlr hpu hu hv hR1 hS1
    have h9 := hK _ _ _ _ _ (aPu_s hpu) (fun v hv => (List.mem_append.mp hv).elim (fun h => hlr v (by cases r with
      | none => cases h
      | some w => rw [show v = w from List.mem_singleton.mp h])) (fun h => aLv_mono hcn (hlvR v h))) (fun v hv => aLv_mono hcn (hl v hv)) ⟨hu, hv⟩ hlen H1 locs1 la hR1 hS1 hL
    cases r with
    | none => exact h9
    | some w => exact h9
  rcases halt with hA | ⟨hb1, hB⟩ | ⟨c', m', hb1, hC⟩
  · obtain ⟨a, hr⟩ := aRun (R := R) (locs := locs) (u := k.2.1) (v := k.2.2) (la := la) (rest := rest.map (aC g)) hx hb hown hKN hL.1 hq hi hwl hrc hd ⟨hst, hr5⟩ hA hlvA hR (aSm_w hsm) hfr hlo (Nat.le_trans hbd.1 hr2) (Nat.le_trans hbd.2 hr3)
    refine aGo hr hS (fun r s' z' H1 locs1 hlr hq9 hR1 hS1 => ?_) (fun x s' z' H1 locs1 q ce hx6 hX => hX.elim)
    obtain ⟨rfl, hpu⟩ := hq9
    exact W.cs rfl rfl (back r k.1 z' H1 locs1 k.2.1 k.2.2 (Nat.le_refl _) hlr hpu hbd.1 hbd.2 hR1 hS1)
  · obtain ⟨a, hr⟩ := aRun (R := R) (locs := locs) (u := k.2.1) (v := k.2.2) (la := la) (rest := rest.map (aC g)) hx hb hown hKN hL.1 hq hi hwl hrc hd ⟨hst, hr5⟩ hB hlvA hR (aSm_w hsm) hfr hlo (Nat.le_trans hb1.1 hr2) (Nat.le_trans hb1.2 hr3)
    refine aGo hr hS (fun r s' z' H1 locs1 hlr hq9 => hq9.elim) (fun x s' z' H1 locs1 q ce hx6 hX hR1 hS1 hce hcv hcl => ?_)
    obtain ⟨rfl, hX⟩ := hX
    have pass : ∀ zz ∈ f.2.2.2.2, ¬ ((zz.1 ≤ pc ∧ pc < zz.2.1) ∧ aCx zz.2.2.2 = x) → covers ⟨zz.1, zz.2.1, zz.2.2.1, zz.2.2.2⟩ pc = false ∨ (zz.2.2.2 ≠ 0 ∧ ∃ nm : String, (Cond.classLink (aRn o) zz.2.2.2 nm).before args s = true ∧ va_Nc (aEx.getD x "") nm s) := by
      intro zz hz hn
      by_cases hcv9 : zz.1 ≤ pc ∧ pc < zz.2.1
      · have hc6 := hhc zz hz
        obtain ⟨w1, w2, w3⟩ := aCxW hc6
        have ho8 : o = 8 := by
          rcases hho with h9 | h9
          · rw [h9] at hz; cases hz
          · exact h9
        subst ho8
        exact Or.inr ⟨w1, _, hKN.w w2 w3 args, hKN.2.2.2.2.2.2.2.2.1 x (aCx zz.2.2.2) hx6 hc6 (fun e => hn ⟨hcv9, e.symm⟩)⟩
      · refine Or.inl ?_
        simp only [covers]
        rcases Nat.lt_or_ge pc zz.1 with h9 | h9
        · simp [Nat.not_le.mpr h9]
        · have : ¬ pc < zz.2.1 := fun h8 => hcv9 ⟨h9, h8⟩
          simp [this]
    rcases aHnd_s _ hX with ⟨pre, a', b', h', c', suf, e1, e2, e3, e4⟩ | ⟨e1, e2⟩
    · have hmem : (a', b', h', c') ∈ f.2.2.2.2 := by rw [e1]; simp
      have hc6 := hhc _ hmem
      obtain ⟨w1, w2, w3⟩ := aCxW hc6
      have ho8 : o = 8 := by
        rcases hho with h9 | h9
        · rw [h9] at hmem; cases hmem
        · exact h9
      subst ho8
      have hcx : aCx c' = x := e3.2
      refine vx_catch (own := aRn 8) (name := aEx.getD x "") (E := aEx.getD x "") hown (tableOf pre) ⟨a', b', h', c'⟩ (tableOf suf) (by rw [hex, e1]; simp [tableOf]) (fun zz hz => ?_) ?_ w1 (by rw [← hcx]; exact hKN.w w2 w3 args) (hKN.w (aCstW hx6).1 (aCstW hx6).2 args) hce hcv hcl ?_
      · obtain ⟨z9, hz9, rfl⟩ := List.mem_map.mp hz
        exact pass z9 (by rw [e1]; exact List.mem_append_left _ hz9) (e2 z9 hz9)
      · simp only [covers]
        simp [e3.1.1, e3.1.2]
      · exact hK _ _ _ _ _ (e4 q) (fun v hv => by rw [List.mem_singleton.mp hv]; trivial) hl ⟨hb1.1, hb1.2⟩ hlen H1 locs1 la hR1 hS1 hL
    · refine vx_outP (own := aRn o) (E := aEx.getD x "") hown hlk (fun zz hz => ?_) hce hcv hcl (fun t ht hW => ⟨x, _, z', hx6, rfl, e2, by rw [ht]; exact hR1, hS1.F ht⟩) hS1.2.2 hb1.1 hb1.2
      rw [hex] at hz
      obtain ⟨z9, hz9, rfl⟩ := List.mem_map.mp hz
      exact pass z9 hz9 (e1 z9 hz9)
  · obtain ⟨a, hr⟩ := aRun (R := R) (locs := locs) (u := k.2.1) (v := k.2.2) (la := la) (rest := rest.map (aC g)) hx hb hown hKN hL.1 hq hi hwl hrc hd ⟨hst, hr5⟩ hC hlvA hR (aSm_w hsm) hfr hlo (Nat.le_trans hb1.1 hr2) (Nat.le_trans hb1.2 hr3)
    refine aGo hr hS (fun r s' z' H1 locs1 hlr hq9 hR1 hS1 => ?_) (fun x s' z' H1 locs1 q ce hx6 hX => hX.elim)
    exact back r s' z' H1 locs1 _ _ hq9.1 hlr hq9.2 hb1.1 hb1.2 hR1 hS1
