/-! WHEN EVERYTHING IS MADE (printed by wip/whole/cls28.py) -/
def rfB (p : aP) (k : Nat) : Bool := match aSh p with
  | .inl ci => decide ((aFl ci)[k]? = some 2)
  | .inr (ty, m) => decide ((ty = 2 ∨ ty = 3) ∧ (k : Int) < m)
theorem arrV_cgx {cA : ClassId} {n : Nat} {f f' : Nat → Value} (h : ∀ k, k < n → f k = f' k) : arrV cA n f = arrV cA n f' := by
  unfold arrV
  congr 1
  congr 1
  funext j
  exact h j.val j.isLt
theorem aCe_at {g : aG} {r : aP → Int → Bool} {n x : Nat} {z : aM} {p : aP} {H : Heap} (hp : aAll[aOff p]? = some p) (hm : ∀ k : Nat, k < 21 → rfB p k = true → r p (k : Int) = true) (h : va_at g.1 aCl (x, aCe g (some (n, r)) z p) H) : va_at g.1 aCl (x, aCe g none z p) H := by
  have hs := aSh_all _ (aOkp hp).1
  rw [(aOkp hp).2.1] at hs
  unfold aShb at hs
  unfold rfB at hm
  unfold aCe at h ⊢
  rcases hq : aSh p with ci | ⟨ty, m⟩
  · rw [hq] at h hs hm
    have e : (List.range (aFl ci).length).map (aFv g none z p ci) = (List.range (aFl ci).length).map (aFv g (some (n, r)) z p ci) := by
      apply List.map_congr_left
      intro k hk
      unfold aFv
      split
      · next w =>
        have k21 : k < 21 := Nat.lt_of_lt_of_le (List.mem_range.mp hk) (aFl_21 ci (of_decide_eq_true hs))
        have t := hm k k21 (decide_eq_true w)
        congr 1
        show some _ = if r p (k : Int) = true then some _ else none
        rw [if_pos t]
      · rfl
    dsimp only at h ⊢
    rw [e]
    exact h
  · rw [hq] at h hs hm
    have hs' := of_decide_eq_true hs
    have ht : ty = 0 ∨ ty = 1 ∨ ty = 2 ∨ ty = 3 ∨ ty = 4 ∨ ty = 5 := by omega
    have key : (ty = 2 ∨ ty = 3) → ∀ k, k < m.toNat → aRv g none p (k : Int) = aRv g (some (n, r)) p (k : Int) := by
      intro t k hk
      have t1 := hm k (by have := hs'.2.2.2 t; omega) (decide_eq_true ⟨t, by omega⟩)
      show some _ = if r p (k : Int) = true then some _ else none
      rw [if_pos t1]
    rcases ht with rfl | rfl | rfl | rfl | rfl | rfl
    · exact h
    · exact h
    · have h' : H[x]? = some (arrV (g.2.1 2) m.toNat (fun j => va_rf (aRv g (some (n, r)) p (j : Int)))) := h
      show H[x]? = some (arrV (g.2.1 2) m.toNat (fun j => va_rf (aRv g none p (j : Int))))
      rw [h']
      exact congrArg some (arrV_cgx (fun k hk => by show va_rf _ = va_rf _; rw [key (Or.inl rfl) k hk]))
    · have h' : H[x]? = some (arrV (g.2.1 3) m.toNat (fun j => va_rf (aRv g (some (n, r)) p (j : Int)))) := h
      show H[x]? = some (arrV (g.2.1 3) m.toNat (fun j => va_rf (aRv g none p (j : Int))))
      rw [h']
      exact congrArg some (arrV_cgx (fun k hk => by show va_rf _ = va_rf _; rw [key (Or.inr rfl) k hk]))
    · exact h
    · exact h
theorem aRep_none {g : aG} {r : aP → Int → Bool} {z : aM} {H : Heap} (h : aRep g (some (320, r)) z H) (hm : ∀ i : Nat, i < 320 → ∀ k : Nat, k < 21 → rfB (aAll.getD i (0, 0, 0)) k = true → r (aAll.getD i (0, 0, 0)) (k : Int) = true) : aRep g none z H := by
  obtain ⟨h1, h2, h3, h4, h5⟩ := h
  refine ⟨fun k q hq => ?_, h2, trivial, h4, h5⟩
  have hk : k < 320 := by
    have := (List.getElem?_eq_some_iff.mp hq).1
    rwa [aWs_len] at this
  have hk1 : k < aCnt none := hk
  have hk2 : k < aCnt (some (320, r)) := hk
  have hq' : q = (aBase g + k, aCe g none z (aAll.getD k (0, 0, 0))) := by
    simp only [aWs, List.getElem?_map, List.getElem?_range hk1, Option.map_some] at hq
    exact (Option.some.inj hq).symm
  have h6 := h1 k (aBase g + k, aCe g (some (320, r)) z (aAll.getD k (0, 0, 0))) (by simp only [aWs, List.getElem?_map, List.getElem?_range hk2, Option.map_some])
  rw [hq']
  exact aCe_at (by rw [(aAll_off k hk).1]; exact aAll_get hk) (hm k hk) h6
/-- a place of a walk when everything is made -/
theorem aBs_none {l : Launch} {g : aG} {f : aFr} {Q : Option aV → aSt → aM → Prop} {X : Nat → aSt → aM → Prop} {p : Program} {e : Env} {R : Room} {s : State} {m : MethodId} {args : Array Value} {below : List Frame} {meth : Method} {c : Code} {r : aP → Int → Bool} {n1 n2 pc : Nat} {z : aM} {ls : List (Option aV)} {st : List aV} (hm : ∀ i : Nat, i < 320 → ∀ k : Nat, k < 21 → rfB (aAll.getD i (0, 0, 0)) k = true → r (aAll.getD i (0, 0, 0)) (k : Int) = true) (h : aBs l g f Q X p e R s m args below meth c (none, n1, n2) z pc ls st) : aBs l g f Q X p e R s m args below meth c (some (320, r), n1, n2) z pc ls st := by
  intro a1 a2 a3 a4 H locs la hr hs hl
  have e : ∀ v, aLv (some (320, r)) v → aLv none v := fun v hv => hv
  exact h (fun v hv => e v (a1 v hv)) (fun v hv => e v (a2 v hv)) a3 a4 H locs la (aRep_none hr hm) hs hl

