/-! the walk's memory and the machine's heap -/
theorem aAll_len : aAll.length = 320 := by decide +kernel
theorem aAll_off : ∀ i : Nat, i < 320 → aOff (aAll.getD i (0, 0, 0)) = i ∧ (aAll.getD i (0, 0, 0)).1 < 20 := by decide +kernel
theorem aAll_get {i : Nat} (h : i < 320) : aAll[i]? = some (aAll.getD i (0, 0, 0)) := by
  have h1 : i < aAll.length := by rw [aAll_len]; exact h
  rw [List.getD_eq_getElem?_getD, List.getElem?_eq_getElem h1]
  rfl
theorem aOkp {p : aP} (h : aAll[aOff p]? = some p) : aOff p < 320 ∧ aAll.getD (aOff p) (0, 0, 0) = p ∧ p.1 < 20 := by
  have h1 : aOff p < aAll.length := (List.getElem?_eq_some_iff.mp h).1
  rw [aAll_len] at h1
  have h2 := aAll_get h1
  have h3 : aAll.getD (aOff p) (0, 0, 0) = p := Option.some.inj (h2.symm.trans h)
  exact ⟨h1, h3, by have := (aAll_off _ h1).2; rw [h3] at this; exact this⟩
theorem aAd_of {g : aG} {p : aP} (h : p.1 < 20) : aAd g p = aBase g + aOff p := by
  unfold aAd
  split
  · next q => omega
  · next q => omega
  · rfl
theorem aWs_len (g : aG) (s : aSt) (z : aM) : (aWs g s z).length = aCnt s := by simp [aWs]
theorem aWs_at {g : aG} {s : aSt} {z : aM} {p : aP} (h : aAll[aOff p]? = some p) (hc : aOff p < aCnt s) : (aWs g s z)[aOff p]? = some (aAd g p, aCe g s z p) := by
  obtain ⟨h1, h2, h3⟩ := aOkp h
  simp only [aWs, List.getElem?_map, List.getElem?_range hc, Option.map_some, h2, aAd_of h3]
theorem aWs_D {g : aG} {s : aSt} {z : aM} : va_D (aA g) (aWs g s z) := by
  have key : ∀ (k : Nat) (q : Nat × va_E), (aWs g s z)[k]? = some q → q.1 = aBase g + k := by
    intro k q h
    have hk : k < aCnt s := by
      have := (List.getElem?_eq_some_iff.mp h).1
      rwa [aWs_len] at this
    simp only [aWs, List.getElem?_map, List.getElem?_range hk, Option.map_some] at h
    cases h
    rfl
  refine ⟨fun i j p q h1 h2 h3 => ?_, fun k q h => ?_⟩
  · have a := key i p h1
    have b := key j q h2
    omega
  · have a := key k q h
    show aBase g ≤ q.1
    omega
/-- memory that differs at one thing alone -/
theorem aWs_set {g : aG} {s s' : aSt} {z z' : aM} {p : aP} {e : va_E} (h : aAll[aOff p]? = some p) (hc : aOff p < aCnt s) (hm : aCnt s ≤ 320) (hs : aCnt s' = aCnt s) (he : e = aCe g s' z' p) (ho : ∀ q : aP, q ≠ p → aCe g s' z' q = aCe g s z q) : (aWs g s z).set (aOff p) (aAd g p, e) = aWs g s' z' := by
  obtain ⟨h1, h2, h3⟩ := aOkp h
  apply List.ext_getElem?
  intro i
  by_cases hi : i = aOff p
  · subst hi
    rw [List.getElem?_set_self (by rw [aWs_len]; exact hc), aWs_at h (by rw [hs]; exact hc), he]
  · rw [List.getElem?_set_ne (fun q => hi q.symm)]
    by_cases hk : i < aCnt s
    · simp only [aWs, List.getElem?_map, hs, List.getElem?_range hk, Option.map_some]
      congr 2
      by_cases hq : i < 320
      · refine (ho _ (fun q => hi ?_)).symm
        rw [← q]
        exact ((aAll_off i hq).1).symm
      · omega
    · rw [List.getElem?_eq_none (by rw [aWs_len]; omega), List.getElem?_eq_none (by rw [aWs_len, hs]; omega)]
theorem aFl_le : ∀ ci : Nat, ∀ k : Nat, (aFl ci)[k]? ≠ none → k < (aFl ci).length := fun ci k h => by
  rcases Nat.lt_or_ge k (aFl ci).length with q | q
  · exact q
  · exact absurd (List.getElem?_eq_none q) h
theorem aFs_at {g : aG} {s : aSt} {z : aM} {p : aP} {ci k : Nat} (hk : k < (aFl ci).length) : ((List.range (aFl ci).length).map (aFv g s z p ci))[k]? = some (aFv g s z p ci k) := by
  simp only [List.getElem?_map, List.getElem?_range hk, Option.map_some]
theorem aFs_set {g : aG} {s s' : aSt} {z z' : aM} {p : aP} {ci k : Nat} {v : Value} (hv : v = aFv g s' z' p ci k) (ho : ∀ j, j ≠ k → aFv g s' z' p ci j = aFv g s z p ci j) : ((List.range (aFl ci).length).map (aFv g s z p ci)).set k v = (List.range (aFl ci).length).map (aFv g s' z' p ci) := by
  apply List.ext_getElem?
  intro j
  by_cases hj : j < (aFl ci).length
  · rw [List.getElem?_map, List.getElem?_range hj, Option.map_some]
    by_cases e : j = k
    · subst e
      rw [List.getElem?_set_self (by simpa using hj), hv]
    · rw [List.getElem?_set_ne (fun q => e q.symm), List.getElem?_map, List.getElem?_range hj, Option.map_some, ho j e]
  · rw [List.getElem?_eq_none (by simpa using hj), List.getElem?_eq_none (by simpa using hj)]
theorem aWr_ne {z : aM} {p q : aP} {k x j : Int} (h : q ≠ p) : aWr z p k x q j = z q j := by
  unfold aWr
  rw [if_neg (fun w => h w.1)]
theorem aWr_at {z : aM} {p : aP} {k x : Int} : aWr z p k x p k = x := by
  unfold aWr
  rw [if_pos ⟨rfl, rfl⟩]
theorem aWr_nk {z : aM} {p q : aP} {k x j : Int} (h : j ≠ k) : aWr z p k x q j = z q j := by
  unfold aWr
  rw [if_neg (fun w => h w.2)]
theorem aRv_eq {g : aG} {s : aSt} {p : aP} {k : Int} (h : match s with
    | none => True
    | some (_, r) => r p k = true) : aRv g s p k = some (aAd g (aRf p k)) := by
  unfold aRv
  cases s with
  | none => rfl
  | some q => exact if_pos h
theorem aCe_ne {g : aG} {s : aSt} {z z' : aM} {q : aP} (h : ∀ j, z' q j = z q j) : aCe g s z' q = aCe g s z q := by
  have : z' q = z q := funext h
  unfold aCe aFv aAr
  rw [this]
