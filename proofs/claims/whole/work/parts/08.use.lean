/-! HOW CONTRACTS ARE USED -/
theorem aCt.mono {l : Launch} {g : aG} {y d mc ms : Nat} {s : aSt} {as : List aV} {z : aM} {Q Q' : Option aV → aSt → aM → Prop} {X X' : Nat → aSt → aM → Prop} (h : aCt l g y d mc ms s as z Q X) (hQ : ∀ r s' z', Q r s' z' → Q' r s' z') (hX : ∀ x s' z', X x s' z' → X' x s' z') : aCt l g y d mc ms s as z Q' X' := by
  intro hlg hlv p e ha hc hk s0 m args below hf hap hP hT
  obtain ⟨t, o, a1, a2, a3, a4⟩ := h hlg hlv p e ha hc hk s0 m args below hf hap hP hT
  refine ⟨t, o, a1, a2, a3, ?_⟩
  rcases a4 with ⟨⟨r, s', z', b1, b2, b3, b4⟩, b5⟩ | ⟨q, b1, E, ce, L, ⟨x, s', z', c1, c2, c3, c4⟩, b2⟩
  · exact Or.inl ⟨⟨r, s', z', b1, b2, hQ _ _ _ b3, b4⟩, b5⟩
  · exact Or.inr ⟨q, b1, E, ce, L, ⟨x, s', z', c1, c2, hX _ _ _ c3, c4⟩, b2⟩
/-- a method that makes nothing and throws nothing, called when everything is made: its answer and the memory -/
def aM1 (l : Launch) (g : aG) (y d : Nat) (as : List aV) (z : aM) (Q : Option aV → aM → Prop) : Prop := aCt l g y d 0 0 none as z (fun r s' z' => s' = none ∧ Q r z') (fun _ _ _ => False)
/-- .. that throws -/
def aMX (l : Launch) (g : aG) (y d : Nat) (as : List aV) (z : aM) (X : Nat → aM → Prop) : Prop := aCt l g y d 1 6 none as z (fun _ _ _ => False) (fun x s' z' => s' = none ∧ X x z')
theorem aM1_of {l : Launch} {g : aG} {y o d : Nat} {as : List aV} {z : aM} {Q : Option aV → aM → Prop} {T : aT} {nL rk : Nat} {hh : List (Nat × Nat × Nat × Nat)} (hT : aTk y o T nL rk hh) (hn : Nat.ble (aSz as) nL = true)
    (h : ∀ B : aK → aM → Nat → List (Option aV) → List aV → Prop, (∀ (cs : List Nat) (n : Nat) (k : aK) (z : aM) (pc : Nat) (ls : List (Option aV)) (st : List aV), wp l g (d, 0, 0, rk, hh) (fun r s' z' => s' = none ∧ Q r z') (fun _ _ _ => False) T cs B n k z pc ls st → B k z pc ls st) → aFo (aEn as nL) (fun ls => B (none, 0, 0) z 0 ls [])) : aM1 l g y d as z Q := aCt_of hT (Nat.le_of_ble_eq_true hn) h
theorem aMX_of {l : Launch} {g : aG} {y o d : Nat} {as : List aV} {z : aM} {X : Nat → aM → Prop} {T : aT} {nL rk : Nat} {hh : List (Nat × Nat × Nat × Nat)} (hT : aTk y o T nL rk hh) (hn : Nat.ble (aSz as) nL = true)
    (h : ∀ B : aK → aM → Nat → List (Option aV) → List aV → Prop, (∀ (cs : List Nat) (n : Nat) (k : aK) (z : aM) (pc : Nat) (ls : List (Option aV)) (st : List aV), wp l g (d, 1, 6, rk, hh) (fun _ _ _ => False) (fun x s' z' => s' = none ∧ X x z') T cs B n k z pc ls st → B k z pc ls st) → aFo (aEn as nL) (fun ls => B (none, 0, 0) z 0 ls [])) : aMX l g y d as z X := aCt_of hT (Nat.le_of_ble_eq_true hn) h
/-- a call, its answer known by Q -/
theorem uA {l : Launch} {g : aG} {y d : Nat} {as rest : List aV} {z : aM} {Q : Option aV → aM → Prop} {K : List aV → aM → Prop} (h : aM1 l g y d as z Q) (k : ∀ r z', Q r z' → aPu r rest (fun st => K st z')) : aCt l g y d 0 0 none as z (fun r s' z' => s' = none ∧ aPu r rest (fun st => K st z')) (fun _ _ _ => False) :=
  h.mono (fun r s' z' q => ⟨q.1, k r z' q.2⟩) (fun _ _ _ q => q)
/-- answers of one kind -/
abbrev aRi (Q : Int → aM → Prop) : Option aV → aM → Prop := fun r z' => ∃ v : Int, r = some (.inl v) ∧ Q v z'
abbrev aRp (Q : aP → aM → Prop) : Option aV → aM → Prop := fun r z' => ∃ v : aP, r = some (.inr (.inr (.inl v))) ∧ Q v z'
abbrev aRv0 (Q : aM → Prop) : Option aV → aM → Prop := fun r z' => r = none ∧ Q z'
theorem uI {l : Launch} {g : aG} {y d : Nat} {as rest : List aV} {z : aM} {Q : Int → aM → Prop} {K : List aV → aM → Prop} (h : aM1 l g y d as z (aRi Q)) (k : ∀ v z', Q v z' → K (.inl v :: rest) z') : aCt l g y d 0 0 none as z (fun r s' z' => s' = none ∧ aPu r rest (fun st => K st z')) (fun _ _ _ => False) :=
  uA h (fun r z' q => by obtain ⟨v, rfl, hq⟩ := q; exact k v z' hq)
theorem uP {l : Launch} {g : aG} {y d : Nat} {as rest : List aV} {z : aM} {Q : aP → aM → Prop} {K : List aV → aM → Prop} (h : aM1 l g y d as z (aRp Q)) (k : ∀ v z', Q v z' → K (.inr (.inr (.inl v)) :: rest) z') : aCt l g y d 0 0 none as z (fun r s' z' => s' = none ∧ aPu r rest (fun st => K st z')) (fun _ _ _ => False) :=
  uA h (fun r z' q => by obtain ⟨v, rfl, hq⟩ := q; exact k v z' hq)
theorem uV {l : Launch} {g : aG} {y d : Nat} {as rest : List aV} {z : aM} {Q : aM → Prop} {K : List aV → aM → Prop} (h : aM1 l g y d as z (aRv0 Q)) (k : ∀ z', Q z' → K rest z') : aCt l g y d 0 0 none as z (fun r s' z' => s' = none ∧ aPu r rest (fun st => K st z')) (fun _ _ _ => False) :=
  uA h (fun r z' q => by obtain ⟨rfl, hq⟩ := q; exact k z' hq)
/-- an answer and a memory that are told outright -/
abbrev aE1 (l : Launch) (g : aG) (y d : Nat) (as : List aV) (z : aM) (v : Int) (z1 : aM) : Prop := aM1 l g y d as z (fun r z' => r = some (.inl v) ∧ z' = z1)
theorem uE {l : Launch} {g : aG} {y d : Nat} {as rest : List aV} {z z1 : aM} {v : Int} {K : List aV → aM → Prop} (h : aE1 l g y d as z v z1) (k : K (.inl v :: rest) z1) : aCt l g y d 0 0 none as z (fun r s' z' => s' = none ∧ aPu r rest (fun st => K st z')) (fun _ _ _ => False) :=
  uA h (fun r z' q => by obtain ⟨rfl, rfl⟩ := q; exact k)
abbrev aE0 (l : Launch) (g : aG) (y d : Nat) (as : List aV) (z : aM) (z1 : aM) : Prop := aM1 l g y d as z (fun r z' => r = none ∧ z' = z1)
theorem uE0 {l : Launch} {g : aG} {y d : Nat} {as rest : List aV} {z z1 : aM} {K : List aV → aM → Prop} (h : aE0 l g y d as z z1) (k : K rest z1) : aCt l g y d 0 0 none as z (fun r s' z' => s' = none ∧ aPu r rest (fun st => K st z')) (fun _ _ _ => False) :=
  uA h (fun r z' q => by obtain ⟨rfl, rfl⟩ := q; exact k)
abbrev aEp (l : Launch) (g : aG) (y d : Nat) (as : List aV) (z : aM) (q : aP) (z1 : aM) : Prop := aM1 l g y d as z (fun r z' => r = some (.inr (.inr (.inl q))) ∧ z' = z1)
theorem uEp {l : Launch} {g : aG} {y d : Nat} {as rest : List aV} {z z1 : aM} {q : aP} {K : List aV → aM → Prop} (h : aEp l g y d as z q z1) (k : K (.inr (.inr (.inl q)) :: rest) z1) : aCt l g y d 0 0 none as z (fun r s' z' => s' = none ∧ aPu r rest (fun st => K st z')) (fun _ _ _ => False) :=
  uA h (fun r z' q => by obtain ⟨rfl, rfl⟩ := q; exact k)
/-- a test: what it holds for -/
abbrev aEb (l : Launch) (g : aG) (y d : Nat) (as : List aV) (z : aM) (c : Prop) : Prop := aM1 l g y d as z (fun r z' => z' = z ∧ ((r = some (.inl 1) ∧ c) ∨ (r = some (.inl 0) ∧ ¬ c)))
theorem uB {l : Launch} {g : aG} {y d : Nat} {as rest : List aV} {z : aM} {c : Prop} {K : List aV → aM → Prop} (h : aEb l g y d as z c) (k1 : c → K (.inl 1 :: rest) z) (k0 : ¬ c → K (.inl 0 :: rest) z) : aCt l g y d 0 0 none as z (fun r s' z' => s' = none ∧ aPu r rest (fun st => K st z')) (fun _ _ _ => False) :=
  uA h (fun r z' q => by
    obtain ⟨rfl, q⟩ := q
    rcases q with ⟨rfl, hc⟩ | ⟨rfl, hc⟩
    · exact k1 hc
    · exact k0 hc)
/-! functions on numbers -/
def ud (a : Int → Int) (i x : Int) : Int → Int := fun j => if j = i then x else a j
theorem ud_at (a : Int → Int) (i x : Int) : ud a i x i = x := if_pos rfl
theorem ud_ne {a : Int → Int} {i x j : Int} (h : j ≠ i) : ud a i x j = a j := if_neg h
def pS (z : aM) (p : aP) (h : Int → Int) : aM := fun q => if q = p then h else z q
theorem pS_at (z : aM) (p : aP) (h : Int → Int) : pS z p h p = h := if_pos rfl
theorem pS_ne {z : aM} {p q : aP} {h : Int → Int} (n : q ≠ p) : pS z p h q = z q := if_neg n
theorem aWr_pS (z : aM) (p : aP) (k x : Int) : aWr z p k x = pS z p (ud (z p) k x) := by
  funext q j
  unfold aWr pS ud
  by_cases h1 : q = p
  · subst h1
    by_cases h2 : j = k
    · simp [h2]
    · simp [h2]
  · simp [h1]
theorem pS_pS (z : aM) (p : aP) (h h' : Int → Int) : pS (pS z p h) p h' = pS z p h' := by
  funext q
  unfold pS
  by_cases h1 : q = p
  · simp [h1]
  · simp [h1]
theorem pS_id (z : aM) (p : aP) : pS z p (z p) = z := by
  funext q
  unfold pS
  by_cases h1 : q = p
  · simp [h1]
  · simp [h1]
theorem pS_sw {z : aM} {p q : aP} {h h' : Int → Int} (n : p ≠ q) : pS (pS z p h) q h' = pS (pS z q h') p h := by
  funext r
  unfold pS
  by_cases h1 : r = p
  · subst h1
    simp [n]
  · by_cases h2 : r = q
    · subst h2
      simp [h1]
    · simp [h1, h2]

theorem ud_ud (a : Int → Int) (i x y : Int) : ud (ud a i x) i y = ud a i y := by
  funext j
  unfold ud
  by_cases h1 : j = i
  · simp [h1]
  · simp [h1]
theorem ud_id (a : Int → Int) (i : Int) : ud a i (a i) = a := by
  funext j
  unfold ud
  by_cases h1 : j = i
  · simp [h1]
  · simp [h1]
/-- bounds of products -/
theorem mulB {x y A B : Int} (h1 : -A ≤ x) (h2 : x ≤ A) (h3 : -B ≤ y) (h4 : y ≤ B) : -(A * B) ≤ x * y ∧ x * y ≤ A * B := by
  have hA : 0 ≤ A := by omega
  have hB : 0 ≤ B := by omega
  have key : ∀ x y : Int, 0 ≤ x → x ≤ A → 0 ≤ y → y ≤ B → 0 ≤ x * y ∧ x * y ≤ A * B := fun x y q1 q2 q3 q4 => ⟨Int.mul_nonneg q1 q3, Int.mul_le_mul q2 q4 q3 hA⟩
  rcases Int.le_total 0 x with hx | hx <;> rcases Int.le_total 0 y with hy | hy
  · have := key x y hx h2 hy h4; omega
  · have := key x (-y) hx h2 (by omega) (by omega)
    rw [Int.mul_neg] at this; omega
  · have := key (-x) y (by omega) (by omega) hy h4
    rw [Int.neg_mul] at this; omega
  · have := key (-x) (-y) (by omega) (by omega) (by omega) (by omega)
    rw [Int.neg_mul_neg] at this; exact ⟨by omega, this.2⟩
theorem sqB {x A : Int} (h1 : -A ≤ x) (h2 : x ≤ A) : 0 ≤ x * x ∧ x * x ≤ A * A := ⟨by
  rcases Int.le_total 0 x with h | h
  · exact Int.mul_nonneg h h
  · have := Int.mul_nonneg (show 0 ≤ -x by omega) (show 0 ≤ -x by omega)
    rw [Int.neg_mul_neg] at this
    exact this, (mulB h1 h2 h1 h2).2⟩
theorem aCmp_s (a b : Int) : (a < b ∧ aCmp a b = -1) ∨ (a = b ∧ aCmp a b = 0) ∨ (b < a ∧ aCmp a b = 1) := by
  unfold aCmp
  rcases Int.lt_trichotomy a b with h | h | h
  · exact Or.inl ⟨h, if_pos h⟩
  · exact Or.inr (Or.inl ⟨h, by rw [if_neg (by omega), if_pos h]⟩)
  · exact Or.inr (Or.inr ⟨h, by rw [if_neg (by omega), if_neg (by omega)]⟩)
