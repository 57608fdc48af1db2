/-! numbers, lists and memory of the walk's machine -/
theorem iZ_add (x y : Int) : iZ x + iZ y = iZ (x + y) := (Int32.ofInt_add x y).symm
theorem iZ_mul (x y : Int) : iZ x * iZ y = iZ (x * y) := (Int32.ofInt_mul x y).symm
theorem iZ_sub (x y : Int) : iZ x - iZ y = iZ (x - y) := (Int32.ofInt_sub x y).symm
theorem lZ_mul (x y : Int) : lZ x * lZ y = lZ (x * y) := (Int64.ofInt_mul x y).symm
theorem lZ_sub (x y : Int) : lZ x - lZ y = lZ (x - y) := (Int64.ofInt_sub x y).symm
theorem iZ_of (x : Int32) : iZ x.toInt = x := by unfold iZ; simp
theorem iZ_bm {z : Int} (h1 : -2147483648 ≤ z) (h2 : z ≤ 2147483647) : z.bmod (2 ^ 32) = z := by
  rw [Int.bmod_def]
  split <;> omega
theorem lZ_bm {z : Int} (h1 : -9223372036854775808 ≤ z) (h2 : z ≤ 9223372036854775807) : z.bmod (2 ^ 64) = z := by
  rw [Int.bmod_def]
  split <;> omega
theorem iZ_to {z : Int} (h : aIR z) : (iZ z).toInt = z := by
  unfold iZ
  rw [Int32.toInt_ofInt]
  exact iZ_bm h.1 h.2
theorem lZ_to {z : Int} (h1 : -9223372036854775808 ≤ z) (h2 : z ≤ 9223372036854775807) : (lZ z).toInt = z := by
  unfold lZ
  rw [Int64.toInt_ofInt]
  exact lZ_bm h1 h2
theorem iZ_ir (x : Int32) : aIR x.toInt := by
  have h1 := x.le_toInt
  have h2 := x.toInt_lt
  exact ⟨by omega, by omega⟩
theorem iZ_0 : iZ 0 = 0 := rfl
theorem iZ_lt {x y : Int} (hx : aIR x) (hy : aIR y) : iZ x < iZ y ↔ x < y := by rw [Int32.lt_iff_toInt_lt, iZ_to hx, iZ_to hy]
theorem iZ_le {x y : Int} (hx : aIR x) (hy : aIR y) : iZ x ≤ iZ y ↔ x ≤ y := by rw [Int32.le_iff_toInt_le, iZ_to hx, iZ_to hy]
theorem iZ_eq {x y : Int} (hx : aIR x) (hy : aIR y) : iZ x = iZ y ↔ x = y := by
  constructor
  · intro h
    have := congrArg Int32.toInt h
    rwa [iZ_to hx, iZ_to hy] at this
  · intro h; rw [h]
theorem iZ_cl {x : Int} (h0 : 0 ≤ x) (h : x ≤ 2147483647) : (iZ x).toNatClampNeg = x.toNat := by
  have h1 := iZ_to (z := x) ⟨by omega, h⟩
  unfold Int32.toNatClampNeg
  rw [h1]
theorem iZ_in {x m : Int} (h0 : 0 ≤ x) (h : x < m) (hm : m ≤ 2147483647) : vp_in (iZ x) m.toNat := by
  rw [vp_in_iff, iZ_to ⟨by omega, by omega⟩]
  omega
theorem iZ_ne0 {x : Int} (h0 : 0 < x) (h : x ≤ 2147483647) : ¬ iZ x = 0 := by
  rw [← iZ_0, iZ_eq ⟨by omega, h⟩ ⟨by omega, by omega⟩]
  omega
theorem iZ_nat {x : Int} (h0 : 0 ≤ x) : iZ x = nI x.toNat := by
  unfold iZ nI
  obtain ⟨n, rfl⟩ := Int.eq_ofNat_of_zero_le h0
  rw [Int.toNat_natCast]
  apply Int32.toBitVec.inj
  show BitVec.ofInt 32 (n : Int) = BitVec.ofNat 32 n
  exact BitVec.ofInt_natCast 32 n
theorem iZ_div {x y : Int} (h : (0 ≤ x ∧ x ≤ 2147483647) ∧ (0 < y ∧ y ≤ 2147483647)) : iZ x / iZ y = iZ (x / y) := by
  obtain ⟨⟨a, b⟩, c, d⟩ := h
  have e : 0 ≤ x / y := Int.ediv_nonneg a (by omega)
  rw [iZ_nat a, iZ_nat (show (0:Int) ≤ y by omega), iZ_nat e, pk_div (by omega) (by omega) (by omega)]
  congr 1
  obtain ⟨n, rfl⟩ := Int.eq_ofNat_of_zero_le a
  obtain ⟨m, rfl⟩ := Int.eq_ofNat_of_zero_le (show (0:Int) ≤ y by omega)
  simp only [Int.toNat_natCast]
  omega
theorem iZ_rem {x y : Int} (h : (0 ≤ x ∧ x ≤ 2147483647) ∧ (0 < y ∧ y ≤ 2147483647)) : iZ x - iZ x / iZ y * iZ y = iZ (x % y) := by
  obtain ⟨⟨a, b⟩, c, d⟩ := h
  have e : 0 ≤ x % y := Int.emod_nonneg x (by omega)
  rw [iZ_nat a, iZ_nat (show (0:Int) ≤ y by omega), iZ_nat e, pk_rem (by omega) (by omega) (by omega)]
  congr 1
  obtain ⟨n, rfl⟩ := Int.eq_ofNat_of_zero_le a
  obtain ⟨m, rfl⟩ := Int.eq_ofNat_of_zero_le (show (0:Int) ≤ y by omega)
  simp only [Int.toNat_natCast]
  omega
theorem iZ_am : ∀ k : Nat, k < 31 → (((nI k) &&& 31).toBitVec.smod 32).toNat = k := by decide +kernel
theorem iZ_shl {x y : Int} (h : (0 ≤ x ∧ x * 2 ^ y.toNat ≤ 2147483647) ∧ (0 ≤ y ∧ y < 31)) : iZ x <<< (iZ y &&& 31) = iZ (x * 2 ^ y.toNat) := by
  obtain ⟨⟨a, b⟩, c, d⟩ := h
  obtain ⟨n, rfl⟩ := Int.eq_ofNat_of_zero_le a
  obtain ⟨k, rfl⟩ := Int.eq_ofNat_of_zero_le c
  simp only [Int.toNat_natCast] at b ⊢
  have hb : ((n * 2 ^ k : Nat) : Int) ≤ ((2147483647 : Nat) : Int) := by
    rw [Int.natCast_mul, Int.natCast_pow]
    exact b
  have hb := Int.ofNat_le.mp hb
  rw [iZ_nat (Int.natCast_nonneg n), iZ_nat (Int.natCast_nonneg k), show (n : Int) * 2 ^ k = ((n * 2 ^ k : Nat) : Int) by simp, iZ_nat (Int.natCast_nonneg _)]
  simp only [Int.toNat_natCast]
  exact pk_shlN _ k (iZ_am k (by omega)) (by omega)
theorem iZ_shr {x y : Int} (h : (0 ≤ x ∧ x ≤ 2147483647) ∧ (0 ≤ y ∧ y < 31)) : iZ x >>> (iZ y &&& 31) = iZ (x / 2 ^ y.toNat) := by
  obtain ⟨⟨a, b⟩, c, d⟩ := h
  obtain ⟨n, rfl⟩ := Int.eq_ofNat_of_zero_le a
  obtain ⟨k, rfl⟩ := Int.eq_ofNat_of_zero_le c
  simp only [Int.toNat_natCast] at b ⊢
  rw [iZ_nat (Int.natCast_nonneg n), iZ_nat (Int.natCast_nonneg k), show (n : Int) / 2 ^ k = ((n / 2 ^ k : Nat) : Int) by simp, iZ_nat (Int.natCast_nonneg _)]
  simp only [Int.toNat_natCast]
  exact pk_shrN (by omega) _ k (iZ_am k (by omega))
theorem iZ_i2l {x : Int} (h : aIR x) : (iZ x).toInt64 = lZ x := by
  apply Int64.toInt.inj
  rw [lZ_to (by have := h.1; omega) (by have := h.2; omega), Int32.toInt_toInt64, iZ_to h]
theorem iZ_i2c (x : Int) : ((iZ x).toUInt32 % 65536).toInt32 = iZ (x % 65536) := by
  rw [pk_char]
  have e : 0 ≤ x % 65536 := Int.emod_nonneg x (by omega)
  rw [iZ_nat e]
  congr 1
  have h1 : ((iZ x).toBitVec.toNat : Int) = x % 4294967296 := by
    unfold iZ
    show ((BitVec.ofInt 32 x).toNat : Int) = _
    rw [BitVec.toNat_ofInt]
    omega
  omega
theorem iZ_max {x y : Int} (hx : aIR x) (hy : aIR y) : (if iZ x < iZ y then iZ y else iZ x) = iZ (max x y) := by
  by_cases h : x < y
  · rw [if_pos ((iZ_lt hx hy).mpr h), Int.max_eq_right (by omega)]
  · rw [if_neg (fun q => h ((iZ_lt hx hy).mp q)), Int.max_eq_left (by omega)]
theorem iZ_cmp {x y : Int} (h : (-9223372036854775808 ≤ x ∧ x ≤ 9223372036854775807) ∧ (-9223372036854775808 ≤ y ∧ y ≤ 9223372036854775807)) : lg_cmp (lZ x) (lZ y) = iZ (aCmp x y) := by
  obtain ⟨⟨a, b⟩, c, d⟩ := h
  unfold lg_cmp aCmp
  have e1 : (lZ x > lZ y) ↔ y < x := by rw [gt_iff_lt, Int64.lt_iff_toInt_lt, lZ_to a b, lZ_to c d]
  have e2 : (lZ x = lZ y) ↔ x = y := by rw [← Int64.toInt_inj, lZ_to a b, lZ_to c d]
  by_cases h1 : y < x
  · rw [if_pos (e1.mpr h1), if_neg (by omega), if_neg (by omega)]; rfl
  · rw [if_neg (fun q => h1 (e1.mp q))]
    by_cases h2 : x = y
    · rw [if_pos (e2.mpr h2), if_neg (by omega), if_pos h2]; rfl
    · rw [if_neg (fun q => h2 (e2.mp q)), if_pos (by omega)]; rfl
theorem iZ_min {x y : Int} (hx : aIR x) (hy : aIR y) : (if iZ x < iZ y then iZ x else iZ y) = iZ (min x y) := by
  by_cases h : x < y
  · rw [if_pos ((iZ_lt hx hy).mpr h), Int.min_eq_left (by omega)]
  · rw [if_neg (fun q => h ((iZ_lt hx hy).mp q)), Int.min_eq_right (by omega)]
/-! the lists of locals -/
theorem aFo_eq {c : List (Option aV) → Prop} (l : List (Option aV)) : aFo l c → c l := by
  induction l generalizing c with
  | nil => exact id
  | cons x l ih =>
    intro h
    cases x with
    | none => exact ih h
    | some v => exact ih h
theorem aGet_at : ∀ (l : List (Option aV)) (i : Nat) (v : aV), aGet l i = some v → l[i]? = some (some v)
  | [], _, _, h => by cases h
  | x :: l, 0, v, h => by rw [List.getElem?_cons_zero]; exact congrArg some h
  | x :: l, i + 1, v, h => by rw [List.getElem?_cons_succ]; exact aGet_at l i v h
theorem aClr_s {x : Option aV} {w : aV} (h : aClr x = some w) : x = some w ∧ aW2 w = false := by
  unfold aClr at h
  split at h
  · split at h
    · cases h
    · next q => cases h; exact ⟨rfl, q⟩
  · cases h
theorem aSet1_s : ∀ (l : List (Option aV)) (i : Nat) (v : aV) (l' : List (Option aV)), aSet1 l i v = some l' → l'.length = l.length ∧ i < l.length ∧ ∀ (j : Nat) (w : aV), l'[j]? = some (some w) → (j = i ∧ w = v) ∨ (j ≠ i ∧ l[j]? = some (some w) ∧ (j + 1 = i → aW2 w = false))
  | [], _, _, _, h => by cases h
  | x :: l, 0, v, l', h => by
    cases h
    refine ⟨rfl, Nat.succ_pos _, fun j w hw => ?_⟩
    cases j with
    | zero => rw [List.getElem?_cons_zero] at hw; cases hw; exact Or.inl ⟨rfl, rfl⟩
    | succ j => rw [List.getElem?_cons_succ] at hw; exact Or.inr ⟨by omega, by rw [List.getElem?_cons_succ]; exact hw, by omega⟩
  | x :: l, i + 1, v, l', h => by
    unfold aSet1 at h
    split at h
    · next l1 h1 =>
      obtain ⟨a1, a2, a3⟩ := aSet1_s l i v l1 h1
      cases h
      refine ⟨by simp [a1], by simp; omega, fun j w hw => ?_⟩
      cases j with
      | zero =>
        rw [List.getElem?_cons_zero] at hw
        cases i with
        | zero =>
          obtain ⟨b1, b2⟩ := aClr_s (Option.some.inj hw)
          exact Or.inr ⟨by omega, by rw [List.getElem?_cons_zero, b1], fun _ => b2⟩
        | succ i => exact Or.inr ⟨by omega, by rw [List.getElem?_cons_zero]; exact hw, by omega⟩
      | succ j =>
        rw [List.getElem?_cons_succ] at hw
        rcases a3 j w hw with ⟨b1, b2⟩ | ⟨b1, b2, b3⟩
        · exact Or.inl ⟨by omega, b2⟩
        · exact Or.inr ⟨by omega, by rw [List.getElem?_cons_succ]; exact b2, fun q => b3 (by omega)⟩
    · cases h
theorem aSet2_s : ∀ (l : List (Option aV)) (i : Nat) (v : aV) (l' : List (Option aV)), aSet2 l i v = some l' → l'.length = l.length ∧ i + 1 < l.length ∧ ∀ (j : Nat) (w : aV), l'[j]? = some (some w) → (j = i ∧ w = v) ∨ (j ≠ i ∧ j ≠ i + 1 ∧ l[j]? = some (some w) ∧ (j + 1 = i → aW2 w = false))
  | [], _, _, _, h => by cases h
  | x :: l, 0, v, l', h => by
    unfold aSet2 at h
    split at h
    · cases h
    · next y l1 =>
      cases h
      refine ⟨rfl, by simp, fun j w hw => ?_⟩
      match j, hw with
      | 0, hw => rw [List.getElem?_cons_zero] at hw; cases hw; exact Or.inl ⟨rfl, rfl⟩
      | 1, hw => rw [List.getElem?_cons_succ, List.getElem?_cons_zero] at hw; cases hw
      | j + 2, hw => exact Or.inr ⟨by omega, by omega, by rw [List.getElem?_cons_succ, List.getElem?_cons_succ] at hw ⊢; exact hw, by omega⟩
  | x :: l, i + 1, v, l', h => by
    unfold aSet2 at h
    split at h
    · next l1 h1 =>
      obtain ⟨a1, a2, a3⟩ := aSet2_s l i v l1 h1
      cases h
      refine ⟨by simp [a1], by simp; omega, fun j w hw => ?_⟩
      cases j with
      | zero =>
        rw [List.getElem?_cons_zero] at hw
        cases i with
        | zero =>
          obtain ⟨b1, b2⟩ := aClr_s (Option.some.inj hw)
          exact Or.inr ⟨by omega, by omega, by rw [List.getElem?_cons_zero, b1], fun _ => b2⟩
        | succ i => exact Or.inr ⟨by omega, by omega, by rw [List.getElem?_cons_zero]; exact hw, by omega⟩
      | succ j =>
        rw [List.getElem?_cons_succ] at hw
        rcases a3 j w hw with ⟨b1, b2⟩ | ⟨b1, b2, b3, b4⟩
        · exact Or.inl ⟨by omega, b2⟩
        · exact Or.inr ⟨by omega, by omega, by rw [List.getElem?_cons_succ]; exact b3, fun q => b4 (by omega)⟩
    · cases h
/-- the machine's locals are the walk's -/
def aLs (g : aG) (nL : Nat) (ls : List (Option aV)) (la : Array Slot) : Prop := la.size = nL ∧ lv_wf la ∧ ∀ (i : Nat) (v : aV), ls[i]? = some (some v) → la[i]? = some (.val (aC g v))
def aPr (g : aG) : List (Option aV) → Nat → List (Nat × Value)
  | [], _ => []
  | none :: l, i => aPr g l (i + 1)
  | some v :: l, i => (i, aC g v) :: aPr g l (i + 1)
theorem aPr_mem (g : aG) : ∀ (l : List (Option aV)) (i : Nat) (q : Nat × Value), q ∈ aPr g l i → ∃ (j : Nat) (v : aV), q = (i + j, aC g v) ∧ l[j]? = some (some v)
  | [], _, _, h => by cases h
  | none :: l, i, q, h => by
    obtain ⟨j, v, h1, h2⟩ := aPr_mem g l (i + 1) q h
    exact ⟨j + 1, v, by rw [h1]; congr 1; omega, by rw [List.getElem?_cons_succ]; exact h2⟩
  | some w :: l, i, q, h => by
    rcases List.mem_cons.mp h with h | h
    · exact ⟨0, w, h, rfl⟩
    · obtain ⟨j, v, h1, h2⟩ := aPr_mem g l (i + 1) q h
      exact ⟨j + 1, v, by rw [h1]; congr 1; omega, by rw [List.getElem?_cons_succ]; exact h2⟩
theorem aPr_in (g : aG) : ∀ (l : List (Option aV)) (i j : Nat) (v : aV), l[j]? = some (some v) → (i + j, aC g v) ∈ aPr g l i
  | [], _, _, _, h => by simp at h
  | none :: l, i, j, v, h => by
    cases j with
    | zero => cases h
    | succ j =>
      rw [List.getElem?_cons_succ] at h
      have := aPr_in g l (i + 1) j v h
      rw [show i + 1 + j = i + (j + 1) by omega] at this
      exact this
  | some w :: l, i, j, v, h => by
    cases j with
    | zero => cases h; exact List.mem_cons_self
    | succ j =>
      rw [List.getElem?_cons_succ] at h
      have := aPr_in g l (i + 1) j v h
      rw [show i + 1 + j = i + (j + 1) by omega] at this
      exact List.mem_cons_of_mem _ this
theorem aLs.has {g : aG} {nL : Nat} {ls : List (Option aV)} {la : Array Slot} (h : aLs g nL ls la) : lv_has la nL (aPr g ls 0) := by
  refine ⟨h.1, h.2.1, fun q hq => ?_⟩
  obtain ⟨j, v, h1, h2⟩ := aPr_mem g ls 0 q hq
  rw [h1, Nat.zero_add]
  exact h.2.2 j v h2
theorem aC_cat {g : aG} (v : aV) : (aC g v).category = if aW2 v = true then 2 else 1 := by
  rcases v with v | v | v | v
  · rfl
  · rfl
  · rfl
  · cases v <;> rfl
theorem aLs.set1 {g : aG} {nL i : Nat} {ls l' : List (Option aV)} {la : Array Slot} {v : aV} (hs : aSet1 ls i v = some l') (h : lv_has la nL ((i, aC g v) :: (aPr g ls 0).filter (fun q => !(q.1 == i) && !(q.1 + 1 == i && q.2.category == 2)))) : aLs g nL l' la := by
  obtain ⟨h1, h2, h3⟩ := aSet1_s ls i v l' hs
  refine ⟨h.1, h.2.1, fun j w hw => ?_⟩
  rcases h3 j w hw with ⟨rfl, rfl⟩ | ⟨b1, b2, b3⟩
  · exact h.2.2 _ List.mem_cons_self
  · refine h.2.2 (j, aC g w) (List.mem_cons_of_mem _ (List.mem_filter.mpr ⟨?_, ?_⟩))
    · have := aPr_in g ls 0 j w b2
      rwa [Nat.zero_add] at this
    · have e1 : (j == i) = false := by simp [b1]
      have e2 : (j + 1 == i && (aC g w).category == 2) = false := by
        by_cases q : j + 1 = i
        · rw [aC_cat, b3 q]; simp
        · simp [q]
      simp only [e1, e2, Bool.not_false, Bool.and_self]
theorem aLs.set2 {g : aG} {nL i : Nat} {ls l' : List (Option aV)} {la : Array Slot} {v : aV} (hs : aSet2 ls i v = some l') (h : lv_has la nL ((i, aC g v) :: (aPr g ls 0).filter (fun q => !(q.1 == i) && (!(q.1 == i + 1) && !(q.1 + 1 == i && q.2.category == 2))))) : aLs g nL l' la := by
  obtain ⟨h1, h2, h3⟩ := aSet2_s ls i v l' hs
  refine ⟨h.1, h.2.1, fun j w hw => ?_⟩
  rcases h3 j w hw with ⟨rfl, rfl⟩ | ⟨b1, b0, b2, b3⟩
  · exact h.2.2 _ List.mem_cons_self
  · refine h.2.2 (j, aC g w) (List.mem_cons_of_mem _ (List.mem_filter.mpr ⟨?_, ?_⟩))
    · have := aPr_in g ls 0 j w b2
      rwa [Nat.zero_add] at this
    · have e1 : (j == i) = false := by simp [b1]
      have e3 : (j == i + 1) = false := by simp [b0]
      have e2 : (j + 1 == i && (aC g w).category == 2) = false := by
        by_cases q : j + 1 = i
        · rw [aC_cat, b3 q]; simp
        · simp [q]
      simp only [e1, e2, e3, Bool.not_false, Bool.and_self]
