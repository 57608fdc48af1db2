/-! SEGMENTS: rectangles and sides say the same as crossings and touches -/
abbrev sBB (ax ay bx b_y cx cy dx dy : Int) : Prop := (¬ max ax bx < min cx dx ∧ ¬ max cx dx < min ax bx) ∧ (¬ max ay b_y < min cy dy ∧ ¬ max cy dy < min ay b_y)
abbrev sTT (ax ay bx b_y cx cy dx dy : Int) : Prop := sOn cx cy dx dy ax ay ∨ (sOn cx cy dx dy bx b_y ∨ (sOn ax ay bx b_y cx cy ∨ sOn ax ay bx b_y dx dy))
theorem sCr_ba {ax ay bx b_y cx cy : Int} : sCr bx b_y ax ay cx cy = -sCr ax ay bx b_y cx cy := by
  unfold sCr; grind
theorem sCr_xy {ax ay bx b_y cx cy : Int} : sCr ay ax b_y bx cy cx = -sCr ax ay bx b_y cx cy := by
  unfold sCr; grind
theorem sCr_i1 {ax ay bx b_y cx cy dx dy : Int} : (cx - ax) * sCr ax ay bx b_y dx dy - (dx - ax) * sCr ax ay bx b_y cx cy = (bx - ax) * sCr cx cy dx dy ax ay := by
  unfold sCr; grind
theorem sCr_i2 {ax ay bx b_y cx cy dx dy : Int} : (cy - ay) * sCr ax ay bx b_y dx dy - (dy - ay) * sCr ax ay bx b_y cx cy = (b_y - ay) * sCr cx cy dx dy ax ay := by
  unfold sCr; grind
theorem sCr_i3 {ax ay bx b_y cx cy dx dy : Int} : sCr cx cy dx dy ax ay - sCr cx cy dx dy bx b_y = sCr ax ay bx b_y dx dy - sCr ax ay bx b_y cx cy := by
  unfold sCr; grind
theorem sCr_i4 {ax ay bx b_y cx cy dx dy : Int} : sCr cx cy dx dy ax ay * bx - sCr cx cy dx dy bx b_y * ax = sCr ax ay bx b_y dx dy * cx - sCr ax ay bx b_y cx cy * dx := by
  unfold sCr; grind
theorem sCr_i5 {ax ay bx b_y cx cy dx dy : Int} : sCr cx cy dx dy ax ay * b_y - sCr cx cy dx dy bx b_y * ay = sCr ax ay bx b_y dx dy * cy - sCr ax ay bx b_y cx cy * dy := by
  unfold sCr; grind
theorem geo_b0 {d1 d2 e1 e2 : Int} (h : d1 * e2 = d2 * e1) (n : 0 < d1) (b0 : 0 ≤ e1) (b1 : e1 ≤ d1) : (0 ≤ e2 ∧ e2 ≤ d2) ∨ (d2 ≤ e2 ∧ e2 ≤ 0) := by
  by_cases hd : 0 ≤ d2
  · refine Or.inl ⟨?_, ?_⟩
    · refine Int.le_of_mul_le_mul_left (a := d1) ?_ n
      rw [h, Int.mul_zero]; exact Int.mul_nonneg hd b0
    · refine Int.le_of_mul_le_mul_left (a := d1) ?_ n
      rw [h, Int.mul_comm d1 d2]; exact Int.mul_le_mul_of_nonneg_left b1 hd
  · have hd' : 0 ≤ -d2 := by omega
    refine Or.inr ⟨?_, ?_⟩
    · refine Int.le_of_mul_le_mul_left (a := d1) ?_ n
      have := Int.mul_le_mul_of_nonneg_left b1 hd'
      rw [Int.neg_mul, Int.neg_mul] at this
      rw [h, Int.mul_comm d1 d2]; omega
    · refine Int.le_of_mul_le_mul_left (a := d1) ?_ n
      have := Int.mul_nonneg hd' b0
      rw [Int.neg_mul] at this
      rw [h, Int.mul_zero]; omega
theorem geo_bt {d1 d2 e1 e2 : Int} (h : d1 * e2 = d2 * e1) (n : d1 ≠ 0) (b : (0 ≤ e1 ∧ e1 ≤ d1) ∨ (d1 ≤ e1 ∧ e1 ≤ 0)) : (0 ≤ e2 ∧ e2 ≤ d2) ∨ (d2 ≤ e2 ∧ e2 ≤ 0) := by
  by_cases hd : 0 < d1
  · exact geo_b0 h hd (by omega) (by omega)
  · refine geo_b0 (d1 := -d1) (e1 := -e1) ?_ (by omega) (by omega) (by omega)
    rw [Int.neg_mul, Int.mul_neg, h]
/-- a point on a line between two x's is on the segment -/
theorem geo_on {cx cy dx dy px py : Int} (h : sCr cx cy dx dy px py = 0) (n : cx ≠ dx) (b : min cx dx ≤ px ∧ px ≤ max cx dx) : sOn cx cy dx dy px py := by
  have h' : (dx - cx) * (py - cy) = (dy - cy) * (px - cx) := by unfold sCr at h; omega
  have := geo_bt h' (by omega) (by omega)
  exact ⟨h, b, by omega⟩
theorem sOn_xy {cx cy dx dy px py : Int} (h : sOn cy cx dy dx py px) : sOn cx cy dx dy px py := by
  have := sCr_xy (ax := cx) (ay := cy) (bx := dx) (b_y := dy) (cx := px) (cy := py)
  exact ⟨by have := h.1; omega, h.2.2, h.2.1⟩
theorem sOn_ba {cx cy dx dy px py : Int} (h : sOn dx dy cx cy px py) : sOn cx cy dx dy px py := by
  have := sCr_ba (ax := cx) (ay := cy) (bx := dx) (b_y := dy) (cx := px) (cy := py)
  have h1 := h.1
  have h2 := h.2
  exact ⟨by omega, by omega, by omega⟩
theorem mul_pp {a b : Int} (ha : 0 < a) (hb : 0 < b) : 0 < a * b := Int.mul_pos ha hb
theorem mul_pn {a b : Int} (ha : 0 < a) (hb : b < 0) : a * b < 0 := Int.mul_neg_of_pos_of_neg ha hb
theorem mul_np {a b : Int} (ha : a < 0) (hb : 0 < b) : a * b < 0 := Int.mul_neg_of_neg_of_pos ha hb
theorem mul_nn {a b : Int} (ha : a < 0) (hb : b < 0) : 0 < a * b := Int.mul_pos_of_neg_of_neg ha hb
theorem mul_le0 {a b : Int} (h : a * b ≤ 0) : (a ≤ 0 ∧ 0 ≤ b) ∨ (0 ≤ a ∧ b ≤ 0) := by
  rcases Int.lt_trichotomy a 0 with ha | ha | ha <;> rcases Int.lt_trichotomy b 0 with hb | hb | hb
  · have := mul_nn ha hb; omega
  · omega
  · omega
  · omega
  · omega
  · omega
  · omega
  · omega
  · have := mul_pp ha hb; omega
theorem mul_le0' {a b : Int} (h : (a ≤ 0 ∧ 0 ≤ b) ∨ (0 ≤ a ∧ b ≤ 0)) : a * b ≤ 0 := by
  rcases Int.lt_trichotomy a 0 with ha | ha | ha <;> rcases Int.lt_trichotomy b 0 with hb | hb | hb
  · omega
  · subst hb; rw [Int.mul_zero]; exact Int.le_refl 0
  · have := mul_np ha hb; omega
  · subst ha; rw [Int.zero_mul]; exact Int.le_refl 0
  · subst ha; rw [Int.zero_mul]; exact Int.le_refl 0
  · subst ha; rw [Int.zero_mul]; exact Int.le_refl 0
  · have := mul_pn ha hb; omega
  · subst hb; rw [Int.mul_zero]; exact Int.le_refl 0
  · omega
theorem mul_e0 {a b : Int} (h : a * b = 0) (n : a ≠ 0) : b = 0 := (Int.mul_eq_zero.mp h).resolve_left n
/-- one end on the other's line -/
theorem geo_x {ax ay bx b_y cx cy dx dy : Int} (n : cx ≠ dx) (hb : sBB ax ay bx b_y cx cy dx dy) (h3 : sCr cx cy dx dy ax ay = 0) (h12 : sCr ax ay bx b_y cx cy * sCr ax ay bx b_y dx dy ≤ 0) : sTT ax ay bx b_y cx cy dx dy := by
  by_cases hx : min cx dx ≤ ax ∧ ax ≤ max cx dx
  · exact Or.inl (geo_on h3 n hx)
  · have i1 := sCr_i1 (ax := ax) (ay := ay) (bx := bx) (b_y := b_y) (cx := cx) (cy := cy) (dx := dx) (dy := dy)
    rw [h3, Int.mul_zero] at i1
    have key : sCr ax ay bx b_y cx cy = 0 ∧ sCr ax ay bx b_y dx dy = 0 := by
      obtain ⟨S1, e1⟩ : ∃ S1, S1 = sCr ax ay bx b_y cx cy := ⟨_, rfl⟩
      obtain ⟨S2, e2⟩ : ∃ S2, S2 = sCr ax ay bx b_y dx dy := ⟨_, rfl⟩
      rw [← e1, ← e2] at i1 h12 ⊢
      obtain ⟨P, eP⟩ : ∃ P, P = cx - ax := ⟨_, rfl⟩
      obtain ⟨Q, eQ⟩ : ∃ Q, Q = dx - ax := ⟨_, rfl⟩
      rw [← eP, ← eQ] at i1
      have pq : (0 < P ∧ 0 < Q) ∨ (P < 0 ∧ Q < 0) := by omega
      have z : S1 = 0 := by
        rcases Int.lt_trichotomy S1 0 with h | h | h
        · rcases Int.lt_trichotomy S2 0 with h' | h' | h'
          · have := mul_nn h h'; omega
          · rw [h', Int.mul_zero] at i1
            rcases pq with ⟨p1, p2⟩ | ⟨p1, p2⟩
            · have := mul_pn p2 h; omega
            · have := mul_nn p2 h; omega
          · rcases pq with ⟨p1, p2⟩ | ⟨p1, p2⟩
            · have := mul_pn p2 h; have := mul_pp p1 h'; omega
            · have := mul_nn p2 h; have := mul_np p1 h'; omega
        · exact h
        · rcases Int.lt_trichotomy S2 0 with h' | h' | h'
          · rcases pq with ⟨p1, p2⟩ | ⟨p1, p2⟩
            · have := mul_pp p2 h; have := mul_pn p1 h'; omega
            · have := mul_np p2 h; have := mul_nn p1 h'; omega
          · rw [h', Int.mul_zero] at i1
            rcases pq with ⟨p1, p2⟩ | ⟨p1, p2⟩
            · have := mul_pp p2 h; omega
            · have := mul_np p2 h; omega
          · have := mul_pp h h'; omega
      refine ⟨z, ?_⟩
      rw [z, Int.mul_zero] at i1
      exact mul_e0 (show P * S2 = 0 by omega) (by omega)
    by_cases hc : min ax bx ≤ cx ∧ cx ≤ max ax bx
    · exact Or.inr (Or.inr (Or.inl (geo_on key.1 (by omega) hc)))
    · exact Or.inr (Or.inr (Or.inr (geo_on key.2 (by omega) (by omega))))
theorem geo_t {ax ay bx b_y cx cy dx dy : Int} (hb : sBB ax ay bx b_y cx cy dx dy) (h3 : sCr cx cy dx dy ax ay = 0) (h12 : sCr ax ay bx b_y cx cy * sCr ax ay bx b_y dx dy ≤ 0) : sTT ax ay bx b_y cx cy dx dy := by
  by_cases nx : cx = dx
  · by_cases ny : cy = dy
    · subst nx ny
      have h1 : sCr ax ay bx b_y cx cy = 0 := by
        rcases Int.lt_trichotomy (sCr ax ay bx b_y cx cy) 0 with h | h | h
        · have := mul_nn h h; omega
        · exact h
        · have := mul_pp h h; omega
      exact Or.inr (Or.inr (Or.inl ⟨h1, by omega, by omega⟩))
    · have e1 := sCr_xy (ax := ax) (ay := ay) (bx := bx) (b_y := b_y) (cx := cx) (cy := cy)
      have e2 := sCr_xy (ax := ax) (ay := ay) (bx := bx) (b_y := b_y) (cx := dx) (cy := dy)
      have e3 := sCr_xy (ax := cx) (ay := cy) (bx := dx) (b_y := dy) (cx := ax) (cy := ay)
      have := geo_x (ax := ay) (ay := ax) (bx := b_y) (b_y := bx) (cx := cy) (cy := cx) (dx := dy) (dy := dx) ny ⟨hb.2, hb.1⟩ (by omega) (by rw [e1, e2, Int.neg_mul_neg]; exact h12)
      rcases this with h | h | h | h
      · exact Or.inl (sOn_xy h)
      · exact Or.inr (Or.inl (sOn_xy h))
      · exact Or.inr (Or.inr (Or.inl (sOn_xy h)))
      · exact Or.inr (Or.inr (Or.inr (sOn_xy h)))
  · exact geo_x nx hb h3 h12
theorem sTT_ba {ax ay bx b_y cx cy dx dy : Int} (h : sTT bx b_y ax ay cx cy dx dy) : sTT ax ay bx b_y cx cy dx dy := by
  rcases h with h | h | h | h
  · exact Or.inr (Or.inl h)
  · exact Or.inl h
  · exact Or.inr (Or.inr (Or.inl (sOn_ba h)))
  · exact Or.inr (Or.inr (Or.inr (sOn_ba h)))
theorem sTT_sg {ax ay bx b_y cx cy dx dy : Int} (h : sTT cx cy dx dy ax ay bx b_y) : sTT ax ay bx b_y cx cy dx dy := by
  rcases h with h | h | h | h
  · exact Or.inr (Or.inr (Or.inl h))
  · exact Or.inr (Or.inr (Or.inr h))
  · exact Or.inl h
  · exact Or.inr (Or.inl h)
/-- a touch, from the point's side -/
theorem geo_1 {ax ay bx b_y cx cy dx dy : Int} (h : sOn cx cy dx dy ax ay) : sBB ax ay bx b_y cx cy dx dy ∧ (sCr ax ay bx b_y cx cy * sCr ax ay bx b_y dx dy ≤ 0 ∧ sCr cx cy dx dy ax ay * sCr cx cy dx dy bx b_y ≤ 0) := by
  obtain ⟨h3, hx, hy⟩ := h
  refine ⟨⟨by omega, by omega⟩, ?_, by rw [h3, Int.zero_mul]; exact Int.le_refl 0⟩
  have i1 := sCr_i1 (ax := ax) (ay := ay) (bx := bx) (b_y := b_y) (cx := cx) (cy := cy) (dx := dx) (dy := dy)
  have i2 := sCr_i2 (ax := ax) (ay := ay) (bx := bx) (b_y := b_y) (cx := cx) (cy := cy) (dx := dx) (dy := dy)
  rw [h3, Int.mul_zero] at i1 i2
  have d1 : sCr ax ay bx b_y cx cy = (bx - ax) * (cy - ay) - (b_y - ay) * (cx - ax) := rfl
  obtain ⟨S1, e1⟩ : ∃ S1, S1 = sCr ax ay bx b_y cx cy := ⟨_, rfl⟩
  obtain ⟨S2, e2⟩ : ∃ S2, S2 = sCr ax ay bx b_y dx dy := ⟨_, rfl⟩
  rw [← e1] at d1
  rw [← e1, ← e2] at i1 i2 ⊢
  obtain ⟨P, eP⟩ : ∃ P, P = cx - ax := ⟨_, rfl⟩
  obtain ⟨Q, eQ⟩ : ∃ Q, Q = dx - ax := ⟨_, rfl⟩
  obtain ⟨U, eU⟩ : ∃ U, U = cy - ay := ⟨_, rfl⟩
  obtain ⟨V, eV⟩ : ∃ V, V = dy - ay := ⟨_, rfl⟩
  rw [← eP, ← eQ] at i1
  rw [← eU, ← eV] at i2
  rw [← eP, ← eU] at d1
  have pq : (P ≤ 0 ∧ 0 ≤ Q) ∨ (0 ≤ P ∧ Q ≤ 0) := by omega
  have uv : (U ≤ 0 ∧ 0 ≤ V) ∨ (0 ≤ U ∧ V ≤ 0) := by omega
  have z : ∀ p q : Int, ((p ≤ 0 ∧ 0 ≤ q) ∨ (0 ≤ p ∧ q ≤ 0)) → p * S2 - q * S1 = 0 → ((0 < S1 ∧ 0 < S2) ∨ (S1 < 0 ∧ S2 < 0)) → p = 0 := by
    intro p q hpq i hs
    rcases Int.lt_trichotomy p 0 with h | h | h
    · have q0 : 0 ≤ q := by omega
      rcases hs with ⟨s1, s2⟩ | ⟨s1, s2⟩
      · have := mul_np h s2; have := Int.mul_nonneg q0 (Int.le_of_lt s1); omega
      · have := mul_nn h s2; have := mul_le0' (a := q) (b := S1) (by omega); omega
    · exact h
    · have q0 : q ≤ 0 := by omega
      rcases hs with ⟨s1, s2⟩ | ⟨s1, s2⟩
      · have := mul_pp h s2; have := mul_le0' (a := q) (b := S1) (by omega); omega
      · have := mul_pn h s2; have := Int.mul_nonneg (show 0 ≤ -q by omega) (show 0 ≤ -S1 by omega); rw [Int.neg_mul_neg] at this; omega
  refine mul_le0' ?_
  refine Classical.byContradiction (fun hn => ?_)
  have hs : (0 < S1 ∧ 0 < S2) ∨ (S1 < 0 ∧ S2 < 0) := by omega
  have p0 := z P Q pq i1 hs
  have u0 := z U V uv i2 hs
  rw [p0, u0, Int.mul_zero, Int.mul_zero] at d1
  omega
theorem geo_r {S1 S2 S3 S4 ax bx cx dx : Int} (e : S3 - S4 = S2 - S1) (i : S3 * bx - S4 * ax = S2 * cx - S1 * dx) (h3 : 0 < S3) (h4 : S4 < 0) (h1 : S1 < 0) (h2 : 0 < S2) : ¬ max ax bx < min cx dx ∧ ¬ max cx dx < min ax bx := by
  refine ⟨fun q => ?_, fun q => ?_⟩
  · obtain ⟨M, eM⟩ : ∃ M, M = max ax bx := ⟨_, rfl⟩
    have a1 := Int.mul_le_mul_of_nonneg_left (show bx ≤ M by omega) (Int.le_of_lt h3)
    have a2 := Int.mul_le_mul_of_nonneg_left (show ax ≤ M by omega) (show 0 ≤ -S4 by omega)
    have a3 := Int.mul_le_mul_of_nonneg_left (show M + 1 ≤ cx by omega) (Int.le_of_lt h2)
    have a4 := Int.mul_le_mul_of_nonneg_left (show M + 1 ≤ dx by omega) (show 0 ≤ -S1 by omega)
    have a5 : (S3 - S4) * M = (S2 - S1) * M := by rw [e]
    rw [Int.sub_mul, Int.sub_mul] at a5
    rw [Int.mul_add, Int.mul_one] at a3 a4
    rw [Int.neg_mul, Int.neg_mul] at a2 a4
    omega
  · obtain ⟨M, eM⟩ : ∃ M, M = max cx dx := ⟨_, rfl⟩
    have a1 := Int.mul_le_mul_of_nonneg_left (show M + 1 ≤ bx by omega) (Int.le_of_lt h3)
    have a2 := Int.mul_le_mul_of_nonneg_left (show M + 1 ≤ ax by omega) (show 0 ≤ -S4 by omega)
    have a3 := Int.mul_le_mul_of_nonneg_left (show cx ≤ M by omega) (Int.le_of_lt h2)
    have a4 := Int.mul_le_mul_of_nonneg_left (show dx ≤ M by omega) (show 0 ≤ -S1 by omega)
    have a5 : (S3 - S4) * M = (S2 - S1) * M := by rw [e]
    rw [Int.sub_mul, Int.sub_mul] at a5
    rw [Int.mul_add, Int.mul_one] at a1 a2
    rw [Int.neg_mul, Int.neg_mul] at a2 a4
    omega
theorem sSg_lt {v w : Int} (h : sSg v * sSg w < 0) : (0 < v ∧ w < 0) ∨ (v < 0 ∧ 0 < w) := by
  rcases sSg_s v with ⟨a, b⟩ | ⟨a, b⟩ | ⟨a, b⟩ <;> rcases sSg_s w with ⟨c, d⟩ | ⟨c, d⟩ | ⟨c, d⟩ <;> rw [b, d] at h <;> omega
theorem sSg_gt {v w : Int} (h : (0 < v ∧ w < 0) ∨ (v < 0 ∧ 0 < w)) : sSg v * sSg w < 0 := by
  rcases sSg_s v with ⟨a, b⟩ | ⟨a, b⟩ | ⟨a, b⟩ <;> rcases sSg_s w with ⟨c, d⟩ | ⟨c, d⟩ | ⟨c, d⟩ <;> rw [b, d] <;> omega
/-- THE TWO WAYS AGREE -/
theorem geo {ax ay bx b_y cx cy dx dy : Int} : sMt cx cy dx dy ax ay bx b_y ↔ (sBB ax ay bx b_y cx cy dx dy ∧ (sCr ax ay bx b_y cx cy * sCr ax ay bx b_y dx dy ≤ 0 ∧ sCr cx cy dx dy ax ay * sCr cx cy dx dy bx b_y ≤ 0)) := by
  constructor
  · rintro (⟨h34, h12⟩ | h | h | h | h)
    · have q34 := sSg_lt h34
      have q12 := sSg_lt h12
      have i3 := sCr_i3 (ax := ax) (ay := ay) (bx := bx) (b_y := b_y) (cx := cx) (cy := cy) (dx := dx) (dy := dy)
      have i4 := sCr_i4 (ax := ax) (ay := ay) (bx := bx) (b_y := b_y) (cx := cx) (cy := cy) (dx := dx) (dy := dy)
      have i5 := sCr_i5 (ax := ax) (ay := ay) (bx := bx) (b_y := b_y) (cx := cx) (cy := cy) (dx := dx) (dy := dy)
      refine ⟨?_, mul_le0' (by omega), mul_le0' (by omega)⟩
      rcases q34 with ⟨s3, s4⟩ | ⟨s3, s4⟩
      · exact ⟨geo_r i3 i4 s3 s4 (by omega) (by omega), geo_r i3 i5 s3 s4 (by omega) (by omega)⟩
      · refine ⟨geo_r (S1 := -sCr ax ay bx b_y cx cy) (S2 := -sCr ax ay bx b_y dx dy) (S3 := -sCr cx cy dx dy ax ay) (S4 := -sCr cx cy dx dy bx b_y) (by omega) ?_ (by omega) (by omega) (by omega) (by omega), geo_r (S1 := -sCr ax ay bx b_y cx cy) (S2 := -sCr ax ay bx b_y dx dy) (S3 := -sCr cx cy dx dy ax ay) (S4 := -sCr cx cy dx dy bx b_y) (by omega) ?_ (by omega) (by omega) (by omega) (by omega)⟩
        · simp only [Int.neg_mul]; omega
        · simp only [Int.neg_mul]; omega
    · exact geo_1 h
    · have := geo_1 (ax := bx) (ay := b_y) (bx := ax) (b_y := ay) h
      have e1 := sCr_ba (ax := ax) (ay := ay) (bx := bx) (b_y := b_y) (cx := cx) (cy := cy)
      have e2 := sCr_ba (ax := ax) (ay := ay) (bx := bx) (b_y := b_y) (cx := dx) (cy := dy)
      obtain ⟨t1, t2, t3⟩ := this
      rw [e1, e2, Int.neg_mul_neg] at t2
      exact ⟨⟨by omega, by omega⟩, t2, by rw [Int.mul_comm]; exact t3⟩
    · have := geo_1 (ax := cx) (ay := cy) (bx := dx) (b_y := dy) (cx := ax) (cy := ay) (dx := bx) (dy := b_y) h
      exact ⟨⟨by omega, by omega⟩, this.2.2, this.2.1⟩
    · have := geo_1 (ax := dx) (ay := dy) (bx := cx) (b_y := cy) (cx := ax) (cy := ay) (dx := bx) (dy := b_y) h
      have e1 := sCr_ba (ax := cx) (ay := cy) (bx := dx) (b_y := dy) (cx := ax) (cy := ay)
      have e2 := sCr_ba (ax := cx) (ay := cy) (bx := dx) (b_y := dy) (cx := bx) (cy := b_y)
      obtain ⟨t1, t2, t3⟩ := this
      rw [e1, e2, Int.neg_mul_neg] at t2
      exact ⟨⟨by omega, by omega⟩, by rw [Int.mul_comm]; exact t3, t2⟩
  · rintro ⟨hb, h12, h34⟩
    by_cases z3 : sCr cx cy dx dy ax ay = 0
    · exact Or.inr (geo_t hb z3 h12)
    · by_cases z4 : sCr cx cy dx dy bx b_y = 0
      · refine Or.inr (sTT_ba (geo_t ⟨by omega, by omega⟩ z4 ?_))
        rw [sCr_ba (ax := ax), sCr_ba (ax := ax), Int.neg_mul_neg]; exact h12
      · by_cases z1 : sCr ax ay bx b_y cx cy = 0
        · exact Or.inr (sTT_sg (geo_t ⟨by omega, by omega⟩ z1 h34))
        · by_cases z2 : sCr ax ay bx b_y dx dy = 0
          · refine Or.inr (sTT_sg (sTT_ba (geo_t ⟨by omega, by omega⟩ z2 ?_)))
            rw [sCr_ba (ax := cx), sCr_ba (ax := cx), Int.neg_mul_neg]; exact h34
          · have q1 := mul_le0 h12
            have q2 := mul_le0 h34
            exact Or.inl ⟨sSg_gt (by omega), sSg_gt (by omega)⟩
