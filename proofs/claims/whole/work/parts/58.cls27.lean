/-! THE FIRST WORLD (printed by wip/whole/cls27.py) -/
def A0 : aAb := (a0, ((0 : Int), o0), ((0 : Int), fun _ => o0), ((-1 : Int), (-1 : Int)), ((0 : Int), o0), ((0 : Int), o0))
theorem a0_o {k : Int} (h : k ≠ 5 ∧ k ≠ 6 ∧ k ≠ 7) : a0 k = 0 := by unfold a0; rw [if_neg h.1, if_neg h.2.1, if_neg h.2.2]
theorem a0_I : Inv a0 := by
  have v0 : a0 0 = 0 := rfl
  have v1 : a0 1 = 0 := rfl
  have v2 : a0 2 = 0 := rfl
  refine ⟨⟨⟨⟨⟨by decide, by decide⟩, ⟨by decide, by decide⟩, ⟨by decide, by decide⟩⟩, ⟨⟨⟨by decide, by decide⟩, ⟨by decide, by decide⟩⟩, ⟨by decide, by decide⟩, ⟨by decide, by decide⟩⟩, fun i i0 i1 => by omega, fun i i0 i1 => by omega⟩, Or.inl rfl, fun r r0 r1 => by omega, fun r r0 r1 k k0 k1 => a0_o (by omega), fun k hk => a0_o (by omega)⟩, fun n => absurd rfl n⟩
theorem A0_I : InvW A0 := by
  refine ⟨⟨a0_I, fun k _ => rfl, Or.inl rfl, fun w => absurd w (by show ¬ ((0 : Int) = 1); decide)⟩, ⟨⟨by decide, by decide⟩, fun i i0 i1 => by have : i < (0 : Int) := i1; omega⟩, ⟨⟨by decide, by decide⟩, ⟨by decide, by decide⟩⟩, ⟨⟨by decide, by decide⟩, fun i i0 i1 => by have : i < (0 : Int) := i1; omega⟩, ⟨⟨by decide, by decide⟩, fun i i0 i1 => by have : i < (0 : Int) := i1; omega⟩⟩
theorem A0_L : InvL A0 := ⟨fun w => absurd w (by show ¬ ((0 : Int) < 0); decide), fun w => absurd w (by show ¬ ((0 : Int) = 1); decide), fun i i0 i1 => by have : i < (0 : Int) := i1; omega⟩
theorem zT.rel {z : aM} (h : zT z) : RelC z A0 := by
  obtain ⟨hs, ⟨h3, h8, h9⟩, ⟨k1, k2⟩, hl, hp⟩ := h
  exact ⟨⟨hs.sim, h3, fun w => absurd w (by show ¬ ((0 : Int) = 1); decide)⟩, ⟨k2, by omega, fun i i0 i1 => by have : i < (0 : Int) := i1; omega⟩, ⟨h8, h9⟩, ⟨hp, fun i i0 i1 => by have : i < (0 : Int) := i1; omega⟩, hl, fun i i0 i1 => by have : i < (0 : Int) := i1; omega⟩
theorem zM.rel {z : aM} (h : zM z) : RelM z A0 := by
  obtain ⟨⟨h0, h1, h2, h3⟩, ht, h4, h6, h7, h8, h11, h13⟩ := h
  exact ⟨⟨h0, h4, h3⟩, ⟨h6, fun i i0 i1 => by have : i < (0 : Int) := i1; omega⟩, ⟨h7, h8⟩, ⟨h11, fun i i0 i1 => by have : i < (0 : Int) := i1; omega⟩, ⟨h13, fun i i0 i1 => by have : i < (0 : Int) := i1; omega⟩, ⟨fun k _ => by rw [h1]; rfl, fun k _ => by rw [h2]; rfl⟩, ht⟩
