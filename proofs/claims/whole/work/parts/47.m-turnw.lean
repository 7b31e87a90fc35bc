/-! the reference turns a stretch, after its save -/
def zturn (S : zS) (r a b : Nat) : zS := (S.1, fun k j => if k = r ∧ a ≤ j ∧ j ≤ b then S.2.1 k (a + b - j) else S.2.1 k j, S.2.2)
theorem qX11_turnW {fu : Nat} {σ : zmem} {S : zS} {r a b : Nat} (h : zMz σ 104 0 S) (hr : r < 2) (hab : a ≤ b) (hb : b < S.1 r) (hf : ∀ j, S.2.1 r j < 4) (hfu : 100 < fu) :
    ∃ σ', ((l_X11_turn_55 fu (nI r) (nI a) (nI b) fu (0 : Int32) (0 : Int32) σ).bind fun x12 => some (x12.1, x12.2)) = some (nI (zrc (S.2.1 r) a b fu), σ') ∧ zMz σ' 104 0 (zturn S r a b) ∧ zfr σ σ' [104] := by
  have hle := fun k hk => h.le (r := k) hk
  have hlr := hle r hr
  obtain ⟨h1, h2, h3, h4, h5⟩ := h
  simp only [Nat.zero_add] at h3 h4 h5
  have e := qX11_turn_l (fu := fu) (a := a) (b := b) (f := S.2.1 r) hr (by omega) fu 0 0 σ (by omega) (by omega) (fun j j1 j2 => ⟨h5 r j hr (by omega), hf j⟩) (by omega)
  refine ⟨zrw σ 104 (fun i => if 6 + 24 * r + (a + 0) ≤ i ∧ i ≤ 6 + 24 * r + (b - 0) then σ.1 104 (12 + 48 * r + a + b - i) else σ.1 104 i), ?_, ⟨h1, h2, fun k hk => ?_, fun k hk => ?_, fun k j hk hj => ?_⟩, zfr_rw (by simp)⟩
  rotate_left
  · rw [Nat.zero_add, zrw_at, if_neg (by omega)]
    exact h3 k hk
  · rw [Nat.zero_add, zrw_at, if_neg (by omega)]
    exact h4 k hk
  · have hj : j < S.1 k := hj
    have hl := hle k hk
    rw [Nat.zero_add, zrw_at]
    show _ = nI (if k = r ∧ a ≤ j ∧ j ≤ b then S.2.1 k (a + b - j) else S.2.1 k j)
    by_cases c : k = r ∧ a ≤ j ∧ j ≤ b
    · rw [if_pos c, if_pos (by omega), show 12 + 48 * r + a + b - (6 + 24 * k + j) = 6 + 24 * k + (a + b - j) by omega]
      exact h5 k _ hk (by rw [c.1]; omega)
    · rw [if_neg c, if_neg (by omega)]
      exact h5 k j hk hj
  · rw [l0, e, Nat.zero_add]
    rfl
