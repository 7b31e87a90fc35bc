/-! the reference: the rows exchanged -/
theorem qX11_exchange_l {fu : Nat} {σ : zmem} (hfu : 100 < fu) : ∃ σ', l_X11_exchange_11 fu fu (0 : Int32) σ = some σ' ∧ zfr σ σ' [104] ∧ (∀ j, j < 24 → σ'.1 104 (6 + j) = σ.1 104 (30 + j) ∧ σ'.1 104 (30 + j) = σ.1 104 (6 + j)) ∧ ∀ j, j < 6 → σ'.1 104 j = σ.1 104 j := by
  obtain ⟨σ', e, p1, p2, _, p3⟩ := loopP (L := l_X11_exchange_11 fu) (N := 24) (P := fun v τ => zfr σ τ [104] ∧ (∀ j, j < v → τ.1 104 (6 + j) = σ.1 104 (30 + j) ∧ τ.1 104 (30 + j) = σ.1 104 (6 + j)) ∧ (∀ j, v ≤ j → j < 24 → τ.1 104 (6 + j) = σ.1 104 (6 + j) ∧ τ.1 104 (30 + j) = σ.1 104 (30 + j)) ∧ ∀ j, j < 6 → τ.1 104 j = σ.1 104 j)
    (fun m τ _ => by rw [l_X11_exchange_11, l24, if_pos (nI_le (Nat.le_refl _) (by decide))])
    (fun m v τ hv ⟨q1, q2, q3, q4⟩ => by
      refine ⟨zrw (zrw τ 104 (upd (τ.1 104) (6 + v) (τ.1 104 (30 + v)))) 104 (upd (upd (τ.1 104) (6 + v) (τ.1 104 (30 + v))) (30 + v) (τ.1 104 (6 + v))), ?_, q1.tr ((zfr_rw (by simp)).tr (zfr_rw (by simp))), fun j hj => ?_, fun j h1 h2 => ?_, fun j hj => ?_⟩
      · have a0 := qX11_at1 (fu := fu) (σ := τ) (r := 0) (p := v) (by decide) hv
        have a1 := qX11_at1 (fu := fu) (σ := τ) (r := 1) (p := v) (by decide) hv
        have b0 := qX11_lay1 (fu := fu) (σ := τ) (r := 0) (p := v) (v := τ.1 104 (30 + v)) (by decide) hv
        have b1 := qX11_lay1 (fu := fu) (σ := zrw τ 104 (upd (τ.1 104) (6 + v) (τ.1 104 (30 + v)))) (r := 1) (p := v) (v := τ.1 104 (6 + v)) (by decide) hv
        rw [l_X11_exchange_11, l24, if_neg (nI_ge hv (by decide)), l0, l1, a0, a1]
        simp only [Option.bind_some]
        rw [b0]
        simp only [Option.bind_some]
        rw [b1, zrw_at]
        simp only [Option.bind_some]
        rw [nI_add]
      · rw [zrw_at]
        by_cases c : j = v
        · subst c
          have := q3 j (Nat.le_refl _) hv
          exact ⟨(upd_ne (by omega)).trans (upd_at.trans this.2), upd_at.trans this.1⟩
        · have := q2 j (by omega)
          exact ⟨(upd_ne (by omega)).trans ((upd_ne (by omega)).trans this.1), (upd_ne (by omega)).trans ((upd_ne (by omega)).trans this.2)⟩
      · rw [zrw_at]
        have := q3 j (by omega) h2
        exact ⟨(upd_ne (by omega)).trans ((upd_ne (by omega)).trans this.1), (upd_ne (by omega)).trans ((upd_ne (by omega)).trans this.2)⟩
      · rw [zrw_at]
        exact (upd_ne (by omega)).trans ((upd_ne (by omega)).trans (q4 j hj)))
    fu 0 σ (by omega) (by omega) ⟨zfr.rf, fun j hj => absurd hj (Nat.not_lt_zero _), fun j _ _ => ⟨rfl, rfl⟩, fun _ _ => rfl⟩
  exact ⟨σ', e, p1, p2, p3⟩
def zswap (S : zS) : zS := (fun r => S.1 (1 - r), fun r => S.2.1 (1 - r), S.2.2)
theorem zMz.swap {σ σ' : zmem} {S : zS} (h : zMz σ 104 0 S) (h1 : ∀ j, j < 24 → σ'.1 104 (6 + j) = σ.1 104 (30 + j) ∧ σ'.1 104 (30 + j) = σ.1 104 (6 + j)) (h2 : ∀ j, j < 4 → σ'.1 104 j = σ.1 104 j) (h3 : σ'.1 104 4 = nI (S.1 1)) (h4 : σ'.1 104 5 = nI (S.1 0)) : zMz σ' 104 0 (zswap S) := by
  obtain ⟨g1, g2, g3, g4, g5⟩ := h
  simp only [Nat.zero_add] at g3 g4 g5
  refine ⟨g2, g1, fun k hk => ?_, fun k hk => ?_, fun k j hk hj => ?_⟩
  · rw [Nat.zero_add, h2 k hk]
    exact g3 k hk
  · rcases (show k = 0 ∨ k = 1 by omega) with rfl | rfl
    · exact h3
    · exact h4
  · rcases (show k = 0 ∨ k = 1 by omega) with rfl | rfl
    · have hj : j < S.1 1 := hj
      have := (h1 j (by omega)).1
      have e := g5 1 j (by decide) hj
      rw [show 0 + 6 + 24 * 0 + j = 6 + j by omega, this, show 30 + j = 6 + 24 * 1 + j by omega]
      exact e
    · have hj : j < S.1 0 := hj
      have := (h1 j (by omega)).2
      have e := g5 0 j (by decide) hj
      rw [show 0 + 6 + 24 * 1 + j = 30 + j by omega, this, show 6 + j = 6 + 24 * 0 + j by omega]
      exact e
