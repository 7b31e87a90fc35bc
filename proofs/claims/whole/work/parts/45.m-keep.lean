/-! the reference: snapshots -/
theorem qX11_keep_l {fu : Nat} {σ : zmem} {a : Nat} (ha : a < 2) (hfu : 100 < fu) : ∃ σ', l_X11_keep_34 fu (nI a) fu (0 : Int32) σ = some σ' ∧ zfr σ σ' [106] ∧ (∀ j, j < 50 → σ'.1 106 (50 * a + j) = σ.1 104 (4 + j)) ∧ ∀ j, j < 50 * a ∨ 50 * a + 50 ≤ j → σ'.1 106 j = σ.1 106 j := by
  obtain ⟨σ', e, p1, p2, p3⟩ := loopP (L := l_X11_keep_34 fu (nI a)) (N := 50) (P := fun v τ => zfr σ τ [106] ∧ (∀ j, j < v → τ.1 106 (50 * a + j) = σ.1 104 (4 + j)) ∧ ∀ j, j < 50 * a ∨ 50 * a + 50 ≤ j → τ.1 106 j = σ.1 106 j)
    (fun m τ _ => by rw [l_X11_keep_34, l50, if_pos (nI_le (Nat.le_refl _) (by decide))])
    (fun m v τ hv ⟨q1, q2, q3⟩ => by
      refine ⟨zrw τ 106 (upd (τ.1 106) (50 * a + v) (σ.1 104 (4 + v))), ?_, q1.tr (zfr_rw (by simp)), fun j hj => ?_, fun j hj => ?_⟩
      · rw [l_X11_keep_34, l50, if_neg (nI_ge hv (by decide)), l4m, zrd_in zc_104 (show 4 + v < 54 by omega) (by decide), q1.1 104 (by simp)]
        simp only [Option.bind_some]
        rw [pk_mul, nI_add, zwr_in zc_106 (show 50 * a + v < 100 by omega) (by decide)]
        simp only [Option.bind_some, za1]
      · rw [zrw_at]
        by_cases c : j = v
        · rw [c, upd_at]
        · rw [upd_ne (by omega)]
          exact q2 j (by omega)
      · rw [zrw_at, upd_ne (by omega)]
        exact q3 j hj)
    fu 0 σ (by omega) (by omega) ⟨zfr.rf, fun j hj => absurd hj (Nat.not_lt_zero _), fun _ _ => rfl⟩
  exact ⟨σ', e, p1, p2, p3⟩
theorem qX11_restore_l {fu : Nat} {σ : zmem} {a : Nat} (ha : a < 2) (hfu : 100 < fu) : ∃ σ', l_X11_restore_57 fu (nI a) fu (0 : Int32) σ = some σ' ∧ zfr σ σ' [104] ∧ (∀ j, j < 50 → σ'.1 104 (4 + j) = σ.1 106 (50 * a + j)) ∧ ∀ j, j < 4 → σ'.1 104 j = σ.1 104 j := by
  obtain ⟨σ', e, p1, p2, p3⟩ := loopP (L := l_X11_restore_57 fu (nI a)) (N := 50) (P := fun v τ => zfr σ τ [104] ∧ (∀ j, j < v → τ.1 104 (4 + j) = σ.1 106 (50 * a + j)) ∧ ∀ j, j < 4 → τ.1 104 j = σ.1 104 j)
    (fun m τ _ => by rw [l_X11_restore_57, l50, if_pos (nI_le (Nat.le_refl _) (by decide))])
    (fun m v τ hv ⟨q1, q2, q3⟩ => by
      refine ⟨zrw τ 104 (upd (τ.1 104) (4 + v) (σ.1 106 (50 * a + v))), ?_, q1.tr (zfr_rw (by simp)), fun j hj => ?_, fun j hj => ?_⟩
      · rw [l_X11_restore_57, l50, if_neg (nI_ge hv (by decide)), pk_mul, nI_add, zrd_in zc_106 (show 50 * a + v < 100 by omega) (by decide), q1.1 106 (by simp)]
        simp only [Option.bind_some]
        rw [l4m, zwr_in zc_104 (show 4 + v < 54 by omega) (by decide)]
        simp only [Option.bind_some, za1]
      · rw [zrw_at]
        by_cases c : j = v
        · rw [c, upd_at]
        · rw [upd_ne (by omega)]
          exact q2 j (by omega)
      · rw [zrw_at, upd_ne (by omega)]
        exact q3 j hj)
    fu 0 σ (by omega) (by omega) ⟨zfr.rf, fun j hj => absurd hj (Nat.not_lt_zero _), fun _ _ => rfl⟩
  exact ⟨σ', e, p1, p2, p3⟩
