/-! the reference: its state, its saves -/
theorem l324 : (324 : Int32) = nI 324 := rfl
theorem l4m (v : Nat) : (4 : Int32) + nI v = nI (4 + v) := nI_add 4 v
theorem l6m (v : Nat) : (6 : Int32) + nI v = nI (6 + v) := nI_add 6 v
theorem l24m (v : Nat) : (24 : Int32) * nI v = nI (24 * v) := by rw [l24, pk_mul]
theorem l54m (v : Nat) : (54 : Int32) * nI v = nI (54 * v) := by rw [l54, pk_mul]
theorem l50m (v : Nat) : (50 : Int32) * nI v = nI (50 * v) := by rw [l50, pk_mul]
/-- a state in the reference's order: settings, lengths, signs; at place o of array a -/
def zMz (σ : zmem) (a o : Nat) (S : zS) : Prop := S.1 0 ≤ 24 ∧ S.1 1 ≤ 24 ∧ (∀ k, k < 4 → σ.1 a (o + k) = nI (S.2.2 k)) ∧ (∀ r, r < 2 → σ.1 a (o + 4 + r) = nI (S.1 r)) ∧ ∀ r j, r < 2 → j < S.1 r → σ.1 a (o + 6 + 24 * r + j) = nI (S.2.1 r j)
theorem zMz.le {σ : zmem} {a o : Nat} {S : zS} (h : zMz σ a o S) {r : Nat} (hr : r < 2) : S.1 r ≤ 24 := by
  rcases (show r = 0 ∨ r = 1 by omega) with rfl | rfl
  · exact h.1
  · exact h.2.1
theorem zMz.keep {σ σ' : zmem} {a a' o o' : Nat} {S : zS} (h : zMz σ a o S) (hk : ∀ j, j < 54 → σ'.1 a' (o' + j) = σ.1 a (o + j)) : zMz σ' a' o' S := by
  have hle := fun r hr => h.le (r := r) hr
  obtain ⟨h1, h2, h3, h4, h5⟩ := h
  refine ⟨h1, h2, fun k hk4 => (hk k (by omega)).trans (h3 k hk4), fun r hr => ?_, fun r j hr hj => ?_⟩
  · have := hk (4 + r) (by omega)
    rw [show o' + 4 + r = o' + (4 + r) by omega, this, show o + (4 + r) = o + 4 + r by omega]
    exact h4 r hr
  · have hl := hle r hr
    have := hk (6 + 24 * r + j) (by omega)
    rw [show o' + 6 + 24 * r + j = o' + (6 + 24 * r + j) by omega, this, show o + (6 + 24 * r + j) = o + 6 + 24 * r + j by omega]
    exact h5 r j hr hj
/-- the reference's saved states -/
def zMh (σ : zmem) (m : Nat) (Hs : Nat → zS) : Prop := σ.1 103 1 = nI m ∧ m ≤ 6 ∧ ∀ k, k < m → zMz σ 105 (54 * k) (Hs k)
theorem zMh.keep {σ σ' : zmem} {m : Nat} {Hs : Nat → zS} (h : zMh σ m Hs) (h1 : σ'.1 103 1 = σ.1 103 1) (h2 : σ'.1 105 = σ.1 105) : zMh σ' m Hs :=
  ⟨h1.trans h.1, h.2.1, fun k hk => (h.2.2 k hk).keep (fun j _ => by rw [h2])⟩
theorem qX11_move {fu : Nat} {σ : zmem} (hfu : 400 < fu) : ∃ σ', l_X11_save_12 fu fu (54 : Int32) σ = some σ' ∧ zfr σ σ' [105] ∧ ∀ j, j < 270 → σ'.1 105 j = σ.1 105 (j + 54) := by
  obtain ⟨σ', e, _, p1, p2⟩ := loopP (L := l_X11_save_12 fu) (N := 324) (P := fun v τ => 54 ≤ v ∧ zfr σ τ [105] ∧ ∀ j, τ.1 105 j = if j + 54 < v then σ.1 105 (j + 54) else σ.1 105 j)
    (fun m τ _ => by rw [l_X11_save_12, l324, if_pos (nI_le (Nat.le_refl _) (by decide))])
    (fun m v τ hv ⟨hv54, q1, q2⟩ => by
        refine ⟨zrw τ 105 (upd (τ.1 105) (v - 54) (σ.1 105 v)), ?_, by omega, q1.tr (zfr_rw (by simp)), fun j => ?_⟩
        · rw [l_X11_save_12, l324, if_neg (nI_ge hv (by decide)), zrd_in zc_105 hv (by decide), q2 v, if_neg (by omega)]
          simp only [Option.bind_some]
          rw [l54, pk_sub (by omega), zwr_in zc_105 (show v - 54 < 324 by omega) (by decide)]
          simp only [Option.bind_some, za1]
        · rw [zrw_at]
          by_cases c : j = v - 54
          · rw [c, upd_at, if_pos (by omega), show v - 54 + 54 = v by omega]
          · rw [upd_ne c, q2 j]
            by_cases c2 : j + 54 < v
            · rw [if_pos (by omega), if_pos (by omega)]
            · rw [if_neg (by omega), if_neg (by omega)])
    fu 54 σ (by omega) (by omega) ⟨Nat.le_refl _, zfr.rf, fun j => by rw [if_neg (by omega)]⟩
  exact ⟨σ', e, p1, fun j hj => by rw [p2, if_pos (by omega)]⟩
theorem qX11_lay {fu : Nat} {σ : zmem} {m : Nat} {Hs : Nat → zS} {S : zS} (h : zMh σ m Hs) (hS : zMz σ 104 0 S) (hm : m < 6) (hfu : 400 < fu) : ∃ σ', (l_X11_save_52 fu fu (0 : Int32) σ).bind (fun x5 => some (zst x5 103 1 ((x5.1 103 1) + (1 : Int32)))) = some σ' ∧ zMh σ' (m + 1) (fun k => if k = m then S else Hs k) ∧ zfr σ σ' [103, 105] ∧ ∀ k, k ≠ 1 → σ'.1 103 k = σ.1 103 k := by
  obtain ⟨h1, h2, h3⟩ := h
  obtain ⟨σ', e, p1, p2, p3⟩ := loopP (L := l_X11_save_52 fu) (N := 54) (P := fun v τ => zfr σ τ [105] ∧ (∀ j, j < v → τ.1 105 (54 * m + j) = σ.1 104 j) ∧ ∀ j, j < 54 * m ∨ 54 * m + 54 ≤ j → τ.1 105 j = σ.1 105 j)
    (fun m τ _ => by rw [l_X11_save_52, l54, if_pos (nI_le (Nat.le_refl _) (by decide))])
    (fun n v τ hv ⟨q1, q2, q3⟩ => by
      refine ⟨zrw τ 105 (upd (τ.1 105) (54 * m + v) (σ.1 104 v)), ?_, q1.tr (zfr_rw (by simp)), fun j hj => ?_, fun j hj => ?_⟩
      · rw [l_X11_save_52, l54, if_neg (nI_ge hv (by decide)), zrd_in zc_104 hv (by decide), q1.1 104 (by simp), q1.1 103 (by simp), h1]
        simp only [Option.bind_some]
        rw [pk_mul, nI_add, zwr_in zc_105 (show 54 * m + v < 324 by omega) (by decide)]
        simp only [Option.bind_some, za1]
      · rw [zrw_at]
        by_cases c : j = v
        · rw [c, upd_at]
        · rw [upd_ne (by omega)]
          exact q2 j (by omega)
      · rw [zrw_at, upd_ne (by omega)]
        exact q3 j hj)
    fu 0 σ (by omega) (by omega) ⟨zfr.rf, fun j hj => absurd hj (Nat.not_lt_zero _), fun _ _ => rfl⟩
  have e1 : σ'.1 103 1 = nI m := by rw [p1.1 103 (by simp)]; exact h1
  refine ⟨zst σ' 103 1 (nI (m + 1)), ?_, ⟨zst_at, by omega, fun k hk => ?_⟩, (p1.mono (by intro a; simp; omega)).tr (zfr_st (by simp)), fun k hk => ?_⟩
  · rw [show (0 : Int32) = nI 0 from rfl, e]
    simp only [Option.bind_some, e1, za1]
  · dsimp only
    by_cases c : k = m
    · rw [if_pos c, c]
      exact hS.keep (fun j hj => by rw [zst_1 (by omega), p2 j hj, Nat.zero_add])
    · rw [if_neg c]
      exact (h3 k (by omega)).keep (fun j hj => by rw [zst_1 (by omega), p3 _ (by omega)])
  · rw [zst_s hk, p1.1 103 (by simp)]
theorem qX11_save {fu : Nat} {σ : zmem} {m : Nat} {Hs : Nat → zS} {S : zS} (h : zMh σ m Hs) (hS : zMz σ 104 0 S) (hfu : 400 < fu) : ∃ σ', m_X11_save fu σ = some σ' ∧ zMh σ' (zHpush m Hs S).1 (zHpush m Hs S).2 ∧ zfr σ σ' [103, 105] ∧ ∀ k, k ≠ 1 → σ'.1 103 k = σ.1 103 k := by
  have h' := h
  obtain ⟨h1, h2, h3⟩ := h
  unfold m_X11_save zHpush
  rw [h1, l6]
  by_cases hm : m < 6
  · rw [if_pos (fun q => absurd ((nI_eq (by omega) (by omega)).mp q) (by omega)), if_pos hm]
    simp only [Option.bind_some]
    exact qX11_lay h' hS hm hfu
  · have hm6 : m = 6 := by omega
    subst hm6
    rw [if_neg (fun q => q rfl), if_neg hm]
    obtain ⟨σ1, e1, f1, p1⟩ := qX11_move (σ := σ) hfu
    rw [e1]
    simp only [Option.bind_some]
    rw [f1.1 103 (by simp), h1, zs1 (by decide)]
    have g1 : zMh (zst σ1 103 1 (nI (6 - 1))) 5 (fun k => Hs (k + 1)) := ⟨zst_at, by decide, fun k hk => (h3 (k + 1) (by omega)).keep (fun j hj => by rw [zst_1 (by omega), p1 _ (by omega), show 54 * k + j + 54 = 54 * (k + 1) + j by omega])⟩
    have f2 : zfr σ (zst σ1 103 1 (nI (6 - 1))) [103, 105] := (f1.mono (by intro a; simp; omega)).tr (zfr_st (by simp))
    obtain ⟨σ', e2, g2, f3, k3⟩ := qX11_lay (fu := fu) g1 (hS.keep (o' := 0) (a' := 104) (fun j _ => by rw [f2.1 104 (by simp)])) (by decide) hfu
    refine ⟨σ', e2, g2, f2.tr f3, fun k hk => ?_⟩
    rw [k3 k hk, zst_s hk, f1.1 103 (by simp)]
theorem qX11_undo {fu : Nat} {σ : zmem} {m : Nat} {Hs : Nat → zS} (h : zMh σ (m + 1) Hs) (hfu : 400 < fu) : ∃ σ', m_X11_undo fu σ = some (nI m, σ') ∧ zMh σ' m Hs ∧ zMz σ' 104 0 (Hs m) ∧ zfr σ σ' [103, 104] ∧ ∀ k, k ≠ 1 → σ'.1 103 k = if k = 7 then 0 else σ.1 103 k := by
  obtain ⟨h1, h2, h3⟩ := h
  let σ0 : zmem := zst (zst σ 103 7 (0 : Int32)) 103 1 (nI m)
  have f0 : zfr σ σ0 [103, 104] := (zfr_st (by simp)).tr (zfr_st (by simp))
  have e0 : σ0.1 103 1 = nI m := zst_at
  obtain ⟨σ', e, p1, p2⟩ := loopP (L := l_X11_undo_37 fu) (N := 54) (P := fun v τ => zfr σ0 τ [104] ∧ ∀ j, j < v → τ.1 104 j = σ.1 105 (54 * m + j))
    (fun m τ _ => by rw [l_X11_undo_37, l54, if_pos (nI_le (Nat.le_refl _) (by decide))])
    (fun n v τ hv ⟨q1, q2⟩ => by
      refine ⟨zrw τ 104 (upd (τ.1 104) v (σ.1 105 (54 * m + v))), ?_, q1.tr (zfr_rw (by simp)), fun j hj => ?_⟩
      · rw [l_X11_undo_37, l54, if_neg (nI_ge hv (by decide)), q1.1 103 (by simp), e0, pk_mul, nI_add, zrd_in zc_105 (show 54 * m + v < 324 by omega) (by decide), q1.1 105 (by simp), f0.1 105 (by simp)]
        simp only [Option.bind_some]
        rw [zwr_in zc_104 hv (by decide)]
        simp only [Option.bind_some, za1]
      · rw [zrw_at]
        by_cases c : j = v
        · rw [c, upd_at]
        · rw [upd_ne c]
          exact q2 j (by omega))
    fu 0 σ0 (by omega) (by omega) ⟨zfr.rf, fun j hj => absurd hj (Nat.not_lt_zero _)⟩
  have e1 : σ'.1 103 1 = nI m := by rw [p1.1 103 (by simp)]; exact e0
  refine ⟨σ', ?_, ⟨e1, by omega, fun k hk => (h3 k (by omega)).keep (fun j _ => by rw [p1.1 105 (by simp), f0.1 105 (by simp)])⟩, (h3 m (by omega)).keep (fun j hj => by rw [Nat.zero_add]; exact p2 j hj), f0.tr (p1.mono (by intro a; simp; omega)), fun k hk => ?_⟩
  · unfold m_X11_undo
    rw [h1, if_neg (nI_nle (by omega) (by omega))]
    simp only [Option.bind_some]
    rw [zst_at, if_pos (by decide), zst_s (by decide), h1, zs1 (by omega), show m + 1 - 1 = m by omega]
    show (l_X11_undo_37 fu fu (nI 0) σ0).bind _ = _
    rw [e]
    simp only [Option.bind_some, e1]
  · rw [p1.1 103 (by simp)]
    show (zst (zst σ 103 7 (0 : Int32)) 103 1 (nI m)).1 103 k = _
    rw [zst_s hk]
    by_cases c : k = 7
    · rw [if_pos c, c, zst_at]
    · rw [if_neg c, zst_s c]
