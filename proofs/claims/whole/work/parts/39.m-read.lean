/-! the reference: how far its text is right; what it reads -/
def zMt (σ : zmem) (L : Nat) (C : Nat → Nat) : Prop := L ≤ 60 ∧ σ.1 103 5 = nI L ∧ ∀ j, j < L → σ.1 108 j = nI (C j) ∧ 33 ≤ C j ∧ C j ≤ 126
theorem zMt.keep {σ σ' : zmem} {L : Nat} {C : Nat → Nat} (h : zMt σ L C) (h1 : σ'.1 103 5 = σ.1 103 5) (h2 : σ'.1 108 = σ.1 108) : zMt σ' L C :=
  ⟨h.1, h1.trans h.2.1, fun j hj => by rw [h2]; exact h.2.2 j hj⟩
theorem zPg_none {C : Nat → Nat} {L k : Nat} {P : zPs} (hk : k < L) (e : zPt (C k) P = none) : zPg C (L - k) k P = (k, P) := by
  rw [show L - k = (L - (k + 1)) + 1 by omega, zPg, e]
theorem zPg_some {C : Nat → Nat} {L k : Nat} {P P' : zPs} (hk : k < L) (e : zPt (C k) P = some P') : zPg C (L - k) k P = zPg C (L - (k + 1)) (k + 1) P' := by
  rw [show L - k = (L - (k + 1)) + 1 by omega, zPg, e]
theorem qX11_right_l {fu : Nat} {L : Nat} {C : Nat → Nat} (hfu : 100 < fu) : ∀ (m k : Nat) (P : zPs) (σ : zmem), zMt σ L C → zPi P → zMp σ P → k ≤ L → L - k < m →
    ∃ σ', l_X11_rightUpTo_26 fu m (nI k) σ = some (nI (zPg C (L - k) k P).1, σ') ∧ ((zPg C (L - k) k P).1 = L → zMp σ' (zPg C (L - k) k P).2) ∧ zfr σ σ' [103, 122, 123] ∧ ∀ k, k ≠ 27 → k ≠ 28 → σ'.1 103 k = σ.1 103 k := by
  intro m
  induction m with
  | zero => intro k P σ _ _ _ _ h; omega
  | succ m ih =>
    intro k P σ h hP hM hk hm
    have h' := h
    obtain ⟨hL, h1, h2⟩ := h
    rw [l_X11_rightUpTo_26, h1]
    by_cases hv : k = L
    · subst hv
      rw [if_pos (nI_le (Nat.le_refl _) (by omega)), Nat.sub_self]
      exact ⟨σ, rfl, fun _ => hM, zfr.rf, fun _ _ _ => rfl⟩
    · obtain ⟨g1, g2, g3⟩ := h2 k (by omega)
      rw [if_neg (nI_ge (show k < L by omega) (by omega)), zrd_in zc_108 (show k < 60 by omega) (by decide), g1, za1]
      obtain ⟨σ1, v, e1, p1, p2, f1, k1⟩ := qX11_takes (fu := fu) hP hM ⟨g2, g3⟩ hfu
      simp only [Option.bind_some]
      rw [e1]
      simp only [Option.bind_some]
      cases e2 : zPt (C k) P with
      | none =>
        rw [p1 e2, if_pos rfl, zPg_none (by omega) e2]
        exact ⟨σ1, rfl, fun q => absurd (show k = L from q) hv, f1, k1⟩
      | some P' =>
        obtain ⟨q1, q2⟩ := p2 P' e2
        rw [q1, if_neg (by decide), zPg_some (by omega) e2]
        obtain ⟨σ', e3, p3, f3, k3⟩ := ih (k + 1) P' σ1 (h'.keep (k1 5 (by decide) (by decide)) (f1.1 108 (by simp))) (zPt_i hP e2) q2 (by omega) (by omega)
        exact ⟨σ', e3, p3, f1.tr f3, fun j j1 j2 => (k3 j j1 j2).trans (k1 j j1 j2)⟩
theorem qX11_rightUpTo {fu : Nat} {σ : zmem} {L : Nat} {C : Nat → Nat} (h : zMt σ L C) (hfu : 100 < fu) :
    ∃ σ', m_X11_rightUpTo fu σ = some (nI (zPg C L 0 zP0).1, σ') ∧ ((zPg C L 0 zP0).1 = L → zMp σ' (zPg C L 0 zP0).2) ∧ zfr σ σ' [103, 122, 123] ∧ ∀ k, k ≠ 27 → k ≠ 28 → σ'.1 103 k = σ.1 103 k := by
  have hL := h.1
  let σ0 : zmem := zst (zst (zrw (zrw σ 123 (upd (σ.1 123) 0 0)) 123 (upd (upd (σ.1 123) 0 0) 1 0)) 103 27 (0 : Int32)) 103 28 (0 : Int32)
  have f0 : zfr σ σ0 [103, 122, 123] := (((zfr_rw (by simp)).tr (zfr_rw (by simp))).tr (zfr_st (by simp))).tr (zfr_st (by simp))
  have k0 : ∀ k, k ≠ 27 → k ≠ 28 → σ0.1 103 k = σ.1 103 k := fun k k1 k2 => by
    show (zst (zst (zrw (zrw σ 123 (upd (σ.1 123) 0 0)) 123 (upd (upd (σ.1 123) 0 0) 1 0)) 103 27 (0 : Int32)) 103 28 (0 : Int32)).1 103 k = _
    rw [zst_s k2, zst_s k1, zrw_ne (by decide), zrw_ne (by decide)]
  have m0 : zMp σ0 zP0 := by
    refine ⟨(zst_s (by decide)).trans zst_at, zst_at, fun r hr => ?_, fun r j hr hj => absurd hj (Nat.not_lt_zero _)⟩
    show (zst (zst (zrw (zrw σ 123 (upd (σ.1 123) 0 0)) 123 (upd (upd (σ.1 123) 0 0) 1 0)) 103 27 (0 : Int32)) 103 28 (0 : Int32)).1 123 r = nI 0
    rw [zst_1 (by decide), zst_1 (by decide), zrw_at]
    rcases (show r = 0 ∨ r = 1 by omega) with rfl | rfl
    · rw [upd_ne (by decide), upd_at]; rfl
    · rw [upd_at]; rfl
  obtain ⟨σ', e, p, f, k1⟩ := qX11_right_l (fu := fu) (C := C) hfu fu 0 zP0 σ0 (h.keep (k0 5 (by decide) (by decide)) (f0.1 108 (by simp))) zP0_i m0 (by omega) (by omega)
  rw [Nat.sub_zero] at e p
  refine ⟨σ', ?_, p, f0.tr f, fun k j1 j2 => (k1 k j1 j2).trans (k0 k j1 j2)⟩
  unfold m_X11_rightUpTo
  rw [l0, l1, zwr_in zc_123 (show 0 < 2 by decide) (by decide)]
  simp only [Option.bind_some]
  rw [zwr_in zc_123 (show 1 < 2 by decide) (by decide), zrw_at]
  simp only [Option.bind_some]
  have e : l_X11_rightUpTo_26 fu fu (nI 0) (zst (zst (zrw (zrw σ 123 (upd (σ.1 123) 0 (nI 0))) 123 (upd (upd (σ.1 123) 0 (nI 0)) 1 (nI 0))) 103 27 (nI 0)) 103 28 (nI 0)) = _ := e
  rw [e]
  rfl
theorem qX11_firstError {fu : Nat} {σ : zmem} {L : Nat} {C : Nat → Nat} (h : zMt σ L C) (hfu : 100 < fu) :
    ∃ σ', m_X11_firstError fu σ = some (nI (zPg C L 0 zP0).1, σ') ∧ zfr σ σ' [103, 122, 123] ∧ ∀ k, k ≠ 27 → k ≠ 28 → σ'.1 103 k = if k = 7 then 0 else σ.1 103 k := by
  obtain ⟨σ', e, _, f, k1⟩ := qX11_rightUpTo (fu := fu) (σ := zst σ 103 7 (0 : Int32)) (h.keep (zst_s (by decide)) (zst_1 (by decide))) hfu
  refine ⟨σ', ?_, (zfr_st (by simp)).tr f, fun k j1 j2 => ?_⟩
  · unfold m_X11_firstError
    rw [e]
    rfl
  · rw [k1 k j1 j2]
    by_cases c : k = 7
    · rw [if_pos c, c, zst_at]
    · rw [if_neg c, zst_s c]
theorem qX11_readRow {fu : Nat} {σ : zmem} {P : zPs} {r : Nat} (hr : r < 2) (hn : P.1 r ≤ 24) (h : zMp σ P) (hfu : 100 < fu) : ∃ σ', l_X11_read_69 fu (nI r) fu (0 : Int32) σ = some σ' ∧ zfr σ σ' [104] ∧ (∀ j, j < P.1 r → σ'.1 104 (6 + 24 * r + j) = nI (P.2.1 r j)) ∧ ∀ j, j < 6 + 24 * r ∨ 30 + 24 * r ≤ j → σ'.1 104 j = σ.1 104 j := by
  obtain ⟨σ', e, p1, p2, p3⟩ := loopP (L := l_X11_read_69 fu (nI r)) (N := 24) (P := fun v τ => zfr σ τ [104] ∧ (∀ j, j < v → j < P.1 r → τ.1 104 (6 + 24 * r + j) = nI (P.2.1 r j)) ∧ ∀ j, j < 6 + 24 * r ∨ 30 + 24 * r ≤ j → τ.1 104 j = σ.1 104 j)
    (fun m τ _ => by rw [l_X11_read_69, l24, if_pos (nI_le (Nat.le_refl _) (by decide))])
    (fun n v τ hv ⟨q1, q2, q3⟩ => by
      have e1 : ∃ x, ((if nI (P.1 r) ≤ nI v then some (0 : Int32) else (zrd τ 122 (((24 : Int32) * nI r) + nI v)).bind fun x9 => some x9) : Option Int32) = some x ∧ (v < P.1 r → x = nI (P.2.1 r v)) := by
        by_cases c : P.1 r ≤ v
        · rw [if_pos (nI_le c (by omega))]
          exact ⟨_, rfl, fun q => absurd q (by omega)⟩
        · rw [if_neg (nI_ge (by omega) (by omega)), l24m, nI_add, zrd_in zc_122 (show 24 * r + v < 48 by omega) (by decide), q1.1 122 (by simp), h.2.2.2 r v hr (by omega)]
          exact ⟨_, rfl, fun _ => rfl⟩
      obtain ⟨x, e1, e2⟩ := e1
      refine ⟨zrw τ 104 (upd (τ.1 104) (6 + 24 * r + v) x), ?_, q1.tr (zfr_rw (by simp)), fun j j1 j2 => ?_, fun j hj => ?_⟩
      · rw [l_X11_read_69, if_neg (show ¬ (24 : Int32) ≤ nI v from nI_ge hv (by decide)), zrd_in zc_123 hr (by decide), q1.1 123 (by simp), h.2.2.1 r hr]
        simp only [Option.bind_some]
        rw [e1]
        simp only [Option.bind_some]
        unfold m_X11_lay
        rw [l24m, l6m, nI_add, zwr_in zc_104 (show 6 + 24 * r + v < 54 by omega) (by decide)]
        simp only [Option.bind_some, za1]
      · rw [zrw_at]
        by_cases c : j = v
        · rw [c, upd_at]
          exact e2 (by omega)
        · rw [upd_ne (by omega)]
          exact q2 j (by omega) j2
      · rw [zrw_at, upd_ne (by omega)]
        exact q3 j hj)
    fu 0 σ (by omega) (by omega) ⟨zfr.rf, fun j hj => absurd hj (Nat.not_lt_zero _), fun _ _ => rfl⟩
  exact ⟨σ', e, p1, fun j hj => p2 j (by omega) hj, p3⟩
theorem qX11_readRows {fu : Nat} {σ : zmem} {P : zPs} {S : zS} (hP : zPi P) (h : zMp σ P) (hS : zMz σ 104 0 S) (hfu : 100 < fu) : ∃ σ', l_X11_read_48 fu fu (0 : Int32) σ = some σ' ∧ zfr σ σ' [104] ∧ zMz σ' 104 0 (P.1, P.2.1, S.2.2) := by
  obtain ⟨σ', e, p1, p2, p3, p4⟩ := loopP (L := l_X11_read_48 fu) (N := 2) (P := fun v τ => zfr σ τ [104] ∧ (∀ k, k < 4 → τ.1 104 k = nI (S.2.2 k)) ∧ (∀ r, r < v → r < 2 → τ.1 104 (4 + r) = nI (P.1 r)) ∧ ∀ r j, r < v → r < 2 → j < P.1 r → τ.1 104 (6 + 24 * r + j) = nI (P.2.1 r j))
    (fun m τ _ => by rw [l_X11_read_48, l2, if_pos (nI_le (Nat.le_refl _) (by decide))])
    (fun n v τ hv ⟨q1, q2, q3, q4⟩ => by
      have f1 : zfr τ (zrw τ 104 (upd (τ.1 104) (4 + v) (nI (P.1 v)))) [104] := zfr_rw (by simp)
      have q1' := q1.tr f1
      have hMp : zMp (zrw τ 104 (upd (τ.1 104) (4 + v) (nI (P.1 v)))) P := ⟨by rw [q1'.1 103 (by simp)]; exact h.1, by rw [q1'.1 103 (by simp)]; exact h.2.1, fun r hr => by rw [q1'.1 123 (by simp)]; exact h.2.2.1 r hr, fun r j hr hj => by rw [q1'.1 122 (by simp)]; exact h.2.2.2 r j hr hj⟩
      have hle := fun r => hP.2.2.2.1 r
      obtain ⟨σ2, e2, f2, p5, p6⟩ := qX11_readRow (fu := fu) (r := v) hv (hle v) hMp hfu
      refine ⟨σ2, ?_, q1'.tr f2, fun k hk => ?_, fun r h1 h2 => ?_, fun r j h1 h2 hj => ?_⟩
      · rw [l_X11_read_48, l2, if_neg (nI_ge hv (by decide)), zrd_in zc_123 hv (by decide), q1.1 123 (by simp), h.2.2.1 v hv]
        simp only [Option.bind_some]
        rw [l4m, zwr_in zc_104 (show 4 + v < 54 by omega) (by decide)]
        simp only [Option.bind_some]
        rw [e2]
        simp only [Option.bind_some, za1]
      · rw [p6 k (by omega), zrw_at, upd_ne (by omega)]
        exact q2 k hk
      · rw [p6 _ (by omega), zrw_at]
        by_cases c : r = v
        · rw [c, upd_at]
        · rw [upd_ne (by omega)]
          exact q3 r (by omega) h2
      · have hl := hle r
        by_cases c : r = v
        · rw [c]
          exact p5 j (by rw [← c]; exact hj)
        · rw [p6 _ (by omega), zrw_at, upd_ne (by omega)]
          exact q4 r j (by omega) h2 hj)
    fu 0 σ (by omega) (by omega) ⟨zfr.rf, fun k hk => by have := hS.2.2.1 k hk; rw [Nat.zero_add] at this; exact this, fun r hr => absurd hr (Nat.not_lt_zero _), fun r j hr => absurd hr (Nat.not_lt_zero _)⟩
  exact ⟨σ', e, p1, hP.2.2.2.1 0, hP.2.2.2.1 1, fun k hk => by rw [Nat.zero_add]; exact p2 k hk, fun r hr => by rw [Nat.zero_add]; exact p3 r hr hr, fun r j hr hj => by rw [Nat.zero_add]; exact p4 r j hr hr hj⟩
