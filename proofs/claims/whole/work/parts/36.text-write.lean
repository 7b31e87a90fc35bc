/-! the rows that a text writes; what is added to it -/
theorem zTx.keep {σ σ' : zmem} {i L : Nat} {C : Nat → Nat} {l : List Nat} (h : zTx σ i L C) (hf : zfr σ σ' l) (h1 : i ∉ l) (h2 : i + 2 ∉ l) : zTx σ' i L C :=
  ⟨h.1, h.2.1, h.2.2.1, by rw [hf.1 _ h1]; exact h.2.2.2.1, fun j hj => by rw [hf.1 _ h2]; exact h.2.2.2.2 j hj⟩
theorem pX6_clear {fu : Nat} {σ : zmem} {i : Nat} {f : Nat → Nat} (hi : zkd i = (6, 0)) : ∃ σ', m_X6_clear fu σ i = some σ' ∧ zRow σ' i 0 f ∧ zfr σ σ' [i, i + 1] :=
  ⟨_, rfl, ⟨hi, by decide, zst_at, fun j hj => absurd hj (Nat.not_lt_zero _)⟩, zfr_st (by simp)⟩
theorem pX8_writeRows_l {fu : Nat} {i b L : Nat} {C : Nat → Nat} (hb : zkd b = (7, 0)) (hib : i + 2 < b ∨ b + 6 < i) (hfu : 30 < fu) : ∀ (m k : Nat) (P : zPs) (σ : zmem), zTx σ i L C → zPi P → k ≤ L → L - k < m → (zPg C (L - k) k P).1 = L → zRs σ b P.1 P.2.1 →
    ∃ σ', l_X8_writeRows_21 fu i b m (b + 1 + 2 * P.2.2.1) (nI k) σ = some σ' ∧ zRs σ' b (zPg C (L - k) k P).2.1 (zPg C (L - k) k P).2.2.1 ∧ zfr σ σ' [b + 1, b + 2, b + 3, b + 4] := by
  intro m
  induction m with
  | zero => intro k P σ _ _ _ h; omega
  | succ m ih =>
    intro k P σ h hP hk hm hf hR
    have h' := h
    obtain ⟨hi, hq, hL, h1, h2⟩ := h
    rw [l_X8_writeRows_21, h1]
    by_cases hv : k = L
    · subst hv
      rw [if_pos (nI_le (Nat.le_refl _) (by omega)), Nat.sub_self]
      exact ⟨σ, rfl, hR, zfr.rf⟩
    · obtain ⟨g1, g2, g3⟩ := h2 k (by omega)
      rw [if_neg (nI_ge (show k < L by omega) (by omega)), pX1_at hq (show k < 60 by omega) (by decide), g1, za1]
      obtain ⟨P', e1, e2⟩ := zPg_step (m := L - (k + 1)) hP (by rw [show L - (k + 1) + 1 = L - k by omega, hf]; omega)
      rw [show L - (k + 1) + 1 = L - k by omega] at e2
      rw [e2] at hf ⊢
      have hP' := zPt_i hP e1
      simp only [Option.bind_some, pX8_isLetter g3, pX8_isNumber g3]
      have hr : zRow σ (b + 1 + 2 * P.2.2.1) (P.1 P.2.2.1) (P.2.1 P.2.2.1) := by
        have := hP.1
        by_cases c : P.2.2.1 = 0
        · rw [c]; exact hR.2.1
        · rw [show P.2.2.1 = 1 by omega]; exact hR.2.2
      have go : ∀ σ1, P'.2.2.1 = P.2.2.1 → zRow σ1 (b + 1 + 2 * P.2.2.1) (P'.1 P.2.2.1) (P'.2.1 P.2.2.1) → zfr σ σ1 [b + 1 + 2 * P.2.2.1, b + 1 + 2 * P.2.2.1 + 1] → (∀ r, r ≠ P.2.2.1 → P'.1 r = P.1 r) → (∀ r j, r ≠ P.2.2.1 → P'.2.1 r j = P.2.1 r j) →
          ∃ σ', l_X8_writeRows_21 fu i b m (b + 1 + 2 * P.2.2.1) (nI (k + 1)) σ1 = some σ' ∧ zRs σ' b (zPg C (L - (k + 1)) (k + 1) P').2.1 (zPg C (L - (k + 1)) (k + 1) P').2.2.1 ∧ zfr σ σ' [b + 1, b + 2, b + 3, b + 4] := by
        intro σ1 r1 r2 f1 r3 r4
        have hle := hP.1
        have hR1 : zRs σ1 b P'.1 P'.2.1 := by
          by_cases c : P.2.2.1 = 0
          · rw [c] at r2 f1 r3 r4
            refine ⟨hb, r2, ?_⟩
            have k1 := hR.2.2.keep (σ' := σ1) (f1.1 _ (by simp)) (f1.1 _ (by simp))
            exact ⟨k1.1, by rw [r3 1 (by decide)]; exact k1.2.1, by rw [r3 1 (by decide)]; exact k1.2.2.1, fun j hj => by rw [r4 1 j (by decide)]; exact k1.2.2.2 j (by rw [← r3 1 (by decide)]; exact hj)⟩
          · have c : P.2.2.1 = 1 := by omega
            rw [c] at r2 f1 r3 r4
            refine ⟨hb, ?_, r2⟩
            have k1 := hR.2.1.keep (σ' := σ1) (f1.1 _ (by simp)) (f1.1 _ (by simp))
            exact ⟨k1.1, by rw [r3 0 (by decide)]; exact k1.2.1, by rw [r3 0 (by decide)]; exact k1.2.2.1, fun j hj => by rw [r4 0 j (by decide)]; exact k1.2.2.2 j (by rw [← r3 0 (by decide)]; exact hj)⟩
        have f2 : zfr σ σ1 [b + 1, b + 2, b + 3, b + 4] := f1.mono (by intro a; simp; omega)
        obtain ⟨σ', e3, e4, e5⟩ := ih (k + 1) P' σ1 (h'.keep f2 (by simp; omega) (by simp; omega)) hP' (by omega) (by omega) hf hR1
        rw [r1] at e3
        exact ⟨σ', e3, e4, f2.tr e5⟩
      unfold zPt at e1
      by_cases hA : 97 ≤ C k ∧ C k ≤ 100
      · rw [if_neg (by omega), if_pos hA] at e1
        by_cases c3 : P.1 P.2.2.1 < 24
        · rw [if_pos c3] at e1
          obtain ⟨g, e5, e6⟩ := pX6_extend (fu := fu) (v := nI (C k - 97)) hr c3
          rw [if_pos hA, if_neg (show ¬ (1 : Int32) = 0 by decide), show (97 : Int32) = nI 97 from rfl, pk_sub hA.1, e5]
          simp only [Option.bind_some]
          cases e1
          refine go _ rfl ?_ (zfr_Rw (by simp) (by simp)) (fun r hr => ?_) (fun r j hr => ?_)
          · dsimp only
            rw [if_pos rfl]
            refine zRw_row hr.1 (by omega) (fun j hj => ?_)
            rw [e6 j hj]
            by_cases c4 : j = P.1 P.2.2.1
            · rw [if_pos c4, if_pos ⟨rfl, by omega⟩]
            · rw [if_neg c4, if_neg (fun q => c4 (by have := q.2; omega))]
          · dsimp only
            rw [if_neg hr]
          · dsimp only
            rw [if_neg (fun q => hr q.1)]
        · rw [if_neg c3] at e1; cases e1
      · rw [if_neg hA, if_pos (show (0 : Int32) = 0 from rfl)]
        by_cases hB : 50 ≤ C k ∧ C k ≤ 57
        · rw [if_neg (by omega), if_neg hA] at e1
          by_cases c3 : P.2.2.2 = true ∧ 50 ≤ C k ∧ C k ≤ 57 ∧ P.1 P.2.2.1 + (C k - 49) ≤ 24
          · rw [if_pos c3] at e1
            have hp1 := hP.2.2.1 c3.1
            obtain ⟨σ1, e5, e6, e7⟩ := pX8_repeatLast (fu := fu) (q := C k - 49) hr hp1 c3.2.2.2 hfu
            rw [if_pos hB, if_neg (show ¬ (1 : Int32) = 0 by decide), show (48 : Int32) = nI 48 from rfl, pk_sub (by omega), zs1 (by omega), show C k - 48 - 1 = C k - 49 by omega, e5]
            simp only [Option.bind_some]
            cases e1
            refine go _ rfl ?_ e7 (fun r hr => ?_) (fun r j hr => ?_)
            · dsimp only
              rw [if_pos rfl]
              refine ⟨e6.1, e6.2.1, e6.2.2.1, fun j hj => ?_⟩
              rw [e6.2.2.2 j hj]
              dsimp only
              by_cases c4 : P.1 P.2.2.1 ≤ j
              · rw [if_pos c4, if_pos ⟨rfl, c4⟩]
              · rw [if_neg c4, if_neg (fun q => c4 q.2)]
            · dsimp only
              rw [if_neg hr]
            · dsimp only
              rw [if_neg (fun q => hr q.1)]
          · rw [if_neg c3] at e1; cases e1
        · by_cases c1 : C k = 47
          · rw [if_pos c1] at e1
            by_cases c2 : P.2.2.1 = 0
            · rw [if_pos c2] at e1
              rw [if_neg hB, if_pos (show (0 : Int32) = 0 from rfl)]
              simp only [Option.bind_some]
              cases e1
              obtain ⟨σ', e3, e4, e5⟩ := ih (k + 1) (P.1, P.2.1, 1, false) σ h' hP' (by omega) (by omega) hf hR
              exact ⟨σ', e3, e4, e5⟩
            · rw [if_neg c2] at e1; cases e1
          · rw [if_neg c1, if_neg hA, if_neg (fun q => hB ⟨q.2.1, q.2.2.1⟩)] at e1
            cases e1
theorem pX8_writeRows {fu : Nat} {σ : zmem} {i b L : Nat} {C : Nat → Nat} (h : zTx σ i L C) (hb : zkd b = (7, 0)) (hib : i + 2 < b ∨ b + 6 < i) (hf : (zPg C L 0 zP0).1 = L) (hfu : 100 < fu) :
    ∃ σ', m_X8_writeRows fu σ i b = some σ' ∧ zRs σ' b (zPg C L 0 zP0).2.1 (zPg C L 0 zP0).2.2.1 ∧ zfr σ σ' [b + 1, b + 2, b + 3, b + 4] := by
  have hL := h.2.2.1
  obtain ⟨σ1, e1, r1, f1⟩ := pX6_clear (fu := fu) (σ := σ) (f := fun _ => 0) (zkd7_1 hb)
  obtain ⟨σ2, e2, r2, f2⟩ := pX6_clear (fu := fu) (σ := σ1) (f := fun _ => 0) (zkd7_3 hb)
  have f3 : zfr σ σ2 [b + 1, b + 2, b + 3, b + 4] := (f1.mono (by intro a; simp; omega)).tr (f2.mono (by intro a; simp; omega))
  obtain ⟨σ', e3, r3, f4⟩ := pX8_writeRows_l (fu := fu) hb hib (by omega) fu 0 zP0 σ2 (h.keep f3 (by simp; omega) (by simp; omega)) zP0_i (by omega) (by omega) hf ⟨hb, r1.keep (f2.1 _ (by simp)) (f2.1 _ (by simp)), r2⟩
  refine ⟨σ', ?_, r3, f3.tr f4⟩
  unfold m_X8_writeRows
  rw [e1]
  simp only [Option.bind_some]
  rw [e2]
  exact congrArg (fun o => o.bind fun x => some x) e3
theorem pX8_clear {fu : Nat} {σ : zmem} {i L : Nat} {C : Nat → Nat} (h : zTx σ i L C) : ∃ σ', m_X8_clear fu σ i = some σ' ∧ zTx σ' i 0 C ∧ zfr σ σ' [i] :=
  ⟨_, rfl, ⟨h.1, h.2.1, by decide, zst_at, fun j hj => absurd hj (Nat.not_lt_zero _)⟩, zfr_st (by simp)⟩
theorem pX8_add {fu : Nat} {σ : zmem} {i L c : Nat} {C : Nat → Nat} (h : zTx σ i L C) (hL : L < 60) (hc : 33 ≤ c ∧ c ≤ 126) : ∃ σ', m_X8_add fu σ i (nI c) = some σ' ∧ zTx σ' i (L + 1) (fun j => if j = L then c else C j) ∧ zfr σ σ' [i, i + 2] := by
  obtain ⟨hi, hq, _, h1, h2⟩ := h
  refine ⟨zst (zrw σ (i + 2) (upd (σ.1 (i + 2)) L (nI c))) i 1 (nI (L + 1)), ?_, ⟨hi, hq, by omega, zst_at, fun j hj => ?_⟩, (zfr_rw (by simp)).tr (zfr_st (by simp))⟩
  · unfold m_X8_add
    rw [h1, l60, if_neg (nI_ge hL (by decide)), pX1_store hq hL (by decide)]
    simp only [Option.bind_some]
    rw [zrw_ne (by omega), h1, za1]
  · rw [zst_1 (by omega), zrw_at]
    dsimp only
    by_cases c1 : j = L
    · rw [if_pos c1, c1, upd_at]
      exact ⟨rfl, hc⟩
    · rw [if_neg c1, upd_ne c1]
      exact h2 j (by omega)
