/-! the text, read whole: whether it is a pair of rows, and how its rows are written -/
theorem zPg_step {C : Nat → Nat} {m k : Nat} {P : zPs} (hP : zPi P) (h : (zPg C (m + 1) k P).1 = k + (m + 1)) : ∃ P', zPt (C k) P = some P' ∧ zPg C (m + 1) k P = zPg C m (k + 1) P' := by
  cases e : zPt (C k) P with
  | none =>
    have : zPg C (m + 1) k P = (k, P) := by rw [zPg, e]
    rw [this] at h
    exact absurd (show k = k + (m + 1) from h) (by omega)
  | some P' => exact ⟨P', rfl, by rw [zPg, e]⟩
theorem pX8_isPair_t {fu : Nat} {σ : zmem} {i L : Nat} {C : Nat → Nat} (h : zTx σ i L C) : ∀ (m k : Nat) (v : Int32), k ≤ L → L - k < m → ∃ o, l_X8_isPairOfRows_4 fu σ i m v (nI k) = some o := by
  obtain ⟨hi, hq, hL, h1, h2⟩ := h
  intro m
  induction m with
  | zero => intro k v _ h; omega
  | succ m ih =>
    intro k v hk hm
    rw [l_X8_isPairOfRows_4, h1]
    by_cases hv : k = L
    · subst hv
      rw [if_pos (nI_le (Nat.le_refl _) (by omega))]
      exact ⟨_, rfl⟩
    · rw [if_neg (nI_ge (show k < L by omega) (by omega)), za1, pX1_at hq (show k < 60 by omega) (by decide)]
      by_cases c1 : ¬ v = 0
      · rw [if_pos c1]
        exact ih (k + 1) _ (by omega) (by omega)
      · rw [if_neg c1]
        by_cases c2 : ¬ σ.1 (i + 1 + 1) k = (47 : Int32)
        · simp only [Option.bind_some]
          rw [if_pos c2]
          exact ih (k + 1) _ (by omega) (by omega)
        · simp only [Option.bind_some]
          rw [if_neg c2]
          exact ih (k + 1) _ (by omega) (by omega)
theorem zPt_row {c : Nat} {P P' : zPs} (hP : zPi P) (e : zPt c P = some P') : P'.2.2.1 = if c = 47 then 1 else P.2.2.1 := by
  unfold zPt at e
  by_cases c1 : c = 47
  · rw [if_pos c1] at e
    rw [if_pos c1]
    split at e <;> cases e
    rfl
  · rw [if_neg c1] at e
    rw [if_neg c1]
    split at e
    · split at e <;> cases e
      rfl
    · split at e <;> cases e
      rfl
theorem pX8_isPair_l {fu : Nat} {σ : zmem} {i L : Nat} {C : Nat → Nat} (h : zTx σ i L C) : ∀ (m k : Nat) (P : zPs), zPi P → k ≤ L → L - k < m → (zPg C (L - k) k P).1 = L → l_X8_isPairOfRows_4 fu σ i m (zb (P.2.2.1 == 1)) (nI k) = some (zb ((zPg C (L - k) k P).2.2.2.1 == 1)) := by
  obtain ⟨hi, hq, hL, h1, h2⟩ := h
  intro m
  induction m with
  | zero => intro k P _ _ h; omega
  | succ m ih =>
    intro k P hP hk hm hf
    rw [l_X8_isPairOfRows_4, h1]
    by_cases hv : k = L
    · subst hv
      rw [if_pos (nI_le (Nat.le_refl _) (by omega)), Nat.sub_self]
      rfl
    · obtain ⟨g1, g2, g3⟩ := h2 k (by omega)
      rw [if_neg (nI_ge (show k < L by omega) (by omega)), za1, pX1_at hq (show k < 60 by omega) (by decide), g1]
      obtain ⟨P', e1, e2⟩ := zPg_step (m := L - (k + 1)) hP (by rw [show L - (k + 1) + 1 = L - k by omega, hf]; omega)
      rw [show L - (k + 1) + 1 = L - k by omega] at e2
      rw [e2] at hf ⊢
      have e3 := zPt_row hP e1
      have e4 := ih (k + 1) P' (zPt_i hP e1) (by omega) (by omega) hf
      rw [← e4]
      simp only [Option.bind_some]
      by_cases c1 : P.2.2.1 = 1
      · have c5 : P'.2.2.1 = 1 := by rw [e3]; split <;> first | rfl | exact c1
        rw [c1, c5, if_pos (show ¬ zb ((1 : Nat) == 1) = 0 by decide)]
        rfl
      · have c5 : P.2.2.1 = 0 := by have := hP.1; omega
        rw [c5, if_neg (show ¬ ¬ zb ((0 : Nat) == 1) = 0 by decide)]
        by_cases c2 : C k = 47
        · rw [if_pos c2] at e3
          rw [e3, if_neg (show ¬ ¬ nI (C k) = (47 : Int32) from fun q => q (congrArg nI c2))]
          rfl
        · rw [if_neg c2, c5] at e3
          rw [e3, if_pos (show ¬ nI (C k) = (47 : Int32) from fun q => c2 ((nI_eq (by omega) (by decide)).mp (show nI (C k) = nI 47 from q)))]
          rfl
theorem pX8_isPair {fu : Nat} {σ : zmem} {i L : Nat} {C : Nat → Nat} (h : zTx σ i L C) (hfu : 100 < fu) : m_X8_isPairOfRows fu σ i = some (if (zPg C L 0 zP0).1 = L ∧ (zPg C L 0 zP0).2.2.2.1 = 1 then 1 else 0) := by
  have hL := h.2.2.1
  have h1 := h.2.2.2.1
  unfold m_X8_isPairOfRows
  obtain ⟨o, e1⟩ := pX8_isPair_t (fu := fu) h fu 0 0 (by omega) (by omega)
  have e2 := pX8_isPair_l (fu := fu) h fu 0 zP0 zP0_i (by omega) (by omega)
  rw [show nI 0 = (0 : Int32) from rfl] at e1 e2
  rw [Nat.sub_zero] at e2
  rw [pX8_faultPlace h hfu, h1]
  have e3 := zPg_i (C := C) L 0 zP0 zP0_i
  by_cases c1 : (zPg C L 0 zP0).1 = L
  · have e2 := e2 c1
    rw [show zb (zP0.2.2.1 == 1) = 0 from rfl] at e2
    rw [e2, c1]
    simp only [Option.bind_some]
    by_cases c2 : (zPg C L 0 zP0).2.2.2.1 = 1
    · rw [c2, if_neg (show ¬ zb ((1 : Nat) == 1) = 0 by decide), if_neg (fun q => q trivial), if_pos ⟨trivial, rfl⟩]
    · rw [if_pos (show zb ((zPg C L 0 zP0).2.2.2.1 == 1) = 0 by unfold zb; rw [if_neg (by simpa using c2)]), if_neg (fun q => c2 q.2)]
  · rw [e1, if_neg (fun q => c1 q.1)]
    simp only [Option.bind_some]
    by_cases c2 : o = 0
    · rw [if_pos c2]
    · rw [if_neg c2, if_pos (fun q => c1 ((nI_eq (by omega) (by omega)).mp q))]
theorem pX8_repeatLast {fu : Nat} {σ : zmem} {i n q : Nat} {f : Nat → Nat} (h : zRow σ i n f) (hn : 1 ≤ n) (hq : n + q ≤ 24) (hfu : 30 < fu) : ∃ σ', m_X8_repeatLast fu σ i (nI q) = some σ' ∧ zRow σ' i (n + q) (fun j => if n ≤ j then f (n - 1) else f j) ∧ zfr σ σ' [i, i + 1] := by
  obtain ⟨σ', e, p1, p2⟩ := loopP (L := l_X8_repeatLast_13 fu i (nI q) (nI (f (n - 1)))) (N := q) (P := fun v τ => zRow τ i (n + v) (fun j => if n ≤ j then f (n - 1) else f j) ∧ zfr σ τ [i, i + 1])
    (fun m τ _ => by rw [l_X8_repeatLast_13, if_pos (nI_le (Nat.le_refl _) (by omega))])
    (fun m v τ hv ⟨q1, q2⟩ => by
      obtain ⟨g, e1, e2⟩ := pX6_extend (fu := fu) (v := nI (f (n - 1))) q1 (by omega)
      refine ⟨_, ?_, zRw_row q1.1 (n := n + (v + 1)) (g := g) (by omega) (fun j hj => ?_), q2.tr (zfr_Rw (n := n + v + 1) (g := g) (by simp) (by simp))⟩
      · rw [l_X8_repeatLast_13, if_neg (nI_ge hv (by omega)), e1]
        simp only [Option.bind_some, za1]
        rfl
      · rw [e2 j (by omega)]
        by_cases c1 : j = n + v
        · rw [if_pos c1, if_pos (by omega)]
        · rw [if_neg c1])
    fu 0 σ (by omega) (by omega) ⟨⟨h.1, h.2.1, h.2.2.1, fun j hj => by dsimp only; rw [if_neg (by omega)]; exact h.2.2.2 j hj⟩, zfr.rf⟩
  refine ⟨σ', ?_, p1, p2⟩
  unfold m_X8_repeatLast
  rw [pX6_size h]
  simp only [Option.bind_some]
  rw [zs1 hn, pX6_signAt h.1 (by have := h.2.1; omega), h.2.2.2 _ (by omega)]
  simp only [Option.bind_some]
  exact congrArg (fun o => o.bind fun x => some x) e
