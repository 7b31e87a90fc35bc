/-! the history of saved states: of object i: how many, and each at its 54 places -/
def zHs (σ : zmem) (i m : Nat) (Hs : Nat → zS) : Prop := zkd i = (4, 0) ∧ zkd (i + 2) = (100, 324) ∧ σ.1 i 1 = nI m ∧ m ≤ 6 ∧ ∀ k, k < m → zSv σ (i + 2) (54 * k) (Hs k) ∧ (Hs k).1 0 ≤ 24 ∧ (Hs k).1 1 ≤ 24
theorem zHs.keep {σ σ' : zmem} {i m : Nat} {Hs : Nat → zS} {l : List Nat} (h : zHs σ i m Hs) (hf : zfr σ σ' l) (h1 : i ∉ l) (h2 : i + 2 ∉ l) : zHs σ' i m Hs :=
  ⟨h.1, h.2.1, by rw [hf.1 _ h1]; exact h.2.2.1, h.2.2.2.1, fun k hk => ⟨(h.2.2.2.2 k hk).1.keep (h.2.2.2.2 k hk).2 (fun j _ => by rw [hf.1 _ h2]), (h.2.2.2.2 k hk).2⟩⟩
theorem nmul54 (m : Nat) : nI m * (54 : Int32) = nI (54 * m) := by
  rw [show (54 : Int32) = nI 54 from rfl, pk_mul, Nat.mul_comm]
theorem pX4_dropOldest {fu : Nat} {σ : zmem} {i m : Nat} {Hs : Nat → zS} (h : zHs σ i (m + 1) Hs) (hfu : 400 < fu) : ∃ σ', m_X4_dropOldest fu σ i = some σ' ∧ zHs σ' i m (fun k => Hs (k + 1)) ∧ zfr σ σ' [i, i + 2] := by
  obtain ⟨hi, hq, h1, h2, h3⟩ := h
  have f1 : zfr σ (zst σ i 1 (nI m)) [i, i + 2] := zfr_st (by simp)
  obtain ⟨σ2, e2, f2, p1, p2⟩ := loopP (L := l_X4_dropOldest_12 fu i) (N := 54 * m) (P := fun v τ => zfr (zst σ i 1 (nI m)) τ [i + 2] ∧ τ.1 i 1 = nI m ∧ ∀ j, τ.1 (i + 2) j = if j < v then σ.1 (i + 2) (j + 54) else σ.1 (i + 2) j)
    (fun n τ ⟨q1, q2, q3⟩ => by rw [l_X4_dropOldest_12, q2, nmul54, if_pos (nI_le (Nat.le_refl _) (by omega))])
    (fun n v τ hv ⟨q1, q2, q3⟩ => by
      refine ⟨zrw τ (i + 2) (upd (τ.1 (i + 2)) v (σ.1 (i + 2) (v + 54))), ?_, q1.tr (zfr_rw (by simp)), by rw [zrw_ne (by omega)]; exact q2, fun j => ?_⟩
      · rw [l_X4_dropOldest_12, q2, nmul54, if_neg (nI_ge hv (by omega))]
        simp only [l54, nI_add]
        rw [pX1_at hq (show v + 54 < 324 by omega) (by decide)]
        simp only [Option.bind_some]
        rw [show τ.1 (i + 1 + 1) (v + 54) = σ.1 (i + 2) (v + 54) from (q3 (v + 54)).trans (if_neg (by omega)), pX1_store hq (show v < 324 by omega) (by decide)]
        simp only [Option.bind_some, za1]
      · rw [zrw_at]
        by_cases c2 : j = v
        · subst c2; rw [upd_at, if_pos (by omega)]
        · rw [upd_ne c2, q3 j]
          by_cases c3 : j < v
          · rw [if_pos c3, if_pos (by omega)]
          · rw [if_neg c3, if_neg (by omega)])
    fu 0 (zst σ i 1 (nI m)) (by omega) (by omega) ⟨zfr.rf, zst_at, fun j => by rw [if_neg (by omega), zst_1 (by omega)]⟩
  refine ⟨σ2, ?_, ⟨hi, hq, p1, by omega, fun k hk => ?_⟩, f1.tr (f2.mono (by intro a; simp; omega))⟩
  · unfold m_X4_dropOldest
    rw [h1, zs1 (by omega), show m + 1 - 1 = m by omega, show (0 : Int32) = nI 0 from rfl]
    exact congrArg (fun o => o.bind fun x => some x) e2
  · have h4 := h3 (k + 1) (by omega)
    exact ⟨h4.1.keep h4.2 (fun j hj => by rw [p2, if_pos (by omega), show 54 * k + j + 54 = 54 * (k + 1) + j by omega]), h4.2⟩
/-- the states behind a save -/
def zHpush (m : Nat) (Hs : Nat → zS) (S : zS) : Nat × (Nat → zS) := if m < 6 then (m + 1, fun k => if k = m then S else Hs k) else (6, fun k => if k = 5 then S else Hs (k + 1))
theorem pX4_save {fu : Nat} {σ : zmem} {i b m : Nat} {Hs : Nat → zS} {S : zS} (h : zHs σ i m Hs) (hS : zSt σ b S) (hib : i + 2 < b ∨ b + 6 < i) (hfu : 400 < fu) :
    ∃ σ', m_X4_save fu σ i b = some σ' ∧ zHs σ' i (zHpush m Hs S).1 (zHpush m Hs S).2 ∧ zfr σ σ' [i, i + 2] := by
  have key : ∀ (τ : zmem) (m : Nat) (Hs : Nat → zS), zHs τ i m Hs → zSt τ b S → m < 6 → ∃ σ', (m_X7_writeTo fu τ b (i + 1) ((τ.1 i 1) * (54 : Int32))).bind (fun x2 => some (zst x2 i 1 ((x2.1 i 1) + (1 : Int32)))) = some σ' ∧ zHs σ' i (m + 1) (fun k => if k = m then S else Hs k) ∧ zfr τ σ' [i, i + 2] := by
    intro τ m Hs ⟨hi, hq, h1, h2, h3⟩ hS hm
    obtain ⟨σ2, e2, v2, f2, k2⟩ := pX7_writeTo (fu := fu) (o := 54 * m) hS hq (by omega) (by omega) (by omega)
    have e3 : σ2.1 i 1 = nI m := by rw [f2.1 _ (by simp; omega)]; exact h1
    refine ⟨zst σ2 i 1 (nI (m + 1)), ?_, ⟨hi, hq, zst_at, by omega, fun k hk => ?_⟩, (f2.mono (by intro a; simp; omega)).tr (zfr_st (by simp))⟩
    · rw [h1, nmul54, e2]
      simp only [Option.bind_some, e3, za1]
    · by_cases c1 : k = m
      · subst c1
        dsimp only
        rw [if_pos rfl]
        exact ⟨v2.keep ⟨hS.1.2.1.2.1, hS.1.2.2.2.1⟩ (fun j _ => by rw [zst_1 (by omega)]), hS.1.2.1.2.1, hS.1.2.2.2.1⟩
      · dsimp only
        rw [if_neg c1]
        have h4 := h3 k (by omega)
        exact ⟨h4.1.keep h4.2 (fun j hj => by rw [zst_1 (by omega)]; exact k2 _ (by omega)), h4.2⟩
  have h' := h
  obtain ⟨hi, hq, h1, h2, h3⟩ := h
  unfold m_X4_save zHpush
  rw [h1, l6]
  by_cases hm : m < 6
  · rw [if_pos (nI_lt hm (by decide)), if_pos hm]
    simp only [Option.bind_some]
    exact key σ m Hs h' hS hm
  · rw [if_neg (nI_nlt (by omega) (by omega)), if_neg hm]
    have hm6 : m = 5 + 1 := by omega
    rw [hm6] at h'
    obtain ⟨σ1, e1, g1, f1⟩ := pX4_dropOldest (fu := fu) h' hfu
    have hS1 : zSt σ1 b S := ⟨hS.1.keep f1 (by intro k hk; simp; omega), hS.2.keep f1 (by simp; omega)⟩
    obtain ⟨σ', e2, g2, f2⟩ := key σ1 5 _ g1 hS1 (by decide)
    refine ⟨σ', ?_, g2, f1.tr f2⟩
    rw [e1]
    simp only [Option.bind_some]
    exact e2
theorem pX4_giveBack {fu : Nat} {σ : zmem} {i b m : Nat} {Hs : Nat → zS} (h : zHs σ i (m + 1) Hs) (hb : zkd b = (7, 0)) (hib : i + 2 < b ∨ b + 6 < i) (hfu : 400 < fu) :
    ∃ σ', m_X4_giveBack fu σ i b = some σ' ∧ zHs σ' i m Hs ∧ zSt σ' b (Hs m) ∧ zfr σ σ' [i, b + 1, b + 2, b + 3, b + 4, b + 6] := by
  obtain ⟨hi, hq, h1, h2, h3⟩ := h
  have h4 := h3 m (by omega)
  have v4 : zSv (zst σ i 1 (nI m)) (i + 1 + 1) (54 * m) (Hs m) := h4.1.keep h4.2 (fun j _ => by rw [zst_1 (by omega)])
  obtain ⟨σ2, e2, s2, f2⟩ := pX7_readFrom (fu := fu) (q := i + 1) hb v4 h4.2 hq (by omega) (by omega) (by omega)
  refine ⟨σ2, ?_, ⟨hi, hq, ?_, by omega, fun k hk => ?_⟩, s2, (zfr_st (by simp)).tr (f2.mono (by intro a; simp; omega))⟩
  · unfold m_X4_giveBack
    rw [h1, if_neg (fun q => nI_nle (n := m + 1) (by omega) (by omega) q), zs1 (by omega), show m + 1 - 1 = m by omega, zst_at, nmul54, e2]
    rfl
  · rw [f2.1 _ (by simp; omega)]
    exact zst_at
  · have h5 := h3 k (by omega)
    exact ⟨h5.1.keep h5.2 (fun j _ => by rw [f2.1 _ (by simp; omega), zst_1 (by omega)]), h5.2⟩
