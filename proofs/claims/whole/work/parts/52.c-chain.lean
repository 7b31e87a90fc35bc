/-! the class finds the chain -/
theorem za2k {i : Nat} (h : zkd i = (2, 0)) : zkd (i + 2) = (100, 24) ∧ zkd (i + 4) = (100, 24) ∧ zkd (i + 6) = (100, 24) ∧ zkd (i + 8) = (100, 24) := (show ∀ i, i < 125 → zkd i = (2, 0) → zkd (i + 2) = (100, 24) ∧ zkd (i + 4) = (100, 24) ∧ zkd (i + 6) = (100, 24) ∧ zkd (i + 8) = (100, 24) by decide +kernel) i (zkd_lt h (by decide)) h
theorem zAc.keepn {σ σ' : zmem} {A lo hi : Nat} {S : zS} {t : Bool} (h : zAc σ A S t) (hf : zfn σ σ' lo hi) (hd : hi ≤ A ∨ A + 5 ≤ lo) : zAc σ' A S t := ⟨by rw [hf.1 _ (by omega)]; exact h.1, by rw [hf.1 _ (by omega)]; exact h.2.1, fun i hi => by rw [hf.1 _ (by omega), hf.1 _ (by omega)]; exact h.2.2 i hi⟩
theorem zAc.n {σ : zmem} {A : Nat} {S : zS} (h : zAc σ A S false) : σ.1 A 2 = nI (zcN S) := h.1
theorem zsub_le {a b : Nat} (ha : a < 25) (hb : b < 25) : (nI a - nI b ≤ 0 ↔ a ≤ b) := (show ∀ a, a < 25 → ∀ b, b < 25 → (nI a - nI b ≤ 0 ↔ a ≤ b) by decide +kernel) a ha b hb
theorem zsub_lt {a b : Nat} (ha : a < 25) (hb : b < 25) : (0 < nI a - nI b ↔ b < a) := (show ∀ a, a < 25 → ∀ b, b < 25 → (0 < nI a - nI b ↔ b < a) by decide +kernel) a ha b hb
theorem zmax_nI {a b : Nat} (ha : a < 2 ^ 31) (hb : b < 2 ^ 31) : zmax (nI a) (nI b) = nI (max a b) := by
  unfold zmax
  by_cases c : a < b
  · rw [if_pos (nI_lt c hb), Nat.max_eq_right (by omega)]
  · rw [if_neg (nI_nlt (by omega) ha), Nat.max_eq_left (by omega)]
theorem pX0_fit {fu : Nat} {σ : zmem} {A i j : Nat} {S : zS} (hA : zkd A = (0, 0)) (h : zAc σ A S false) (hS : zWf S) (hi : i < zcN S) (hj : j < zcN S) : m_X0_fit fu σ A (nI i) (nI j) = some (zb (zcF S i j)) := by
  obtain ⟨k1, k2, _, _⟩ := za0 hA
  have hn := zanc_in (t := false) hS
  have hw := hS.2.2.2
  have h0 := hS.1
  have h1 := hS.2.1
  have bi := hn.2 i hi
  have bj := hn.2 j hj
  have hN : zcN S ≤ 23 := hn.1
  have a1 : σ.1 (A + 1 + 1) j = nI ((zanc S false).2.1 j) := (h.2.2 j hj).1
  have a2 : σ.1 (A + 1 + 1) i = nI ((zanc S false).2.1 i) := (h.2.2 i hi).1
  have a3 : σ.1 (A + 3 + 1) j = nI ((zanc S false).2.2 j) := (h.2.2 j hj).2
  have a4 : σ.1 (A + 3 + 1) i = nI ((zanc S false).2.2 i) := (h.2.2 i hi).2
  have a5 := h.2.1
  unfold m_X0_fit zcF zft
  rw [pX1_at k1 (show j < 24 by omega) (by decide), pX1_at k1 (show i < 24 by omega) (by decide), pX1_at k2 (show j < 24 by omega) (by decide), pX1_at k2 (show i < 24 by omega) (by decide), a1, a2, a3, a4, a5]
  simp only [Option.bind_some]
  generalize (zanc S false).2.1 i = ui at *
  generalize (zanc S false).2.1 j = uj at *
  generalize (zanc S false).2.2 i = vi at *
  generalize (zanc S false).2.2 j = vj at *
  by_cases c1 : uj ≤ ui
  · rw [if_pos ((zsub_le (by omega) (by omega)).mpr c1), decide_eq_false (by omega)]
    rfl
  · rw [if_neg (fun q => c1 ((zsub_le (by omega) (by omega)).mp q))]
    by_cases c2 : vj ≤ vi
    · rw [if_neg (fun q => by have := (zsub_lt (by omega) (by omega)).mp q; omega), decide_eq_false (by omega)]
      rfl
    · rw [if_pos ((zsub_lt (by omega) (by omega)).mpr (by omega)), pk_sub (by omega), pk_sub (by omega)]
      by_cases c3 : uj - ui = vj - vi
      · rw [if_pos (congrArg nI c3), decide_eq_true (by omega)]
        rfl
      · rw [if_neg (fun q => c3 ((nI_eq (by omega) (by omega)).mp q))]
        by_cases c4 : uj - ui < S.2.2 0
        · rw [if_pos (nI_lt c4 (by omega)), decide_eq_false (by omega)]
          rfl
        · rw [if_neg (nI_nlt (by omega) (by omega))]
          by_cases c5 : vj - vi < S.2.2 0
          · rw [if_pos (nI_lt c5 (by omega)), decide_eq_false (by omega)]
            rfl
          · rw [if_neg (nI_nlt (by omega) (by omega)), decide_eq_true (by omega)]
            rfl
theorem loopM {L : Nat → Int32 → Int32 → Option Int32} {P : Nat → Bool} {g : Nat → Nat} {a N : Nat} (h0 : ∀ n x, L (n + 1) x (nI N) = some x) (h1 : ∀ n x v, a ≤ v → v < N → x < 2 ^ 20 → L (n + 1) (nI x) (nI v) = L n (if P v = true then zmax (nI x) (nI (g v)) else nI x) (nI (v + 1))) (hg : ∀ v, v < N → g v < 2 ^ 20) {fu : Nat} (ha : a ≤ N) (hfu : N < fu) : L fu (nI (zmx P g a)) (nI a) = some (nI (zmx P g N)) := by
  obtain ⟨y, e, hy⟩ := loopG (L := fun n v x => L n x (nI v)) (N := N) (P := fun v x => a ≤ v ∧ x = nI (zmx P g v)) (R := fun x => x = nI (zmx P g N))
    (fun n x hP => ⟨x, h0 n x, hP.2⟩)
    (fun n v x hv ⟨hP1, hP2⟩ => by
      have hb : zmx P g v < 2 ^ 20 := Nat.lt_of_le_of_lt (zmx_le (B := 2 ^ 20 - 1) v (fun i hi _ => by have := hg i (by omega); omega)) (by decide)
      refine ⟨nI (zmx P g (v + 1)), ?_, by omega, rfl⟩
      show L (n + 1) x (nI v) = L n (nI (zmx P g (v + 1))) (nI (v + 1))
      rw [hP2, h1 n _ v hP1 hv hb]
      by_cases c : P v = true
      · have := hg v hv
        rw [if_pos c, zmx_t c, zmax_nI (by omega) (by omega)]
      · rw [if_neg c, zmx_f c])
    fu a (nI (zmx P g a)) ha (by omega) ⟨Nat.le_refl _, rfl⟩
  exact e.trans (congrArg some hy)
theorem pX2_upTo {fu : Nat} {σ : zmem} {A c : Nat} {S : zS} (hA : zkd A = (0, 0)) (hc : zkd c = (2, 0)) (h : zAc σ A S false) (hS : zWf S) (hd : A + 9 ≤ c) (hfu : 100 < fu) :
    ∃ σ', m_X2_countUpTo fu σ c A = some σ' ∧ (∀ k, k < zcN S → σ'.1 (c + 6) k = nI (zuT (zcF S) (zcN S) k)) ∧ zfn σ σ' (c + 6) (c + 7) := by
  obtain ⟨_, _, k3, _⟩ := za2k hc
  have hN : zcN S ≤ 23 := (zanc_in (t := false) hS).1
  obtain ⟨σ', e, p1, p2⟩ := loopP (L := l_X2_countUpTo_2 fu c A) (N := zcN S) (P := fun v τ => zfn σ τ (c + 6) (c + 7) ∧ ∀ k, k < v → τ.1 (c + 6) k = nI (zuT (zcF S) v k))
    (fun m τ ⟨q1, _⟩ => by
      rw [l_X2_countUpTo_2, (h.keepn q1 (by omega)).n, if_pos (nI_le (Nat.le_refl _) (by omega))])
    (fun m v τ hv ⟨q1, q2⟩ => by
      have hT := h.keepn q1 (by omega)
      have hb := fun k hk => zuT_le (F := zcF S) v k hk
      have hi := loopM (L := fun n x i => l_X2_countUpTo_15 fu τ c A (nI v) n x i) (P := fun i => zcF S i v) (g := zuT (zcF S) v) (a := 0) (N := v)
        (fun n x => by
          show l_X2_countUpTo_15 fu τ c A (nI v) (n + 1) x (nI v) = some x
          rw [l_X2_countUpTo_15, if_pos (nI_le (Nat.le_refl _) (by omega))])
        (fun n x i _ hi hx => by
          show l_X2_countUpTo_15 fu τ c A (nI v) (n + 1) (nI x) (nI i) = l_X2_countUpTo_15 fu τ c A (nI v) n (if zcF S i v = true then zmax (nI x) (nI (zuT (zcF S) v i)) else nI x) (nI (i + 1))
          rw [l_X2_countUpTo_15, if_neg (nI_ge hi (by omega)), pX0_fit hA hT hS (by omega) hv]
          simp only [Option.bind_some]
          by_cases d : zcF S i v = true
          · rw [d, if_neg (by decide), pX1_at k3 (show i < 24 by omega) (by decide), show τ.1 (c + 5 + 1) i = _ from q2 i hi, if_pos rfl]
            simp only [Option.bind_some, za1]
          · rw [(Bool.not_eq_true _).mp d, if_pos (by decide), if_neg (by decide)]
            simp only [Option.bind_some, za1])
        (fun i hi => by have := hb i hi; omega) (fu := fu) (by omega) (by omega)
      have hi : l_X2_countUpTo_15 fu τ c A (nI v) fu (nI 0) (nI 0) = _ := hi
      refine ⟨zrw τ (c + 6) (upd (τ.1 (c + 6)) v (nI (1 + zmx (fun i => zcF S i v) (zuT (zcF S) v) v))), ?_, q1.tr (zfn_rw (by omega) (by omega)), fun k hk => ?_⟩
      · rw [l_X2_countUpTo_2, hT.n, if_neg (nI_ge hv (by omega)), l0, hi]
        simp only [Option.bind_some]
        rw [za1, pX1_store k3 (show v < 24 by omega) (by decide), Nat.add_comm (zmx _ _ _) 1]
        simp only [Option.bind_some, za1]
      · rw [zrw_at]
        by_cases d : k = v
        · rw [d, upd_at, zuT_at]
        · rw [upd_ne d, zuT_ne d]
          exact q2 k (by omega))
    fu 0 σ (by omega) (by omega) ⟨zfn.rf, fun k hk => absurd hk (Nat.not_lt_zero _)⟩
  refine ⟨σ', ?_, p2, p1⟩
  unfold m_X2_countUpTo
  rw [l0, e]
  rfl
theorem pX2_from {fu : Nat} {σ : zmem} {A c : Nat} {S : zS} (hA : zkd A = (0, 0)) (hc : zkd c = (2, 0)) (h : zAc σ A S false) (hS : zWf S) (hd : A + 9 ≤ c) (hfu : 100 < fu) :
    ∃ σ', m_X2_countFrom fu σ c A = some σ' ∧ (∀ k, k < zcN S → σ'.1 (c + 8) k = nI (zcg S k)) ∧ zfn σ σ' (c + 8) (c + 9) := by
  obtain ⟨_, _, _, k4⟩ := za2k hc
  have hN : zcN S ≤ 23 := (zanc_in (t := false) hS).1
  have hA1 : (zanc S false).1 = zcN S := rfl
  obtain ⟨σ', e, p1, p2⟩ := loopG (L := fun n j τ => l_X2_countFrom_7 fu c A n (nI (zcN S - j) - 1) τ) (N := zcN S) (P := fun j τ => zfn σ τ (c + 8) (c + 9) ∧ ∀ k, zcN S - j ≤ k → k < zcN S → τ.1 (c + 8) k = nI (zoT (zcF S) (zcN S) j k)) (R := fun τ => zfn σ τ (c + 8) (c + 9) ∧ ∀ k, k < zcN S → τ.1 (c + 8) k = nI (zoT (zcF S) (zcN S) (zcN S) k))
    (fun n τ ⟨q1, q2⟩ => ⟨τ, by
      show l_X2_countFrom_7 fu c A (n + 1) (nI (zcN S - zcN S) - 1) τ = some τ
      rw [l_X2_countFrom_7, Nat.sub_self, if_pos (by decide)], q1, fun k hk => q2 k (by omega) hk⟩)
    (fun n j τ hj ⟨q1, q2⟩ => by
      have hT := h.keepn q1 (by omega)
      have hb := fun k => zoT_le (F := zcF S) (N := zcN S) j k
      have hz : zmx (fun i => decide (zcN S - 1 - j < i) && zcF S (zcN S - 1 - j) i) (zoT (zcF S) (zcN S) j) (zcN S - 1 - j + 1) = 0 := zmx_zero _ (fun i hi => by rw [decide_eq_false (by omega)]; rfl)
      have hi := loopM (L := fun n x i => l_X2_countFrom_18 fu τ c A (nI (zcN S - 1 - j)) n x i) (P := fun i => decide (zcN S - 1 - j < i) && zcF S (zcN S - 1 - j) i) (g := zoT (zcF S) (zcN S) j) (a := zcN S - 1 - j + 1) (N := zcN S)
        (fun n x => by
          show l_X2_countFrom_18 fu τ c A (nI (zcN S - 1 - j)) (n + 1) x (nI (zcN S)) = some x
          rw [l_X2_countFrom_18, hT.n, if_pos (nI_le (Nat.le_refl _) (by omega))])
        (fun n x i h1 hi hx => by
          show l_X2_countFrom_18 fu τ c A (nI (zcN S - 1 - j)) (n + 1) (nI x) (nI i) = l_X2_countFrom_18 fu τ c A (nI (zcN S - 1 - j)) n (if (decide (zcN S - 1 - j < i) && zcF S (zcN S - 1 - j) i) = true then zmax (nI x) (nI (zoT (zcF S) (zcN S) j i)) else nI x) (nI (i + 1))
          rw [l_X2_countFrom_18, hT.n, if_neg (nI_ge hi (by omega)), pX0_fit hA hT hS (by omega) hi, decide_eq_true (show zcN S - 1 - j < i by omega), Bool.true_and]
          simp only [Option.bind_some]
          by_cases d : zcF S (zcN S - 1 - j) i = true
          · rw [d, if_neg (by decide), pX1_at k4 (show i < 24 by omega) (by decide), show τ.1 (c + 7 + 1) i = _ from q2 i (by omega) hi, if_pos rfl]
            simp only [Option.bind_some, za1]
          · rw [(Bool.not_eq_true _).mp d, if_pos (by decide), if_neg (by decide)]
            simp only [Option.bind_some, za1])
        (fun i hi => by have := hb i; omega) (fu := fu) (by omega) (by omega)
      rw [hz] at hi
      have hi : l_X2_countFrom_18 fu τ c A (nI (zcN S - 1 - j)) fu (nI 0) (nI (zcN S - 1 - j + 1)) = _ := hi
      refine ⟨zrw τ (c + 8) (upd (τ.1 (c + 8)) (zcN S - 1 - j) (nI (1 + zmx (fun i => decide (zcN S - 1 - j < i) && zcF S (zcN S - 1 - j) i) (zoT (zcF S) (zcN S) j) (zcN S)))), ?_, q1.tr (zfn_rw (by omega) (by omega)), fun k hk1 hk => ?_⟩
      · show l_X2_countFrom_7 fu c A (n + 1) (nI (zcN S - j) - 1) τ = l_X2_countFrom_7 fu c A n (nI (zcN S - (j + 1)) - 1) _
        rw [l_X2_countFrom_7, zs1 (show 1 ≤ zcN S - j by omega), show zcN S - j - 1 = zcN S - 1 - j by omega, if_neg (nI_pos (by omega)), l0, za1, hi]
        simp only [Option.bind_some]
        rw [za1, pX1_store k4 (show zcN S - 1 - j < 24 by omega) (by decide), Nat.add_comm (zmx _ _ _) 1, show zcN S - (j + 1) = zcN S - 1 - j by omega]
        simp only [Option.bind_some]
      · rw [zrw_at]
        by_cases d : k = zcN S - 1 - j
        · rw [d, upd_at, zoT_at]
        · rw [upd_ne d, zoT_ne d]
          exact q2 k (by omega) hk)
    fu 0 σ (by omega) (by omega) ⟨zfn.rf, fun k hk1 hk => by omega⟩
  refine ⟨σ', ?_, p2, p1⟩
  unfold m_X2_countFrom
  rw [h.n]
  have e : l_X2_countFrom_7 fu c A fu (nI (zcN S - 0) - 1) σ = some σ' := e
  rw [Nat.sub_zero] at e
  rw [e]
  rfl
