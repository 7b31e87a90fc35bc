/-! States: two rows and the settings; how they are copied, saved, brought back -/
abbrev zS : Type := (Nat → Nat) × (Nat → Nat → Nat) × (Nat → Nat)
/-- a counted loop over memory, by what holds at each turn -/
theorem loopP {L : Nat → Int32 → zmem → Option zmem} {N : Nat} {P : Nat → zmem → Prop} (h0 : ∀ n σ, P N σ → L (n + 1) (nI N) σ = some σ) (h1 : ∀ n v σ, v < N → P v σ → ∃ σ', L (n + 1) (nI v) σ = L n (nI (v + 1)) σ' ∧ P (v + 1) σ') : ∀ m v σ, v ≤ N → N - v < m → P v σ → ∃ σ', L m (nI v) σ = some σ' ∧ P N σ' := by
  intro m
  induction m with
  | zero => intro v σ _ h; omega
  | succ m ih =>
    intro v σ hv hm hP
    by_cases h : v = N
    · subst h
      exact ⟨σ, h0 m σ hP, hP⟩
    · obtain ⟨σ', e, hP'⟩ := h1 m v σ (by omega) hP
      obtain ⟨σ2, e2, hP2⟩ := ih (v + 1) σ' (by omega) (by omega) hP'
      exact ⟨σ2, e.trans e2, hP2⟩
/-- only these cells have changed -/
def zfr (σ σ' : zmem) (l : List Nat) : Prop := (∀ a, a ∉ l → σ'.1 a = σ.1 a) ∧ σ'.2 = σ.2
theorem zfr.rf {σ : zmem} {l : List Nat} : zfr σ σ l := ⟨fun _ _ => rfl, rfl⟩
theorem zfr.tr {σ σ1 σ2 : zmem} {l : List Nat} (h : zfr σ σ1 l) (h2 : zfr σ1 σ2 l) : zfr σ σ2 l := ⟨fun a ha => (h2.1 a ha).trans (h.1 a ha), h2.2.trans h.2⟩
theorem zfr.mono {σ σ1 : zmem} {l l' : List Nat} (h : zfr σ σ1 l) (hl : ∀ a, a ∈ l → a ∈ l') : zfr σ σ1 l' := ⟨fun a ha => h.1 a (fun q => ha (hl a q)), h.2⟩
theorem zfr_rw {σ : zmem} {i : Nat} {g : Nat → Int32} {l : List Nat} (h : i ∈ l) : zfr σ (zrw σ i g) l := ⟨fun a ha => zrw_ne (fun q => ha (q ▸ h)), rfl⟩
theorem zfr_st {σ : zmem} {i k : Nat} {v : Int32} {l : List Nat} (h : i ∈ l) : zfr σ (zst σ i k v) l := ⟨fun a ha => zst_1 (fun q => ha (q ▸ h)), rfl⟩
theorem zfr_Rw {σ : zmem} {i n : Nat} {g : Nat → Int32} {l : List Nat} (h : i ∈ l) (h1 : i + 1 ∈ l) : zfr σ (zRw σ i n g) l := (zfr_rw h1).tr (zfr_st h)
def zRs (σ : zmem) (b : Nat) (n : Nat → Nat) (f : Nat → Nat → Nat) : Prop := zkd b = (7, 0) ∧ zRow σ (b + 1) (n 0) (f 0) ∧ zRow σ (b + 3) (n 1) (f 1)
def zSs (σ : zmem) (b : Nat) (s : Nat → Nat) : Prop := ∀ k, k < 4 → σ.1 (b + 6) k = nI (s k)
def zSt (σ : zmem) (b : Nat) (S : zS) : Prop := zRs σ b S.1 S.2.1 ∧ zSs σ b S.2.2
theorem zRs.keep {σ σ' : zmem} {b : Nat} {n : Nat → Nat} {f : Nat → Nat → Nat} {l : List Nat} (h : zRs σ b n f) (hf : zfr σ σ' l) (hl : ∀ k, k < 4 → b + 1 + k ∉ l) : zRs σ' b n f :=
  ⟨h.1, h.2.1.keep (hf.1 _ (hl 0 (by decide))) (hf.1 _ (hl 1 (by decide))), h.2.2.keep (hf.1 _ (hl 2 (by decide))) (hf.1 _ (hl 3 (by decide)))⟩
theorem zSs.keep {σ σ' : zmem} {b : Nat} {s : Nat → Nat} {l : List Nat} (h : zSs σ b s) (hf : zfr σ σ' l) (hl : b + 6 ∉ l) : zSs σ' b s := fun k hk => by rw [hf.1 _ hl]; exact h k hk
theorem pX7_signs {fu : Nat} {σ : zmem} {b : Nat} {n : Nat → Nat} {f : Nat → Nat → Nat} (h : zRs σ b n f) : m_X7_signs fu σ b = some (nI (n 0 + n 1)) := by
  unfold m_X7_signs
  simp only [pX6_size h.2.1, pX6_size h.2.2, Option.bind_some, nI_add]
theorem zkd7_1 {b : Nat} (h : zkd b = (7, 0)) : zkd (b + 1) = (6, 0) := zs_7_0 h
theorem zkd7_3 {b : Nat} (h : zkd b = (7, 0)) : zkd (b + 3) = (6, 0) := zs_7_1 h
theorem zkd7_6 {b : Nat} (h : zkd b = (7, 0)) : zkd (b + 5 + 1) = (100, 4) := zs4 h
theorem pX7_exchangeRows {fu : Nat} {σ : zmem} {b : Nat} {n : Nat → Nat} {f : Nat → Nat → Nat} (h : zRs σ b n f) (hfu : 30 < fu) : ∃ σ', m_X7_exchangeRows fu σ b = some σ' ∧ zRs σ' b (fun r => n (1 - r)) (fun r => f (1 - r)) ∧ zfr σ σ' [b + 1, b + 2, b + 3, b + 4] := by
  obtain ⟨hb, ⟨a1, a2, a3, a4⟩, ⟨b1, b2, b3, b4⟩⟩ := h
  have hp := loopP (L := l_X7_exchangeRows_32 fu b) (N := 24) (P := fun v τ => zfr σ τ [b + 1, b + 2, b + 3, b + 4] ∧ τ.1 (b + 1) 1 = nI (n 1) ∧ τ.1 (b + 3) 1 = nI (n 0) ∧ (∀ j, j < 24 → τ.1 (b + 2) j = if j < v then σ.1 (b + 4) j else σ.1 (b + 2) j) ∧ (∀ j, j < 24 → τ.1 (b + 4) j = if j < v then σ.1 (b + 2) j else σ.1 (b + 4) j))
    (fun m τ _ => by rw [l_X7_exchangeRows_32, l24, if_pos (nI_le (Nat.le_refl _) (by decide))])
    (fun m v τ hv ⟨q1, q2, q3, q4, q5⟩ => by
      refine ⟨zrw (zrw τ (b + 2) (upd (τ.1 (b + 2)) v (τ.1 (b + 4) v))) (b + 4) (upd (τ.1 (b + 4)) v (τ.1 (b + 2) v)), ?_, ?_⟩
      · rw [l_X7_exchangeRows_32, l24, if_neg (nI_ge hv (by decide)), pX6_signAt a1 hv]
        show (m_X6_signAt fu τ (b + 3) (nI v)).bind _ = _
        rw [pX6_signAt b1 hv]
        show (m_X6_write fu τ (b + 1) (nI v) (τ.1 (b + 3 + 1) v)).bind _ = _
        rw [pX6_write a1 hv]
        show (m_X6_write fu _ (b + 3) (nI v) (τ.1 (b + 1 + 1) v)).bind _ = _
        rw [pX6_write b1 hv]
        show l_X7_exchangeRows_32 fu b m (nI v + 1) _ = _
        rw [za1, zrw_ne (by omega)]
      · refine ⟨q1.tr ((zfr_rw (by simp)).tr (zfr_rw (by simp))), by rw [zrw_ne (by omega), zrw_ne (by omega)]; exact q2, by rw [zrw_ne (by omega), zrw_ne (by omega)]; exact q3, fun j hj => ?_, fun j hj => ?_⟩
        · rw [zrw_ne (by omega), zrw_at]
          have e1 := q4 j hj
          have e2 := q5 v hv
          rw [if_neg (by omega)] at e2
          unfold upd
          by_cases c1 : j = v
          · rw [if_pos c1, if_pos (by omega), e2, c1]
          · rw [if_neg c1, e1]
            by_cases c2 : j < v
            · rw [if_pos c2, if_pos (by omega)]
            · rw [if_neg c2, if_neg (by omega)]
        · rw [zrw_at]
          have e1 := q5 j hj
          have e2 := q4 v hv
          rw [if_neg (by omega)] at e2
          unfold upd
          by_cases c1 : j = v
          · rw [if_pos c1, if_pos (by omega), e2, c1]
          · rw [if_neg c1, e1]
            by_cases c2 : j < v
            · rw [if_pos c2, if_pos (by omega)]
            · rw [if_neg c2, if_neg (by omega)])
    fu 0 (zst (zst σ (b + 1) 1 (σ.1 (b + 3) 1)) (b + 3) 1 (σ.1 (b + 1) 1)) (by omega) (by omega)
    ⟨(zfr_st (by simp)).tr (zfr_st (by simp)), by rw [zst_1 (by omega), zst_at, b3], by rw [zst_at, a3], fun j _ => by rw [if_neg (by omega), zst_1 (by omega), zst_1 (by omega)], fun j _ => by rw [if_neg (by omega), zst_1 (by omega), zst_1 (by omega)]⟩
  obtain ⟨σ', e, q1, q2, q3, q4, q5⟩ := hp
  refine ⟨σ', ?_, ⟨hb, ⟨a1, b2, q2, fun j hj => ?_⟩, ⟨b1, a2, q3, fun j hj => ?_⟩⟩, q1⟩
  · unfold m_X7_exchangeRows
    exact congrArg (fun o => o.bind fun x => some x) e
  · show σ'.1 (b + 2) j = _
    have hj : j < n 1 := hj
    rw [q4 j (by omega), if_pos (by omega)]
    exact b4 j hj
  · show σ'.1 (b + 4) j = _
    have hj : j < n 0 := hj
    rw [q5 j (by omega), if_pos (by omega)]
    exact a4 j hj
theorem pX7_takeRows {fu : Nat} {σ : zmem} {b c : Nat} {n : Nat → Nat} {f : Nat → Nat → Nat} (hb : zkd b = (7, 0)) (h : zRs σ c n f) (hbc : b + 7 ≤ c ∨ c + 7 ≤ b) (hfu : 30 < fu) : ∃ σ', m_X7_takeRows fu σ b c = some σ' ∧ zRs σ' b n f ∧ zfr σ σ' [b + 1, b + 2, b + 3, b + 4] := by
  obtain ⟨hc, h1, h2⟩ := h
  obtain ⟨g1, e1, k1⟩ := pX6_takeRow (fu := fu) (i := b + 1) (zkd7_1 hb) h1 (by omega) (by omega) hfu
  have f1 : zfr σ (zRw σ (b + 1) (n 0) g1) [b + 1, b + 2, b + 3, b + 4] := zfr_Rw (by simp) (by simp)
  have h2' : zRow (zRw σ (b + 1) (n 0) g1) (c + 3) (n 1) (f 1) := h2.keep (zRw_ne (by omega) (by omega)) (zRw_ne (by omega) (by omega))
  obtain ⟨g2, e2, k2⟩ := pX6_takeRow (fu := fu) (i := b + 3) (zkd7_3 hb) h2' (by omega) (by omega) hfu
  refine ⟨_, ?_, ⟨hb, (zRw_row (zkd7_1 hb) h1.2.1 k1).keep (zRw_ne (by omega) (by omega)) (zRw_ne (by omega) (by omega)), zRw_row (zkd7_3 hb) h2.2.1 k2⟩, f1.tr (zfr_Rw (by simp) (by simp))⟩
  unfold m_X7_takeRows
  rw [e1]
  show (m_X6_takeRow fu _ (b + 3) (c + 3)).bind _ = _
  rw [e2]
  rfl
theorem pX7_takeAll {fu : Nat} {σ : zmem} {b c : Nat} {S : zS} (hb : zkd b = (7, 0)) (h : zSt σ c S) (hbc : b + 7 ≤ c ∨ c + 7 ≤ b) (hfu : 30 < fu) : ∃ σ', m_X7_takeAll fu σ b c = some σ' ∧ zSt σ' b S ∧ zfr σ σ' [b + 1, b + 2, b + 3, b + 4, b + 6] := by
  obtain ⟨σ1, e1, r1, f1⟩ := pX7_takeRows (fu := fu) hb h.1 hbc hfu
  have s1 : zSs σ1 c S.2.2 := h.2.keep f1 (by simp; omega)
  obtain ⟨σ2, e2, q1, q2, q3⟩ := loopP (L := l_X7_takeAll_7 fu b c) (N := 4) (P := fun v τ => zfr σ1 τ [b + 6] ∧ zSs τ c S.2.2 ∧ ∀ k, k < v → τ.1 (b + 6) k = nI (S.2.2 k))
    (fun m τ _ => by rw [l_X7_takeAll_7, l4, if_pos (nI_le (Nat.le_refl _) (by decide))])
    (fun m v τ hv ⟨q1, q2, q3⟩ => by
      refine ⟨zrw τ (b + 6) (upd (τ.1 (b + 6)) v (τ.1 (c + 6) v)), ?_, q1.tr (zfr_rw (by simp)), q2.keep (zfr_rw (l := [b + 6]) (by simp)) (by simp; omega), fun k hk => ?_⟩
      · rw [l_X7_takeAll_7, l4, if_neg (nI_ge hv (by decide)), pX1_at (zkd7_6 h.1.1) hv (by decide)]
        show (m_X1_store fu τ (b + 5) (nI v) (τ.1 (c + 5 + 1) v)).bind _ = _
        rw [pX1_store (zkd7_6 hb) hv (by decide)]
        show l_X7_takeAll_7 fu b c m (nI v + 1) _ = _
        rw [za1]
      · rw [zrw_at]
        unfold upd
        by_cases c1 : k = v
        · rw [if_pos c1, q2 v hv, c1]
        · rw [if_neg c1]
          exact q3 k (by omega))
    fu 0 σ1 (by omega) (by omega) ⟨zfr.rf, s1, fun k hk => absurd hk (Nat.not_lt_zero _)⟩
  refine ⟨σ2, ?_, ⟨r1.keep q1 (by intro k hk; simp; omega), q3⟩, (f1.mono (by intro a; simp; omega)).tr (q1.mono (by intro a; simp; omega))⟩
  unfold m_X7_takeAll
  rw [e1]
  exact congrArg (fun o => o.bind fun x => some x) e2
