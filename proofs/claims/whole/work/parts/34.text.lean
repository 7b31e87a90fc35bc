/-! the text: how it is read, sign by sign: lengths, signs, the row that is read, whether a number may follow -/
abbrev zPs : Type := (Nat → Nat) × (Nat → Nat → Nat) × Nat × Bool
def zP0 : zPs := (fun _ => 0, fun _ _ => 0, 0, false)
def zPt (c : Nat) (P : zPs) : Option zPs :=
  if c = 47 then (if P.2.2.1 = 0 then some (P.1, P.2.1, 1, false) else none)
  else if 97 ≤ c ∧ c ≤ 100 then (if P.1 P.2.2.1 < 24 then some (fun r => if r = P.2.2.1 then P.1 r + 1 else P.1 r, fun r j => if r = P.2.2.1 ∧ P.1 r ≤ j then c - 97 else P.2.1 r j, P.2.2.1, true) else none)
  else if P.2.2.2 = true ∧ 50 ≤ c ∧ c ≤ 57 ∧ P.1 P.2.2.1 + (c - 49) ≤ 24 then some (fun r => if r = P.2.2.1 then P.1 r + (c - 49) else P.1 r, fun r j => if r = P.2.2.1 ∧ P.1 r ≤ j then P.2.1 r (P.1 r - 1) else P.2.1 r j, P.2.2.1, false)
  else none
def zPg (C : Nat → Nat) : Nat → Nat → zPs → Nat × zPs
  | 0, k, P => (k, P)
  | m + 1, k, P => match zPt (C k) P with
    | none => (k, P)
    | some P' => zPg C m (k + 1) P'
def zPi (P : zPs) : Prop := P.2.2.1 ≤ 1 ∧ (P.2.2.1 = 0 → P.1 1 = 0) ∧ (P.2.2.2 = true → 1 ≤ P.1 P.2.2.1) ∧ (∀ r, P.1 r ≤ 24) ∧ ∀ r j, P.2.1 r j < 4
theorem zP0_i : zPi zP0 := ⟨by decide, fun _ => rfl, fun h => (nomatch h), fun _ => Nat.zero_le _, fun _ _ => (by decide : 0 < 4)⟩
theorem zPt_i {c : Nat} {P P' : zPs} (h : zPi P) (e : zPt c P = some P') : zPi P' := by
  obtain ⟨h1, h2, h3, h4, h5⟩ := h
  unfold zPt at e
  by_cases c1 : c = 47
  · rw [if_pos c1] at e
    by_cases c2 : P.2.2.1 = 0
    · rw [if_pos c2] at e
      cases e
      exact ⟨Nat.le_refl _, fun q => absurd (show (1 : Nat) = 0 from q) (by decide), fun q => (nomatch q), h4, h5⟩
    · rw [if_neg c2] at e; cases e
  · rw [if_neg c1] at e
    by_cases c2 : 97 ≤ c ∧ c ≤ 100
    · rw [if_pos c2] at e
      by_cases c3 : P.1 P.2.2.1 < 24
      · rw [if_pos c3] at e
        cases e
        refine ⟨h1, fun q => ?_, fun _ => ?_, fun r => ?_, fun r j => ?_⟩
        · have q : P.2.2.1 = 0 := q
          dsimp only
          rw [if_neg (by omega)]
          exact h2 q
        · dsimp only
          rw [if_pos rfl]
          omega
        · dsimp only
          by_cases c4 : r = P.2.2.1
          · rw [if_pos c4, c4]; omega
          · rw [if_neg c4]; exact h4 r
        · dsimp only
          have := h5 r j
          split <;> omega
      · rw [if_neg c3] at e; cases e
    · rw [if_neg c2] at e
      by_cases c3 : P.2.2.2 = true ∧ 50 ≤ c ∧ c ≤ 57 ∧ P.1 P.2.2.1 + (c - 49) ≤ 24
      · rw [if_pos c3] at e
        cases e
        refine ⟨h1, fun q => ?_, fun q => (nomatch q), fun r => ?_, fun r j => ?_⟩
        · have q : P.2.2.1 = 0 := q
          dsimp only
          rw [if_neg (by omega)]
          exact h2 q
        · dsimp only
          by_cases c4 : r = P.2.2.1
          · rw [if_pos c4, c4]; omega
          · rw [if_neg c4]; exact h4 r
        · dsimp only
          split
          · exact h5 _ _
          · exact h5 _ _
      · rw [if_neg c3] at e; cases e
theorem zPg_i {C : Nat → Nat} : ∀ m k P, zPi P → zPi (zPg C m k P).2 ∧ (zPg C m k P).1 ≤ k + m := by
  intro m
  induction m with
  | zero => intro k P h; exact ⟨h, Nat.le_refl _⟩
  | succ m ih =>
    intro k P h
    cases e : zPt (C k) P with
    | none =>
      have : zPg C (m + 1) k P = (k, P) := by rw [zPg, e]
      rw [this]
      exact ⟨h, by omega⟩
    | some P' =>
      have : zPg C (m + 1) k P = zPg C m (k + 1) P' := by rw [zPg, e]
      rw [this]
      have := ih (k + 1) P' (zPt_i h e)
      exact ⟨this.1, by omega⟩
/-- a text is laid -/
def zTx (σ : zmem) (i L : Nat) (C : Nat → Nat) : Prop := zkd i = (8, 0) ∧ zkd (i + 2) = (100, 60) ∧ L ≤ 60 ∧ σ.1 i 1 = nI L ∧ ∀ j, j < L → σ.1 (i + 2) j = nI (C j) ∧ 33 ≤ C j ∧ C j ≤ 126
theorem pX8_size {fu : Nat} {σ : zmem} {i L : Nat} {C : Nat → Nat} (h : zTx σ i L C) : m_X8_size fu σ i = some (nI L) := by
  unfold m_X8_size
  rw [h.2.2.2.1]
theorem pX8_isLetter {fu : Nat} {σ : zmem} {c : Nat} (h : c ≤ 126) : m_X8_isLetter fu σ (nI c) = some (if 97 ≤ c ∧ c ≤ 100 then 1 else 0) := by
  unfold m_X8_isLetter
  rw [show (97 : Int32) = nI 97 from rfl, show (100 : Int32) = nI 100 from rfl]
  by_cases c1 : c < 97
  · rw [if_pos (nI_lt c1 (by decide)), if_neg (by omega)]
  · rw [if_neg (nI_nlt (by omega) (by omega))]
    by_cases c2 : 100 < c
    · rw [if_pos (nI_lt c2 (by omega)), if_neg (by omega)]
    · rw [if_neg (nI_nlt (by omega) (by decide)), if_pos (by omega)]
theorem pX8_isNumber {fu : Nat} {σ : zmem} {c : Nat} (h : c ≤ 126) : m_X8_isNumber fu σ (nI c) = some (if 50 ≤ c ∧ c ≤ 57 then 1 else 0) := by
  unfold m_X8_isNumber
  rw [show (50 : Int32) = nI 50 from rfl, show (57 : Int32) = nI 57 from rfl]
  by_cases c1 : c < 50
  · rw [if_pos (nI_lt c1 (by decide)), if_neg (by omega)]
  · rw [if_neg (nI_nlt (by omega) (by omega))]
    by_cases c2 : 57 < c
    · rw [if_pos (nI_lt c2 (by omega)), if_neg (by omega)]
    · rw [if_neg (nI_nlt (by omega) (by decide)), if_pos (by omega)]
def zb (b : Bool) : Int32 := if b then 1 else 0
theorem pX8_fault_l {fu : Nat} {σ : zmem} {i L : Nat} {C : Nat → Nat} (h : zTx σ i L C) : ∀ (m k : Nat) (P : zPs), zPi P → k ≤ L → L - k < m →
    ∃ o, l_X8_faultPlace_9 fu σ i m (nI (P.1 P.2.2.1)) (zb (P.2.2.1 == 0)) (zb P.2.2.2) (nI k) = some o ∧ (match o with | .inl q => q | .inr _ => σ.1 i 1) = nI (zPg C (L - k) k P).1 := by
  obtain ⟨hi, hq, hL, h1, h2⟩ := h
  intro m
  induction m with
  | zero => intro k P _ _ h; omega
  | succ m ih =>
    intro k P hP hk hm
    rw [l_X8_faultPlace_9, h1]
    by_cases hv : k = L
    · subst hv
      rw [if_pos (nI_le (Nat.le_refl _) (by omega)), Nat.sub_self]
      exact ⟨_, rfl, rfl⟩
    · obtain ⟨g1, g2, g3⟩ := h2 k (by omega)
      rw [if_neg (nI_ge (show k < L by omega) (by omega)), pX1_at hq (show k < 60 by omega) (by decide), g1]
      simp only [Option.bind_some, pX8_isLetter g3, pX8_isNumber g3]
      have ez : zPg C (L - k) k P = match zPt (C k) P with | none => (k, P) | some P' => zPg C (L - (k + 1)) (k + 1) P' := by
        rw [show L - k = (L - (k + 1)) + 1 by omega, zPg]
      rw [ez]
      have hp4 := hP.2.2.2.1 P.2.2.1
      generalize hc : C k = c at g1 g2 g3
      have hl : (¬ nI c = (47 : Int32)) ↔ ¬ c = 47 := not_congr (nI_eq (by omega) (by decide))
      have fin : ∃ o, (if ¬ nI c = (47 : Int32) then some (.inl (nI k)) else (if zb (P.2.2.1 == 0) = 0 then some (.inl (nI k)) else l_X8_faultPlace_9 fu σ i m (0 : Int32) (0 : Int32) (0 : Int32) (nI k + 1))) = some o ∧ (c = 47 ∨ zPt c P = none → (match o with | .inl q => q | .inr _ => nI L) = nI (match zPt c P with | none => (k, P) | some P' => zPg C (L - (k + 1)) (k + 1) P').1) := by
        by_cases c1 : c = 47
        · rw [if_neg (fun q => hl.mp q c1)]
          by_cases c2 : P.2.2.1 = 0
          · have e1 : zPt c P = some (P.1, P.2.1, 1, false) := by unfold zPt; rw [if_pos c1, if_pos c2]
            rw [e1, c2, za1]
            obtain ⟨o, e2, e3⟩ := ih (k + 1) (P.1, P.2.1, 1, false) (zPt_i hP e1) (by omega) (by omega)
            have e4 : P.1 1 = 0 := hP.2.1 c2
            rw [h1] at e3
            simp only [e4] at e2
            exact ⟨o, e2, fun _ => e3⟩
          · have e1 : zPt c P = none := by unfold zPt; rw [if_pos c1, if_neg c2]
            rw [e1, show zb (P.2.2.1 == 0) = 0 by unfold zb; rw [if_neg (by simpa using c2)], if_pos rfl]
            exact ⟨_, rfl, fun _ => rfl⟩
        · rw [if_pos (hl.mpr c1)]
          refine ⟨_, rfl, fun q => ?_⟩
          rcases q with q | q
          · exact absurd q c1
          · rw [q]
      have fin' : (c = 47 ∨ zPt c P = none) → ∃ o, (if ¬ nI c = (47 : Int32) then some (.inl (nI k)) else (if zb (P.2.2.1 == 0) = 0 then some (.inl (nI k)) else l_X8_faultPlace_9 fu σ i m (0 : Int32) (0 : Int32) (0 : Int32) (nI k + 1))) = some o ∧ (match o with | .inl q => q | .inr _ => nI L) = nI (match zPt c P with | none => (k, P) | some P' => zPg C (L - (k + 1)) (k + 1) P').1 := fun q => by
        obtain ⟨o, e1, e2⟩ := fin
        exact ⟨o, e1, e2 q⟩
      by_cases hA : 97 ≤ c ∧ c ≤ 100
      · rw [if_pos hA, if_neg (show ¬ (1 : Int32) = 0 by decide), l24]
        by_cases c3 : P.1 P.2.2.1 < 24
        · have e1 : zPt c P = some (fun r => if r = P.2.2.1 then P.1 r + 1 else P.1 r, fun r j => if r = P.2.2.1 ∧ P.1 r ≤ j then c - 97 else P.2.1 r j, P.2.2.1, true) := by
            unfold zPt
            rw [if_neg (by omega), if_pos hA, if_pos c3]
          rw [if_neg (nI_ge c3 (by decide)), e1, za1, za1]
          obtain ⟨o, e2, e3⟩ := ih (k + 1) _ (zPt_i hP e1) (by omega) (by omega)
          rw [h1] at e3
          simp only [if_pos] at e2
          exact ⟨o, e2, e3⟩
        · have e1 : zPt c P = none := by
            unfold zPt
            rw [if_neg (by omega), if_pos hA, if_neg c3]
          rw [if_pos (nI_le (by omega) (by omega)), if_neg (show ¬ (50 ≤ c ∧ c ≤ 57) by omega), if_pos rfl]
          exact fin' (Or.inr e1)
      · rw [if_neg hA, if_pos (show (0 : Int32) = 0 from rfl)]
        by_cases hB : 50 ≤ c ∧ c ≤ 57
        · rw [if_pos hB, if_neg (show ¬ (1 : Int32) = 0 by decide)]
          by_cases hC : P.2.2.2 = true
          · have hp1 := hP.2.2.1 hC
            rw [show zb P.2.2.2 = 1 by rw [hC]; rfl, if_neg (show ¬ (1 : Int32) = 0 by decide), l24, l1, show (48 : Int32) = nI 48 from rfl, pk_sub (by omega), nI_add, pk_sub (by omega), pk_sub (by omega), pk_sub (by omega), nI_add]
            by_cases hD : P.1 P.2.2.1 + (c - 49) ≤ 24
            · have e1 : zPt c P = some (fun r => if r = P.2.2.1 then P.1 r + (c - 49) else P.1 r, fun r j => if r = P.2.2.1 ∧ P.1 r ≤ j then P.2.1 r (P.1 r - 1) else P.2.1 r j, P.2.2.1, false) := by
                unfold zPt
                rw [if_neg (by omega), if_neg hA, if_pos ⟨hC, hB.1, hB.2, hD⟩]
              rw [if_neg (nI_nlt (by omega) (by decide)), e1, show c - 48 - 1 = c - 49 by omega, nI_add]
              obtain ⟨o, e2, e3⟩ := ih (k + 1) _ (zPt_i hP e1) (by omega) (by omega)
              rw [h1] at e3
              simp only [if_pos] at e2
              exact ⟨o, e2, e3⟩
            · have e1 : zPt c P = none := by
                unfold zPt
                rw [if_neg (by omega), if_neg hA, if_neg (fun q => hD q.2.2.2)]
              rw [if_pos (nI_lt (by omega) (by omega))]
              have f3 := fin' (Or.inr e1)
              rw [l0, l1, nI_add] at f3
              exact f3
          · have e1 : zPt c P = none := by
              unfold zPt
              rw [if_neg (by omega), if_neg hA, if_neg (fun q => hC q.1)]
            rw [if_pos (show zb P.2.2.2 = 0 by unfold zb; rw [if_neg hC])]
            exact fin' (Or.inr e1)
        · rw [if_neg hB, if_pos (show (0 : Int32) = 0 from rfl)]
          refine fin' ?_
          by_cases c1 : c = 47
          · exact Or.inl c1
          · refine Or.inr ?_
            unfold zPt
            rw [if_neg c1, if_neg hA, if_neg (fun q => hB ⟨q.2.1, q.2.2.1⟩)]
theorem pX8_faultPlace {fu : Nat} {σ : zmem} {i L : Nat} {C : Nat → Nat} (h : zTx σ i L C) (hfu : 100 < fu) : m_X8_faultPlace fu σ i = some (nI (zPg C L 0 zP0).1) := by
  have hL := h.2.2.1
  obtain ⟨o, e1, e2⟩ := pX8_fault_l (fu := fu) h fu 0 zP0 zP0_i (by omega) (by omega)
  unfold m_X8_faultPlace
  have e1 : l_X8_faultPlace_9 fu σ i fu 0 1 0 0 = some o := e1
  rw [e1]
  rw [Nat.sub_zero] at e2
  rw [← e2]
  cases o <;> rfl
