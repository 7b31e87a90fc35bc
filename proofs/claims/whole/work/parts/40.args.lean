/-! arguments are arbitrary numbers: what the guards make of them -/
theorem za_in {a : Int32} {n : Nat} (h0 : ¬ a < 0) (h1 : ¬ nI n ≤ a) (hn : n < 2 ^ 31) : ∃ k, k < n ∧ a = nI k := by
  obtain ⟨j, hj, e, _⟩ := pk_mu h0 h1 hn
  exact ⟨j, hj, e⟩
theorem za_not {a b : Int32} (h : ¬ a < b) : b ≤ a := Int32.not_lt.mp h
theorem za_le {a : Int32} {n : Nat} (h0 : ¬ a < 0) (h1 : a ≤ nI n) (hn : n < 2 ^ 30) : ∃ k, k ≤ n ∧ a = nI k := by
  obtain ⟨k, hk, e⟩ := za_in (n := n + 1) h0 (fun q => by
    have e1 := Int32.le_iff_toInt_le.mp (Int32.le_trans q h1)
    rw [nI_toInt (by omega), nI_toInt (by omega)] at e1
    omega) (by omega)
  exact ⟨k, by omega, e⟩
/-- a number is one of lo .. hi, or it is none of them -/
theorem qX11_within {fu : Nat} {σ : zmem} {a : Int32} {lo hi : Nat} (hh : hi < 2 ^ 30) (hlo : lo < 2 ^ 30) : (m_X11_within fu σ a (nI lo) (nI hi) = some 1 ∧ ∃ k, lo ≤ k ∧ k ≤ hi ∧ a = nI k) ∨ (m_X11_within fu σ a (nI lo) (nI hi) = some 0 ∧ ∀ k, lo ≤ k → k ≤ hi → a ≠ nI k) := by
  unfold m_X11_within
  by_cases c1 : a < nI lo
  · rw [if_pos c1]
    refine Or.inr ⟨rfl, fun k h1 h2 e => ?_⟩
    rw [e] at c1
    exact nI_nlt h1 (by omega) c1
  · rw [if_neg c1]
    by_cases c2 : nI hi < a
    · rw [if_pos c2]
      refine Or.inr ⟨rfl, fun k h1 h2 e => ?_⟩
      rw [e] at c2
      exact nI_nlt h2 (by omega) c2
    · rw [if_neg c2]
      refine Or.inl ⟨rfl, ?_⟩
      have h1 := za_not c1
      have h2 := za_not c2
      obtain ⟨k, hk, e⟩ := za_le (a := a) (n := hi) (fun q => by
        have e1 := Int32.le_iff_toInt_le.mp h1
        have e2 := Int32.lt_iff_toInt_lt.mp q
        rw [nI_toInt (by omega)] at e1
        have : (0 : Int32).toInt = 0 := by decide
        omega) h2 hh
      rw [e] at h1
      exact ⟨k, (nI_leI (by omega) (by omega)).mp h1, hk, e⟩
theorem pX10_isRow {fu : Nat} {σ : zmem} {r : Nat} (h : r < 2) : m_X10_isRow fu σ (nI r) = some 1 := by
  rcases (show r = 0 ∨ r = 1 by omega) with rfl | rfl <;> rfl
theorem pX10_isRow0 {fu : Nat} {σ : zmem} {a : Int32} (h : ∀ k, k < 2 → a ≠ nI k) : m_X10_isRow fu σ a = some 0 := by
  unfold m_X10_isRow
  rw [if_neg (show ¬ a = 0 from h 0 (by decide)), if_pos (show ¬ a = 1 from h 1 (by decide))]
theorem qX11_isRow {fu : Nat} {σ : zmem} {a : Int32} : (m_X11_isRow fu σ a = some 1 ∧ ∃ r, r < 2 ∧ a = nI r) ∨ (m_X11_isRow fu σ a = some 0 ∧ ∀ k, k < 2 → a ≠ nI k) := by
  unfold m_X11_isRow
  rcases qX11_within (fu := fu) (σ := σ) (a := a) (lo := 0) (hi := 1) (by decide) (by decide) with ⟨h, k, _, h2, e⟩ | ⟨h, h2⟩
  · have h : m_X11_within fu σ a 0 1 = some 1 := h
    rw [h]
    exact Or.inl ⟨rfl, k, by omega, e⟩
  · have h : m_X11_within fu σ a 0 1 = some 0 := h
    rw [h]
    exact Or.inr ⟨rfl, fun k hk => h2 k (by omega) (by omega)⟩
