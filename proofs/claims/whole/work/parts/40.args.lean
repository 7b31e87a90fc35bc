/-! arguments are arbitrary numbers: what the guards make of them -/
theorem za_in {a : Int32} {n : Nat} (h0 : ¬ a < 0) (h1 : ¬ nI n ≤ a) (hn : n < 2 ^ 31) : ∃ k, k < n ∧ a = nI k := by
  obtain ⟨j, hj, e, _⟩ := pk_mu h0 h1 hn
  exact ⟨j, hj, e⟩
theorem za_not {a b : Int32} (h : ¬ a < b) : b ≤ a := Int32.not_lt.mp h
theorem za_le {a : Int32} {n : Nat} (h0 : ¬ a < 0) (h1 : a ≤ nI n) (hn : n < 2 ^ 30) : ∃ k, k ≤ n ∧ a = nI k := by
  obtain ⟨k, hk, e⟩ := za_in (n := n + 1) h0 (fun q => by
    have e1 := Int32.le_iff_toInt_le.mp (Int32.le_trans q h1)
    rw [nI_toInt (by omega), nI_toInt (by omega)] at e1
    omega) (by omega)
  exact ⟨k, by omega, e⟩
/-- a number is one of lo .. hi, or it is none of them -/
theorem qX11_within {fu : Nat} {σ : zmem} {a : Int32} {lo hi : Nat} (hh : hi < 2 ^ 30) (hlo : lo < 2 ^ 30) : (m_X11_within fu σ a (nI lo) (nI hi) = some 1 ∧ ∃ k, lo ≤ k ∧ k ≤ hi ∧ a = nI k) ∨ (m_X11_within fu σ a (nI lo) (nI hi) = some 0 ∧ ∀ k, lo ≤ k → k ≤ hi → a ≠ nI k) := by
  unfold m_X11_within
  by_cases c1 : a < nI lo
  · rw [if_pos c1]
    refine Or.inr ⟨rfl, fun k h1 h2 e => ?_⟩
    rw [e] at c1
    exact nI_nlt h1 (by omega) c1
  · rw [if_neg c1]
    by_cases c2 : nI hi < a
    · rw [if_pos c2]
      refine Or.inr ⟨rfl, fun k h1 h2 e => ?_⟩
      rw [e] at c2
      exact nI_nlt h2 (by omega) c2
    · rw [if_neg c2]
      refine Or.inl ⟨rfl, ?_⟩
      have h1 := za_not c1
      have h2 := za_not c2
      obtain ⟨k, hk, e⟩ := za_le (a := a) (n := hi) (fun q => by
        have e1 := Int32.le_iff_toInt_le.mp h1
        have e2 := Int32.lt_iff_toInt_lt.mp q
        rw [nI_toInt (by omega)] at e1
        have : (0 : Int32).toInt = 0 := by decide
        omega) h2 hh
      rw [e] at h1
      exact ⟨k, (nI_leI (by omega) (by omega)).mp h1, hk, e⟩
theorem pX10_isRow {fu : Nat} {σ : zmem} {r : Nat} (h : r < 2) : m_X10_isRow fu σ (nI r) = some 1 := by
  rcases (show r = 0 ∨ r = 1 by omega) with rfl | rfl <;> rfl
theorem pX10_isRow0 {fu : Nat} {σ : zmem} {a : Int32} (h : ∀ k, k < 2 → a ≠ nI k) : m_X10_isRow fu σ a = some 0 := by
  unfold m_X10_isRow
  rw [if_neg (show ¬ a = 0 from h 0 (by decide)), if_pos (show ¬ a = 1 from h 1 (by decide))]
theorem qX11_isRow {fu : Nat} {σ : zmem} {a : Int32} : (m_X11_isRow fu σ a = some 1 ∧ ∃ r, r < 2 ∧ a = nI r) ∨ (m_X11_isRow fu σ a = some 0 ∧ ∀ k, k < 2 → a ≠ nI k) := by
  unfold m_X11_isRow
  rcases qX11_within (fu := fu) (σ := σ) (a := a) (lo := 0) (hi := 1) (by decide) (by decide) with ⟨h, k, _, h2, e⟩ | ⟨h, h2⟩
  · have h : m_X11_within fu σ a 0 1 = some 1 := h
    rw [h]
    exact Or.inl ⟨rfl, k, by omega, e⟩
  · have h : m_X11_within fu σ a 0 1 = some 0 := h
    rw [h]
    exact Or.inr ⟨rfl, fun k hk => h2 k (by omega) (by omega)⟩
theorem qX11_signs {fu : Nat} {σ : zmem} {S : zS} {r : Nat} (h : zMz σ 104 0 S) (hr : r < 2) : m_X11_signs fu σ (nI r) = some (nI (S.1 r)) := by
  unfold m_X11_signs
  have := h.2.2.2.1 r hr
  rw [Nat.zero_add] at this
  rw [l4m, zrd_in zc_104 (show 4 + r < 54 by omega) (by decide), this]
  rfl
theorem qX11_at {fu : Nat} {σ : zmem} {S : zS} {r p : Nat} (h : zMz σ 104 0 S) (hr : r < 2) (hp : p < S.1 r) : m_X11_at fu σ (nI r) (nI p) = some (nI (S.2.1 r p)) := by
  have hle := h.le hr
  unfold m_X11_at
  have := h.2.2.2.2 r p hr hp
  rw [Nat.zero_add] at this
  rw [l24m, l6m, nI_add, zrd_in zc_104 (show 6 + 24 * r + p < 54 by omega) (by decide), this]
  rfl
theorem qX11_isPlace {fu : Nat} {σ : zmem} {S : zS} {a b : Int32} (h : zMz σ 104 0 S) : (m_X11_isPlace fu σ a b = some 1 ∧ ∃ r p, r < 2 ∧ p < S.1 r ∧ a = nI r ∧ b = nI p) ∨ (m_X11_isPlace fu σ a b = some 0 ∧ ∀ r p, r < 2 → p < S.1 r → a = nI r → b ≠ nI p) := by
  unfold m_X11_isPlace
  rcases qX11_isRow (fu := fu) (σ := σ) (a := a) with ⟨e, r, hr, ea⟩ | ⟨e, ha⟩
  · rw [e, ea]
    simp only [Option.bind_some]
    have hle := h.le hr
    rw [if_neg (show ¬ (1 : Int32) = 0 by decide), qX11_signs h hr]
    simp only [Option.bind_some]
    by_cases hn : S.1 r = 0
    · have e2 : m_X11_within fu σ b 0 (nI (S.1 r) - 1) = some 0 := by
        rw [hn]
        unfold m_X11_within
        by_cases c1 : b < 0
        · rw [if_pos c1]
        · rw [if_neg c1]
          have c2 : nI 0 - 1 < b := by
            refine Int32.lt_iff_toInt_lt.mpr ?_
            have c3 : ¬ b.toInt < 0 := fun q => c1 (Int32.lt_iff_toInt_lt.mpr q)
            have : (nI 0 - 1 : Int32).toInt = -1 := by decide
            omega
          rw [if_pos c2]
      rw [e2]
      refine Or.inr ⟨rfl, fun r' p hr' hp er => ?_⟩
      have : r = r' := (nI_eq (by omega) (by omega)).mp er
      rw [← this] at hp
      omega
    · rw [zs1 (by omega)]
      rcases qX11_within (fu := fu) (σ := σ) (a := b) (lo := 0) (hi := S.1 r - 1) (by omega) (by decide) with ⟨e2, k, _, h2, eb⟩ | ⟨e2, h2⟩
      · have e2 : m_X11_within fu σ b 0 (nI (S.1 r - 1)) = some 1 := e2
        rw [e2]
        exact Or.inl ⟨rfl, r, k, hr, by omega, rfl, eb⟩
      · have e2 : m_X11_within fu σ b 0 (nI (S.1 r - 1)) = some 0 := e2
        rw [e2]
        refine Or.inr ⟨rfl, fun r' p hr' hp er => h2 p (by omega) ?_⟩
        have : r = r' := (nI_eq (by omega) (by omega)).mp er
        rw [← this] at hp
        omega
  · rw [e]
    exact Or.inr ⟨rfl, fun r p hr hp er => absurd er (ha r hr)⟩
def zRr (b r : Nat) : Nat := b + 1 + 2 * r
theorem pX7_rowOf {fu : Nat} {σ : zmem} {b r : Nat} (hr : r < 2) : m_X7_rowOf fu σ b (nI r) = some (zRr b r) := by
  rcases (show r = 0 ∨ r = 1 by omega) with rfl | rfl <;> rfl
theorem zRs.row {σ : zmem} {b r : Nat} {n : Nat → Nat} {f : Nat → Nat → Nat} (h : zRs σ b n f) (hr : r < 2) : zRow σ (zRr b r) (n r) (f r) := by
  rcases (show r = 0 ∨ r = 1 by omega) with rfl | rfl
  · exact h.2.1
  · exact h.2.2
theorem pX10_isPlace {fu : Nat} {σ : zmem} {n : Nat → Nat} {f : Nat → Nat → Nat} {r p : Nat} (h : zRs σ 1 n f) (hr : r < 2) (hp : p < n r) : m_X10_isPlace fu σ (nI r) (nI p) = some 1 := by
  unfold m_X10_isPlace
  rw [pX10_isRow hr]
  simp only [Option.bind_some]
  rw [if_neg (show ¬ (1 : Int32) = 0 by decide), pX7_rowOf hr]
  simp only [Option.bind_some]
  rw [pX6_has (h.row hr) hp]
  rfl
theorem pX10_isPlace0 {fu : Nat} {σ : zmem} {n : Nat → Nat} {f : Nat → Nat → Nat} {a b : Int32} (h : zRs σ 1 n f) (hab : ∀ r p, r < 2 → p < n r → a = nI r → b ≠ nI p) : m_X10_isPlace fu σ a b = some 0 := by
  unfold m_X10_isPlace
  rcases qX11_isRow (fu := fu) (σ := σ) (a := a) with ⟨_, r, hr, ea⟩ | ⟨_, ha⟩
  · rw [ea, pX10_isRow hr]
    simp only [Option.bind_some]
    rw [if_neg (show ¬ (1 : Int32) = 0 by decide), pX7_rowOf hr]
    simp only [Option.bind_some]
    have hR := h.row hr
    have e2 : m_X6_has fu σ (zRr 1 r) b = some 0 := by
      unfold m_X6_has
      by_cases c1 : b < 0
      · rw [if_pos c1]
      · rw [if_neg c1, hR.2.2.1]
        by_cases c2 : nI (n r) ≤ b
        · rw [if_pos c2]
        · obtain ⟨k, hk, eb⟩ := za_in c1 c2 (by have := hR.2.1; omega)
          exact absurd eb (hab r k hr hk ea)
    rw [e2]
    rfl
  · rw [pX10_isRow0 ha]
    rfl
