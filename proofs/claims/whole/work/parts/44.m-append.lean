/-! the reference's writers: append, clearBuffer -/
theorem qX11_clearBuffer {fu : Nat} {σ : zmem} {L : Nat} {C : Nat → Nat} (h : zMt σ L C) : ∃ σ', m_X11_clearBuffer fu σ = some (nI L, σ') ∧ zMt σ' 0 C ∧ zfr σ σ' [103] ∧ ∀ k, k ≠ 5 → σ'.1 103 k = if k = 7 then 0 else σ.1 103 k := by
  refine ⟨zst (zst σ 103 7 (0 : Int32)) 103 5 (0 : Int32), ?_, ⟨by decide, zst_at, fun j hj => absurd hj (Nat.not_lt_zero _)⟩, (zfr_st (by simp)).tr (zfr_st (by simp)), fun k hk => ?_⟩
  · unfold m_X11_clearBuffer
    rw [zst_s (by decide), h.2.1]
  · rw [zst_s hk]
    by_cases c : k = 7
    · rw [if_pos c, c, zst_at]
    · rw [if_neg c, zst_s c]
theorem qX11_append {fu : Nat} {σ : zmem} {L : Nat} {C : Nat → Nat} {a : Int32} (h : zMt σ L C) :
    (∃ c, 33 ≤ c ∧ c ≤ 126 ∧ a = nI c ∧ L < 60 ∧ ∃ σ', m_X11_append fu σ a = some (nI (L + 1), σ') ∧ zMt σ' (L + 1) (fun j => if j = L then c else C j) ∧ zfr σ σ' [103, 108] ∧ ∀ k, k ≠ 5 → σ'.1 103 k = if k = 7 then 0 else σ.1 103 k) ∨
    ((∃ c, 33 ≤ c ∧ c ≤ 126 ∧ a = nI c) ∧ L = 60 ∧ m_X11_append fu σ a = some (0, zst σ 103 7 2)) ∨
    ((∀ c, 33 ≤ c → c ≤ 126 → a ≠ nI c) ∧ m_X11_append fu σ a = some (0, zst σ 103 7 1)) := by
  obtain ⟨hL, h1, h2⟩ := h
  unfold m_X11_append
  rcases qX11_within (fu := fu) (σ := σ) (a := a) (lo := 33) (hi := 126) (by decide) (by decide) with ⟨e, c, c1, c2, ea⟩ | ⟨e, hc⟩
  · have e : m_X11_within fu σ a 33 126 = some 1 := e
    rw [e]
    simp only [Option.bind_some]
    rw [if_pos (show ¬ (1 : Int32) = 0 by decide), h1, l60]
    by_cases hl : L < 60
    · refine Or.inl ⟨c, c1, c2, ea, hl, ?_⟩
      rw [if_pos (fun q => absurd ((nI_eq (by omega) (by omega)).mp q) (by omega))]
      simp only [Option.bind_some]
      rw [zst_at, if_pos (by decide), zst_s (by decide), h1, zwr_in zc_108 hl (by decide), ea]
      simp only [Option.bind_some]
      rw [zst_at, zrw_ne (by decide), zst_s (by decide), h1, za1]
      refine ⟨_, rfl, ⟨by omega, zst_at, fun j hj => ?_⟩, ((zfr_st (by simp)).tr (zfr_rw (by simp))).tr (zfr_st (by simp)), fun k hk => ?_⟩
      · rw [zst_1 (by decide), zrw_at]
        dsimp only
        by_cases d : j = L
        · rw [if_pos d, d, upd_at]
          exact ⟨rfl, c1, c2⟩
        · rw [if_neg d, upd_ne d, zst_1 (by decide)]
          exact h2 j (by omega)
      · rw [zst_s hk, zrw_ne (by decide)]
        by_cases d : k = 7
        · rw [if_pos d, d, zst_at]
        · rw [if_neg d, zst_s d]
    · have hl : L = 60 := by omega
      refine Or.inr (Or.inl ⟨⟨c, c1, c2, ea⟩, hl, ?_⟩)
      rw [hl, if_neg (fun q => q rfl)]
      simp only [Option.bind_some]
      rw [zst_at, if_neg (by decide)]
  · have e : m_X11_within fu σ a 33 126 = some 0 := e
    refine Or.inr (Or.inr ⟨hc, ?_⟩)
    rw [e]
    simp only [Option.bind_some]
    rw [if_neg (show ¬ ¬ True from fun q => q trivial)]
    simp only [Option.bind_some]
    rw [zst_at, if_neg (by decide)]
