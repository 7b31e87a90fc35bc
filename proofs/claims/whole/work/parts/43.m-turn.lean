/-! the reference's writers: turn -/
theorem qX11_turn_l {fu r a b : Nat} {f : Nat → Nat} (hr : r < 2) (hb : b < 24) : ∀ (m k c : Nat) (σ : zmem), a + 2 * k ≤ b + 1 → k ≤ b → (∀ j, a + k ≤ j → j ≤ b - k → σ.1 104 (6 + 24 * r + j) = nI (f j) ∧ f j < 4) → b + 1 - a - 2 * k < m →
    l_X11_turn_55 fu (nI r) (nI a) (nI b) m (nI c) (nI k) σ = some (nI (c + zrc f (a + k) (b - k) m), zrw σ 104 (fun i => if 6 + 24 * r + (a + k) ≤ i ∧ i ≤ 6 + 24 * r + (b - k) then σ.1 104 (12 + 48 * r + a + b - i) else σ.1 104 i)) := by
  intro m
  induction m with
  | zero => intro k c σ _ _ _ h; omega
  | succ m ih =>
    intro k c σ h1 h2 h3 h4
    rw [l_X11_turn_55, nI_add, pk_sub h2]
    show _ = some (nI (c + (if a + k < b - k then (if f (a + k) = f (b - k) then 0 else 2) + zrc f (a + k + 1) (b - k - 1) m else 0)), _)
    by_cases hv : b - k ≤ a + k
    · rw [if_pos (nI_le hv (by omega)), if_neg (by omega)]
      have e : (fun i => if 6 + 24 * r + (a + k) ≤ i ∧ i ≤ 6 + 24 * r + (b - k) then σ.1 104 (12 + 48 * r + a + b - i) else σ.1 104 i) = σ.1 104 := funext fun i => by
        by_cases c1 : 6 + 24 * r + (a + k) ≤ i ∧ i ≤ 6 + 24 * r + (b - k)
        · rw [if_pos c1, show 12 + 48 * r + a + b - i = i by omega]
        · rw [if_neg c1]
      rw [e, zrw_self]
      rfl
    · obtain ⟨fa, la⟩ := h3 (a + k) (by omega) (by omega)
      obtain ⟨fb, lb⟩ := h3 (b - k) (by omega) (by omega)
      rw [if_neg (nI_ge (show a + k < b - k by omega) (by omega)), if_pos (by omega), qX11_at1 hr (by omega), qX11_at1 hr (by omega), fa, fb]
      simp only [Option.bind_some]
      have e1 : (if ¬ nI (f (a + k)) = nI (f (b - k)) then some (2 : Int32) else some (0 : Int32)) = some (nI (if f (a + k) = f (b - k) then 0 else 2)) := by
        by_cases c1 : f (a + k) = f (b - k)
        · rw [if_neg (fun q => q (congrArg nI c1)), if_pos c1]; rfl
        · rw [if_pos (fun q => c1 ((nI_eq (by omega) (by omega)).mp q)), if_neg c1]; rfl
      rw [e1]
      simp only [Option.bind_some]
      rw [qX11_lay1 hr (by omega)]
      simp only [Option.bind_some]
      rw [qX11_lay1 hr (by omega), zrw_rw, zrw_at]
      simp only [Option.bind_some]
      rw [nI_add, za1, ih (k + 1) _ _ (by omega) (by omega) (fun j j1 j2 => ?_) (by omega), zrw_rw, zrw_at, Nat.add_assoc, show a + (k + 1) = a + k + 1 by omega, show b - (k + 1) = b - k - 1 by omega]
      · refine congrArg some (Prod.ext rfl (congrArg (zrw σ 104) (funext fun i => ?_)))
        unfold upd
        by_cases c1 : 6 + 24 * r + (a + k + 1) ≤ i ∧ i ≤ 6 + 24 * r + (b - k - 1)
        · rw [if_pos c1, if_neg (by omega), if_neg (by omega), if_pos (by omega)]
        · rw [if_neg c1]
          by_cases c2 : i = 6 + 24 * r + (b - k)
          · rw [if_pos c2, if_pos (by omega), c2, show 12 + 48 * r + a + b - (6 + 24 * r + (b - k)) = 6 + 24 * r + (a + k) by omega, fa]
          · rw [if_neg c2]
            by_cases c3 : i = 6 + 24 * r + (a + k)
            · rw [if_pos c3, if_pos (by omega), c3, show 12 + 48 * r + a + b - (6 + 24 * r + (a + k)) = 6 + 24 * r + (b - k) by omega, fb]
            · rw [if_neg c3, if_neg (by omega)]
      · rw [zrw_at]
        unfold upd
        rw [if_neg (by omega), if_neg (by omega)]
        exact h3 j (by omega) (by omega)
