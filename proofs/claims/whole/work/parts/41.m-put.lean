/-! the reference's writers: put -/
theorem loopD {L : Nat → Int32 → zmem → Option zmem} {a : Nat} {P : Nat → zmem → Prop} (h0 : ∀ n σ, P a σ → L (n + 1) (nI a) σ = some σ) (h1 : ∀ n v σ, a < v → P v σ → ∃ σ', L (n + 1) (nI v) σ = L n (nI (v - 1)) σ' ∧ P (v - 1) σ') : ∀ m v σ, a ≤ v → v - a < m → P v σ → ∃ σ', L m (nI v) σ = some σ' ∧ P a σ' := by
  intro m
  induction m with
  | zero => intro v σ _ h; omega
  | succ m ih =>
    intro v σ hv hm hP
    by_cases h : v = a
    · subst h
      exact ⟨σ, h0 m σ hP, hP⟩
    · obtain ⟨σ', e, hP'⟩ := h1 m v σ (by omega) hP
      obtain ⟨σ2, e2, hP2⟩ := ih (v - 1) σ' (by omega) (by omega) hP'
      exact ⟨σ2, e.trans e2, hP2⟩
theorem qX11_lay1 {fu : Nat} {σ : zmem} {r p : Nat} {v : Int32} (hr : r < 2) (hp : p < 24) : m_X11_lay fu σ (nI r) (nI p) v = some (zrw σ 104 (upd (σ.1 104) (6 + 24 * r + p) v)) := by
  unfold m_X11_lay
  rw [l24m, l6m, nI_add, zwr_in zc_104 (show 6 + 24 * r + p < 54 by omega) (by decide)]
  rfl
theorem qX11_at1 {fu : Nat} {σ : zmem} {r p : Nat} (hr : r < 2) (hp : p < 24) : m_X11_at fu σ (nI r) (nI p) = some (σ.1 104 (6 + 24 * r + p)) := by
  unfold m_X11_at
  rw [l24m, l6m, nI_add, zrd_in zc_104 (show 6 + 24 * r + p < 54 by omega) (by decide)]
  rfl
/-- a sign put -/
def zput (S : zS) (r p x : Nat) : zS := (fun k => if k = r then S.1 k + 1 else S.1 k, fun k j => if k = r then (if j < p then S.2.1 k j else if j = p then x else S.2.1 k (j - 1)) else S.2.1 k j, S.2.2)
theorem qX11_put_l {fu : Nat} {σ : zmem} {r p n : Nat} {x : Int32} (hr : r < 2) (hp : p ≤ n) (hn : n < 24) (hfu : 100 < fu) : ∃ σ', l_X11_put_74 fu (nI r) (nI p) x fu (nI n) σ = some σ' ∧ zfr σ σ' [104] ∧ ∀ j, σ'.1 104 j = if 6 + 24 * r + p < j ∧ j ≤ 6 + 24 * r + n then σ.1 104 (j - 1) else σ.1 104 j := by
  obtain ⟨σ', e, _, p1, p2⟩ := loopD (L := l_X11_put_74 fu (nI r) (nI p) x) (a := p) (P := fun v τ => v ≤ n ∧ zfr σ τ [104] ∧ ∀ j, τ.1 104 j = if 6 + 24 * r + v < j ∧ j ≤ 6 + 24 * r + n then σ.1 104 (j - 1) else σ.1 104 j)
    (fun m τ _ => by rw [l_X11_put_74, if_pos (nI_le (Nat.le_refl _) (by omega))])
    (fun m v τ hv ⟨q0, q1, q2⟩ => by
      refine ⟨zrw τ 104 (upd (τ.1 104) (6 + 24 * r + v) (σ.1 104 (6 + 24 * r + (v - 1)))), ?_, by omega, q1.tr (zfr_rw (by simp)), fun j => ?_⟩
      · rw [l_X11_put_74, if_neg (nI_ge hv (by omega)), zs1 (by omega), qX11_at1 hr (by omega), q2 (6 + 24 * r + (v - 1)), if_neg (by omega)]
        simp only [Option.bind_some]
        rw [qX11_lay1 hr (by omega)]
        rfl
      · rw [zrw_at]
        by_cases c : j = 6 + 24 * r + v
        · rw [c, upd_at, if_pos (by omega), show 6 + 24 * r + v - 1 = 6 + 24 * r + (v - 1) by omega]
        · rw [upd_ne c, q2 j]
          by_cases c2 : 6 + 24 * r + v < j ∧ j ≤ 6 + 24 * r + n
          · rw [if_pos c2, if_pos (by omega)]
          · rw [if_neg c2, if_neg (by omega)])
    fu n σ hp (by omega) ⟨Nat.le_refl _, zfr.rf, fun j => by rw [if_neg (by omega)]⟩
  exact ⟨σ', e, p1, p2⟩
