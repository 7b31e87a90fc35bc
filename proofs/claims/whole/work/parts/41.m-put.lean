/-! the reference's writers: put -/
theorem loopD {L : Nat → Int32 → zmem → Option zmem} {a : Nat} {P : Nat → zmem → Prop} (h0 : ∀ n σ, P a σ → L (n + 1) (nI a) σ = some σ) (h1 : ∀ n v σ, a < v → P v σ → ∃ σ', L (n + 1) (nI v) σ = L n (nI (v - 1)) σ' ∧ P (v - 1) σ') : ∀ m v σ, a ≤ v → v - a < m → P v σ → ∃ σ', L m (nI v) σ = some σ' ∧ P a σ' := by
  intro m
  induction m with
  | zero => intro v σ _ h; omega
  | succ m ih =>
    intro v σ hv hm hP
    by_cases h : v = a
    · subst h
      exact ⟨σ, h0 m σ hP, hP⟩
    · obtain ⟨σ', e, hP'⟩ := h1 m v σ (by omega) hP
      obtain ⟨σ2, e2, hP2⟩ := ih (v - 1) σ' (by omega) (by omega) hP'
      exact ⟨σ2, e.trans e2, hP2⟩
theorem qX11_lay1 {fu : Nat} {σ : zmem} {r p : Nat} {v : Int32} (hr : r < 2) (hp : p < 24) : m_X11_lay fu σ (nI r) (nI p) v = some (zrw σ 104 (upd (σ.1 104) (6 + 24 * r + p) v)) := by
  unfold m_X11_lay
  rw [l24m, l6m, nI_add, zwr_in zc_104 (show 6 + 24 * r + p < 54 by omega) (by decide)]
  rfl
theorem qX11_at1 {fu : Nat} {σ : zmem} {r p : Nat} (hr : r < 2) (hp : p < 24) : m_X11_at fu σ (nI r) (nI p) = some (σ.1 104 (6 + 24 * r + p)) := by
  unfold m_X11_at
  rw [l24m, l6m, nI_add, zrd_in zc_104 (show 6 + 24 * r + p < 54 by omega) (by decide)]
  rfl
/-- a sign put -/
def zput (S : zS) (r p x : Nat) : zS := (fun k => if k = r then S.1 k + 1 else S.1 k, fun k j => if k = r then (if j < p then S.2.1 k j else if j = p then x else S.2.1 k (j - 1)) else S.2.1 k j, S.2.2)
theorem qX11_put_l {fu : Nat} {σ : zmem} {r p n : Nat} {x : Int32} (hr : r < 2) (hp : p ≤ n) (hn : n < 24) (hfu : 100 < fu) : ∃ σ', l_X11_put_74 fu (nI r) (nI p) x fu (nI n) σ = some σ' ∧ zfr σ σ' [104] ∧ ∀ j, σ'.1 104 j = if 6 + 24 * r + p < j ∧ j ≤ 6 + 24 * r + n then σ.1 104 (j - 1) else σ.1 104 j := by
  obtain ⟨σ', e, _, p1, p2⟩ := loopD (L := l_X11_put_74 fu (nI r) (nI p) x) (a := p) (P := fun v τ => v ≤ n ∧ zfr σ τ [104] ∧ ∀ j, τ.1 104 j = if 6 + 24 * r + v < j ∧ j ≤ 6 + 24 * r + n then σ.1 104 (j - 1) else σ.1 104 j)
    (fun m τ _ => by rw [l_X11_put_74, if_pos (nI_le (Nat.le_refl _) (by omega))])
    (fun m v τ hv ⟨q0, q1, q2⟩ => by
      refine ⟨zrw τ 104 (upd (τ.1 104) (6 + 24 * r + v) (σ.1 104 (6 + 24 * r + (v - 1)))), ?_, by omega, q1.tr (zfr_rw (by simp)), fun j => ?_⟩
      · rw [l_X11_put_74, if_neg (nI_ge hv (by omega)), zs1 (by omega), qX11_at1 hr (by omega), q2 (6 + 24 * r + (v - 1)), if_neg (by omega)]
        simp only [Option.bind_some]
        rw [qX11_lay1 hr (by omega)]
        rfl
      · rw [zrw_at]
        by_cases c : j = 6 + 24 * r + v
        · rw [c, upd_at, if_pos (by omega), show 6 + 24 * r + v - 1 = 6 + 24 * r + (v - 1) by omega]
        · rw [upd_ne c, q2 j]
          by_cases c2 : 6 + 24 * r + v < j ∧ j ≤ 6 + 24 * r + n
          · rw [if_pos c2, if_pos (by omega)]
          · rw [if_neg c2, if_neg (by omega)])
    fu n σ hp (by omega) ⟨Nat.le_refl _, zfr.rf, fun j => by rw [if_neg (by omega)]⟩
  exact ⟨σ', e, p1, p2⟩
theorem qX11_putW {fu : Nat} {σ : zmem} {S : zS} {r p x : Nat} (h : zMz σ 104 0 S) (hr : r < 2) (hp : p ≤ S.1 r) (hn : S.1 r < 24) (hfu : 100 < fu) :
    ∃ σ', ((m_X11_signs fu σ (nI r)).bind fun x4 => (l_X11_put_74 fu (nI r) (nI p) (nI x) fu x4 σ).bind fun x8 => (m_X11_lay fu x8 (nI r) (nI p) (nI x)).bind fun x9 => (zrd x9 104 ((4 : Int32) + nI r)).bind fun x10 => (zwr x9 104 ((4 : Int32) + nI r) (x10 + (1 : Int32))).bind fun s11 => (m_X11_signs fu s11 (nI r)).bind fun x12 => some (x12, s11)) = some (nI (S.1 r + 1), σ') ∧ zMz σ' 104 0 (zput S r p x) ∧ zfr σ σ' [104] := by
  obtain ⟨σ1, e1, f1, p1⟩ := qX11_put_l (fu := fu) (σ := σ) (x := nI x) hr hp hn hfu
  have hle := fun k hk => h.le (r := k) hk
  obtain ⟨h1, h2, h3, h4, h5⟩ := h
  simp only [Nat.zero_add] at h3 h4 h5
  have h6 : zMz σ 104 0 S := ⟨h1, h2, fun k hk => by rw [Nat.zero_add]; exact h3 k hk, fun k hk => by rw [Nat.zero_add]; exact h4 k hk, fun k j hk hj => by rw [Nat.zero_add]; exact h5 k j hk hj⟩
  let σ2 : zmem := zrw σ1 104 (upd (σ1.1 104) (6 + 24 * r + p) (nI x))
  let σ3 : zmem := zrw σ2 104 (upd (σ2.1 104) (4 + r) (nI (S.1 r + 1)))
  have c2 : ∀ j, σ2.1 104 j = if j = 6 + 24 * r + p then nI x else σ1.1 104 j := fun j => by
    show (zrw σ1 104 (upd (σ1.1 104) (6 + 24 * r + p) (nI x))).1 104 j = _
    rw [zrw_at]
    rfl
  have c3 : ∀ j, σ3.1 104 j = if j = 4 + r then nI (S.1 r + 1) else σ2.1 104 j := fun j => by
    show (zrw σ2 104 (upd (σ2.1 104) (4 + r) (nI (S.1 r + 1)))).1 104 j = _
    rw [zrw_at]
    rfl
  have c1 : σ2.1 104 (4 + r) = nI (S.1 r) := by
    rw [c2, if_neg (by omega), p1, if_neg (by omega), h4 r hr]
  refine ⟨σ3, ?_, ⟨?_, ?_, fun k hk => ?_, fun k hk => ?_, fun k j hk hj => ?_⟩, f1.tr ((zfr_rw (by simp)).tr (zfr_rw (by simp)))⟩
  · rw [qX11_signs h6 hr]
    simp only [Option.bind_some]
    rw [e1]
    simp only [Option.bind_some]
    rw [qX11_lay1 hr (by omega)]
    simp only [Option.bind_some]
    show ((zrd σ2 104 ((4 : Int32) + nI r)).bind fun x10 => (zwr σ2 104 ((4 : Int32) + nI r) (x10 + (1 : Int32))).bind fun s11 => (m_X11_signs fu s11 (nI r)).bind fun x12 => some (x12, s11)) = _
    rw [l4m, zrd_in zc_104 (show 4 + r < 54 by omega) (by decide), c1]
    simp only [Option.bind_some]
    rw [za1, zwr_in zc_104 (show 4 + r < 54 by omega) (by decide)]
    simp only [Option.bind_some]
    show ((m_X11_signs fu σ3 (nI r)).bind fun x12 => some (x12, σ3)) = _
    unfold m_X11_signs
    rw [l4m, zrd_in zc_104 (show 4 + r < 54 by omega) (by decide), c3, if_pos rfl]
    rfl
  · show (if 0 = r then S.1 0 + 1 else S.1 0) ≤ 24
    split
    · rename_i q; rw [← q] at hn; omega
    · exact h1
  · show (if 1 = r then S.1 1 + 1 else S.1 1) ≤ 24
    split
    · rename_i q; rw [← q] at hn; omega
    · exact h2
  · rw [Nat.zero_add, c3, if_neg (by omega), c2, if_neg (by omega), p1, if_neg (by omega)]
    exact h3 k hk
  · rw [Nat.zero_add, c3]
    show _ = nI (if k = r then S.1 k + 1 else S.1 k)
    by_cases c : k = r
    · rw [if_pos (by omega), if_pos c, c]
    · rw [if_neg (by omega), if_neg c, c2, if_neg (by omega), p1, if_neg (by omega)]
      exact h4 k hk
  · have hj : j < (if k = r then S.1 k + 1 else S.1 k) := hj
    have hl := hle k hk
    rw [Nat.zero_add, c3, if_neg (by omega), c2, p1]
    show _ = nI (if k = r then (if j < p then S.2.1 k j else if j = p then x else S.2.1 k (j - 1)) else S.2.1 k j)
    by_cases c : k = r
    · rw [if_pos c] at hj
      rw [if_pos c]
      subst c
      by_cases d1 : j < p
      · rw [if_pos d1, if_neg (by omega), if_neg (by omega)]
        exact h5 k j hk (by omega)
      · rw [if_neg d1]
        by_cases d2 : j = p
        · rw [if_pos d2, if_pos (by omega)]
        · rw [if_neg d2, if_neg (by omega), if_pos (by omega), show 6 + 24 * k + j - 1 = 6 + 24 * k + (j - 1) by omega]
          exact h5 k (j - 1) hk (by omega)
    · rw [if_neg c] at hj
      rw [if_neg c, if_neg (by omega), if_neg (by omega)]
      exact h5 k j hk hj
