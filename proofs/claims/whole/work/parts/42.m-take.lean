/-! the reference's writers: change, set, take -/
def zchg (S : zS) (r p x : Nat) : zS := (S.1, fun k j => if k = r ∧ j = p then x else S.2.1 k j, S.2.2)
def zset (S : zS) (i v : Nat) : zS := (S.1, S.2.1, fun k => if k = i then v else S.2.2 k)
def ztake (S : zS) (r p q : Nat) : zS := (fun k => if k = r then S.1 k - q else S.1 k, fun k j => if k = r then (if j < p then S.2.1 k j else S.2.1 k (j + q)) else S.2.1 k j, S.2.2)
theorem zMz.chg {σ : zmem} {S : zS} {r p x : Nat} (h : zMz σ 104 0 S) (hr : r < 2) (hp : p < S.1 r) : zMz (zrw σ 104 (upd (σ.1 104) (6 + 24 * r + p) (nI x))) 104 0 (zchg S r p x) := by
  have hle := fun k hk => h.le (r := k) hk
  have hlr := hle r hr
  obtain ⟨h1, h2, h3, h4, h5⟩ := h
  simp only [Nat.zero_add] at h3 h4 h5
  refine ⟨h1, h2, fun k hk => ?_, fun k hk => ?_, fun k j hk hj => ?_⟩
  · rw [Nat.zero_add, zrw_at, upd_ne (by omega)]
    exact h3 k hk
  · rw [Nat.zero_add, zrw_at, upd_ne (by omega)]
    exact h4 k hk
  · have hj : j < S.1 k := hj
    have hl := hle k hk
    rw [Nat.zero_add, zrw_at]
    show _ = nI (if k = r ∧ j = p then x else S.2.1 k j)
    by_cases c : k = r ∧ j = p
    · rw [if_pos c, c.1, c.2, upd_at]
    · rw [if_neg c, upd_ne (by omega)]
      exact h5 k j hk hj
theorem zMz.set {σ : zmem} {S : zS} {i v : Nat} (h : zMz σ 104 0 S) (hi : i < 4) : zMz (zrw σ 104 (upd (σ.1 104) i (nI v))) 104 0 (zset S i v) := by
  obtain ⟨h1, h2, h3, h4, h5⟩ := h
  simp only [Nat.zero_add] at h3 h4 h5
  refine ⟨h1, h2, fun k hk => ?_, fun k hk => ?_, fun k j hk hj => ?_⟩
  · rw [Nat.zero_add, zrw_at]
    show _ = nI (if k = i then v else S.2.2 k)
    by_cases c : k = i
    · rw [if_pos c, c, upd_at]
    · rw [if_neg c, upd_ne c]
      exact h3 k hk
  · rw [Nat.zero_add, zrw_at, upd_ne (by omega)]
    exact h4 k hk
  · rw [Nat.zero_add, zrw_at, upd_ne (by omega)]
    exact h5 k j hk hj
theorem qX11_take_l {fu : Nat} {σ : zmem} {r p q n : Nat} (hr : r < 2) (hp : p ≤ n) (hn : n + q ≤ 24) (h : σ.1 104 (4 + r) = nI n) (hfu : 100 < fu) : ∃ σ', l_X11_take_65 fu (nI r) (nI q) fu (nI p) σ = some σ' ∧ zfr σ σ' [104] ∧ ∀ j, σ'.1 104 j = if 6 + 24 * r + p ≤ j ∧ j < 6 + 24 * r + n then σ.1 104 (j + q) else σ.1 104 j := by
  have sg : ∀ τ : zmem, τ.1 104 (4 + r) = nI n → m_X11_signs fu τ (nI r) = some (nI n) := fun τ e => by
    unfold m_X11_signs
    rw [l4m, zrd_in zc_104 (show 4 + r < 54 by omega) (by decide), e]
    rfl
  obtain ⟨σ', e, _, p1, _, p2⟩ := loopP (L := l_X11_take_65 fu (nI r) (nI q)) (N := n) (P := fun v τ => p ≤ v ∧ zfr σ τ [104] ∧ τ.1 104 (4 + r) = nI n ∧ ∀ j, τ.1 104 j = if 6 + 24 * r + p ≤ j ∧ j < 6 + 24 * r + v then σ.1 104 (j + q) else σ.1 104 j)
    (fun m τ ⟨_, _, q2, _⟩ => by
      rw [l_X11_take_65, sg τ q2]
      simp only [Option.bind_some]
      rw [if_pos (nI_le (Nat.le_refl _) (by omega))])
    (fun m v τ hv ⟨q0, q1, q2, q3⟩ => by
      refine ⟨zrw τ 104 (upd (τ.1 104) (6 + 24 * r + v) (σ.1 104 (6 + 24 * r + v + q))), ?_, by omega, q1.tr (zfr_rw (by simp)), ?_, fun j => ?_⟩
      · rw [l_X11_take_65, sg τ q2]
        simp only [Option.bind_some]
        rw [if_neg (nI_ge hv (by omega)), nI_add, qX11_at1 hr (show v + q < 24 by omega), q3 (6 + 24 * r + (v + q)), if_neg (by omega), show 6 + 24 * r + (v + q) = 6 + 24 * r + v + q by omega]
        simp only [Option.bind_some]
        rw [qX11_lay1 hr (by omega)]
        simp only [Option.bind_some, za1]
      · rw [zrw_at, upd_ne (by omega)]
        exact q2
      · rw [zrw_at]
        by_cases c : j = 6 + 24 * r + v
        · rw [c, upd_at, if_pos (by omega)]
        · rw [upd_ne c, q3 j]
          by_cases c2 : 6 + 24 * r + p ≤ j ∧ j < 6 + 24 * r + v
          · rw [if_pos c2, if_pos (by omega)]
          · rw [if_neg c2, if_neg (by omega)])
    fu p σ hp (by omega) ⟨Nat.le_refl _, zfr.rf, h, fun j => by rw [if_neg (by omega)]⟩
  exact ⟨σ', e, p1, p2⟩
theorem qX11_zero_l {fu : Nat} {σ : zmem} {r n : Nat} (hr : r < 2) (hn : n ≤ 24) (hfu : 100 < fu) : ∃ σ', l_X11_take_104 fu (nI r) fu (nI n) σ = some σ' ∧ zfr σ σ' [104] ∧ ∀ j, j < 6 + 24 * r + n ∨ 30 + 24 * r ≤ j → σ'.1 104 j = σ.1 104 j := by
  obtain ⟨σ', e, _, p1, p2⟩ := loopP (L := l_X11_take_104 fu (nI r)) (N := 24) (P := fun v τ => n ≤ v ∧ zfr σ τ [104] ∧ ∀ j, j < 6 + 24 * r + n ∨ 30 + 24 * r ≤ j → τ.1 104 j = σ.1 104 j)
    (fun m τ _ => by rw [l_X11_take_104, l24, if_pos (nI_le (Nat.le_refl _) (by decide))])
    (fun m v τ hv ⟨q0, q1, q2⟩ => by
      refine ⟨zrw τ 104 (upd (τ.1 104) (6 + 24 * r + v) 0), ?_, by omega, q1.tr (zfr_rw (by simp)), fun j hj => ?_⟩
      · rw [l_X11_take_104, l24, if_neg (nI_ge hv (by decide)), qX11_lay1 hr hv]
        simp only [Option.bind_some, za1]
      · rw [zrw_at, upd_ne (by omega)]
        exact q2 j hj)
    fu n σ hn (by omega) ⟨Nat.le_refl _, zfr.rf, fun _ _ => rfl⟩
  exact ⟨σ', e, p1, p2⟩
theorem qX11_takeW {fu : Nat} {σ : zmem} {S : zS} {r p q : Nat} (h : zMz σ 104 0 S) (hr : r < 2) (hp : p + q ≤ S.1 r) (hfu : 100 < fu) :
    ∃ σ', ((zrd σ 104 ((4 : Int32) + nI r)).bind fun x4 => (zwr σ 104 ((4 : Int32) + nI r) (x4 - nI q)).bind fun s5 => (l_X11_take_65 fu (nI r) (nI q) fu (nI p) s5).bind fun x10 => (m_X11_signs fu x10 (nI r)).bind fun x11 => (l_X11_take_104 fu (nI r) fu x11 x10).bind fun x14 => (m_X11_signs fu x14 (nI r)).bind fun x15 => some (x15, x14)) = some (nI (S.1 r - q), σ') ∧ zMz σ' 104 0 (ztake S r p q) ∧ zfr σ σ' [104] := by
  have hle := fun k hk => h.le (r := k) hk
  have hlr := hle r hr
  obtain ⟨h1, h2, h3, h4, h5⟩ := h
  simp only [Nat.zero_add] at h3 h4 h5
  let σ1 : zmem := zrw σ 104 (upd (σ.1 104) (4 + r) (nI (S.1 r - q)))
  have c1 : ∀ j, σ1.1 104 j = if j = 4 + r then nI (S.1 r - q) else σ.1 104 j := fun j => by
    show (zrw σ 104 (upd (σ.1 104) (4 + r) (nI (S.1 r - q)))).1 104 j = _
    rw [zrw_at]
    rfl
  obtain ⟨σ2, e2, f2, p2⟩ := qX11_take_l (fu := fu) (σ := σ1) (r := r) (p := p) (q := q) (n := S.1 r - q) hr (by omega) (by omega) (by rw [c1, if_pos rfl]) hfu
  obtain ⟨σ3, e3, f3, p3⟩ := qX11_zero_l (fu := fu) (σ := σ2) (n := S.1 r - q) hr (by omega) hfu
  have sg : ∀ τ : zmem, τ.1 104 (4 + r) = nI (S.1 r - q) → m_X11_signs fu τ (nI r) = some (nI (S.1 r - q)) := fun τ e => by
    unfold m_X11_signs
    rw [l4m, zrd_in zc_104 (show 4 + r < 54 by omega) (by decide), e]
    rfl
  have g2 : σ2.1 104 (4 + r) = nI (S.1 r - q) := by rw [p2, if_neg (by omega), c1, if_pos rfl]
  have g3 : σ3.1 104 (4 + r) = nI (S.1 r - q) := by rw [p3 _ (by omega)]; exact g2
  refine ⟨σ3, ?_, ⟨?_, ?_, fun k hk => ?_, fun k hk => ?_, fun k j hk hj => ?_⟩, ((zfr_rw (by simp) : zfr σ σ1 [104]).tr f2).tr f3⟩
  · rw [l4m, zrd_in zc_104 (show 4 + r < 54 by omega) (by decide), h4 r hr]
    simp only [Option.bind_some]
    rw [pk_sub (by omega), zwr_in zc_104 (show 4 + r < 54 by omega) (by decide)]
    simp only [Option.bind_some]
    show ((l_X11_take_65 fu (nI r) (nI q) fu (nI p) σ1).bind fun x10 => (m_X11_signs fu x10 (nI r)).bind fun x11 => (l_X11_take_104 fu (nI r) fu x11 x10).bind fun x14 => (m_X11_signs fu x14 (nI r)).bind fun x15 => some (x15, x14)) = _
    rw [e2]
    simp only [Option.bind_some]
    rw [sg σ2 g2]
    simp only [Option.bind_some]
    rw [e3]
    simp only [Option.bind_some]
    rw [sg σ3 g3]
    rfl
  · show (if 0 = r then S.1 0 - q else S.1 0) ≤ 24
    split <;> omega
  · show (if 1 = r then S.1 1 - q else S.1 1) ≤ 24
    split <;> omega
  · rw [Nat.zero_add, p3 _ (by omega), p2, if_neg (by omega), c1, if_neg (by omega)]
    exact h3 k hk
  · rw [Nat.zero_add]
    show _ = nI (if k = r then S.1 k - q else S.1 k)
    by_cases c : k = r
    · rw [if_pos c, c]
      exact g3
    · rw [if_neg c, p3 _ (by omega), p2, if_neg (by omega), c1, if_neg (by omega)]
      exact h4 k hk
  · have hj : j < (if k = r then S.1 k - q else S.1 k) := hj
    have hl := hle k hk
    rw [Nat.zero_add]
    show _ = nI (if k = r then (if j < p then S.2.1 k j else S.2.1 k (j + q)) else S.2.1 k j)
    by_cases c : k = r
    · rw [if_pos c] at hj
      rw [if_pos c]
      subst c
      rw [p3 _ (by omega), p2]
      by_cases d1 : j < p
      · rw [if_pos d1, if_neg (by omega), c1, if_neg (by omega)]
        exact h5 k j hk (by omega)
      · rw [if_neg d1, if_pos (by omega), c1, if_neg (by omega), show 6 + 24 * k + j + q = 6 + 24 * k + (j + q) by omega]
        exact h5 k (j + q) hk (by omega)
    · rw [if_neg c] at hj
      rw [if_neg c, p3 _ (by omega), p2, if_neg (by omega), c1, if_neg (by omega)]
      exact h5 k j hk hj
