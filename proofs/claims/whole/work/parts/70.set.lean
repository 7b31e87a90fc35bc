/-! exchange, set, and the calls on texts -/
def zStep0 (mC mX : zmem → Option (Int32 × zmem)) (u : zU) : Prop := ∃ v u', zUw u' ∧ (∀ σ, zCI σ u → ∃ σ', mC σ = some (v, σ') ∧ zCI σ' u' ∧ zfc σ σ') ∧ ∀ σ, zRI σ u → ∃ σ', mX σ = some (v, σ') ∧ zRI σ' u' ∧ zfx σ σ'
theorem zCF.n {σ : zmem} {u : zU} (h : zCF σ u) : σ.1 36 2 = nI (zcN u.1) := h.2.2.1.1.1
theorem zWf.swap {S : zS} (h : zWf S) : zWf (zswap S) := ⟨h.2.1, h.1, fun r j => h.2.2.1 (1 - r) j, h.2.2.2⟩
theorem case_exchange {fu : Nat} {u : zU} (hu : zUw u) (hfu : 400 < fu) : zStep0 (fun σ => m_X10_exchange fu σ) (fun σ => m_X11_exchange fu σ) u := by
  have hw : zUw (zswap u.1, (zpush u).2) := hu.push hu.1.swap
  refine ⟨nI (zcN (zswap u.1)), (zswap u.1, (zpush u).2), hw, fun σ h => ?_, fun σ h => ?_⟩
  · obtain ⟨s1, e1, j1, fl, f1⟩ := pX10_save h.1 hfu
    obtain ⟨s2, e2, r2, f2⟩ := pX7_exchangeRows (fu := fu) j1.1.1 (by omega)
    have st2 : zSt s2 1 (zswap u.1) := ⟨r2, fun k hk => by rw [f2.1 _ (by simp)]; exact j1.1.2 k hk⟩
    have j2 : zCJ s2 (zswap u.1, (zpush u).2) := j1.now st2 (fun a h1 h2 => f2.1 a (by simp; omega))
    obtain ⟨s3, e3, c3, f3⟩ := pX10_refresh (fu := fu) (u := (zswap u.1, (zpush u).2)) ⟨j2, Or.inl (by rw [f2.1 0 (by simp)]; exact fl)⟩ hw (by omega)
    refine ⟨s3, ?_, c3.i, ((f1.c (by intro a; simp; omega)).tr (f2.c (by intro a; simp; omega))).tr f3⟩
    show m_X10_exchange fu σ = _
    unfold m_X10_exchange
    rw [e1, Option.bind_some, e2, Option.bind_some, e3, Option.bind_some, c3.n]
  · obtain ⟨s1, e1, j1, f1, k1⟩ := qX11_saveI (h.st (k := 7) (v := (0 : Int32)) (by decide) (by decide)) hfu
    obtain ⟨s2, e2, f2, g2, k2⟩ := qX11_exchange_l (fu := fu) (σ := s1) (by omega)
    have l0' := hu.1.1
    have l1' := hu.1.2.1
    have hs4 : s2.1 104 4 = nI (u.1.1 0) := by
      rw [k2 4 (by decide)]
      exact j1.1.2.2.2.1 0 (by decide)
    have hs5 : s2.1 104 5 = nI (u.1.1 1) := by
      rw [k2 5 (by decide)]
      exact j1.1.2.2.2.1 1 (by decide)
    let s3 := zrw (zrw s2 104 (upd (s2.1 104) 4 (nI (u.1.1 1)))) 104 (upd (upd (s2.1 104) 4 (nI (u.1.1 1))) 5 (nI (u.1.1 0)))
    have f3 : zfr s1 s3 [104] := f2.tr ((zfr_rw (by simp)).tr (zfr_rw (by simp)))
    have c3 : ∀ j, j ≠ 4 → j ≠ 5 → s3.1 104 j = s2.1 104 j := fun j h4 h5 => by
      show (zrw (zrw s2 104 _) 104 (upd (upd (s2.1 104) 4 (nI (u.1.1 1))) 5 (nI (u.1.1 0)))).1 104 j = _
      rw [zrw_at, upd_ne h5, upd_ne h4]
    have z3 : zMz s3 104 0 (zswap u.1) := by
      refine zMz.swap j1.1 (fun j hj => ?_) (fun j hj => ?_) ?_ ?_
      · rw [c3 (6 + j) (by omega) (by omega), c3 (30 + j) (by omega) (by omega)]
        exact g2 j hj
      · rw [c3 j (by omega) (by omega)]
        exact k2 j (by omega)
      · show (zrw (zrw s2 104 _) 104 (upd (upd (s2.1 104) 4 (nI (u.1.1 1))) 5 (nI (u.1.1 0)))).1 104 4 = _
        rw [zrw_at, upd_ne (by decide), upd_at]
      · show (zrw (zrw s2 104 _) 104 (upd (upd (s2.1 104) 4 (nI (u.1.1 1))) 5 (nI (u.1.1 0)))).1 104 5 = _
        rw [zrw_at, upd_at]
    have j3 : zRI s3 (zswap u.1, (zpush u).2) := zref_fin j1 z3 f3
    obtain ⟨s4, e4, a4, _, m4, _⟩ := qX11_layAnchors (fu := fu) z3 hu.1.swap (by omega)
    refine ⟨s4, ?_, j3.m m4, ((((zfr_st (l := [103]) (by simp)).x (by simp)).tr (f1.x (by intro a; simp; omega))).tr (f3.x (by simp))).tr m4.x⟩
    show m_X11_exchange fu σ = _
    unfold m_X11_exchange
    rw [e1, Option.bind_some, e2, Option.bind_some]
    have sg0 : m_X11_signs fu s2 (0 : Int32) = some (nI (u.1.1 0)) := by
      unfold m_X11_signs
      rw [l0, l4m, zrd_in zc_104 (show 4 + 0 < 54 by omega) (by decide), hs4]
      rfl
    have sg1 : m_X11_signs fu s2 (1 : Int32) = some (nI (u.1.1 1)) := by
      unfold m_X11_signs
      rw [l1, l4m, zrd_in zc_104 (show 4 + 1 < 54 by omega) (by decide), hs5]
      rfl
    rw [sg0, Option.bind_some, sg1, Option.bind_some, l4, zwr_in zc_104 (show 4 < 54 by decide) (by decide), Option.bind_some, l5, zwr_in zc_104 (show 5 < 54 by decide) (by decide), Option.bind_some, zrw_at]
    show ((m_X11_layAnchors fu s3).bind fun x12 => some ((x12.1 103 10), x12)) = _
    rw [e4, Option.bind_some, a4.n]
def zvl (i : Nat) : Nat := if i = 0 then 2 else 0
def zvh (i : Nat) : Nat := if i = 0 then 5 else if i = 3 then 24 else 9
theorem zvh_le {i : Nat} : zvh i ≤ 24 := by
  unfold zvh
  split
  · decide
  · split <;> decide
theorem zvl_le {i : Nat} : zvl i ≤ 2 := by
  unfold zvl
  split <;> decide
theorem zWf.set {S : zS} {i v : Nat} (h : zWf S) (hi : i < 4) (h1 : zvl i ≤ v) (h2 : v ≤ zvh i) : zWf (zset S i v) := by
  have hw := h.2.2.2
  refine ⟨h.1, h.2.1, h.2.2.1, ?_⟩
  show 2 ≤ (if 0 = i then v else S.2.2 0) ∧ (if 0 = i then v else S.2.2 0) ≤ 5 ∧ (if 1 = i then v else S.2.2 1) ≤ 9 ∧ (if 2 = i then v else S.2.2 2) ≤ 9 ∧ (if 3 = i then v else S.2.2 3) ≤ 24
  unfold zvl at h1
  unfold zvh at h2
  rcases (show i = 0 ∨ i = 1 ∨ i = 2 ∨ i = 3 by omega) with rfl | rfl | rfl | rfl
  · simp at h1 h2 ⊢
    omega
  · simp at h1 h2 ⊢
    omega
  · simp at h1 h2 ⊢
    omega
  · simp at h1 h2 ⊢
    omega
theorem pX10_isSetting1 {fu : Nat} {σ : zmem} {x : Nat} (h : x < 4) : m_X10_isSetting fu σ (nI x) = some 1 := by
  unfold m_X10_isSetting
  rw [if_neg (nI_pos (by omega)), if_neg (show ¬ (4 : Int32) ≤ nI x from nI_ge h (by decide))]
theorem pX10_isSetting0 {fu : Nat} {σ : zmem} {a : Int32} (h : ∀ k, 0 ≤ k → k ≤ 3 → a ≠ nI k) : m_X10_isSetting fu σ a = some 0 := by
  unfold m_X10_isSetting
  rcases znot_lt (n := 4) (fun k hk => h k (Nat.zero_le _) (by omega)) (by decide) with c | c
  · rw [if_pos c]
  · by_cases d : a < 0
    · rw [if_pos d]
    · rw [if_neg d, if_pos (show (4 : Int32) ≤ a from c)]
theorem qX11_isSetting1 {fu : Nat} {σ : zmem} {x : Nat} (h : x < 4) : m_X11_isSetting fu σ (nI x) = some 1 := by
  unfold m_X11_isSetting
  rw [show m_X11_within fu σ (nI x) (0 : Int32) (3 : Int32) = some 1 from qX11_w1 (lo := 0) (hi := 3) (Nat.zero_le _) (by omega) (by decide)]
  rfl
theorem qX11_isSetting0 {fu : Nat} {σ : zmem} {a : Int32} (h : ∀ k, 0 ≤ k → k ≤ 3 → a ≠ nI k) : m_X11_isSetting fu σ a = some 0 := by
  unfold m_X11_isSetting
  rw [show m_X11_within fu σ a (0 : Int32) (3 : Int32) = some 0 from qX11_w0 (lo := 0) (hi := 3) h (by decide) (by decide)]
  rfl
theorem zbtw1 {v lo hi : Nat} (h1 : lo ≤ v) (h2 : v ≤ hi) (hh : hi < 2 ^ 30) : ¬ nI v < nI lo ∧ ¬ nI hi < nI v := ⟨nI_nlt h1 (by omega), nI_nlt h2 (by omega)⟩
theorem zbtw0 {a : Int32} {lo hi : Nat} (h : ∀ k, lo ≤ k → k ≤ hi → a ≠ nI k) (hh : hi < 2 ^ 30) (hl : lo < 2 ^ 30) : a < nI lo ∨ nI hi < a := by
  have e := qX11_w0 (fu := 0) (σ := ((fun _ _ => 0), fun _ _ => 0)) h hh hl
  unfold m_X11_within at e
  by_cases c : a < nI lo
  · exact Or.inl c
  · rw [if_neg c] at e
    by_cases d : nI hi < a
    · exact Or.inr d
    · rw [if_neg d] at e
      exact absurd e (by decide)
theorem zifb {a : Int32} {lo hi : Int32} (h : a < lo ∨ hi < a) : (if a < lo then some (0 : Int32) else (if hi < a then some (0 : Int32) else some (1 : Int32))) = some 0 := by
  rcases h with h | h
  · rw [if_pos h]
  · by_cases c : a < lo
    · rw [if_pos c]
    · rw [if_neg c, if_pos h]
theorem pX10_isValue1 {fu : Nat} {σ : zmem} {i v : Nat} (hi : i < 4) (h1 : zvl i ≤ v) (h2 : v ≤ zvh i) : m_X10_isValueOf fu σ (nI i) (nI v) = some 1 := by
  unfold zvl at h1
  unfold zvh at h2
  unfold m_X10_isValueOf
  rcases (show i = 0 ∨ i = 1 ∨ i = 2 ∨ i = 3 by omega) with rfl | rfl | rfl | rfl
  · have := zbtw1 (v := v) (lo := 2) (hi := 5) h1 h2 (by decide)
    rw [if_pos (show nI 0 = (0 : Int32) from rfl), if_neg (show ¬ nI v < (2 : Int32) from this.1), if_neg (show ¬ (5 : Int32) < nI v from this.2)]
  · have := zbtw1 (v := v) (lo := 0) (hi := 9) h1 h2 (by decide)
    rw [if_neg (show ¬ nI 1 = (0 : Int32) by decide), if_pos (show nI 1 = (1 : Int32) from rfl), if_neg (show ¬ nI v < (0 : Int32) from this.1), if_neg (show ¬ (9 : Int32) < nI v from this.2)]
  · have := zbtw1 (v := v) (lo := 0) (hi := 9) h1 h2 (by decide)
    rw [if_neg (show ¬ nI 2 = (0 : Int32) by decide), if_neg (show ¬ nI 2 = (1 : Int32) by decide), if_pos (show nI 2 = (2 : Int32) from rfl), if_neg (show ¬ nI v < (0 : Int32) from this.1), if_neg (show ¬ (9 : Int32) < nI v from this.2)]
  · have := zbtw1 (v := v) (lo := 0) (hi := 24) h1 h2 (by decide)
    rw [if_neg (show ¬ nI 3 = (0 : Int32) by decide), if_neg (show ¬ nI 3 = (1 : Int32) by decide), if_neg (show ¬ nI 3 = (2 : Int32) by decide), if_pos (show nI 3 = (3 : Int32) from rfl), if_neg (show ¬ nI v < (0 : Int32) from this.1), if_neg (show ¬ (24 : Int32) < nI v from this.2)]
theorem pX10_isValue0 {fu : Nat} {σ : zmem} {i : Nat} {a : Int32} (hi : i < 4) (h : ∀ k, zvl i ≤ k → k ≤ zvh i → a ≠ nI k) : m_X10_isValueOf fu σ (nI i) a = some 0 := by
  have := zbtw0 h (Nat.lt_of_le_of_lt zvh_le (by decide)) (Nat.lt_of_le_of_lt zvl_le (by decide))
  unfold m_X10_isValueOf
  rcases (show i = 0 ∨ i = 1 ∨ i = 2 ∨ i = 3 by omega) with rfl | rfl | rfl | rfl
  · rw [if_pos (show nI 0 = (0 : Int32) from rfl)]
    exact zifb this
  · rw [if_neg (show ¬ nI 1 = (0 : Int32) by decide), if_pos (show nI 1 = (1 : Int32) from rfl)]
    exact zifb this
  · rw [if_neg (show ¬ nI 2 = (0 : Int32) by decide), if_neg (show ¬ nI 2 = (1 : Int32) by decide), if_pos (show nI 2 = (2 : Int32) from rfl)]
    exact zifb this
  · rw [if_neg (show ¬ nI 3 = (0 : Int32) by decide), if_neg (show ¬ nI 3 = (1 : Int32) by decide), if_neg (show ¬ nI 3 = (2 : Int32) by decide), if_pos (show nI 3 = (3 : Int32) from rfl)]
    exact zifb this
theorem qX11_isValue1 {fu : Nat} {σ : zmem} {i v : Nat} (hi : i < 4) (h1 : zvl i ≤ v) (h2 : v ≤ zvh i) : m_X11_isValue fu σ (nI i) (nI v) = some 1 := by
  have w := qX11_w1 (fu := fu) (σ := σ) h1 h2 (Nat.lt_of_le_of_lt zvh_le (by decide))
  unfold m_X11_isValue
  rcases (show i = 0 ∨ i = 1 ∨ i = 2 ∨ i = 3 by omega) with rfl | rfl | rfl | rfl
  · rw [if_neg (show ¬ ¬ nI 0 = 0 by decide), show m_X11_within fu σ (nI v) (2 : Int32) (5 : Int32) = some 1 from w]
    rfl
  · rw [if_pos (show ¬ nI 1 = 0 by decide), if_pos (show ¬ nI 1 = (3 : Int32) by decide), Option.bind_some, show m_X11_within fu σ (nI v) (0 : Int32) (9 : Int32) = some 1 from w]
    rfl
  · rw [if_pos (show ¬ nI 2 = 0 by decide), if_pos (show ¬ nI 2 = (3 : Int32) by decide), Option.bind_some, show m_X11_within fu σ (nI v) (0 : Int32) (9 : Int32) = some 1 from w]
    rfl
  · rw [if_pos (show ¬ nI 3 = 0 by decide), if_neg (show ¬ ¬ nI 3 = (3 : Int32) by decide), Option.bind_some, show m_X11_within fu σ (nI v) (0 : Int32) (24 : Int32) = some 1 from w]
    rfl
theorem qX11_isValue0 {fu : Nat} {σ : zmem} {i : Nat} {a : Int32} (hi : i < 4) (h : ∀ k, zvl i ≤ k → k ≤ zvh i → a ≠ nI k) : m_X11_isValue fu σ (nI i) a = some 0 := by
  have w := qX11_w0 (fu := fu) (σ := σ) h (Nat.lt_of_le_of_lt zvh_le (by decide)) (Nat.lt_of_le_of_lt zvl_le (by decide))
  unfold m_X11_isValue
  rcases (show i = 0 ∨ i = 1 ∨ i = 2 ∨ i = 3 by omega) with rfl | rfl | rfl | rfl
  · rw [if_neg (show ¬ ¬ nI 0 = 0 by decide), show m_X11_within fu σ a (2 : Int32) (5 : Int32) = some 0 from w]
    rfl
  · rw [if_pos (show ¬ nI 1 = 0 by decide), if_pos (show ¬ nI 1 = (3 : Int32) by decide), Option.bind_some, show m_X11_within fu σ a (0 : Int32) (9 : Int32) = some 0 from w]
    rfl
  · rw [if_pos (show ¬ nI 2 = 0 by decide), if_pos (show ¬ nI 2 = (3 : Int32) by decide), Option.bind_some, show m_X11_within fu σ a (0 : Int32) (9 : Int32) = some 0 from w]
    rfl
  · rw [if_pos (show ¬ nI 3 = 0 by decide), if_neg (show ¬ ¬ nI 3 = (3 : Int32) by decide), Option.bind_some, show m_X11_within fu σ a (0 : Int32) (24 : Int32) = some 0 from w]
    rfl
theorem zSt.set {σ : zmem} {b i v : Nat} {S : zS} (h : zSt σ b S) : zSt (zrw σ (b + 6) (upd (σ.1 (b + 6)) i (nI v))) b (zset S i v) := by
  refine ⟨⟨h.1.1, h.1.2.1.keep (zrw_ne (by omega)) (zrw_ne (by omega)), h.1.2.2.keep (zrw_ne (by omega)) (zrw_ne (by omega))⟩, fun k hk => ?_⟩
  rw [zrw_at]
  show _ = nI (if k = i then v else S.2.2 k)
  by_cases c : k = i
  · rw [if_pos c, c, upd_at]
  · rw [if_neg c, upd_ne c]
    exact h.2 k hk
theorem case_set {fu : Nat} {u : zU} {a1 a2 : Int32} (hu : zUw u) (hfu : 400 < fu) : zStep (fun σ => m_L_set fu σ a1 a2) (fun σ => m_X11_set fu σ a1 a2) u := by
  rcases zin_em a1 0 3 with ⟨i, _, hi, rfl⟩ | h1
  · have hi : i < 4 := by omega
    rcases zin_em a2 (zvl i) (zvh i) with ⟨v, hv1, hv2, rfl⟩ | h2
    · refine ⟨0, nI (u.1.2.2 i), (zset u.1 i v, (zpush u).2), by decide, hu.push (hu.1.set hi hv1 hv2), fun σ h => ?_, fun σ h => ?_⟩
      · obtain ⟨s1, e1, j1, fl, f1⟩ := pX10_save h.1 hfu
        have st2 := zSt.set (i := i) (v := v) j1.1
        have fz : zfr s1 (zrw s1 (1 + 6) (upd (s1.1 (1 + 6)) i (nI v))) [7] := zfr_rw (by simp)
        have j2 : zCJ (zrw s1 (1 + 6) (upd (s1.1 (1 + 6)) i (nI v))) (zset u.1 i v, (zpush u).2) := j1.now st2 (fun a h1 h2 => fz.1 a (by simp; omega))
        have e : m_X10_set fu σ (nI i) (nI v) = some (.inr (nI (u.1.2.2 i)), zrw s1 (1 + 6) (upd (s1.1 (1 + 6)) i (nI v))) := by
          unfold m_X10_set
          rw [pX10_isSetting1 hi, Option.bind_some, if_pos (by decide), pX10_isValue1 hi hv1 hv2, Option.bind_some, if_pos (by decide), e1, Option.bind_some, show m_X1_at fu s1 6 (nI i) = some (nI (u.1.2.2 i)) from (pX1_at zc_7 hi (by decide)).trans (congrArg some (j1.1.2 i hi)), Option.bind_some, pX1_store zc_7 hi (by decide), Option.bind_some]
        unfold m_L_set
        exact zLo_ok e rfl ⟨j2, Or.inl (by rw [fz.1 0 (by simp)]; exact fl)⟩ ((f1.c (by intro a; simp; omega)).tr (fz.c (by simp)))
      · obtain ⟨s1, e1, j1, f1, k1⟩ := qX11_saveI (h.st (k := 7) (v := (0 : Int32)) (by decide) (by decide)) hfu
        have z2 := zMz.set (i := i) (v := v) j1.1 hi
        have f2 : zfr s1 (zrw s1 104 (upd (s1.1 104) i (nI v))) [104] := zfr_rw (by simp)
        refine ⟨_, _, ?_, zref_fin j1 z2 f2, (((zfr_st (l := [103]) (by simp)).x (by simp)).tr (f1.x (by intro a; simp; omega))).tr (f2.x (by simp)), ?_, fun _ => rfl⟩
        · show m_X11_set fu σ (nI i) (nI v) = _
          unfold m_X11_set
          rw [qX11_isSetting1 hi, Option.bind_some, if_pos (by decide), qX11_isValue1 hi hv1 hv2, Option.bind_some, if_neg (by decide), Option.bind_some, zst_at, if_pos (by decide), e1, Option.bind_some, qX11_set (fu := fu) j1.1 hi, Option.bind_some, zwr_in zc_104 (show i < 54 by omega) (by decide), Option.bind_some]
          rfl
        · rw [f2.1 103 (by simp), k1 7 (by decide), zst_at]
          rfl
    · refine ⟨2, 0, u, by decide, hu, fun σ h => ?_, fun σ h => ?_⟩
      · have e : m_X10_set fu σ (nI i) a2 = some (.inl 1, σ) := by
          unfold m_X10_set
          rw [pX10_isSetting1 hi, Option.bind_some, if_pos (by decide), pX10_isValue0 hi h2, Option.bind_some, if_neg (by decide)]
        unfold m_L_set
        exact zLo_no e rfl h zfc.rf (by decide)
      · have e : m_X11_set fu σ (nI i) a2 = some ((0 : Int32), zst σ 103 7 (nI 2)) := by
          unfold m_X11_set
          rw [qX11_isSetting1 hi, Option.bind_some, if_pos (by decide), qX11_isValue0 hi h2, Option.bind_some, if_pos rfl, Option.bind_some, zst_at, if_neg (by decide)]
          rfl
        show zXo (m_X11_set fu σ _ _) σ _ _ _
        rw [e]
        exact zXo_no h (by decide)
  · refine ⟨1, 0, u, by decide, hu, fun σ h => ?_, fun σ h => ?_⟩
    · have e : m_X10_set fu σ a1 a2 = some (.inl 0, σ) := by
        unfold m_X10_set
        rw [pX10_isSetting0 h1, Option.bind_some, if_neg (by decide)]
      unfold m_L_set
      exact zLo_no e rfl h zfc.rf (by decide)
    · have e : m_X11_set fu σ a1 a2 = some ((0 : Int32), zst σ 103 7 (nI 1)) := by
        unfold m_X11_set
        rw [qX11_isSetting0 h1, Option.bind_some, if_neg (by decide), Option.bind_some, zst_at, if_neg (by decide)]
        rfl
      show zXo (m_X11_set fu σ _ _) σ _ _ _
      rw [e]
      exact zXo_no h (by decide)
