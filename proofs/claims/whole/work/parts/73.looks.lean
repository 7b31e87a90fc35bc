/-! looks, both sides: sign, setting, doubled, anchor, turned -/
theorem zlt_em (a : Int32) (n : Nat) : (∃ k, k < n ∧ a = nI k) ∨ ∀ k, k < n → a ≠ nI k := by
  rcases Classical.em (∃ k, k < n ∧ a = nI k) with h | h
  · exact Or.inl h
  · exact Or.inr (fun k h1 e => h ⟨k, h1, e⟩)
theorem qX11_wn1 {fu : Nat} {σ : zmem} {k n : Nat} (h : k < n) (hn : n < 2 ^ 30) : m_X11_within fu σ (nI k) (0 : Int32) (nI n - (1 : Int32)) = some 1 := by
  rw [zs1 (by omega)]
  exact qX11_w1 (lo := 0) (Nat.zero_le _) (by omega) (by omega)
theorem qX11_wn0 {fu : Nat} {σ : zmem} {a : Int32} {n : Nat} (h : ∀ k, k < n → a ≠ nI k) (hn : n < 2 ^ 30) : m_X11_within fu σ a (0 : Int32) (nI n - (1 : Int32)) = some 0 := by
  by_cases c : n = 0
  · rw [c]
    unfold m_X11_within
    by_cases c1 : a < 0
    · rw [if_pos c1]
    · rw [if_neg c1]
      have c2 : nI 0 - 1 < a := by
        refine Int32.lt_iff_toInt_lt.mpr ?_
        have c3 : ¬ a.toInt < 0 := fun q => c1 (Int32.lt_iff_toInt_lt.mpr q)
        have : (nI 0 - 1 : Int32).toInt = -1 := by decide
        omega
      rw [if_pos c2]
  · rw [zs1 (by omega)]
    exact qX11_w0 (lo := 0) (fun k _ hk => h k (by omega)) (by omega) (by decide)
theorem zXo_ok {m : Option (Int32 × zmem)} {σ σ' : zmem} {u : zU} {v : Int32} (e : m = some (v, σ')) (h : zRI σ' u) (hf : zfx σ σ') (h7 : σ'.1 103 7 = (0 : Int32)) : zXo m σ 0 v u := ⟨σ', v, e, h, hf, h7, fun _ => rfl⟩
theorem zXo_no2 {m : Option (Int32 × zmem)} {σ σ' : zmem} {u : zU} {b v : Int32} {code : Nat} (e : m = some (b, zst σ' 103 7 (nI code))) (h : zRI σ' u) (hf : zfx σ σ') (hc : code ≠ 0) : zXo m σ code v u :=
  ⟨_, _, e, h.st (by decide) (by decide), hf.tr ((zfr_st (l := [103]) (by simp)).x (by simp)), zst_at, fun z => absurd z hc⟩
theorem zst7 {σ : zmem} {v : Int32} : zfx σ (zst σ 103 7 v) := (zfr_st (l := [103]) (by simp)).x (by simp)
theorem case_sign {fu : Nat} {u : zU} {a1 a2 : Int32} (hu : zUw u) (hfu : 400 < fu) : zStep (fun σ => m_L_sign fu σ a1 a2) (fun σ => m_X11_sign fu σ a1 a2) u := by
  rcases zpl_em a1 a2 u.1.1 with ⟨r, p, hr, hp, rfl, rfl⟩ | h1
  · have hle := hu.1.le hr
    refine ⟨0, nI (u.1.2.1 r p), u, by decide, hu, fun σ h => ?_, fun σ h => ?_⟩
    · have r0 : zRow σ (zRr 1 r) (u.1.1 r) (u.1.2.1 r) := h.1.1.1.row hr
      have e : m_X10_sign fu σ (nI r) (nI p) = some (.inr (nI (u.1.2.1 r p)), σ) := by
        unfold m_X10_sign
        rw [pX10_isPlace h.1.1.1 hr hp, Option.bind_some, if_pos (by decide), pX7_rowOf hr, Option.bind_some, pX6_signAt r0.1 (by omega), Option.bind_some, r0.2.2.2 p hp]
      unfold m_L_sign
      exact zLo_ok e rfl h zfc.rf
    · have h0 := h.st (k := 7) (v := (0 : Int32)) (by decide) (by decide)
      refine zXo_ok ?_ h0 zst7 zst_at
      show m_X11_sign fu σ (nI r) (nI p) = _
      unfold m_X11_sign
      rw [qX11_isPlace1 h.1 hr hp, Option.bind_some, if_neg (by decide), Option.bind_some, zst_at, if_pos (by decide), qX11_at h0.1 hr hp, Option.bind_some]
  · refine ⟨1, 0, u, by decide, hu, fun σ h => ?_, fun σ h => ?_⟩
    · have e : m_X10_sign fu σ a1 a2 = some (.inl 0, σ) := by
        unfold m_X10_sign
        rw [pX10_isPlace0 h.1.1.1 h1, Option.bind_some, if_neg (by decide)]
      unfold m_L_sign
      exact zLo_no e rfl h zfc.rf (by decide)
    · refine zXo_no2 (b := 0) (σ' := σ) ?_ h zfx.rf (by decide)
      show m_X11_sign fu σ a1 a2 = _
      unfold m_X11_sign
      rw [qX11_isPlace0 h.1 h1, Option.bind_some, if_pos rfl, Option.bind_some, zst_at, if_neg (by decide)]
      rfl
theorem case_setting {fu : Nat} {u : zU} {a1 : Int32} (hu : zUw u) (hfu : 400 < fu) : zStep (fun σ => m_L_setting fu σ a1) (fun σ => m_X11_setting fu σ a1) u := by
  rcases zin_em a1 0 3 with ⟨i, _, hi, rfl⟩ | h1
  · have hi : i < 4 := by omega
    refine ⟨0, nI (u.1.2.2 i), u, by decide, hu, fun σ h => ?_, fun σ h => ?_⟩
    · have e : m_X10_setting fu σ (nI i) = some (.inr (nI (u.1.2.2 i)), σ) := by
        unfold m_X10_setting
        rw [pX10_isSetting1 hi, Option.bind_some, if_pos (by decide), show m_X1_at fu σ 6 (nI i) = some (nI (u.1.2.2 i)) from (pX1_at zc_7 hi (by decide)).trans (congrArg some (h.1.1.2 i hi)), Option.bind_some]
      unfold m_L_setting
      exact zLo_ok e rfl h zfc.rf
    · have h0 := h.st (k := 7) (v := (0 : Int32)) (by decide) (by decide)
      refine zXo_ok ?_ h0 zst7 zst_at
      show m_X11_setting fu σ (nI i) = _
      unfold m_X11_setting
      rw [qX11_isSetting1 hi, Option.bind_some, if_neg (by decide), Option.bind_some, zst_at, if_pos (by decide), qX11_set (fu := fu) h0.1 hi, Option.bind_some]
  · refine ⟨1, 0, u, by decide, hu, fun σ h => ?_, fun σ h => ?_⟩
    · have e : m_X10_setting fu σ a1 = some (.inl 0, σ) := by
        unfold m_X10_setting
        rw [pX10_isSetting0 h1, Option.bind_some, if_neg (by decide)]
      unfold m_L_setting
      exact zLo_no e rfl h zfc.rf (by decide)
    · refine zXo_no2 (b := 0) (σ' := σ) ?_ h zfx.rf (by decide)
      show m_X11_setting fu σ a1 = _
      unfold m_X11_setting
      rw [qX11_isSetting0 h1, Option.bind_some, if_pos rfl, Option.bind_some, zst_at, if_neg (by decide)]
      rfl
theorem zge3 {a : Int32} {n : Nat} (h : ∀ k, 0 ≤ k → k ≤ n → a ≠ nI k) (hn : n < 2 ^ 30) : a < 0 ∨ ¬ a < nI (n + 1) := by
  rcases znot_lt (n := n + 1) (fun k hk => h k (Nat.zero_le _) (by omega)) (by omega) with c | c
  · exact Or.inl c
  · exact Or.inr (Int32.not_lt.mpr c)
theorem zif3 {α : Type} {a b : Int32} {x y : α} (h : a < 0 ∨ ¬ a < b) : (if a < 0 then x else (if a < b then y else x)) = x := by
  rcases h with h | h
  · rw [if_pos h]
  · by_cases c : a < 0
    · rw [if_pos c]
    · rw [if_neg c, if_neg h]
theorem case_doubled {fu : Nat} {u : zU} {a1 a2 : Int32} (hu : zUw u) (hfu : 400 < fu) : zStep (fun σ => m_L_doubled fu σ a1 a2) (fun σ => m_X11_doubled fu σ a1 a2) u := by
  rcases zin_em a1 0 1 with ⟨r, _, hr, rfl⟩ | h1
  · have hr : r < 2 := by omega
    rcases zin_em a2 0 2 with ⟨w, _, hw, rfl⟩ | h2
    · refine ⟨0, zdb (u.1.2.1 r) (u.1.1 r) w, u, by decide, hu, fun σ h => ?_, fun σ h => ?_⟩
      · have r0 : zRow σ (zRr 1 r) (u.1.1 r) (u.1.2.1 r) := h.1.1.1.row hr
        have e : m_X10_doubled fu σ (nI r) (nI w) = some (.inr (zdb (u.1.2.1 r) (u.1.1 r) w), σ) := by
          unfold m_X10_doubled
          rw [pX10_isRow hr, Option.bind_some, if_pos (by decide), if_neg (nI_pos (by omega)), if_pos (show nI w < (3 : Int32) from nI_lt (b := 3) (by omega) (by decide)), pX7_rowOf hr, Option.bind_some, pX6_doubled r0 (hu.1.2.2.1 r) (by omega) (by omega), Option.bind_some]
        unfold m_L_doubled
        exact zLo_ok e rfl h zfc.rf
      · have h0 := h.st (k := 7) (v := (0 : Int32)) (by decide) (by decide)
        refine zXo_ok ?_ h0 zst7 zst_at
        show m_X11_doubled fu σ (nI r) (nI w) = _
        unfold m_X11_doubled
        rw [qX11_isRow1 hr, Option.bind_some, if_pos (by decide), show m_X11_within fu σ (nI w) (0 : Int32) (2 : Int32) = some 1 from qX11_w1 (lo := 0) (hi := 2) (Nat.zero_le _) hw (by decide), Option.bind_some, if_neg (by decide), Option.bind_some, zst_at, if_pos (by decide), qX11_doubledNow h0.1 hu.1 hr (by omega) (by omega), Option.bind_some]
    · refine ⟨2, 0, u, by decide, hu, fun σ h => ?_, fun σ h => ?_⟩
      · have e : m_X10_doubled fu σ (nI r) a2 = some (.inl 1, σ) := by
          unfold m_X10_doubled
          rw [pX10_isRow hr, Option.bind_some, if_pos (by decide)]
          exact zif3 (zge3 h2 (by decide))
        unfold m_L_doubled
        exact zLo_no e rfl h zfc.rf (by decide)
      · refine zXo_no2 (b := 0) (σ' := σ) ?_ h zfx.rf (by decide)
        show m_X11_doubled fu σ (nI r) a2 = _
        unfold m_X11_doubled
        rw [qX11_isRow1 hr, Option.bind_some, if_pos (by decide), show m_X11_within fu σ a2 (0 : Int32) (2 : Int32) = some 0 from qX11_w0 (lo := 0) (hi := 2) h2 (by decide) (by decide), Option.bind_some, if_pos rfl, Option.bind_some, zst_at, if_neg (by decide)]
        rfl
  · refine ⟨1, 0, u, by decide, hu, fun σ h => ?_, fun σ h => ?_⟩
    · have e : m_X10_doubled fu σ a1 a2 = some (.inl 0, σ) := by
        unfold m_X10_doubled
        rw [pX10_isRow0 (fun k hk => h1 k (Nat.zero_le _) (by omega)), Option.bind_some, if_neg (by decide)]
      unfold m_L_doubled
      exact zLo_no e rfl h zfc.rf (by decide)
    · refine zXo_no2 (b := 0) (σ' := σ) ?_ h zfx.rf (by decide)
      show m_X11_doubled fu σ a1 a2 = _
      unfold m_X11_doubled
      rw [qX11_isRow0 h1, Option.bind_some, if_neg (by decide), Option.bind_some, zst_at, if_neg (by decide)]
      rfl
/-- what is told of an anchor, of a turned one -/
def zaP (S : zS) (i w : Nat) : Int32 := if w = 0 then nI ((zanc S false).2.1 i) else if w = 1 then nI ((zanc S false).2.2 i) else if w = 2 then (zchn S).2.2 i else nI (zuT (zcF S) (zcN S) i)
def ztP (S : zS) (i w : Nat) : Int32 := if w = 0 then nI ((zanc S true).2.1 i) else if w = 1 then nI ((zanc S true).2.2 i) else nI ((zts (ztV S) (i + 1)).1 - 1)
theorem pX5_anchorP {fu : Nat} {σ : zmem} {i0 i w : Nat} {S : zS} (hi0 : zkd i0 = (5, 0)) (h : zCl σ i0 S) (hS : zWf S) (hi : i < zcN S) (hw : w < 4) : m_X5_anchorProperty fu σ i0 (nI i) (nI w) = some (zaP S i w) := by
  have hN : zcN S ≤ 23 := (zanc_in (t := false) hS).1
  have kA := za0 (zs_5_0 hi0)
  have kC := za2k (zs_5_1 hi0)
  unfold m_X5_anchorProperty zaP
  rcases (show w = 0 ∨ w = 1 ∨ w = 2 ∨ w = 3 by omega) with rfl | rfl | rfl | rfl
  · rw [if_pos (show nI 0 = (0 : Int32) from rfl), if_pos rfl, pX1_at kA.1 (show i < 24 by omega) (by decide), Option.bind_some]
    exact congrArg some (h.1.2.2 i hi).1
  · rw [if_neg (show ¬ nI 1 = (0 : Int32) by decide), if_pos (show nI 1 = (1 : Int32) from rfl), if_neg (show ¬ 1 = 0 by decide), if_pos rfl, pX1_at kA.2.1 (show i < 24 by omega) (by decide), Option.bind_some]
    exact congrArg some (h.1.2.2 i hi).2
  · rw [if_neg (show ¬ nI 2 = (0 : Int32) by decide), if_neg (show ¬ nI 2 = (1 : Int32) by decide), if_pos (show nI 2 = (2 : Int32) from rfl), if_neg (show ¬ 2 = 0 by decide), if_neg (show ¬ 2 = 1 by decide), if_pos rfl, pX1_at kC.2.1 (show i < 24 by omega) (by decide), Option.bind_some]
    exact congrArg some (h.2.1.2.2 i hi).1
  · rw [if_neg (show ¬ nI 3 = (0 : Int32) by decide), if_neg (show ¬ nI 3 = (1 : Int32) by decide), if_neg (show ¬ nI 3 = (2 : Int32) by decide), if_neg (show ¬ 3 = 0 by decide), if_neg (show ¬ 3 = 1 by decide), if_neg (show ¬ 3 = 2 by decide), pX1_at kC.2.2.1 (show i < 24 by omega) (by decide), Option.bind_some]
    exact congrArg some (h.2.1.2.2 i hi).2
theorem pX9_prop {fu : Nat} {σ : zmem} {t0 i w : Nat} {S : zS} (ht : zkd t0 = (9, 0)) (h : zTu σ t0 S) (hS : zWf S) (hi : i < ztN S) (hw : w < 3) : m_X9_property fu σ t0 (nI i) (nI w) = some (ztP S i w) := by
  have hN : ztN S ≤ 23 := (zanc_in (t := true) hS).1
  have kA := za0 (zs_9_0 ht)
  unfold m_X9_property ztP
  rcases (show w = 0 ∨ w = 1 ∨ w = 2 by omega) with rfl | rfl | rfl
  · rw [if_pos (show nI 0 = (0 : Int32) from rfl), if_pos rfl, pX1_at kA.1 (show i < 24 by omega) (by decide), Option.bind_some]
    exact congrArg some (h.1.2.2 i hi).1
  · rw [if_neg (show ¬ nI 1 = (0 : Int32) by decide), if_pos (show nI 1 = (1 : Int32) from rfl), if_neg (show ¬ 1 = 0 by decide), if_pos rfl, pX1_at kA.2.1 (show i < 24 by omega) (by decide), Option.bind_some]
    exact congrArg some (h.1.2.2 i hi).2
  · rw [if_neg (show ¬ nI 2 = (0 : Int32) by decide), if_neg (show ¬ nI 2 = (1 : Int32) by decide), if_neg (show ¬ 2 = 0 by decide), if_neg (show ¬ 2 = 1 by decide), pX1_at (za9 ht) (show i < 24 by omega) (by decide), Option.bind_some]
    exact congrArg some (h.2.2.2 i hi)
theorem qX11_anchorNow {fu : Nat} {σ : zmem} {S : zS} {i w : Nat} (hz : zMz σ 104 0 S) (hS : zWf S) (hi : i < zcN S) (hw : w < 4) (hfu : 100 < fu) : ∃ σ', m_X11_anchorNow fu σ (nI i) (nI w) = some (zaP S i w, σ') ∧ zMn σ' 13 111 (zanc S true) ∧ zfm σ σ' := by
  have hN : zcN S ≤ 23 := (zanc_in (t := false) hS).1
  obtain ⟨s1, e1, a1, t1, c1, m1⟩ := qX11_layChain hz hS hfu
  refine ⟨s1, ?_, t1, m1⟩
  unfold m_X11_anchorNow zaP
  rw [e1, Option.bind_some]
  rcases (show w = 0 ∨ w = 1 ∨ w = 2 ∨ w = 3 by omega) with rfl | rfl | rfl | rfl
  · rw [if_pos (show nI 0 = (0 : Int32) from rfl), if_pos rfl, zrd_in zc_109 (show i < 24 by omega) (by decide), Option.bind_some, (a1.2 i hi).1]
  · rw [if_neg (show ¬ nI 1 = (0 : Int32) by decide), if_pos (show nI 1 = (1 : Int32) from rfl), if_neg (show ¬ 1 = 0 by decide), if_pos rfl, zrd_in zc_110 (show i < 24 by omega) (by decide), Option.bind_some, show s1.1 110 i = _ from (a1.2 i hi).2]
  · rw [if_neg (show ¬ nI 2 = (0 : Int32) by decide), if_neg (show ¬ nI 2 = (1 : Int32) by decide), if_pos (show nI 2 = (2 : Int32) from rfl), if_neg (show ¬ 2 = 0 by decide), if_neg (show ¬ 2 = 1 by decide), if_pos rfl, zrd_in zc_115 (show i < 24 by omega) (by decide), Option.bind_some, (c1.2.2 i hi).1]
  · rw [if_neg (show ¬ nI 3 = (0 : Int32) by decide), if_neg (show ¬ nI 3 = (1 : Int32) by decide), if_neg (show ¬ nI 3 = (2 : Int32) by decide), if_neg (show ¬ 3 = 0 by decide), if_neg (show ¬ 3 = 1 by decide), if_neg (show ¬ 3 = 2 by decide), zrd_in zc_114 (show i < 24 by omega) (by decide), Option.bind_some, (c1.2.2 i hi).2]
theorem qX11_turnedNow {fu : Nat} {σ : zmem} {S : zS} {i w : Nat} (hz : zMz σ 104 0 S) (hS : zWf S) (hi : i < ztN S) (hw : w < 3) (hfu : 100 < fu) : ∃ σ', m_X11_turnedNow fu σ (nI i) (nI w) = some (ztP S i w, σ') ∧ zMn σ' 13 111 (zanc S true) ∧ zfm σ σ' := by
  have hN : ztN S ≤ 23 := (zanc_in (t := true) hS).1
  obtain ⟨s1, e1, _, t1, m1, _⟩ := qX11_layAnchors hz hS hfu
  refine ⟨s1, ?_, t1, m1⟩
  unfold m_X11_turnedNow ztP
  rw [e1, Option.bind_some]
  rcases (show w = 0 ∨ w = 1 ∨ w = 2 by omega) with rfl | rfl | rfl
  · rw [if_neg (show ¬ ¬ nI 0 = 0 by decide), if_pos rfl, zrd_in zc_111 (show i < 24 by omega) (by decide), Option.bind_some, (t1.2 i hi).1]
  · rw [if_pos (show ¬ nI 1 = 0 by decide), if_neg (show ¬ ¬ nI 1 = (1 : Int32) by decide), if_neg (show ¬ 1 = 0 by decide), if_pos rfl, zrd_in zc_112 (show i < 24 by omega) (by decide), Option.bind_some, show s1.1 112 i = _ from (t1.2 i hi).2]
  · rw [if_pos (show ¬ nI 2 = 0 by decide), if_pos (show ¬ nI 2 = (1 : Int32) by decide), if_neg (show ¬ 2 = 0 by decide), if_neg (show ¬ 2 = 1 by decide), qX11_stretchOf hS t1 hi hfu, Option.bind_some]
theorem zfm.f7 {σ σ' : zmem} (h : zfm σ σ') : σ'.1 103 7 = σ.1 103 7 := h.2.1 7 (by decide) (by decide) (by decide) (by decide)
theorem case_anchor {fu : Nat} {u : zU} {a1 a2 : Int32} (hu : zUw u) (hfu : 400 < fu) : zStep (fun σ => m_L_anchor fu σ a1 a2) (fun σ => m_X11_anchor fu σ a1 a2) u := by
  have hN : zcN u.1 ≤ 23 := (zanc_in (t := false) hu.1).1
  rcases zlt_em a1 (zcN u.1) with ⟨i, hi, rfl⟩ | h1
  · rcases zin_em a2 0 3 with ⟨w, _, hw, rfl⟩ | h2
    · refine ⟨0, zaP u.1 i w, u, by decide, hu, fun σ h => ?_, fun σ h => ?_⟩
      · obtain ⟨s1, e1, c1, f1⟩ := pX10_refresh (fu := fu) h hu (by omega)
        have e : m_X10_anchor fu σ (nI i) (nI w) = some (.inr (zaP u.1 i w), s1) := by
          unfold m_X10_anchor
          rw [e1, Option.bind_some, if_neg (nI_pos (by omega)), c1.n, if_pos (nI_lt hi (by omega)), if_neg (nI_pos (by omega)), if_pos (show nI w < (4 : Int32) from nI_lt (b := 4) (by omega) (by decide)), pX5_anchorP zc_35 c1.2.2.1 hu.1 hi (by omega), Option.bind_some]
        unfold m_L_anchor
        exact zLo_ok e rfl c1.i f1
      · obtain ⟨s1, e1, n1, _, m1, _⟩ := qX11_layAnchors (fu := fu) h.1 hu.1 (by omega)
        have h1 := (h.m m1).st (k := 7) (v := (0 : Int32)) (by decide) (by decide)
        obtain ⟨s2, e2, _, m2⟩ := qX11_anchorNow (fu := fu) (i := i) (w := w) h1.1 hu.1 hi (by omega) (by omega)
        refine zXo_ok ?_ (h1.m m2) ((m1.x.tr zst7).tr m2.x) (by rw [m2.f7]; exact zst_at)
        show m_X11_anchor fu σ (nI i) (nI w) = _
        unfold m_X11_anchor
        rw [e1, Option.bind_some, n1.n, qX11_wn1 hi (by omega), Option.bind_some, if_pos (by decide), show m_X11_within fu s1 (nI w) (0 : Int32) (3 : Int32) = some 1 from qX11_w1 (lo := 0) (hi := 3) (Nat.zero_le _) hw (by decide), Option.bind_some, if_neg (by decide), Option.bind_some, zst_at, if_pos (by decide), e2, Option.bind_some]
    · refine ⟨2, 0, u, by decide, hu, fun σ h => ?_, fun σ h => ?_⟩
      · obtain ⟨s1, e1, c1, f1⟩ := pX10_refresh (fu := fu) h hu (by omega)
        have e : m_X10_anchor fu σ (nI i) a2 = some (.inl 1, s1) := by
          unfold m_X10_anchor
          rw [e1, Option.bind_some, if_neg (nI_pos (by omega)), c1.n, if_pos (nI_lt hi (by omega))]
          exact zif3 (zge3 h2 (by decide))
        unfold m_L_anchor
        exact zLo_no e rfl c1.i f1 (by decide)
      · obtain ⟨s1, e1, n1, _, m1, _⟩ := qX11_layAnchors (fu := fu) h.1 hu.1 (by omega)
        refine zXo_no2 (b := 0) (σ' := s1) ?_ (h.m m1) m1.x (by decide)
        show m_X11_anchor fu σ (nI i) a2 = _
        unfold m_X11_anchor
        rw [e1, Option.bind_some, n1.n, qX11_wn1 hi (by omega), Option.bind_some, if_pos (by decide), show m_X11_within fu s1 a2 (0 : Int32) (3 : Int32) = some 0 from qX11_w0 (lo := 0) (hi := 3) h2 (by decide) (by decide), Option.bind_some, if_pos rfl, Option.bind_some, zst_at, if_neg (by decide)]
        rfl
  · refine ⟨1, 0, u, by decide, hu, fun σ h => ?_, fun σ h => ?_⟩
    · obtain ⟨s1, e1, c1, f1⟩ := pX10_refresh (fu := fu) h hu (by omega)
      have e : m_X10_anchor fu σ a1 a2 = some (.inl 0, s1) := by
        unfold m_X10_anchor
        rw [e1, Option.bind_some, c1.n]
        refine zif3 ?_
        rcases znot_lt h1 (by omega) with c | c
        · exact Or.inl c
        · exact Or.inr (Int32.not_lt.mpr c)
      unfold m_L_anchor
      exact zLo_no e rfl c1.i f1 (by decide)
    · obtain ⟨s1, e1, n1, _, m1, _⟩ := qX11_layAnchors (fu := fu) h.1 hu.1 (by omega)
      refine zXo_no2 (b := 0) (σ' := s1) ?_ (h.m m1) m1.x (by decide)
      show m_X11_anchor fu σ a1 a2 = _
      unfold m_X11_anchor
      rw [e1, Option.bind_some, n1.n, qX11_wn0 h1 (by omega), Option.bind_some, if_neg (by decide), Option.bind_some, zst_at, if_neg (by decide)]
      rfl
theorem case_turned {fu : Nat} {u : zU} {a1 a2 : Int32} (hu : zUw u) (hfu : 400 < fu) : zStep (fun σ => m_L_turned fu σ a1 a2) (fun σ => m_X11_turned fu σ a1 a2) u := by
  have hN : ztN u.1 ≤ 23 := (zanc_in (t := true) hu.1).1
  have cn : ∀ σ, zCF σ u → σ.1 92 2 = nI (ztN u.1) := fun σ h => h.2.2.2.1.1
  have xn : ∀ σ, zMn σ 13 111 (zanc u.1 true) → σ.1 103 13 = nI (ztN u.1) := fun σ h => h.1
  rcases zlt_em a1 (ztN u.1) with ⟨i, hi, rfl⟩ | h1
  · rcases zin_em a2 0 2 with ⟨w, _, hw, rfl⟩ | h2
    · refine ⟨0, ztP u.1 i w, u, by decide, hu, fun σ h => ?_, fun σ h => ?_⟩
      · obtain ⟨s1, e1, c1, f1⟩ := pX10_refresh (fu := fu) h hu (by omega)
        have e : m_X10_turned fu σ (nI i) (nI w) = some (.inr (ztP u.1 i w), s1) := by
          unfold m_X10_turned
          rw [e1, Option.bind_some, if_neg (nI_pos (by omega)), cn _ c1, if_pos (nI_lt hi (by omega)), if_neg (nI_pos (by omega)), if_pos (show nI w < (3 : Int32) from nI_lt (b := 3) (by omega) (by decide)), pX9_prop zc_91 c1.2.2.2 hu.1 hi (by omega), Option.bind_some]
        unfold m_L_turned
        exact zLo_ok e rfl c1.i f1
      · obtain ⟨s1, e1, _, n1, m1, _⟩ := qX11_layAnchors (fu := fu) h.1 hu.1 (by omega)
        have h1 := (h.m m1).st (k := 7) (v := (0 : Int32)) (by decide) (by decide)
        obtain ⟨s2, e2, _, m2⟩ := qX11_turnedNow (fu := fu) (i := i) (w := w) h1.1 hu.1 hi (by omega) (by omega)
        refine zXo_ok ?_ (h1.m m2) ((m1.x.tr zst7).tr m2.x) (by rw [m2.f7]; exact zst_at)
        show m_X11_turned fu σ (nI i) (nI w) = _
        unfold m_X11_turned
        rw [e1, Option.bind_some, xn _ n1, qX11_wn1 hi (by omega), Option.bind_some, if_pos (by decide), show m_X11_within fu s1 (nI w) (0 : Int32) (2 : Int32) = some 1 from qX11_w1 (lo := 0) (hi := 2) (Nat.zero_le _) hw (by decide), Option.bind_some, if_neg (by decide), Option.bind_some, zst_at, if_pos (by decide), e2, Option.bind_some]
    · refine ⟨2, 0, u, by decide, hu, fun σ h => ?_, fun σ h => ?_⟩
      · obtain ⟨s1, e1, c1, f1⟩ := pX10_refresh (fu := fu) h hu (by omega)
        have e : m_X10_turned fu σ (nI i) a2 = some (.inl 1, s1) := by
          unfold m_X10_turned
          rw [e1, Option.bind_some, if_neg (nI_pos (by omega)), cn _ c1, if_pos (nI_lt hi (by omega))]
          exact zif3 (zge3 h2 (by decide))
        unfold m_L_turned
        exact zLo_no e rfl c1.i f1 (by decide)
      · obtain ⟨s1, e1, _, n1, m1, _⟩ := qX11_layAnchors (fu := fu) h.1 hu.1 (by omega)
        refine zXo_no2 (b := 0) (σ' := s1) ?_ (h.m m1) m1.x (by decide)
        show m_X11_turned fu σ (nI i) a2 = _
        unfold m_X11_turned
        rw [e1, Option.bind_some, xn _ n1, qX11_wn1 hi (by omega), Option.bind_some, if_pos (by decide), show m_X11_within fu s1 a2 (0 : Int32) (2 : Int32) = some 0 from qX11_w0 (lo := 0) (hi := 2) h2 (by decide) (by decide), Option.bind_some, if_pos rfl, Option.bind_some, zst_at, if_neg (by decide)]
        rfl
  · refine ⟨1, 0, u, by decide, hu, fun σ h => ?_, fun σ h => ?_⟩
    · obtain ⟨s1, e1, c1, f1⟩ := pX10_refresh (fu := fu) h hu (by omega)
      have e : m_X10_turned fu σ a1 a2 = some (.inl 0, s1) := by
        unfold m_X10_turned
        rw [e1, Option.bind_some, cn _ c1]
        refine zif3 ?_
        rcases znot_lt h1 (by omega) with c | c
        · exact Or.inl c
        · exact Or.inr (Int32.not_lt.mpr c)
      unfold m_L_turned
      exact zLo_no e rfl c1.i f1 (by decide)
    · obtain ⟨s1, e1, _, n1, m1, _⟩ := qX11_layAnchors (fu := fu) h.1 hu.1 (by omega)
      refine zXo_no2 (b := 0) (σ' := s1) ?_ (h.m m1) m1.x (by decide)
      show m_X11_turned fu σ a1 a2 = _
      unfold m_X11_turned
      rw [e1, Option.bind_some, xn _ n1, qX11_wn0 h1 (by omega), Option.bind_some, if_neg (by decide), Option.bind_some, zst_at, if_neg (by decide)]
      rfl
