/-! the reference's numbers -/
theorem zb_n {b : Bool} : zb b = nI (zbn b) := by cases b <;> rfl
theorem qX11_laid {fu : Nat} {σ : zmem} {S : zS} {w : Nat} (hz : zMz σ 104 0 S) (hS : zWf S) (hw : w = 2 ∨ w = 3 ∨ w = 4 ∨ w = 5) (hfu : 100 < fu) : ∃ σ', m_X11_laidCount fu σ (nI w) = some (nI (if w = 2 then zcN S else if w = 3 then ztN S else if w = 4 then (zchn S).1 else (zlu S).1), σ') ∧ zfm σ σ' ∧ zMa σ' S := by
  obtain ⟨s1, e1, a1, m1⟩ := qX11_layAll hz hS hfu
  refine ⟨s1, ?_, m1, a1⟩
  unfold m_X11_laidCount
  rw [e1, Option.bind_some]
  rcases hw with rfl | rfl | rfl | rfl
  · rw [if_neg (show ¬ ¬ nI 2 = (2 : Int32) by decide), a1.1.n]
    rfl
  · rw [if_pos (show ¬ nI 3 = (2 : Int32) by decide), if_neg (show ¬ ¬ nI 3 = (3 : Int32) by decide), show s1.1 103 13 = nI (ztN S) from a1.2.1.1]
    rfl
  · rw [if_pos (show ¬ nI 4 = (2 : Int32) by decide), if_pos (show ¬ nI 4 = (3 : Int32) by decide), if_neg (show ¬ ¬ nI 4 = (4 : Int32) by decide), a1.2.2.1.1]
    rfl
  · rw [if_pos (show ¬ nI 5 = (2 : Int32) by decide), if_pos (show ¬ nI 5 = (3 : Int32) by decide), if_pos (show ¬ nI 5 = (4 : Int32) by decide), a1.2.2.2.1]
    rfl
theorem qX11_counted {fu : Nat} {σ : zmem} {u : zU} {w : Nat} (h : zRI σ u) (hu : zUw u) (hw : w < 15) (hfu : 400 < fu) : ∃ σ', m_X11_counted fu σ (nI w) = some (nI (zco u w), σ') ∧ zfm σ σ' := by
  have hz := h.1
  rcases (show w = 0 ∨ w = 1 ∨ w = 2 ∨ w = 3 ∨ w = 4 ∨ w = 5 ∨ w = 6 ∨ w = 7 ∨ w = 8 ∨ w = 9 ∨ w = 10 ∨ w = 11 ∨ w = 12 ∨ w = 13 ∨ w = 14 by omega) with rfl | rfl | rfl | rfl | rfl | rfl | rfl | rfl | rfl | rfl | rfl | rfl | rfl | rfl | rfl
  · have e := qX11_signs (fu := fu) (r := 0) hz (by decide)
    refine ⟨σ, ?_, zfm.rf⟩
    unfold m_X11_counted
    rw [if_pos (show nI 0 = (0 : Int32) from rfl), e, Option.bind_some]
    rfl
  · have e := qX11_signs (fu := fu) (r := 1) hz (by decide)
    refine ⟨σ, ?_, zfm.rf⟩
    unfold m_X11_counted
    rw [if_neg (show ¬ nI 1 = (0 : Int32) by decide), if_pos (show nI 1 = (1 : Int32) from rfl), e, Option.bind_some]
    rfl
  · obtain ⟨s1, e1, m1, _⟩ := qX11_laid (fu := fu) (w := 2) hz hu.1 (by decide) (by omega)
    refine ⟨s1, ?_, m1⟩
    unfold m_X11_counted
    rw [if_neg (show ¬ nI 2 = (0 : Int32) by decide), if_neg (show ¬ nI 2 = (1 : Int32) by decide), if_pos (show nI 2 = (2 : Int32) from rfl), e1, Option.bind_some]
    rfl
  · obtain ⟨s1, e1, m1, _⟩ := qX11_laid (fu := fu) (w := 3) hz hu.1 (by decide) (by omega)
    refine ⟨s1, ?_, m1⟩
    unfold m_X11_counted
    rw [if_neg (show ¬ nI 3 = (0 : Int32) by decide), if_neg (show ¬ nI 3 = (1 : Int32) by decide), if_neg (show ¬ nI 3 = (2 : Int32) by decide), if_pos (show nI 3 = (3 : Int32) from rfl), e1, Option.bind_some]
    rfl
  · obtain ⟨s1, e1, m1, _⟩ := qX11_laid (fu := fu) (w := 4) hz hu.1 (by decide) (by omega)
    refine ⟨s1, ?_, m1⟩
    unfold m_X11_counted
    rw [if_neg (show ¬ nI 4 = (0 : Int32) by decide), if_neg (show ¬ nI 4 = (1 : Int32) by decide), if_neg (show ¬ nI 4 = (2 : Int32) by decide), if_neg (show ¬ nI 4 = (3 : Int32) by decide), if_pos (show nI 4 = (4 : Int32) from rfl), e1, Option.bind_some]
    rfl
  · obtain ⟨s1, e1, m1, _⟩ := qX11_laid (fu := fu) (w := 5) hz hu.1 (by decide) (by omega)
    refine ⟨s1, ?_, m1⟩
    unfold m_X11_counted
    rw [if_neg (show ¬ nI 5 = (0 : Int32) by decide), if_neg (show ¬ nI 5 = (1 : Int32) by decide), if_neg (show ¬ nI 5 = (2 : Int32) by decide), if_neg (show ¬ nI 5 = (3 : Int32) by decide), if_neg (show ¬ nI 5 = (4 : Int32) by decide), if_pos (show nI 5 = (5 : Int32) from rfl), e1, Option.bind_some]
    rfl
  · obtain ⟨s1, e1, _, m1⟩ := qX11_costNow (fu := fu) hz hu.1 (by omega)
    refine ⟨s1, ?_, m1⟩
    unfold m_X11_counted
    rw [if_neg (show ¬ nI 6 = (0 : Int32) by decide), if_neg (show ¬ nI 6 = (1 : Int32) by decide), if_neg (show ¬ nI 6 = (2 : Int32) by decide), if_neg (show ¬ nI 6 = (3 : Int32) by decide), if_neg (show ¬ nI 6 = (4 : Int32) by decide), if_neg (show ¬ nI 6 = (5 : Int32) by decide), if_pos (show nI 6 = (6 : Int32) from rfl), e1, Option.bind_some]
    rfl
  · obtain ⟨s1, e1, m1⟩ := qX11_free (fu := fu) hz hu.1 (by omega)
    refine ⟨s1, ?_, m1⟩
    unfold m_X11_counted
    rw [if_neg (show ¬ nI 7 = (0 : Int32) by decide), if_neg (show ¬ nI 7 = (1 : Int32) by decide), if_neg (show ¬ nI 7 = (2 : Int32) by decide), if_neg (show ¬ nI 7 = (3 : Int32) by decide), if_neg (show ¬ nI 7 = (4 : Int32) by decide), if_neg (show ¬ nI 7 = (5 : Int32) by decide), if_neg (show ¬ nI 7 = (6 : Int32) by decide), if_pos (show nI 7 = (7 : Int32) from rfl), e1, Option.bind_some]
    rfl
  · obtain ⟨s1, e1, m1⟩ := qX11_stretches (fu := fu) (l := false) hz hu.1 (by omega)
    refine ⟨s1, ?_, m1⟩
    unfold m_X11_counted
    rw [if_neg (show ¬ nI 8 = (0 : Int32) by decide), if_neg (show ¬ nI 8 = (1 : Int32) by decide), if_neg (show ¬ nI 8 = (2 : Int32) by decide), if_neg (show ¬ nI 8 = (3 : Int32) by decide), if_neg (show ¬ nI 8 = (4 : Int32) by decide), if_neg (show ¬ nI 8 = (5 : Int32) by decide), if_neg (show ¬ nI 8 = (6 : Int32) by decide), if_neg (show ¬ nI 8 = (7 : Int32) by decide), if_pos (show nI 8 = (8 : Int32) from rfl), if_pos (show ¬ nI 8 = (9 : Int32) by decide), Option.bind_some, show (0 : Int32) = zb false from rfl, e1, Option.bind_some]
    rfl
  · obtain ⟨s1, e1, m1⟩ := qX11_stretches (fu := fu) (l := true) hz hu.1 (by omega)
    refine ⟨s1, ?_, m1⟩
    unfold m_X11_counted
    rw [if_neg (show ¬ nI 9 = (0 : Int32) by decide), if_neg (show ¬ nI 9 = (1 : Int32) by decide), if_neg (show ¬ nI 9 = (2 : Int32) by decide), if_neg (show ¬ nI 9 = (3 : Int32) by decide), if_neg (show ¬ nI 9 = (4 : Int32) by decide), if_neg (show ¬ nI 9 = (5 : Int32) by decide), if_neg (show ¬ nI 9 = (6 : Int32) by decide), if_neg (show ¬ nI 9 = (7 : Int32) by decide), if_neg (show ¬ nI 9 = (8 : Int32) by decide), if_pos (show nI 9 = (9 : Int32) from rfl), if_neg (show ¬ ¬ nI 9 = (9 : Int32) by decide), Option.bind_some, show (1 : Int32) = zb true from rfl, e1, Option.bind_some]
    rfl
  · obtain ⟨s1, e1, m1⟩ := qX11_like (fu := fu) hz hu.1 (by omega)
    refine ⟨s1, ?_, m1⟩
    unfold m_X11_counted
    rw [if_neg (show ¬ nI 10 = (0 : Int32) by decide), if_neg (show ¬ nI 10 = (1 : Int32) by decide), if_neg (show ¬ nI 10 = (2 : Int32) by decide), if_neg (show ¬ nI 10 = (3 : Int32) by decide), if_neg (show ¬ nI 10 = (4 : Int32) by decide), if_neg (show ¬ nI 10 = (5 : Int32) by decide), if_neg (show ¬ nI 10 = (6 : Int32) by decide), if_neg (show ¬ nI 10 = (7 : Int32) by decide), if_neg (show ¬ nI 10 = (8 : Int32) by decide), if_neg (show ¬ nI 10 = (9 : Int32) by decide), if_pos (show nI 10 = (10 : Int32) from rfl), e1, Option.bind_some]
    rfl
  · obtain ⟨s1, e1, m1⟩ := qX11_left (fu := fu) (r := 0) hz hu.1 (by decide) (by omega)
    refine ⟨s1, ?_, m1⟩
    unfold m_X11_counted
    rw [if_neg (show ¬ nI 11 = (0 : Int32) by decide), if_neg (show ¬ nI 11 = (1 : Int32) by decide), if_neg (show ¬ nI 11 = (2 : Int32) by decide), if_neg (show ¬ nI 11 = (3 : Int32) by decide), if_neg (show ¬ nI 11 = (4 : Int32) by decide), if_neg (show ¬ nI 11 = (5 : Int32) by decide), if_neg (show ¬ nI 11 = (6 : Int32) by decide), if_neg (show ¬ nI 11 = (7 : Int32) by decide), if_neg (show ¬ nI 11 = (8 : Int32) by decide), if_neg (show ¬ nI 11 = (9 : Int32) by decide), if_neg (show ¬ nI 11 = (10 : Int32) by decide), if_pos (show nI 11 = (11 : Int32) from rfl), show nI 11 - (11 : Int32) = nI 0 from rfl, e1, Option.bind_some]
    rfl
  · obtain ⟨s1, e1, m1⟩ := qX11_left (fu := fu) (r := 1) hz hu.1 (by decide) (by omega)
    refine ⟨s1, ?_, m1⟩
    unfold m_X11_counted
    rw [if_neg (show ¬ nI 12 = (0 : Int32) by decide), if_neg (show ¬ nI 12 = (1 : Int32) by decide), if_neg (show ¬ nI 12 = (2 : Int32) by decide), if_neg (show ¬ nI 12 = (3 : Int32) by decide), if_neg (show ¬ nI 12 = (4 : Int32) by decide), if_neg (show ¬ nI 12 = (5 : Int32) by decide), if_neg (show ¬ nI 12 = (6 : Int32) by decide), if_neg (show ¬ nI 12 = (7 : Int32) by decide), if_neg (show ¬ nI 12 = (8 : Int32) by decide), if_neg (show ¬ nI 12 = (9 : Int32) by decide), if_neg (show ¬ nI 12 = (10 : Int32) by decide), if_neg (show ¬ nI 12 = (11 : Int32) by decide), if_pos (show nI 12 = (12 : Int32) from rfl), show nI 12 - (11 : Int32) = nI 1 from rfl, e1, Option.bind_some]
    rfl
  · have e0 : zrd σ 107 (0 : Int32) = some (nI (zbn (u.2.2.1.1 0))) := (zrd_in (j := 0) zc_107 (by decide) (by decide)).trans (congrArg some ((h.2.2.2.1 0 (by decide)).trans zb_n))
    have e1 : zrd σ 107 (1 : Int32) = some (nI (zbn (u.2.2.1.1 1))) := (zrd_in (j := 1) zc_107 (by decide) (by decide)).trans (congrArg some ((h.2.2.2.1 1 (by decide)).trans zb_n))
    refine ⟨σ, ?_, zfm.rf⟩
    unfold m_X11_counted
    rw [if_neg (show ¬ nI 13 = (0 : Int32) by decide), if_neg (show ¬ nI 13 = (1 : Int32) by decide), if_neg (show ¬ nI 13 = (2 : Int32) by decide), if_neg (show ¬ nI 13 = (3 : Int32) by decide), if_neg (show ¬ nI 13 = (4 : Int32) by decide), if_neg (show ¬ nI 13 = (5 : Int32) by decide), if_neg (show ¬ nI 13 = (6 : Int32) by decide), if_neg (show ¬ nI 13 = (7 : Int32) by decide), if_neg (show ¬ nI 13 = (8 : Int32) by decide), if_neg (show ¬ nI 13 = (9 : Int32) by decide), if_neg (show ¬ nI 13 = (10 : Int32) by decide), if_neg (show ¬ nI 13 = (11 : Int32) by decide), if_neg (show ¬ nI 13 = (12 : Int32) by decide), if_pos (show nI 13 = (13 : Int32) from rfl), e0, Option.bind_some, e1, Option.bind_some, nI_add]
    rfl
  · have e := h.2.1.1
    refine ⟨σ, ?_, zfm.rf⟩
    unfold m_X11_counted
    rw [if_neg (show ¬ nI 14 = (0 : Int32) by decide), if_neg (show ¬ nI 14 = (1 : Int32) by decide), if_neg (show ¬ nI 14 = (2 : Int32) by decide), if_neg (show ¬ nI 14 = (3 : Int32) by decide), if_neg (show ¬ nI 14 = (4 : Int32) by decide), if_neg (show ¬ nI 14 = (5 : Int32) by decide), if_neg (show ¬ nI 14 = (6 : Int32) by decide), if_neg (show ¬ nI 14 = (7 : Int32) by decide), if_neg (show ¬ nI 14 = (8 : Int32) by decide), if_neg (show ¬ nI 14 = (9 : Int32) by decide), if_neg (show ¬ nI 14 = (10 : Int32) by decide), if_neg (show ¬ nI 14 = (11 : Int32) by decide), if_neg (show ¬ nI 14 = (12 : Int32) by decide), if_neg (show ¬ nI 14 = (13 : Int32) by decide), if_pos (show nI 14 = (14 : Int32) from rfl), e]
    rfl
theorem case_count {fu : Nat} {u : zU} {a1 : Int32} (hu : zUw u) (hfu : 400 < fu) : zStep (fun σ => m_L_count fu σ a1) (fun σ => m_X11_count fu σ a1) u := by
  rcases zin_em a1 0 14 with ⟨w, _, hw, rfl⟩ | h1
  · refine ⟨0, nI (zco u w), u, by decide, hu, fun σ h => ?_, fun σ h => ?_⟩
    · obtain ⟨s1, e1, c1, f1⟩ := pX10_refresh (fu := fu) h hu (by omega)
      obtain ⟨s2, e2, c2, f2⟩ := pX10_number (fu := fu) (w := w) c1 hu (by omega) hfu
      have e : m_X10_count fu σ (nI w) = some (.inr (nI (zco u w)), s2) := by
        unfold m_X10_count
        rw [if_neg (nI_pos (by omega)), if_pos (show nI w < (15 : Int32) from nI_lt (b := 15) (by omega) (by decide)), e1, Option.bind_some, e2, Option.bind_some]
      unfold m_L_count
      exact zLo_ok e rfl c2.i (f1.tr f2)
    · have h0 := h.st (k := 7) (v := (0 : Int32)) (by decide) (by decide)
      obtain ⟨s2, e2, m2⟩ := qX11_counted (fu := fu) (w := w) h0 hu (by omega) hfu
      refine zXo_ok ?_ (h0.m m2) (zst7.tr m2.x) (by rw [m2.f7]; exact zst_at)
      show m_X11_count fu σ (nI w) = _
      unfold m_X11_count
      rw [show m_X11_within fu σ (nI w) (0 : Int32) (14 : Int32) = some 1 from qX11_w1 (lo := 0) (hi := 14) (Nat.zero_le _) hw (by decide), Option.bind_some, if_neg (by decide), Option.bind_some, zst_at, if_pos (by decide), e2, Option.bind_some]
  · refine ⟨1, 0, u, by decide, hu, fun σ h => ?_, fun σ h => ?_⟩
    · have e : m_X10_count fu σ a1 = some (.inl 1, σ) := by
        unfold m_X10_count
        exact zif3 (zge3 h1 (by decide))
      unfold m_L_count
      exact zLo_no e rfl h zfc.rf (by decide)
    · refine zXo_no2 (b := 0) (σ' := σ) ?_ h zfx.rf (by decide)
      show m_X11_count fu σ a1 = _
      unfold m_X11_count
      rw [show m_X11_within fu σ a1 (0 : Int32) (14 : Int32) = some 0 from qX11_w0 (lo := 0) (hi := 14) h1 (by decide) (by decide), Option.bind_some, if_pos rfl, Option.bind_some, zst_at, if_neg (by decide)]
      rfl
