/-! looks, both sides: gap, partner, count -/
def zgP (S : zS) (g w : Nat) : Int32 := if g < (zlu S).1 then nI ((zlu S).2.1 g w) else zM1
theorem zlu_le {S : zS} (hS : zWf S) : (zlu S).1 ≤ 25 := by
  have := zla_le (S := S) (zchn S).1
  have := (zchn_in hS).1
  show (zla S (zchn S).1).2.2.1 + 1 ≤ 25
  omega
theorem pX5_gapP {fu : Nat} {σ : zmem} {i0 g w : Nat} {S : zS} (hi0 : zkd i0 = (5, 0)) (h : zCg σ i0 (zlu S)) (hS : zWf S) (hg : g < 2 ^ 31) (hw : w < 5) : m_X5_gapProperty fu σ i0 (nI g) (nI w) = some (zgP S g w) := by
  have hN := zlu_le hS
  obtain ⟨_, k3, _, _⟩ := za5 hi0
  unfold m_X5_gapProperty zgP
  rw [h.1]
  by_cases c : g < (zlu S).1
  · rw [if_neg (nI_ge c (by omega)), if_pos c, l5m, nI_add, pX1_at k3 (show 5 * g + w < 125 by omega) (by decide), Option.bind_some]
    exact congrArg some (h.2.2.1 g w c hw)
  · rw [if_pos (nI_le (by omega) hg), if_neg c]
    rfl
theorem qX11_gapNow {fu : Nat} {σ : zmem} {S : zS} {g w : Nat} (hz : zMz σ 104 0 S) (hS : zWf S) (hg : g < 2 ^ 31) (hw : w < 5) (hfu : 100 < fu) : ∃ σ', m_X11_gapNow fu σ (nI g) (nI w) = some (zgP S g w, σ') ∧ zfm σ σ' := by
  have hN := zlu_le hS
  obtain ⟨s1, e1, a1, m1⟩ := qX11_layAll hz hS hfu
  refine ⟨s1, ?_, m1⟩
  unfold m_X11_gapNow zgP
  rw [e1, Option.bind_some, a1.2.2.2.1]
  by_cases c : g < (zlu S).1
  · have q := a1.2.2.2.2.1 g c
    rw [if_pos (nI_lt c (by omega)), if_pos c]
    rcases (show w = 0 ∨ w = 1 ∨ w = 2 ∨ w = 3 ∨ w = 4 by omega) with rfl | rfl | rfl | rfl | rfl
    · rw [if_pos (show nI 0 = (0 : Int32) from rfl), r2m, zrd_in zc_117 (show 2 * g < 50 by omega) (by decide), Option.bind_some, q.1]
    · rw [if_neg (show ¬ nI 1 = (0 : Int32) by decide), if_pos (show nI 1 = (1 : Int32) from rfl), r2m, zrd_in zc_118 (show 2 * g < 50 by omega) (by decide), Option.bind_some, q.2.2.1]
    · rw [if_neg (show ¬ nI 2 = (0 : Int32) by decide), if_neg (show ¬ nI 2 = (1 : Int32) by decide), if_pos (show nI 2 = (2 : Int32) from rfl), r2m, za1, zrd_in zc_117 (show 2 * g + 1 < 50 by omega) (by decide), Option.bind_some, q.2.1]
    · rw [if_neg (show ¬ nI 3 = (0 : Int32) by decide), if_neg (show ¬ nI 3 = (1 : Int32) by decide), if_neg (show ¬ nI 3 = (2 : Int32) by decide), if_pos (show nI 3 = (3 : Int32) from rfl), r2m, za1, zrd_in zc_118 (show 2 * g + 1 < 50 by omega) (by decide), Option.bind_some, q.2.2.2.1]
    · rw [if_neg (show ¬ nI 4 = (0 : Int32) by decide), if_neg (show ¬ nI 4 = (1 : Int32) by decide), if_neg (show ¬ nI 4 = (2 : Int32) by decide), if_neg (show ¬ nI 4 = (3 : Int32) by decide), zrd_in zc_119 (show g < 25 by omega) (by decide), Option.bind_some, q.2.2.2.2]
  · rw [if_neg (nI_nlt (by omega) hg), if_neg c]
    rfl
theorem case_gap {fu : Nat} {u : zU} {a1 a2 : Int32} (hu : zUw u) (hfu : 400 < fu) : zStep (fun σ => m_L_gap fu σ a1 a2) (fun σ => m_X11_gap fu σ a1 a2) u := by
  by_cases h1 : a1 < 0
  · refine ⟨1, 0, u, by decide, hu, fun σ h => ?_, fun σ h => ?_⟩
    · have e : m_X10_gap fu σ a1 a2 = some (.inl 1, σ) := by
        unfold m_X10_gap
        rw [if_neg (Int32.not_le.mpr h1)]
      unfold m_L_gap
      exact zLo_no e rfl h zfc.rf (by decide)
    · refine zXo_no2 (b := 0) (σ' := σ) ?_ h zfx.rf (by decide)
      show m_X11_gap fu σ a1 a2 = _
      unfold m_X11_gap
      rw [if_pos h1, Option.bind_some, zst_at, if_neg (by decide)]
      rfl
  · have h1' : (0 : Int32) ≤ a1 := Int32.not_lt.mp h1
    obtain ⟨g, hg, rfl⟩ := nI_of h1
    rcases zin_em a2 0 4 with ⟨w, _, hw, rfl⟩ | h2
    · refine ⟨0, zgP u.1 g w, u, by decide, hu, fun σ h => ?_, fun σ h => ?_⟩
      · obtain ⟨s1, e1, c1, f1⟩ := pX10_refresh (fu := fu) h hu (by omega)
        have e : m_X10_gap fu σ (nI g) (nI w) = some (.inr (zgP u.1 g w), s1) := by
          unfold m_X10_gap
          rw [if_pos h1', if_neg (nI_pos (by omega)), if_pos (show nI w < (5 : Int32) from nI_lt (b := 5) (by omega) (by decide)), e1, Option.bind_some, pX5_gapP zc_35 c1.2.2.1.2.2 hu.1 hg (by omega), Option.bind_some]
        unfold m_L_gap
        exact zLo_ok e rfl c1.i f1
      · have h0 := h.st (k := 7) (v := (0 : Int32)) (by decide) (by decide)
        obtain ⟨s2, e2, m2⟩ := qX11_gapNow (fu := fu) (g := g) (w := w) h0.1 hu.1 hg (by omega) (by omega)
        refine zXo_ok ?_ (h0.m m2) (zst7.tr m2.x) (by rw [m2.f7]; exact zst_at)
        show m_X11_gap fu σ (nI g) (nI w) = _
        unfold m_X11_gap
        rw [if_neg h1, show m_X11_within fu σ (nI w) (0 : Int32) (4 : Int32) = some 1 from qX11_w1 (lo := 0) (hi := 4) (Nat.zero_le _) hw (by decide), Option.bind_some, if_neg (by decide), Option.bind_some, zst_at, if_pos (by decide), e2, Option.bind_some]
    · refine ⟨1, 0, u, by decide, hu, fun σ h => ?_, fun σ h => ?_⟩
      · have e : m_X10_gap fu σ (nI g) a2 = some (.inl 1, σ) := by
          unfold m_X10_gap
          rw [if_pos h1']
          exact zif3 (zge3 h2 (by decide))
        unfold m_L_gap
        exact zLo_no e rfl h zfc.rf (by decide)
      · refine zXo_no2 (b := 0) (σ' := σ) ?_ h zfx.rf (by decide)
        show m_X11_gap fu σ (nI g) a2 = _
        unfold m_X11_gap
        rw [if_neg h1, show m_X11_within fu σ a2 (0 : Int32) (4 : Int32) = some 0 from qX11_w0 (lo := 0) (hi := 4) h2 (by decide) (by decide), Option.bind_some, if_pos rfl, Option.bind_some, zst_at, if_neg (by decide)]
        rfl
theorem qX11_partnerNow {fu : Nat} {σ : zmem} {S : zS} {r p : Nat} (hz : zMz σ 104 0 S) (hS : zWf S) (hr : r < 2) (hp : p < 24) (hfu : 100 < fu) : ∃ σ', m_X11_partnerNow fu σ (nI r) (nI p) = some (zpr (zlu S).2.2 r p, σ') ∧ zfm σ σ' := by
  obtain ⟨s1, e1, a1, m1⟩ := qX11_layAll hz hS hfu
  refine ⟨s1, ?_, m1⟩
  unfold m_X11_partnerNow
  rw [e1, Option.bind_some, a1.2.2.2.2.2.at hr hp, Option.bind_some]
theorem case_partner {fu : Nat} {u : zU} {a1 a2 : Int32} (hu : zUw u) (hfu : 400 < fu) : zStep (fun σ => m_L_partner fu σ a1 a2) (fun σ => m_X11_partner fu σ a1 a2) u := by
  rcases zpl_em a1 a2 u.1.1 with ⟨r, p, hr, hp, rfl, rfl⟩ | h1
  · have hle := hu.1.le hr
    refine ⟨0, zpr (zlu u.1).2.2 r p, u, by decide, hu, fun σ h => ?_, fun σ h => ?_⟩
    · obtain ⟨s1, e1, c1, f1⟩ := pX10_refresh (fu := fu) h hu (by omega)
      have e : m_X10_partner fu σ (nI r) (nI p) = some (.inr (zpr (zlu u.1).2.2 r p), s1) := by
        unfold m_X10_partner
        rw [pX10_isPlace h.1.1.1 hr hp, Option.bind_some, if_pos (by decide), e1, Option.bind_some, pX5_partnersOf hr, Option.bind_some, pX5_partner zc_35 c1.2.2.1.2.2.2.2.2 hr (by omega), Option.bind_some]
      unfold m_L_partner
      exact zLo_ok e rfl c1.i f1
    · have h0 := h.st (k := 7) (v := (0 : Int32)) (by decide) (by decide)
      obtain ⟨s2, e2, m2⟩ := qX11_partnerNow (fu := fu) (r := r) (p := p) h0.1 hu.1 hr (by omega) (by omega)
      refine zXo_ok ?_ (h0.m m2) (zst7.tr m2.x) (by rw [m2.f7]; exact zst_at)
      show m_X11_partner fu σ (nI r) (nI p) = _
      unfold m_X11_partner
      rw [qX11_isPlace1 h.1 hr hp, Option.bind_some, if_neg (by decide), Option.bind_some, zst_at, if_pos (by decide), e2, Option.bind_some]
  · refine ⟨1, 0, u, by decide, hu, fun σ h => ?_, fun σ h => ?_⟩
    · have e : m_X10_partner fu σ a1 a2 = some (.inl 0, σ) := by
        unfold m_X10_partner
        rw [pX10_isPlace0 h.1.1.1 h1, Option.bind_some, if_neg (by decide)]
      unfold m_L_partner
      exact zLo_no e rfl h zfc.rf (by decide)
    · refine zXo_no2 (b := 0) (σ' := σ) ?_ h zfx.rf (by decide)
      show m_X11_partner fu σ a1 a2 = _
      unfold m_X11_partner
      rw [qX11_isPlace0 h.1 h1, Option.bind_some, if_pos rfl, Option.bind_some, zst_at, if_neg (by decide)]
      rfl
def zbn (b : Bool) : Nat := if b then 1 else 0
/-- the numbers -/
def zco (u : zU) (w : Nat) : Nat :=
  if w = 0 then u.1.1 0 else if w = 1 then u.1.1 1 else if w = 2 then zcN u.1 else if w = 3 then ztN u.1 else if w = 4 then (zchn u.1).1 else if w = 5 then (zlu u.1).1 else if w = 6 then zcost u.1 else if w = 7 then zfree u.1 else if w = 8 then (zts (ztV u.1) (ztN u.1)).1 else if w = 9 then (zts (ztV u.1) (ztN u.1)).2.1 else if w = 10 then zlikes u.1 else if w = 11 then zout u.1 0 else if w = 12 then zout u.1 1 else if w = 13 then zbn (u.2.2.1.1 0) + zbn (u.2.2.1.1 1) else u.2.1.1
theorem zCF.grid {σ σ' : zmem} {u : zU} (h : zCF σ u) (hf : zfn σ σ' (35 + 19) (35 + 22)) : zCF σ' u := by
  have hc : ∀ a, a ≠ 54 → a ≠ 55 → a ≠ 56 → σ'.1 a = σ.1 a := fun a h1 h2 h3 => hf.1 a (by omega)
  obtain ⟨h1, h2, ⟨h3, h4, h5⟩, h6⟩ := h
  refine ⟨h1.keepn hf (by omega), by rw [hc 0 (by decide) (by decide) (by decide)]; exact h2, ⟨h3.keepn hf (by omega), ⟨by rw [hc _ (by decide) (by decide) (by decide)]; exact h4.1, fun j hj => by rw [hc _ (by decide) (by decide) (by decide)]; exact h4.2.1 j hj, fun k hk => by rw [hc _ (by decide) (by decide) (by decide), hc _ (by decide) (by decide) (by decide)]; exact h4.2.2 k hk⟩, ⟨by rw [hc _ (by decide) (by decide) (by decide)]; exact h5.1, by rw [hc _ (by decide) (by decide) (by decide)]; exact h5.2.1, fun g k hg hk => by rw [hc _ (by decide) (by decide) (by decide)]; exact h5.2.2.1 g k hg hk, h5.2.2.2.keep (hc _ (by decide) (by decide) (by decide)) (hc _ (by decide) (by decide) (by decide))⟩⟩, h6.keepa (fun a g1 g2 => hc a (by omega) (by omega) (by omega))⟩
theorem zbn_b {b : Bool} {x : Int32} (h : x = zb b) : ((if x = 0 then some (0 : Int32) else some (1 : Int32)) : Option Int32) = some (nI (zbn b)) := by
  rw [h]
  cases b <;> rfl
theorem pX10_number {fu : Nat} {σ : zmem} {u : zU} {w : Nat} (h : zCF σ u) (hu : zUw u) (hw : w < 15) (hfu : 400 < fu) : ∃ σ', m_X10_numberOf fu σ (nI w) = some (nI (zco u w), σ') ∧ zCF σ' u ∧ zfc σ σ' := by
  obtain ⟨s7, e7, f7⟩ := pX5_free (fu := fu) (i0 := 35) (b := 1) zc_35 h.1.1 hu.1 (by omega) (by omega)
  have r0 : m_X6_size fu σ 2 = some (nI (u.1.1 0)) := pX6_size h.1.1.1.2.1
  have r1 : m_X6_size fu σ 4 = some (nI (u.1.1 1)) := pX6_size h.1.1.1.2.2
  have cp := h.2.2.1.2.2.2.2.2
  have key : ∀ v, m_X10_numberOf fu σ (nI w) = some (nI v, σ) → v = zco u w → ∃ σ', m_X10_numberOf fu σ (nI w) = some (nI (zco u w), σ') ∧ zCF σ' u ∧ zfc σ σ' := fun v e ev => ⟨σ, by rw [← ev]; exact e, h, zfc.rf⟩
  rcases (show w = 0 ∨ w = 1 ∨ w = 2 ∨ w = 3 ∨ w = 4 ∨ w = 5 ∨ w = 6 ∨ w = 7 ∨ w = 8 ∨ w = 9 ∨ w = 10 ∨ w = 11 ∨ w = 12 ∨ w = 13 ∨ w = 14 by omega) with rfl | rfl | rfl | rfl | rfl | rfl | rfl | rfl | rfl | rfl | rfl | rfl | rfl | rfl | rfl
  · refine key (u.1.1 0) ?_ rfl
    unfold m_X10_numberOf
    rw [if_pos (show nI 0 = (0 : Int32) from rfl), r0, Option.bind_some]
  · refine key (u.1.1 1) ?_ rfl
    unfold m_X10_numberOf
    rw [if_neg (show ¬ nI 1 = (0 : Int32) by decide), if_pos (show nI 1 = (1 : Int32) from rfl), r1, Option.bind_some]
  · refine key (zcN u.1) ?_ rfl
    unfold m_X10_numberOf
    rw [if_neg (show ¬ nI 2 = (0 : Int32) by decide), if_neg (show ¬ nI 2 = (1 : Int32) by decide), if_pos (show nI 2 = (2 : Int32) from rfl), h.n]
  · refine key (ztN u.1) ?_ rfl
    unfold m_X10_numberOf
    rw [if_neg (show ¬ nI 3 = (0 : Int32) by decide), if_neg (show ¬ nI 3 = (1 : Int32) by decide), if_neg (show ¬ nI 3 = (2 : Int32) by decide), if_pos (show nI 3 = (3 : Int32) from rfl), show σ.1 92 2 = nI (ztN u.1) from h.2.2.2.1.1]
  · refine key (zchn u.1).1 ?_ rfl
    unfold m_X10_numberOf
    rw [if_neg (show ¬ nI 4 = (0 : Int32) by decide), if_neg (show ¬ nI 4 = (1 : Int32) by decide), if_neg (show ¬ nI 4 = (2 : Int32) by decide), if_neg (show ¬ nI 4 = (3 : Int32) by decide), if_pos (show nI 4 = (4 : Int32) from rfl), show σ.1 45 4 = nI (zchn u.1).1 from h.2.2.1.2.1.1]
  · refine key (zlu u.1).1 ?_ rfl
    unfold m_X10_numberOf
    rw [if_neg (show ¬ nI 5 = (0 : Int32) by decide), if_neg (show ¬ nI 5 = (1 : Int32) by decide), if_neg (show ¬ nI 5 = (2 : Int32) by decide), if_neg (show ¬ nI 5 = (3 : Int32) by decide), if_neg (show ¬ nI 5 = (4 : Int32) by decide), if_pos (show nI 5 = (5 : Int32) from rfl), show σ.1 35 2 = nI (zlu u.1).1 from h.2.2.1.2.2.1]
  · refine key (zcost u.1) ?_ rfl
    unfold m_X10_numberOf
    rw [if_neg (show ¬ nI 6 = (0 : Int32) by decide), if_neg (show ¬ nI 6 = (1 : Int32) by decide), if_neg (show ¬ nI 6 = (2 : Int32) by decide), if_neg (show ¬ nI 6 = (3 : Int32) by decide), if_neg (show ¬ nI 6 = (4 : Int32) by decide), if_neg (show ¬ nI 6 = (5 : Int32) by decide), if_pos (show nI 6 = (6 : Int32) from rfl), show σ.1 35 3 = nI (zcost u.1) from h.2.2.1.2.2.2.1]
  · refine ⟨s7, ?_, h.grid f7, f7.c (by omega)⟩
    unfold m_X10_numberOf
    rw [if_neg (show ¬ nI 7 = (0 : Int32) by decide), if_neg (show ¬ nI 7 = (1 : Int32) by decide), if_neg (show ¬ nI 7 = (2 : Int32) by decide), if_neg (show ¬ nI 7 = (3 : Int32) by decide), if_neg (show ¬ nI 7 = (4 : Int32) by decide), if_neg (show ¬ nI 7 = (5 : Int32) by decide), if_neg (show ¬ nI 7 = (6 : Int32) by decide), if_pos (show nI 7 = (7 : Int32) from rfl), e7, Option.bind_some]
    rfl
  · refine key (zts (ztV u.1) (ztN u.1)).1 ?_ rfl
    unfold m_X10_numberOf
    rw [if_neg (show ¬ nI 8 = (0 : Int32) by decide), if_neg (show ¬ nI 8 = (1 : Int32) by decide), if_neg (show ¬ nI 8 = (2 : Int32) by decide), if_neg (show ¬ nI 8 = (3 : Int32) by decide), if_neg (show ¬ nI 8 = (4 : Int32) by decide), if_neg (show ¬ nI 8 = (5 : Int32) by decide), if_neg (show ¬ nI 8 = (6 : Int32) by decide), if_neg (show ¬ nI 8 = (7 : Int32) by decide), if_pos (show nI 8 = (8 : Int32) from rfl), h.2.2.2.2.1]
  · refine key (zts (ztV u.1) (ztN u.1)).2.1 ?_ rfl
    unfold m_X10_numberOf
    rw [if_neg (show ¬ nI 9 = (0 : Int32) by decide), if_neg (show ¬ nI 9 = (1 : Int32) by decide), if_neg (show ¬ nI 9 = (2 : Int32) by decide), if_neg (show ¬ nI 9 = (3 : Int32) by decide), if_neg (show ¬ nI 9 = (4 : Int32) by decide), if_neg (show ¬ nI 9 = (5 : Int32) by decide), if_neg (show ¬ nI 9 = (6 : Int32) by decide), if_neg (show ¬ nI 9 = (7 : Int32) by decide), if_neg (show ¬ nI 9 = (8 : Int32) by decide), if_pos (show nI 9 = (9 : Int32) from rfl), h.2.2.2.2.2.1]
  · refine key (zlikes u.1) ?_ rfl
    unfold m_X10_numberOf
    rw [if_neg (show ¬ nI 10 = (0 : Int32) by decide), if_neg (show ¬ nI 10 = (1 : Int32) by decide), if_neg (show ¬ nI 10 = (2 : Int32) by decide), if_neg (show ¬ nI 10 = (3 : Int32) by decide), if_neg (show ¬ nI 10 = (4 : Int32) by decide), if_neg (show ¬ nI 10 = (5 : Int32) by decide), if_neg (show ¬ nI 10 = (6 : Int32) by decide), if_neg (show ¬ nI 10 = (7 : Int32) by decide), if_neg (show ¬ nI 10 = (8 : Int32) by decide), if_neg (show ¬ nI 10 = (9 : Int32) by decide), if_pos (show nI 10 = (10 : Int32) from rfl), pX5_like zc_35 h.1.1 hu.1 cp (by omega), Option.bind_some]
  · refine key (zout u.1 0) ?_ rfl
    have e := pX5_left (fu := fu) (r := 0) zc_35 hu.1 cp (by decide) (by omega)
    unfold m_X10_numberOf
    rw [if_neg (show ¬ nI 11 = (0 : Int32) by decide), if_neg (show ¬ nI 11 = (1 : Int32) by decide), if_neg (show ¬ nI 11 = (2 : Int32) by decide), if_neg (show ¬ nI 11 = (3 : Int32) by decide), if_neg (show ¬ nI 11 = (4 : Int32) by decide), if_neg (show ¬ nI 11 = (5 : Int32) by decide), if_neg (show ¬ nI 11 = (6 : Int32) by decide), if_neg (show ¬ nI 11 = (7 : Int32) by decide), if_neg (show ¬ nI 11 = (8 : Int32) by decide), if_neg (show ¬ nI 11 = (9 : Int32) by decide), if_neg (show ¬ nI 11 = (10 : Int32) by decide), if_pos (show nI 11 = (11 : Int32) from rfl), r0, Option.bind_some, l0, e, Option.bind_some]
  · refine key (zout u.1 1) ?_ rfl
    have e := pX5_left (fu := fu) (r := 1) zc_35 hu.1 cp (by decide) (by omega)
    unfold m_X10_numberOf
    rw [if_neg (show ¬ nI 12 = (0 : Int32) by decide), if_neg (show ¬ nI 12 = (1 : Int32) by decide), if_neg (show ¬ nI 12 = (2 : Int32) by decide), if_neg (show ¬ nI 12 = (3 : Int32) by decide), if_neg (show ¬ nI 12 = (4 : Int32) by decide), if_neg (show ¬ nI 12 = (5 : Int32) by decide), if_neg (show ¬ nI 12 = (6 : Int32) by decide), if_neg (show ¬ nI 12 = (7 : Int32) by decide), if_neg (show ¬ nI 12 = (8 : Int32) by decide), if_neg (show ¬ nI 12 = (9 : Int32) by decide), if_neg (show ¬ nI 12 = (10 : Int32) by decide), if_neg (show ¬ nI 12 = (11 : Int32) by decide), if_pos (show nI 12 = (12 : Int32) from rfl), r1, Option.bind_some, l1, e, Option.bind_some]
  · refine key (zbn (u.2.2.1.1 0) + zbn (u.2.2.1.1 1)) ?_ rfl
    unfold m_X10_numberOf
    rw [if_neg (show ¬ nI 13 = (0 : Int32) by decide), if_neg (show ¬ nI 13 = (1 : Int32) by decide), if_neg (show ¬ nI 13 = (2 : Int32) by decide), if_neg (show ¬ nI 13 = (3 : Int32) by decide), if_neg (show ¬ nI 13 = (4 : Int32) by decide), if_neg (show ¬ nI 13 = (5 : Int32) by decide), if_neg (show ¬ nI 13 = (6 : Int32) by decide), if_neg (show ¬ nI 13 = (7 : Int32) by decide), if_neg (show ¬ nI 13 = (8 : Int32) by decide), if_neg (show ¬ nI 13 = (9 : Int32) by decide), if_neg (show ¬ nI 13 = (10 : Int32) by decide), if_neg (show ¬ nI 13 = (11 : Int32) by decide), if_neg (show ¬ nI 13 = (12 : Int32) by decide), if_pos (show nI 13 = (13 : Int32) from rfl), zbn_b h.1.2.2.2.1, Option.bind_some, zbn_b h.1.2.2.2.2.1, Option.bind_some, nI_add]
  · refine key u.2.1.1 ?_ rfl
    unfold m_X10_numberOf m_X4_size
    rw [if_neg (show ¬ nI 14 = (0 : Int32) by decide), if_neg (show ¬ nI 14 = (1 : Int32) by decide), if_neg (show ¬ nI 14 = (2 : Int32) by decide), if_neg (show ¬ nI 14 = (3 : Int32) by decide), if_neg (show ¬ nI 14 = (4 : Int32) by decide), if_neg (show ¬ nI 14 = (5 : Int32) by decide), if_neg (show ¬ nI 14 = (6 : Int32) by decide), if_neg (show ¬ nI 14 = (7 : Int32) by decide), if_neg (show ¬ nI 14 = (8 : Int32) by decide), if_neg (show ¬ nI 14 = (9 : Int32) by decide), if_neg (show ¬ nI 14 = (10 : Int32) by decide), if_neg (show ¬ nI 14 = (11 : Int32) by decide), if_neg (show ¬ nI 14 = (12 : Int32) by decide), if_neg (show ¬ nI 14 = (13 : Int32) by decide), if_pos (show nI 14 = (14 : Int32) from rfl), h.1.2.1.2.2.1, Option.bind_some]
