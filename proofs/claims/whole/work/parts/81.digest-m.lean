/-! the reference's digest -/
def zH (σ : zmem) : Int64 := σ.2 103 29
theorem zsl_H {σ : zmem} {w : Int64} : zH (zsl σ 103 29 w) = w := by
  show (if 103 = 103 ∧ 29 = 29 then w else σ.2 103 29) = w
  exact if_pos ⟨rfl, rfl⟩
theorem zfx_sl {σ : zmem} {w : Int64} : zfx σ (zsl σ 103 29 w) := ⟨fun _ _ => rfl, fun a ha => funext fun k => if_neg (fun z => ha z.1)⟩
theorem zH_eq {σ σ' : zmem} (h : σ'.2 = σ.2) : zH σ' = zH σ := by
  unfold zH
  rw [h]
theorem zRI.sl {σ : zmem} {u : zU} {w : Int64} (h : zRI σ u) : zRI (zsl σ 103 29 w) u := h
theorem qX11_mix {fu : Nat} {σ : zmem} {v : Int64} : m_X11_mix fu σ v = some (zsl σ 103 29 (31 * zH σ + v)) := rfl
theorem loopFM {L : Nat → Int32 → zmem → Option zmem} {I : zmem → Prop} {g : Nat → Int64} {N : Nat} (h0 : ∀ n τ, I τ → L (n + 1) (nI N) τ = some τ) (h1 : ∀ n v τ, v < N → I τ → ∃ τ', L (n + 1) (nI v) τ = L n (nI (v + 1)) τ' ∧ I τ' ∧ zfx τ τ' ∧ zH τ' = 31 * zH τ + g v) {σ : zmem} (hI : I σ) {fu : Nat} (hfu : N < fu) : ∃ σ', L fu (nI 0) σ = some σ' ∧ I σ' ∧ zfx σ σ' ∧ zH σ' = zfl (zH σ) g N := by
  obtain ⟨σ', e, p1, p2, p3⟩ := loopP (L := L) (N := N) (P := fun v τ => I τ ∧ zfx σ τ ∧ zH τ = zfl (zH σ) g v)
    (fun n τ ⟨q1, _⟩ => h0 n τ q1)
    (fun n v τ hv ⟨q1, q2, q3⟩ => by
      obtain ⟨τ', e, g1, g2, g3⟩ := h1 n v τ hv q1
      exact ⟨τ', e, g1, q2.tr g2, by rw [g3, q3]; rfl⟩)
    fu 0 σ (by omega) (by omega) ⟨hI, zfx.rf, rfl⟩
  exact ⟨σ', e, p1, p2, p3⟩
theorem qX11_mixRow {fu : Nat} {σ : zmem} {u : zU} {r : Nat} (h : zRI σ u) (hu : zUw u) (hr : r < 2) (hfu : 100 < fu) : ∃ σ', m_X11_mixRow fu σ (nI r) = some σ' ∧ zRI σ' u ∧ zfx σ σ' ∧ zH σ' = zdRow u.1 r (zH σ) := by
  have hle := hu.1.le hr
  obtain ⟨s1, e1, i1, f1, h1⟩ := loopFM (L := l_X11_mixRow_2 fu (nI r)) (I := fun τ => zRI τ u) (g := fun j => (nI (u.1.2.1 r j)).toInt64) (N := u.1.1 r)
    (fun n τ q => by rw [l_X11_mixRow_2, qX11_signs q.1 hr, Option.bind_some, if_pos (nI_le (Nat.le_refl _) (by omega))])
    (fun n v τ hv q => ⟨_, by rw [l_X11_mixRow_2, qX11_signs q.1 hr, Option.bind_some, if_neg (nI_ge hv (by omega)), qX11_at q.1 hr hv, Option.bind_some, qX11_mix, Option.bind_some, za1], q.sl, zfx_sl, zsl_H⟩)
    h (fu := fu) (by omega)
  obtain ⟨s2, e2, i2, f2, h2⟩ := loopFM (L := l_X11_mixRow_30 fu (nI r)) (I := fun τ => zRI τ u) (g := fun j => (zpr (zlu u.1).2.2 r j).toInt64) (N := u.1.1 r)
    (fun n τ q => by rw [l_X11_mixRow_30, qX11_signs q.1 hr, Option.bind_some, if_pos (nI_le (Nat.le_refl _) (by omega))])
    (fun n v τ hv q => by
      obtain ⟨τ', e, m⟩ := qX11_partnerNow (fu := fu) (r := r) (p := v) q.1 hu.1 hr (by omega) hfu
      refine ⟨zsl τ' 103 29 (31 * zH τ' + (zpr (zlu u.1).2.2 r v).toInt64), ?_, (q.m m).sl, m.x.tr zfx_sl, by rw [zsl_H, zH_eq m.2.2]⟩
      rw [l_X11_mixRow_30, qX11_signs q.1 hr, Option.bind_some, if_neg (nI_ge hv (by omega)), e, Option.bind_some]
      dsimp only
      rw [qX11_mix, Option.bind_some, za1])
    i1 (fu := fu) (by omega)
  obtain ⟨s3, e3, i3, f3, h3⟩ := loopFM (L := l_X11_mixRow_58 fu (nI r)) (I := fun τ => zRI τ u) (g := fun w => (zdb (u.1.2.1 r) (u.1.1 r) w).toInt64) (N := 3)
    (fun n τ q => by rw [l_X11_mixRow_58, if_pos (by decide)])
    (fun n v τ hv q => ⟨_, by rw [l_X11_mixRow_58, if_neg (show ¬ (3 : Int32) ≤ nI v from nI_ge hv (by decide)), qX11_doubledNow q.1 hu.1 hr hv hfu, Option.bind_some, qX11_mix, Option.bind_some, za1], q.sl, zfx_sl, zsl_H⟩)
    i2 (fu := fu) (by omega)
  refine ⟨s3, ?_, i3, (f1.tr f2).tr f3, by rw [h3, h2, h1]; rfl⟩
  unfold m_X11_mixRow
  rw [l0, e1, Option.bind_some, e2, Option.bind_some, e3, Option.bind_some]
theorem r3m (g : Nat) : (3 : Int32) * nI g = nI (3 * g) := by rw [l3, pk_mul]
theorem r4m (g : Nat) : (4 : Int32) * nI g = nI (4 * g) := by rw [l4, pk_mul]
theorem r5m (g : Nat) : (5 : Int32) * nI g = nI (5 * g) := by rw [l5, pk_mul]
theorem qX11_digest {fu : Nat} {σ : zmem} {u : zU} (h : zRI σ u) (hu : zUw u) (hfu : 400 < fu) : ∃ σ', m_X11_digest fu σ = some (zdig u, σ') ∧ zRI σ' u ∧ zfx σ σ' := by
  have hN : zcN u.1 ≤ 23 := (zanc_in (t := false) hu.1).1
  have hT : ztN u.1 ≤ 23 := (zanc_in (t := true) hu.1).1
  have hG := zlu_le hu.1
  have h0 : zRI (zsl (zst σ 103 7 (0 : Int32)) 103 29 (2609 : Int64)) u := (h.st (by decide) (by decide)).sl
  have f0 : zfx σ (zsl (zst σ 103 7 (0 : Int32)) 103 29 (2609 : Int64)) := zst7.tr zfx_sl
  have H0 : zH (zsl (zst σ 103 7 (0 : Int32)) 103 29 (2609 : Int64)) = (2609 : Int64) := zsl_H
  obtain ⟨s1, e1, i1, f1, g1⟩ := loopFM (L := l_X11_digest_14 fu) (I := fun τ => zRI τ u) (g := fun w => (nI (zco u w)).toInt64) (N := 15)
    (fun n τ q => by rw [l_X11_digest_14, if_pos (by decide)])
    (fun n v τ hv q => by
      obtain ⟨τ', e, m⟩ := qX11_counted (fu := fu) (w := v) q hu hv hfu
      refine ⟨zsl τ' 103 29 (31 * zH τ' + (nI (zco u v)).toInt64), ?_, (q.m m).sl, m.x.tr zfx_sl, by rw [zsl_H, zH_eq m.2.2]⟩
      rw [l_X11_digest_14, if_neg (show ¬ (15 : Int32) ≤ nI v from nI_ge hv (by decide)), e, Option.bind_some]
      dsimp only
      rw [qX11_mix, Option.bind_some, za1])
    h0 (fu := fu) (by omega)
  obtain ⟨s2, e2, i2, f2, g2⟩ := loopFM (L := l_X11_digest_38 fu) (I := fun τ => zRI τ u) (g := fun k => (nI (u.1.2.2 k)).toInt64) (N := 4)
    (fun n τ q => by rw [l_X11_digest_38, if_pos (by decide)])
    (fun n v τ hv q => ⟨_, by rw [l_X11_digest_38, if_neg (show ¬ (4 : Int32) ≤ nI v from nI_ge hv (by decide)), qX11_set (fu := fu) q.1 hv, Option.bind_some, qX11_mix, Option.bind_some, za1], q.sl, zfx_sl, zsl_H⟩)
    i1 (fu := fu) (by omega)
  obtain ⟨s3, e3, i3, f3, g3⟩ := qX11_mixRow (fu := fu) (r := 0) i2 hu (by decide) (by omega)
  obtain ⟨s4, e4, i4, f4, g4⟩ := qX11_mixRow (fu := fu) (r := 1) i3 hu (by decide) (by omega)
  obtain ⟨s5, e5, a5, m5⟩ := qX11_layAll (fu := fu) i4.1 hu.1 (by omega)
  obtain ⟨s6, e6, i6, f6, g6⟩ := loopFM (L := l_X11_digest_81 fu (nI (zcN u.1))) (I := fun τ => zRI τ u ∧ τ.1 103 13 = nI (ztN u.1)) (g := fun k => (zaP u.1 (k / 4) (k % 4)).toInt64) (N := 4 * zcN u.1)
    (fun n τ q => by rw [l_X11_digest_81, r4m, if_pos (nI_le (Nat.le_refl _) (by omega))])
    (fun n v τ hv q => by
      obtain ⟨τ', e, t, m⟩ := qX11_anchorNow (fu := fu) (i := v / 4) (w := v % 4) q.1.1 hu.1 (by omega) (by omega) (by omega)
      refine ⟨zsl τ' 103 29 (31 * zH τ' + (zaP u.1 (v / 4) (v % 4)).toInt64), ?_, ⟨(q.1.m m).sl, t.1⟩, m.x.tr zfx_sl, by rw [zsl_H, zH_eq m.2.2]⟩
      rw [l_X11_digest_81, r4m, if_neg (nI_ge hv (by omega)), l4, pk_rem (by omega) (by decide) (by decide), pk_div (by omega) (by decide) (by decide), e, Option.bind_some]
      dsimp only
      rw [qX11_mix, Option.bind_some, za1])
    ⟨i4.m m5, a5.2.1.1⟩ (fu := fu) (by omega)
  obtain ⟨s7, e7, i7, f7, g7⟩ := loopFM (L := l_X11_digest_116 fu (nI (ztN u.1))) (I := fun τ => zRI τ u) (g := fun k => (ztP u.1 (k / 3) (k % 3)).toInt64) (N := 3 * ztN u.1)
    (fun n τ q => by rw [l_X11_digest_116, r3m, if_pos (nI_le (Nat.le_refl _) (by omega))])
    (fun n v τ hv q => by
      obtain ⟨τ', e, _, m⟩ := qX11_turnedNow (fu := fu) (i := v / 3) (w := v % 3) q.1 hu.1 (by omega) (by omega) (by omega)
      refine ⟨zsl τ' 103 29 (31 * zH τ' + (ztP u.1 (v / 3) (v % 3)).toInt64), ?_, (q.m m).sl, m.x.tr zfx_sl, by rw [zsl_H, zH_eq m.2.2]⟩
      rw [l_X11_digest_116, r3m, if_neg (nI_ge hv (by omega)), l3, pk_rem (by omega) (by decide) (by decide), pk_div (by omega) (by decide) (by decide), e, Option.bind_some]
      dsimp only
      rw [qX11_mix, Option.bind_some, za1])
    i6.1 (fu := fu) (by omega)
  obtain ⟨s8, e8, m8, _⟩ := qX11_laid (fu := fu) (w := 5) i7.1 hu.1 (by decide) (by omega)
  have i8 := i7.m m8
  obtain ⟨s9, e9, i9, f9, g9⟩ := loopFM (L := l_X11_digest_153 fu (nI (zlu u.1).1)) (I := fun τ => zRI τ u) (g := fun k => (zgP u.1 (k / 5) (k % 5)).toInt64) (N := 5 * (zlu u.1).1)
    (fun n τ q => by rw [l_X11_digest_153, r5m, if_pos (nI_le (Nat.le_refl _) (by omega))])
    (fun n v τ hv q => by
      obtain ⟨τ', e, m⟩ := qX11_gapNow (fu := fu) (g := v / 5) (w := v % 5) q.1 hu.1 (by omega) (by omega) (by omega)
      refine ⟨zsl τ' 103 29 (31 * zH τ' + (zgP u.1 (v / 5) (v % 5)).toInt64), ?_, (q.m m).sl, m.x.tr zfx_sl, by rw [zsl_H, zH_eq m.2.2]⟩
      rw [l_X11_digest_153, r5m, if_neg (nI_ge hv (by omega)), l5, pk_rem (by omega) (by decide) (by decide), pk_div (by omega) (by decide) (by decide), e, Option.bind_some]
      dsimp only
      rw [qX11_mix, Option.bind_some, za1])
    i8 (fu := fu) (by omega)
  obtain ⟨s10, e10, i10, f10, _, g10⟩ := qX11_setThen (fu := fu) (i := 0) (v := 2) i9 hu (by decide) (by decide) (by decide) (by omega)
  obtain ⟨s11, e11, i11, f11, _, g11⟩ := qX11_setThen (fu := fu) (i := 3) (v := 0) (i10.sl (w := 31 * zH s10 + (nI (zcost (zset u.1 0 2))).toInt64)) hu (by decide) (by decide) (by decide) (by omega)
  let s12 := zsl s11 103 29 (31 * zH s11 + (nI (zcost (zset u.1 3 0))).toInt64)
  have i12 : zRI s12 u := i11.sl
  have H9 : zH s9 = zd2 u := by
    rw [g9, zH_eq m8.2.2, g7, g6, zH_eq m5.2.2, g4, g3, g2, g1, H0]
    rfl
  have H10 : zH s10 = zd2 u := by rw [zH_eq g10, H9]
  have H11 : zH s11 = 31 * zd2 u + (nI (zcost (zset u.1 0 2))).toInt64 := by rw [zH_eq g11, zsl_H, H10]
  have H12 : zH s12 = zd3 u := by
    show zH (zsl s11 103 29 (31 * zH s11 + (nI (zcost (zset u.1 3 0))).toInt64)) = _
    rw [zsl_H, H11]
    rfl
  have e13 : ∃ s13, ((if nI (u.1.1 0) ≤ 0 then some s12 else (m_X11_changedThen fu s12 (0 : Int32) (0 : Int32) (0 : Int32)).bind fun x40 => (m_X11_mix fu x40.2 (x40.1.toInt64)).bind fun x41 => some x41) : Option (zmem)) = some s13 ∧ zRI s13 u ∧ zfx s12 s13 ∧ zH s13 = zd4 u := by
    have hl := hu.1.1
    unfold zd4
    by_cases c : 0 < u.1.1 0
    · obtain ⟨s, e, i, f, _, g⟩ := qX11_changedThen (fu := fu) (r := 0) (p := 0) (x := 0) i12 hu (by decide) c (by decide) (by omega)
      refine ⟨zsl s 103 29 (31 * zH s + (nI (zcost (zchg u.1 0 0 0))).toInt64), ?_, i.sl, f.tr zfx_sl, by rw [zsl_H, zH_eq g, H12, if_pos c]⟩
      rw [if_neg (nI_nle c (by omega)), show m_X11_changedThen fu s12 (0 : Int32) (0 : Int32) (0 : Int32) = _ from e, Option.bind_some]
      dsimp only
      rw [qX11_mix, Option.bind_some]
    · refine ⟨s12, ?_, i12, zfx.rf, by rw [H12, if_neg c]⟩
      rw [if_pos (show nI (u.1.1 0) ≤ 0 by rw [show u.1.1 0 = 0 by omega]; decide)]
  obtain ⟨s13, e13, i13, f13, H13⟩ := e13
  obtain ⟨s14, e14, i14, f14, _, g14⟩ := qX11_best (fu := fu) i13 hu (by omega)
  let s15 := zsl s14 103 29 (31 * zH s14 + (nI (zbest u.1)).toInt64)
  have i15 : zRI s15 u := i14.sl
  have H15 : zH s15 = 31 * zd4 u + (nI (zbest u.1)).toInt64 := by
    show zH (zsl s14 103 29 (31 * zH s14 + (nI (zbest u.1)).toInt64)) = _
    rw [zsl_H, zH_eq g14, H13]
  obtain ⟨s16, e16, m16⟩ := qX11_share (fu := fu) i15 hu (by omega)
  have i16 := i15.m m16
  let s17 := zsl s16 103 29 (31 * zH s16 + m_J_bits (zshare u.1))
  have i17 : zRI s17 u := i16.sl
  have H17 : zH s17 = zd5 u := by
    show zH (zsl s16 103 29 (31 * zH s16 + m_J_bits (zshare u.1))) = _
    rw [zsl_H, zH_eq m16.2.2, H15]
    rfl
  let s18 := zsl s17 103 29 (31 * zH s17 + (nI u.2.2.2.1).toInt64)
  have i18 : zRI s18 u := i17.sl
  have H18 : zH s18 = 31 * zd5 u + (nI u.2.2.2.1).toInt64 := by
    show zH (zsl s17 103 29 (31 * zH s17 + (nI u.2.2.2.1).toInt64)) = _
    rw [zsl_H, H17]
  have hL := h.2.2.1.1
  obtain ⟨s19, e19, i19, f19, g19⟩ := loopFM (L := l_X11_digest_258 fu) (I := fun τ => zRI τ u) (g := fun j => (nI (u.2.2.2.2 j)).toInt64) (N := u.2.2.2.1)
    (fun n τ q => by rw [l_X11_digest_258, q.2.2.1.2.1, if_pos (nI_le (Nat.le_refl _) (by omega))])
    (fun n v τ hv q => ⟨_, by rw [l_X11_digest_258, q.2.2.1.2.1, if_neg (nI_ge hv (by omega)), zrd_in zc_108 (show v < 60 by omega) (by decide), (q.2.2.1.2.2 v hv).1, Option.bind_some, qX11_mix, Option.bind_some, za1], q.sl, zfx_sl, zsl_H⟩)
    i18 (fu := fu) (by omega)
  have H19 : s19.2 103 29 = zdig u := by
    show zH s19 = _
    rw [g19, H18]
    rfl
  refine ⟨s19, ?_, i19, ((((((f0.tr f1).tr f2).tr f3).tr f4).tr (m5.x.tr f6)).tr ((f7.tr m8.x).tr (f9.tr f10))).tr (((zfx_sl.tr f11).tr (zfx_sl.tr f13)).tr ((f14.tr (zfx_sl.tr m16.x)).tr ((zfx_sl.tr zfx_sl).tr f19)))⟩
  unfold m_X11_digest
  rw [l0, show l_X11_digest_14 fu fu (nI 0) (zsl (zst σ 103 7 (nI 0)) 103 29 (2609 : Int64)) = some s1 from e1, Option.bind_some, e2, Option.bind_some, e3, Option.bind_some, show m_X11_mixRow fu s3 (1 : Int32) = some s4 from e4, Option.bind_some, e5, Option.bind_some, show s5.1 103 10 = nI (zcN u.1) from a5.1.1, e6, Option.bind_some, i6.2, e7, Option.bind_some, show m_X11_laidCount fu s7 (5 : Int32) = _ from e8, Option.bind_some]
  dsimp only
  rw [show l_X11_digest_153 fu (nI (if 5 = 2 then zcN u.1 else if 5 = 3 then ztN u.1 else if 5 = 4 then (zchn u.1).1 else (zlu u.1).1)) fu (nI 0) s8 = some s9 from e9, Option.bind_some, show m_X11_setThen fu s9 (nI 0) (2 : Int32) = _ from e10, Option.bind_some]
  dsimp only
  rw [qX11_mix, Option.bind_some, show m_X11_setThen fu (zsl s10 103 29 (31 * zH s10 + (nI (zcost (zset u.1 0 2))).toInt64)) (3 : Int32) (nI 0) = _ from e11, Option.bind_some]
  dsimp only
  rw [qX11_mix, Option.bind_some]
  show ((m_X11_signs fu s12 (nI 0)).bind _) = _
  rw [qX11_signs (r := 0) i12.1 (by decide), Option.bind_some]
  show (Option.bind ((if nI (u.1.1 0) ≤ 0 then some s12 else (m_X11_changedThen fu s12 (0 : Int32) (0 : Int32) (0 : Int32)).bind fun x40 => (m_X11_mix fu x40.2 (x40.1.toInt64)).bind fun x41 => some x41) : Option (zmem)) _) = _
  rw [e13, Option.bind_some, e14, Option.bind_some]
  dsimp only
  rw [qX11_mix, Option.bind_some]
  show ((m_X11_share fu s15).bind _) = _
  rw [e16, Option.bind_some]
  dsimp only
  rw [qX11_mix, Option.bind_some]
  show ((m_X11_mix fu s17 ((s17.1 103 5).toInt64)).bind _) = _
  rw [i17.2.2.1.2.1, qX11_mix, Option.bind_some]
  show ((l_X11_digest_258 fu fu (nI 0) s18).bind _) = _
  rw [e19, Option.bind_some, H19]
