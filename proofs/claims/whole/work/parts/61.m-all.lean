/-! the reference lines up -/
def zMa (σ : zmem) (S : zS) : Prop := zMn σ 10 109 (zanc S false) ∧ zMn σ 13 111 (zanc S true) ∧ zMc σ S ∧ zMg σ (zlu S)
theorem qX11_word {fu : Nat} {σ : zmem} {k : Nat} {S : zS} {P : zQp} (hz : zMz σ 104 0 S) (hS : zWf S) (ha : zMn σ 10 109 (zanc S false)) (hc : zMc σ S) (hk : k < (zchn S).1) (h : zMq σ P) (hfu : 100 < fu) : ∃ σ', l_X11_layAll_101 fu (nI k) fu (0 : Int32) σ = some σ' ∧ zMq σ' (zwp P (zlU S k) (zlV S k) (S.2.2 0)) ∧ zfr σ σ' [120] := by
  have h5 := hS.2.2.2
  have l0' := hS.1
  have l1' := hS.2.1
  have hA := zchn_in hS
  have hm := hA.2 k hk
  have hN : zcN S ≤ 23 := (zanc_in (t := false) hS).1
  obtain ⟨σ', e, p1, p2⟩ := loopP (L := l_X11_layAll_101 fu (nI k)) (N := S.2.2 0) (P := fun i τ => zfr σ τ [120] ∧ zMq τ (zwp P (zlU S k) (zlV S k) i))
    (fun m τ ⟨q1, _⟩ => by
      rw [l_X11_layAll_101, show zrd τ 104 (0 : Int32) = some (nI (S.2.2 0)) from qX11_set (fu := fu) (k := 0) (hz.keepr q1 (by simp)) (by decide)]
      simp only [Option.bind_some]
      rw [if_pos (nI_le (Nat.le_refl _) (by omega))])
    (fun m i τ hi ⟨q1, q2⟩ => by
      obtain ⟨τ', e1, c1, f1⟩ := qX11_lineUp (fu := fu) (u := zlU S k + i) (v := zlV S k + i) q2 (by omega) (by omega)
      refine ⟨τ', ?_, q1.tr f1, c1⟩
      have r1 : τ.1 116 k = nI ((zchn S).2.1 k) := by rw [q1.1 116 (by simp)]; exact hc.2.1 k hk
      have r2 : τ.1 109 ((zchn S).2.1 k) = nI (zlU S k) := by rw [q1.1 109 (by simp)]; exact (ha.2 _ hm.1).1
      have r3 : τ.1 110 ((zchn S).2.1 k) = nI (zlV S k) := by rw [q1.1 110 (by simp)]; exact (ha.2 _ hm.1).2
      rw [l_X11_layAll_101, show zrd τ 104 (0 : Int32) = some (nI (S.2.2 0)) from qX11_set (fu := fu) (k := 0) (hz.keepr q1 (by simp)) (by decide)]
      simp only [Option.bind_some]
      rw [if_neg (nI_ge hi (by omega)), zrd_in zc_116 (show k < 24 by omega) (by decide), r1]
      simp only [Option.bind_some]
      rw [zrd_in zc_109 (show (zchn S).2.1 k < 24 by omega) (by decide), r2, zrd_in zc_110 (show (zchn S).2.1 k < 24 by omega) (by decide), r3]
      simp only [Option.bind_some]
      rw [nI_add, nI_add, e1]
      simp only [Option.bind_some, za1])
    fu 0 σ (by omega) (by omega) ⟨zfr.rf, h⟩
  exact ⟨σ', e, p2, p1⟩
theorem zMc.keep {σ σ' : zmem} {S : zS} (h : zMc σ S) (h1 : σ'.1 103 18 = σ.1 103 18) (h2 : σ'.1 114 = σ.1 114) (h3 : σ'.1 115 = σ.1 115) (h4 : σ'.1 116 = σ.1 116) : zMc σ' S := ⟨h1.trans h.1, fun j hj => by rw [h4]; exact h.2.1 j hj, fun k hk => by rw [h2, h3]; exact h.2.2 k hk⟩
theorem qX11_layAll {fu : Nat} {σ : zmem} {S : zS} (hz : zMz σ 104 0 S) (hS : zWf S) (hfu : 100 < fu) : ∃ σ', m_X11_layAll fu σ = some σ' ∧ zMa σ' S ∧ zfm σ σ' := by
  have l0' := hS.1
  have l1' := hS.2.1
  have hw := hS.2.2.2
  have hA := zchn_in hS
  have hN : zcN S ≤ 23 := (zanc_in (t := false) hS).1
  obtain ⟨s1, e1, a1, t1, c1, m1⟩ := qX11_layChain hz hS hfu
  have z1 := hz.keepm m1
  let s2 := zst s1 103 22 (0 : Int32)
  obtain ⟨s3, e3, f3, w3⟩ := loopP (L := l_X11_layAll_11 fu) (N := 48) (P := fun v τ => zfr s2 τ [120] ∧ ∀ j, j < v → τ.1 120 j = zM1)
    (fun m τ _ => by rw [l_X11_layAll_11, l48, if_pos (nI_le (Nat.le_refl _) (by decide))])
    (fun m v τ hv ⟨q1, q2⟩ => by
      refine ⟨zrw τ 120 (upd (τ.1 120) v (-1 : Int32)), ?_, q1.tr (zfr_rw (by simp)), fun j hj => ?_⟩
      · rw [l_X11_layAll_11, l48, if_neg (nI_ge hv (by decide)), zwr_in zc_120 hv (by decide)]
        simp only [Option.bind_some, za1]
      · rw [zrw_at]
        by_cases c : j = v
        · rw [c, upd_at]
          rfl
        · rw [upd_ne c]
          exact q2 j (by omega))
    fu 0 s2 (by omega) (by omega) ⟨zfr.rf, fun j hj => absurd hj (Nat.not_lt_zero _)⟩
  have k3 : ∀ k, k ≠ 22 → s3.1 103 k = s1.1 103 k := fun k hk => by rw [f3.1 103 (by simp)]; exact zst_s hk
  have o3 : ∀ a, a ≠ 103 → a ≠ 120 → s3.1 a = s1.1 a := fun a h1 h2 => by rw [f3.1 a (by simp [h2])]; exact zst_1 h1
  have z3 : zMz s3 104 0 S := z1.keep (fun j _ => by rw [o3 104 (by decide) (by decide)])
  have a3 := a1.keep (k3 10 (by decide)) (o3 109 (by decide) (by decide)) (o3 110 (by decide) (by decide))
  have t3 := t1.keep (k3 13 (by decide)) (o3 111 (by decide) (by decide)) (o3 112 (by decide) (by decide))
  have c3 := c1.keep (k3 18 (by decide)) (o3 114 (by decide) (by decide)) (o3 115 (by decide) (by decide)) (o3 116 (by decide) (by decide))
  have g3 : zMg s3 zl0 := ⟨by rw [f3.1 103 (by simp)]; exact zst_at, fun g hg => absurd hg (Nat.not_lt_zero _), fun j hj => ⟨w3 j (by omega), w3 (24 + j) (by omega)⟩⟩
  obtain ⟨y, e4, p1, p2, p3, p3k, p4⟩ := loopG (L := fun n k (x : Int32 × Int32 × zmem) => l_X11_layAll_36 fu n x.1 x.2.1 (nI k) x.2.2) (N := (zchn S).1)
    (P := fun k x => x.1 = nI (zla S k).1 ∧ x.2.1 = nI (zla S k).2.1 ∧ zfr s3 x.2.2 [103, 117, 118, 119, 120, 121] ∧ (∀ j, j ≠ 22 → x.2.2.1 103 j = s3.1 103 j) ∧ zMg x.2.2 (zla S k).2.2)
    (R := fun x => x.1 = nI (zlE S).1 ∧ x.2.1 = nI (zlE S).2.1 ∧ zfr s3 x.2.2 [103, 117, 118, 119, 120, 121] ∧ (∀ j, j ≠ 22 → x.2.2.1 103 j = s3.1 103 j) ∧ zMg x.2.2 (zlE S).2.2)
    (fun n x ⟨q1, q2, q3, q3k, q4⟩ => ⟨x, by
      show l_X11_layAll_36 fu (n + 1) x.1 x.2.1 (nI (zchn S).1) x.2.2 = some x
      rw [l_X11_layAll_36, q3k 18 (by decide), c3.1, if_pos (nI_le (Nat.le_refl _) (by omega))], q1, q2, q3, q3k, q4⟩)
    (fun n k x hk ⟨q1, q2, q3, q3k, q4⟩ => by
      have zT := z3.keepr q3 (by simp)
      have aT := a3.keep (q3k 10 (by decide)) (q3.1 109 (by simp)) (q3.1 110 (by simp))
      have cT := c3.keep (q3k 18 (by decide)) (q3.1 114 (by simp)) (q3.1 115 (by simp)) (q3.1 116 (by simp))
      have hm := hA.2 k hk
      have hl := zla_in hS (Nat.le_of_lt hk)
      have hle := zla_le (S := S) k
      have r1 : ∀ τ : zmem, zfr s3 τ [103, 117, 118, 119, 120, 121] → zrd τ 116 (nI k) = some (nI ((zchn S).2.1 k)) := fun τ hτ => by
        rw [zrd_in zc_116 (show k < 24 by omega) (by decide), hτ.1 116 (by simp), c3.2.1 k hk]
      have r2 : ∀ τ : zmem, zfr s3 τ [103, 117, 118, 119, 120, 121] → zrd τ 109 (nI ((zchn S).2.1 k)) = some (nI (zlU S k)) := fun τ hτ => by
        rw [zrd_in zc_109 (show (zchn S).2.1 k < 24 by omega) (by decide), hτ.1 109 (by simp), (a3.2 _ hm.1).1]
        rfl
      have r3 : ∀ τ : zmem, zfr s3 τ [103, 117, 118, 119, 120, 121] → zrd τ 110 (nI ((zchn S).2.1 k)) = some (nI (zlV S k)) := fun τ hτ => by
        rw [zrd_in zc_110 (show (zchn S).2.1 k < 24 by omega) (by decide), hτ.1 110 (by simp), show s3.1 110 _ = _ from (a3.2 _ hm.1).2]
        rfl
      have gap : ∃ τ, ((if nI k = 0 then (m_X11_addGap fu x.2.2 (nI (zla S k).1) (nI (zlU S k) - nI (zla S k).1) (nI (zla S k).2.1) (nI (zlV S k) - nI (zla S k).2.1)).bind fun x24 => some x24 else (if 0 < (nI (zlU S k) - nI (zla S k).1) then (m_X11_addGap fu x.2.2 (nI (zla S k).1) (nI (zlU S k) - nI (zla S k).1) (nI (zla S k).2.1) (nI (zlV S k) - nI (zla S k).2.1)).bind fun x25 => some x25 else (if (nI (zlV S k) - nI (zla S k).2.1) ≤ 0 then some x.2.2 else (m_X11_addGap fu x.2.2 (nI (zla S k).1) (nI (zlU S k) - nI (zla S k).1) (nI (zla S k).2.1) (nI (zlV S k) - nI (zla S k).2.1)).bind fun x26 => some x26))) : Option (zmem)) = some τ ∧ zfr x.2.2 τ [103, 117, 118, 119, 120, 121] ∧ (∀ j, j ≠ 22 → τ.1 103 j = x.2.2.1 103 j) ∧ zMg τ (zlg S k (zla S k)) := by
        have doit : (k = 0 ∨ (zla S k).1 < zlU S k ∨ (zla S k).2.1 < zlV S k) → ∃ τ, m_X11_addGap fu x.2.2 (nI (zla S k).1) (nI (zlU S k) - nI (zla S k).1) (nI (zla S k).2.1) (nI (zlV S k) - nI (zla S k).2.1) = some τ ∧ zfr x.2.2 τ [103, 117, 118, 119, 120, 121] ∧ (∀ j, j ≠ 22 → τ.1 103 j = x.2.2.1 103 j) ∧ zMg τ (zlg S k (zla S k)) := fun c => by
          have hg := zla_gap hS hk c
          obtain ⟨τ, e, g1, g2, g3⟩ := qX11_addGap (fu := fu) (p := (zla S k).1) (m := zlU S k - (zla S k).1) (q := (zla S k).2.1) (n := zlV S k - (zla S k).2.1) zT hS q4 (by omega) (by omega) (by omega) hfu
          rw [pk_sub hg.1, pk_sub hg.2]
          refine ⟨τ, e, g2, g3, ?_⟩
          unfold zlg
          rw [if_pos c]
          exact g1
        by_cases c1 : k = 0
        · obtain ⟨τ, e, g1, g2⟩ := doit (Or.inl c1)
          rw [if_pos (show nI k = 0 by rw [c1]; rfl), e]
          exact ⟨τ, rfl, g1, g2⟩
        · rw [if_neg (nI_ne0 (by omega) (by omega))]
          by_cases c2 : (zla S k).1 < zlU S k
          · obtain ⟨τ, e, g1, g2⟩ := doit (Or.inr (Or.inl c2))
            rw [if_pos ((zsub_lt (by omega) (by omega)).mpr c2), e]
            exact ⟨τ, rfl, g1, g2⟩
          · rw [if_neg (fun z => c2 ((zsub_lt (by omega) (by omega)).mp z))]
            by_cases c3 : (zla S k).2.1 < zlV S k
            · obtain ⟨τ, e, g1, g2⟩ := doit (Or.inr (Or.inr c3))
              rw [if_neg (fun z => by have := (zsub_le (by omega) (by omega)).mp z; omega), e]
              exact ⟨τ, rfl, g1, g2⟩
            · rw [if_pos ((zsub_le (by omega) (by omega)).mpr (by omega))]
              refine ⟨_, rfl, zfr.rf, fun _ _ => rfl, ?_⟩
              unfold zlg
              rw [if_neg (by omega)]
              exact q4
      obtain ⟨τ, et, g1, g1k, g2⟩ := gap
      have zT2 := zT.keepr g1 (by simp)
      have aT2 := aT.keep (g1k 10 (by decide)) (g1.1 109 (by simp)) (g1.1 110 (by simp))
      have cT2 := cT.keep (g1k 18 (by decide)) (g1.1 114 (by simp)) (g1.1 115 (by simp)) (g1.1 116 (by simp))
      obtain ⟨τ2, e9, g3', f9⟩ := qX11_word (fu := fu) zT2 hS aT2 cT2 hk g2.2.2 hfu
      have f9' : zfr x.2.2 τ2 [103, 117, 118, 119, 120, 121] := g1.tr (f9.mono (by intro a; simp; omega))
      have w9 : zrd τ2 104 (0 : Int32) = some (nI (S.2.2 0)) := qX11_set (fu := fu) (k := 0) (zT2.keepr f9 (by simp)) (by decide)
      refine ⟨(nI (zlU S k + S.2.2 0), nI (zlV S k + S.2.2 0), τ2), ?_, rfl, rfl, q3.tr f9', fun j hj => ?_, ?_, fun g hg => ?_, g3'⟩
      · show l_X11_layAll_36 fu (n + 1) x.1 x.2.1 (nI k) x.2.2 = l_X11_layAll_36 fu n (nI (zlU S k + S.2.2 0)) (nI (zlV S k + S.2.2 0)) (nI (k + 1)) τ2
        rw [l_X11_layAll_36, cT.1, if_neg (nI_ge hk (by omega)), r1 _ q3]
        simp only [Option.bind_some]
        rw [r2 _ q3]
        simp only [Option.bind_some]
        rw [r3 _ q3]
        simp only [Option.bind_some]
        rw [q1, q2, et]
        simp only [Option.bind_some]
        rw [e9]
        simp only [Option.bind_some]
        rw [r1 _ (q3.tr f9')]
        simp only [Option.bind_some]
        rw [r2 _ (q3.tr f9')]
        simp only [Option.bind_some]
        rw [w9, r3 _ (q3.tr f9')]
        simp only [Option.bind_some]
        rw [nI_add, nI_add, za1]
      · show τ2.1 103 j = _
        rw [f9.1 103 (by simp), g1k j hj]
        exact q3k j hj
      · rw [f9.1 103 (by simp)]
        exact g2.1
      · rw [f9.1 117 (by simp), f9.1 118 (by simp), f9.1 119 (by simp)]
        exact g2.2.1 g hg)
    fu 0 ((0 : Int32), (0 : Int32), s3) (by omega) (by omega) ⟨rfl, rfl, zfr.rf, fun _ _ => rfl, g3⟩
  have e4 : l_X11_layAll_36 fu fu (0 : Int32) (0 : Int32) (0 : Int32) s3 = some y := e4
  have hE := zla_in hS (Nat.le_refl (zchn S).1)
  have hE1 : (zlE S).1 ≤ S.1 0 := hE.1
  have hE2 : (zlE S).2.1 ≤ S.1 1 := hE.2
  have hEl := zla_le (S := S) (zchn S).1
  have zT := z3.keepr p3 (by simp)
  obtain ⟨s5, e5, g5, f5, k5⟩ := qX11_addGap (fu := fu) (p := (zlE S).1) (m := S.1 0 - (zlE S).1) (q := (zlE S).2.1) (n := S.1 1 - (zlE S).2.1) zT hS p4 (show (zlE S).2.2.1 < 25 by show (zla S (zchn S).1).2.2.1 < 25; omega) (by omega) (by omega) hfu
  have f35 := p3.tr f5
  have k35 : ∀ k, k ≠ 22 → s5.1 103 k = s3.1 103 k := fun k hk => (k5 k hk).trans (p3k k hk)
  refine ⟨s5, ?_, ⟨a3.keep (k35 10 (by decide)) (f35.1 109 (by simp)) (f35.1 110 (by simp)), t3.keep (k35 13 (by decide)) (f35.1 111 (by simp)) (f35.1 112 (by simp)), c3.keep (k35 18 (by decide)) (f35.1 114 (by simp)) (f35.1 115 (by simp)) (f35.1 116 (by simp)), g5⟩, m1.tr ⟨fun a h1 h2 => ?_, fun k _ _ _ h4 => (k35 k h4).trans (k3 k h4), ?_⟩⟩
  · unfold m_X11_layAll
    rw [e1]
    simp only [Option.bind_some]
    rw [l0]
    show (l_X11_layAll_11 fu fu (nI 0) s2).bind _ = _
    rw [e3]
    simp only [Option.bind_some]
    show (l_X11_layAll_36 fu fu (0 : Int32) (0 : Int32) (0 : Int32) s3).bind _ = _
    rw [e4]
    simp only [Option.bind_some]
    rw [show m_X11_signs fu y.2.2 (nI 0) = _ from qX11_signs (r := 0) zT (by decide), show m_X11_signs fu y.2.2 (1 : Int32) = _ from qX11_signs (r := 1) zT (by decide)]
    simp only [Option.bind_some]
    rw [p1, p2, pk_sub hE1, pk_sub hE2, e5]
    rfl
  · rw [f35.1 a (by simp; omega), o3 a h1 (by omega)]
  · rw [f35.2, f3.2]
    rfl
theorem qX11_costNow {fu : Nat} {σ : zmem} {S : zS} (hz : zMz σ 104 0 S) (hS : zWf S) (hfu : 100 < fu) : ∃ σ', m_X11_costNow fu σ = some (nI (zcost S), σ') ∧ zMa σ' S ∧ zfm σ σ' := by
  obtain ⟨s1, e1, a1, m1⟩ := qX11_layAll hz hS hfu
  have hg : (zlu S).1 ≤ 25 := by
    have := zla_le (S := S) (zchn S).1
    have := (zchn_in hS).1
    show (zla S (zchn S).1).2.2.1 + 1 ≤ 25
    omega
  obtain ⟨y, e, hy⟩ := loopG (L := fun n v a => l_X11_costNow_8 fu s1 n a (nI v)) (N := (zlu S).1) (P := fun v a => a = nI (zsm (fun g => (zlu S).2.1 g 4) v)) (R := fun a => a = nI (zcost S))
    (fun n a hP => ⟨a, by
      show l_X11_costNow_8 fu s1 (n + 1) a (nI (zlu S).1) = some a
      rw [l_X11_costNow_8, a1.2.2.2.1, if_pos (nI_le (Nat.le_refl _) (by omega))], hP⟩)
    (fun n v a hv hP => ⟨nI (zsm (fun g => (zlu S).2.1 g 4) (v + 1)), by
      show l_X11_costNow_8 fu s1 (n + 1) a (nI v) = l_X11_costNow_8 fu s1 n (nI (zsm (fun g => (zlu S).2.1 g 4) v + (zlu S).2.1 v 4)) (nI (v + 1))
      rw [l_X11_costNow_8, a1.2.2.2.1, if_neg (nI_ge hv (by omega)), zrd_in zc_119 (show v < 25 by omega) (by decide), (a1.2.2.2.2.1 v hv).2.2.2.2, hP]
      simp only [Option.bind_some, nI_add, za1], rfl⟩)
    fu 0 (0 : Int32) (by omega) (by omega) rfl
  have e : l_X11_costNow_8 fu s1 fu (0 : Int32) (0 : Int32) = some y := e
  refine ⟨s1, ?_, a1, m1⟩
  unfold m_X11_costNow
  rw [e1]
  simp only [Option.bind_some]
  rw [e, hy]
  rfl
