/-! the reference: its text -/
theorem qX11_isSign {fu : Nat} {σ : zmem} {c : Nat} (h : c ≤ 126) : m_X11_isSign fu σ (nI c - (97 : Int32)) = some (if 97 ≤ c ∧ c ≤ 100 then 1 else 0) := by
  have k : ∀ c, c < 127 → m_X11_isSign 0 (fun _ _ => 0, fun _ _ => 0) (nI c - (97 : Int32)) = some (if 97 ≤ c ∧ c ≤ 100 then 1 else 0) := by decide +kernel
  exact k c (by omega)
theorem qX11_isNumber {fu : Nat} {σ : zmem} {c : Nat} (h : c ≤ 126) : m_X11_within fu σ (nI c) (50 : Int32) (57 : Int32) = some (if 50 ≤ c ∧ c ≤ 57 then 1 else 0) := by
  have k : ∀ c, c < 127 → m_X11_within 0 (fun _ _ => 0, fun _ _ => 0) (nI c) (50 : Int32) (57 : Int32) = some (if 50 ≤ c ∧ c ≤ 57 then 1 else 0) := by decide +kernel
  exact k c (by omega)
def zMp (σ : zmem) (P : zPs) : Prop := σ.1 103 27 = nI P.2.2.1 ∧ σ.1 103 28 = zb P.2.2.2 ∧ (∀ r, r < 2 → σ.1 123 r = nI (P.1 r)) ∧ ∀ r j, r < 2 → j < P.1 r → σ.1 122 (24 * r + j) = nI (P.2.1 r j)
/-- the lengths and signs after q signs x are added to row r -/
def zPa (P : zPs) (q x : Nat) (o : Bool) : zPs := (fun r => if r = P.2.2.1 then P.1 r + q else P.1 r, fun r j => if r = P.2.2.1 ∧ P.1 r ≤ j then x else P.2.1 r j, P.2.2.1, o)
theorem qX11_takes_l {fu : Nat} {σ : zmem} {P : zPs} {q x c : Nat} {o : Bool} (hP : zPi P) (h : zMp σ (P.1, P.2.1, P.2.2.1, o)) (hq : P.1 P.2.2.1 + q ≤ 24) (hx : if o then nI c - (97 : Int32) = nI x else 1 ≤ P.1 P.2.2.1 ∧ x = P.2.1 P.2.2.1 (P.1 P.2.2.1 - 1)) (hfu : 100 < fu) :
    ∃ σ', l_X11_takes_137 fu (nI c) (nI (P.1 P.2.2.1)) (nI q) 1 fu (0 : Int32) σ = some σ' ∧ zMp σ' (zPa P q x o) ∧ zfr σ σ' [122, 123] := by
  have hle := hP.1
  obtain ⟨σ', e, p1, p2⟩ := loopP (L := l_X11_takes_137 fu (nI c) (nI (P.1 P.2.2.1)) (nI q) 1) (N := q) (P := fun v τ => zfr σ τ [122, 123] ∧ zMp τ (zPa P v x o))
    (fun m τ _ => by rw [l_X11_takes_137, if_neg (by decide), if_pos (nI_le (Nat.le_refl _) (by omega))])
    (fun n v τ hv ⟨q1, q2, q3, q4, q5⟩ => by
      have q2 : τ.1 103 27 = nI P.2.2.1 := q2
      have q3 : τ.1 103 28 = zb o := q3
      have hb : 24 * P.2.2.1 + P.1 P.2.2.1 + v < 48 := by omega
      refine ⟨zrw (zrw τ 122 (upd (τ.1 122) (24 * P.2.2.1 + P.1 P.2.2.1 + v) (nI x))) 123 (upd (τ.1 123) P.2.2.1 (nI (P.1 P.2.2.1 + (v + 1)))), ?_, q1.tr ((zfr_rw (by simp)).tr (zfr_rw (by simp))), ?_, ?_, fun r hr => ?_, fun r j hr hj => ?_⟩
      · rw [l_X11_takes_137, if_neg (by decide), if_neg (nI_ge hv (by omega)), q3, q2, l24m, nI_add, nI_add]
        have e2 : (if zb o = 0 then (zrd τ 122 (nI (24 * P.2.2.1 + P.1 P.2.2.1) - (1 : Int32))).bind fun x11 => some x11 else some (nI c - (97 : Int32))) = some (nI x) := by
          cases o
          · obtain ⟨h3, h4⟩ := (show 1 ≤ P.1 P.2.2.1 ∧ x = P.2.1 P.2.2.1 (P.1 P.2.2.1 - 1) from hx)
            rw [if_pos (by decide), zs1 (by omega), zrd_in zc_122 (by omega) (by decide)]
            have := q5 P.2.2.1 (P.1 P.2.2.1 - 1) (by omega) (by show _ < (if P.2.2.1 = P.2.2.1 then P.1 P.2.2.1 + v else P.1 P.2.2.1); rw [if_pos rfl]; omega)
            rw [show 24 * P.2.2.1 + P.1 P.2.2.1 - 1 = 24 * P.2.2.1 + (P.1 P.2.2.1 - 1) by omega, this]
            show some (nI (if P.2.2.1 = P.2.2.1 ∧ P.1 P.2.2.1 ≤ P.1 P.2.2.1 - 1 then x else P.2.1 P.2.2.1 (P.1 P.2.2.1 - 1))) = some (nI x)
            rw [if_neg (by omega), ← h4]
          · rw [if_neg (by decide)]
            exact congrArg some hx
        rw [e2]
        simp only [Option.bind_some]
        rw [zwr_in zc_122 hb (by decide)]
        simp only [Option.bind_some]
        have e3 : τ.1 123 P.2.2.1 = nI (P.1 P.2.2.1 + v) := by
          have := q4 P.2.2.1 (by omega)
          rw [this]
          show nI (if P.2.2.1 = P.2.2.1 then P.1 P.2.2.1 + v else P.1 P.2.2.1) = _
          rw [if_pos rfl]
        rw [zrw_ne (by decide), q2, zrd_in zc_123 (show P.2.2.1 < 2 by omega) (by decide), zrw_ne (by decide), e3]
        simp only [Option.bind_some]
        rw [zwr_in zc_123 (show P.2.2.1 < 2 by omega) (by decide), zrw_ne (by decide)]
        simp only [Option.bind_some, za1]
        rfl
      · rw [zrw_ne (by decide), zrw_ne (by decide)]; exact q2
      · rw [zrw_ne (by decide), zrw_ne (by decide)]; exact q3
      · rw [zrw_at]
        show _ = nI (if r = P.2.2.1 then P.1 r + (v + 1) else P.1 r)
        by_cases c1 : r = P.2.2.1
        · rw [if_pos c1, c1, upd_at]
        · rw [if_neg c1, upd_ne c1, q4 r hr]
          show nI (if r = P.2.2.1 then P.1 r + v else P.1 r) = _
          rw [if_neg c1]
      · rw [zrw_ne (by decide), zrw_at]
        have hj : j < (if r = P.2.2.1 then P.1 r + (v + 1) else P.1 r) := hj
        have hl := hP.2.2.2.1 r
        show _ = nI (if r = P.2.2.1 ∧ P.1 r ≤ j then x else P.2.1 r j)
        by_cases c1 : r = P.2.2.1
        · rw [if_pos c1] at hj
          by_cases c2 : j = P.1 r + v
          · rw [if_pos ⟨c1, by omega⟩, show 24 * r + j = 24 * P.2.2.1 + P.1 P.2.2.1 + v by rw [← c1]; omega, upd_at]
          · rw [upd_ne (by rw [← c1]; omega)]
            exact q5 r j hr (by show j < (if r = P.2.2.1 then P.1 r + v else P.1 r); rw [if_pos c1]; omega)
        · rw [if_neg c1] at hj
          rw [upd_ne (by omega)]
          exact q5 r j hr (by show j < (if r = P.2.2.1 then P.1 r + v else P.1 r); rw [if_neg c1]; omega))
    fu 0 σ (by omega) (by omega) ⟨zfr.rf, h.1, h.2.1, fun r hr => by
        rw [h.2.2.1 r hr]
        show nI (P.1 r) = nI (if r = P.2.2.1 then P.1 r + 0 else P.1 r)
        split <;> rfl, fun r j hr hj => by
        have hj : j < (if r = P.2.2.1 then P.1 r + 0 else P.1 r) := hj
        have hj : j < P.1 r := by split at hj <;> exact hj
        rw [h.2.2.2 r j hr hj]
        show nI (P.2.1 r j) = nI (if r = P.2.2.1 ∧ P.1 r ≤ j then x else P.2.1 r j)
        rw [if_neg (by omega)]⟩
  exact ⟨σ', e, p2, p1⟩
theorem zbo_b {p : Prop} [Decidable p] : zbo (if p then (1 : Int32) else 0) = some (if p then 1 else 0) := by
  unfold zbo
  by_cases h : p
  · rw [if_pos h, if_pos (Or.inr rfl)]
  · rw [if_neg h, if_pos (Or.inl rfl)]
theorem zMp.st {σ : zmem} {P : zPs} {b : Bool} (h : zMp σ P) : zMp (zst σ 103 28 (zb b)) (P.1, P.2.1, P.2.2.1, b) :=
  ⟨(zst_s (by decide)).trans h.1, zst_at, fun r hr => (congrFun (zst_1 (by decide)) _).trans (h.2.2.1 r hr), fun r j hr hj => (congrFun (zst_1 (by decide)) _).trans (h.2.2.2 r j hr hj)⟩
theorem qX11_takes {fu : Nat} {σ : zmem} {P : zPs} {c : Nat} (hP : zPi P) (h : zMp σ P) (hc : 33 ≤ c ∧ c ≤ 126) (hfu : 100 < fu) :
    ∃ σ' v, m_X11_takes fu σ (nI c) = some (v, σ') ∧ (zPt c P = none → v = 0) ∧ (∀ P', zPt c P = some P' → v = 1 ∧ zMp σ' P') ∧ zfr σ σ' [103, 122, 123] ∧ ∀ k, k ≠ 27 → k ≠ 28 → σ'.1 103 k = σ.1 103 k := by
  have hle := hP.1
  obtain ⟨hP1, hP2, hP3, hP4, hP5⟩ := hP
  unfold m_X11_takes
  have f0 : zfr σ (zst σ 103 28 (0 : Int32)) [103, 122, 123] := zfr_st (by simp)
  by_cases c1 : c = 47
  · rw [if_neg (show ¬ ¬ nI c = (47 : Int32) from fun q => q (congrArg nI c1))]
    have e1 : (zst σ 103 28 (0 : Int32)).1 103 27 + (1 : Int32) = nI (P.2.2.1 + 1) := by rw [zst_s (by decide), h.1, za1]
    rw [e1, zst_at]
    have fr : ∀ k, k ≠ 27 → k ≠ 28 → (zst (zst σ 103 28 (0 : Int32)) 103 27 (nI (P.2.2.1 + 1))).1 103 k = σ.1 103 k := fun k k1 k2 => by rw [zst_s k1, zst_s k2]
    by_cases c2 : P.2.2.1 = 0
    · have e2 : zPt c P = some (P.1, P.2.1, 1, false) := by unfold zPt; rw [if_pos c1, if_pos c2]
      rw [c2, if_neg (show ¬ ¬ nI (0 + 1) = (1 : Int32) from fun q => q rfl)]
      refine ⟨_, _, rfl, fun q => (by rw [e2] at q; cases q), fun P' q => ?_, f0.tr (zfr_st (by simp)), by rw [← c2]; exact fr⟩
      rw [e2] at q
      cases q
      exact ⟨rfl, zst_at, (zst_s (by decide)).trans zst_at, fun r hr => by rw [zst_1 (by decide), zst_1 (by decide)]; exact h.2.2.1 r hr, fun r j hr hj => by rw [zst_1 (by decide), zst_1 (by decide)]; exact h.2.2.2 r j hr hj⟩
    · have e2 : zPt c P = none := by unfold zPt; rw [if_pos c1, if_neg c2]
      rw [if_pos (show ¬ nI (P.2.2.1 + 1) = (1 : Int32) from fun q => absurd ((nI_eq (a := P.2.2.1 + 1) (b := 1) (by omega) (by omega)).mp q) (by omega))]
      exact ⟨_, _, rfl, fun _ => rfl, fun P' q => (by rw [e2] at q; cases q), f0.tr (zfr_st (by simp)), fr⟩
  · rw [if_pos (show ¬ nI c = (47 : Int32) from fun q => c1 ((nI_eq (by omega) (by decide)).mp q))]
    have e1 : (zrd (zst σ 103 28 (0 : Int32)) 123 ((zst σ 103 28 (0 : Int32)).1 103 27)) = some (nI (P.1 P.2.2.1)) := by
      rw [zst_s (by decide), h.1, zrd_in zc_123 (show P.2.2.1 < 2 by omega) (by decide), zst_1 (by decide), h.2.2.1 _ (by omega)]
    rw [e1]
    simp only [Option.bind_some, qX11_isSign hc.2, qX11_isNumber hc.2]
    have bad : ∀ (x3 : Int32), zPt c P = none → (if x3 ≤ 0 then some (0 : Int32) else (if (24 : Int32) < (nI (P.1 P.2.2.1) + x3) then some (0 : Int32) else some (1 : Int32))) = some 0 → ∃ σ' v, (((if x3 ≤ 0 then some (0 : Int32) else (if (24 : Int32) < (nI (P.1 P.2.2.1) + x3) then some (0 : Int32) else some (1 : Int32))) : Option (Int32)).bind fun x4 => ((if x4 = 0 then some (0 : Int32) else (if (if 97 ≤ c ∧ c ≤ 100 then (1 : Int32) else 0) = 0 then some (0 : Int32) else some (1 : Int32))) : Option (Int32)).bind fun x5 => (zbo x5).bind fun b6 => (l_X11_takes_137 fu (nI c) (nI (P.1 P.2.2.1)) x3 x4 fu (0 : Int32) (zst (zst σ 103 28 (0 : Int32)) 103 28 x5)).bind fun x15 => (zbo x4).bind fun b16 => some (x4, x15)) = some (v, σ') ∧ (zPt c P = none → v = 0) ∧ (∀ P', zPt c P = some P' → v = 1 ∧ zMp σ' P') ∧ zfr σ σ' [103, 122, 123] ∧ ∀ k, k ≠ 27 → k ≠ 28 → σ'.1 103 k = σ.1 103 k := by
      intro x3 e2 e3
      rw [e3]
      obtain ⟨n, rfl⟩ : ∃ n, fu = n + 1 := ⟨fu - 1, by omega⟩
      refine ⟨zst (zst σ 103 28 (0 : Int32)) 103 28 0, 0, ?_, fun _ => rfl, fun P' q => (by rw [e2] at q; cases q), f0.tr (zfr_st (by simp)), fun k k1 k2 => by rw [zst_s k2, zst_s k2]⟩
      simp only [Option.bind_some, if_pos]
      rw [show zbo 0 = some 0 from rfl]
      simp only [Option.bind_some]
      rw [l_X11_takes_137, if_pos rfl]
      rfl
    have good : ∀ (q x : Nat) (o : Bool), zPt c P = some (zPa P q x o) → 1 ≤ q → P.1 P.2.2.1 + q ≤ 24 → (if o then nI c - (97 : Int32) = nI x else 1 ≤ P.1 P.2.2.1 ∧ x = P.2.1 P.2.2.1 (P.1 P.2.2.1 - 1)) → (if (if 97 ≤ c ∧ c ≤ 100 then (1 : Int32) else 0) = 0 then some (0 : Int32) else some (1 : Int32)) = some (zb o) → ∃ σ' v, (((if nI q ≤ 0 then some (0 : Int32) else (if (24 : Int32) < (nI (P.1 P.2.2.1) + nI q) then some (0 : Int32) else some (1 : Int32))) : Option (Int32)).bind fun x4 => ((if x4 = 0 then some (0 : Int32) else (if (if 97 ≤ c ∧ c ≤ 100 then (1 : Int32) else 0) = 0 then some (0 : Int32) else some (1 : Int32))) : Option (Int32)).bind fun x5 => (zbo x5).bind fun b6 => (l_X11_takes_137 fu (nI c) (nI (P.1 P.2.2.1)) (nI q) x4 fu (0 : Int32) (zst (zst σ 103 28 (0 : Int32)) 103 28 x5)).bind fun x15 => (zbo x4).bind fun b16 => some (x4, x15)) = some (v, σ') ∧ (zPt c P = none → v = 0) ∧ (∀ P', zPt c P = some P' → v = 1 ∧ zMp σ' P') ∧ zfr σ σ' [103, 122, 123] ∧ ∀ k, k ≠ 27 → k ≠ 28 → σ'.1 103 k = σ.1 103 k := by
      intro q x o e2 hq hq2 hx e4
      rw [if_neg (nI_nle (by omega) (by omega)), nI_add, l24, if_neg (nI_nlt (by omega) (by omega)), e4]
      have g0 : zMp (zst (zst σ 103 28 (0 : Int32)) 103 28 (zb o)) (P.1, P.2.1, P.2.2.1, o) := zMp.st (P := (P.1, P.2.1, P.2.2.1, false)) (zMp.st (b := false) h)
      obtain ⟨σ', e5, g5, f5⟩ := qX11_takes_l (fu := fu) (q := q) (x := x) (c := c) (o := o) ⟨hP1, hP2, hP3, hP4, hP5⟩ g0 hq2 hx hfu
      refine ⟨σ', 1, ?_, fun k => (by rw [e2] at k; cases k), fun P' k => ?_, (f0.tr (zfr_st (by simp))).tr (f5.mono (by intro a; simp; omega)), fun k k1 k2 => by rw [f5.1 103 (by simp), zst_s k2, zst_s k2]⟩
      · simp only [Option.bind_some]
        rw [if_neg (show ¬ (1 : Int32) = 0 by decide)]
        simp only [Option.bind_some]
        rw [show zbo (zb o) = some (zb o) by cases o <;> rfl]
        simp only [Option.bind_some]
        rw [e5]
        rfl
      · rw [e2] at k
        cases k
        exact ⟨rfl, g5⟩
    have hb28 : σ.1 103 28 = zb P.2.2.2 := h.2.1
    have ex : ∀ v : Int32, ((if (if 97 ≤ c ∧ c ≤ 100 then (1 : Int32) else 0) = 0 then (if σ.1 103 28 = 0 then some (0 : Int32) else (if (if 50 ≤ c ∧ c ≤ 57 then (1 : Int32) else 0) = 0 then some (0 : Int32) else some (nI c - (49 : Int32)))) else some (1 : Int32)) : Option Int32) = some v → ((((if (if 97 ≤ c ∧ c ≤ 100 then (1 : Int32) else 0) = 0 then (if σ.1 103 28 = 0 then some (0 : Int32) else (if (if 50 ≤ c ∧ c ≤ 57 then (1 : Int32) else 0) = 0 then some (0 : Int32) else some (nI c - (49 : Int32)))) else some (1 : Int32)) : Option Int32)).bind fun x3 => ((if x3 ≤ 0 then some (0 : Int32) else (if (24 : Int32) < (nI (P.1 P.2.2.1) + x3) then some (0 : Int32) else some (1 : Int32))) : Option (Int32)).bind fun x4 => ((if x4 = 0 then some (0 : Int32) else (if (if 97 ≤ c ∧ c ≤ 100 then (1 : Int32) else 0) = 0 then some (0 : Int32) else some (1 : Int32))) : Option (Int32)).bind fun x5 => (zbo x5).bind fun b6 => (l_X11_takes_137 fu (nI c) (nI (P.1 P.2.2.1)) x3 x4 fu (0 : Int32) (zst (zst σ 103 28 (0 : Int32)) 103 28 x5)).bind fun x15 => (zbo x4).bind fun b16 => some (x4, x15)) = (((if v ≤ 0 then some (0 : Int32) else (if (24 : Int32) < (nI (P.1 P.2.2.1) + v) then some (0 : Int32) else some (1 : Int32))) : Option (Int32)).bind fun x4 => ((if x4 = 0 then some (0 : Int32) else (if (if 97 ≤ c ∧ c ≤ 100 then (1 : Int32) else 0) = 0 then some (0 : Int32) else some (1 : Int32))) : Option (Int32)).bind fun x5 => (zbo x5).bind fun b6 => (l_X11_takes_137 fu (nI c) (nI (P.1 P.2.2.1)) v x4 fu (0 : Int32) (zst (zst σ 103 28 (0 : Int32)) 103 28 x5)).bind fun x15 => (zbo x4).bind fun b16 => some (x4, x15)) := by
      intro v hv
      rw [hv]
      rfl
    by_cases hA : 97 ≤ c ∧ c ≤ 100
    · have e3 := ex (nI 1) (by rw [if_pos hA, if_neg (by decide)]; rfl)
      rw [e3]
      by_cases c3 : P.1 P.2.2.1 < 24
      · refine good 1 (c - 97) true ?_ (by omega) (by omega) ?_ ?_
        · unfold zPt zPa
          rw [if_neg c1, if_pos hA, if_pos c3]
        · rw [if_pos rfl, show (97 : Int32) = nI 97 from rfl, pk_sub hA.1]
        · rw [if_pos hA, if_neg (by decide)]; rfl
      · refine bad (nI 1) ?_ ?_
        · unfold zPt
          rw [if_neg c1, if_pos hA, if_neg c3]
        · rw [if_neg (by decide), nI_add, l24, if_pos (nI_lt (by omega) (by have := hP4 P.2.2.1; omega))]
    · by_cases hB : (50 ≤ c ∧ c ≤ 57) ∧ P.2.2.2 = true
      · have hp1 := hP3 hB.2
        have e3 := ex (nI (c - 49)) (by rw [if_neg hA, if_pos rfl, hb28, hB.2, if_neg (show ¬ zb true = 0 by decide), if_pos hB.1, if_neg (by decide), show (49 : Int32) = nI 49 from rfl, pk_sub (by omega)])
        rw [e3]
        by_cases hD : P.1 P.2.2.1 + (c - 49) ≤ 24
        · refine good (c - 49) (P.2.1 P.2.2.1 (P.1 P.2.2.1 - 1)) false ?_ (by omega) hD ?_ ?_
          · unfold zPt zPa
            rw [if_neg c1, if_neg hA, if_pos ⟨hB.2, hB.1.1, hB.1.2, hD⟩]
            refine congrArg some (Prod.ext rfl (Prod.ext (funext fun r => funext fun j => ?_) rfl))
            dsimp only
            by_cases c4 : r = P.2.2.1 ∧ P.1 r ≤ j
            · rw [if_pos c4, if_pos c4, c4.1]
            · rw [if_neg c4, if_neg c4]
          · exact ⟨hp1, rfl⟩
          · rw [if_neg hA, if_pos rfl]; rfl
        · refine bad (nI (c - 49)) ?_ ?_
          · unfold zPt
            rw [if_neg c1, if_neg hA, if_neg (fun q => hD q.2.2.2)]
          · rw [if_neg (nI_nle (by omega) (by omega)), nI_add, l24, if_pos (nI_lt (by omega) (by have := hP4 P.2.2.1; omega))]
      · have e3 := ex 0 (by
          rw [if_neg hA, if_pos rfl, hb28]
          by_cases c5 : P.2.2.2 = true
          · rw [c5, if_neg (show ¬ zb true = 0 by decide), if_neg (fun q => hB ⟨q, c5⟩), if_pos rfl]
          · rw [if_pos (show zb P.2.2.2 = 0 by unfold zb; rw [if_neg c5])])
        rw [e3]
        refine bad 0 ?_ (by rw [if_pos (by decide)])
        unfold zPt
        rw [if_neg c1, if_neg hA, if_neg (fun q => hB ⟨⟨q.2.1, q.2.2.1⟩, q.1⟩)]
