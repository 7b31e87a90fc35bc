/-! snapshots and undo, both sides -/
theorem pX10_isSnap1 {fu : Nat} {σ : zmem} {r : Nat} (h : r < 2) : m_X10_isSnapshot fu σ (nI r) = some 1 := by
  rcases (show r = 0 ∨ r = 1 by omega) with rfl | rfl <;> rfl
theorem pX10_isSnap0 {fu : Nat} {σ : zmem} {a : Int32} (h : ∀ k, 0 ≤ k → k ≤ 1 → a ≠ nI k) : m_X10_isSnapshot fu σ a = some 0 := by
  unfold m_X10_isSnapshot
  rw [if_neg (show ¬ a = 0 from h 0 (by decide) (by decide)), if_pos (show ¬ a = 1 from h 1 (by decide) (by decide))]
theorem qX11_isSnap1 {fu : Nat} {σ : zmem} {r : Nat} (h : r < 2) : m_X11_isSnapshot fu σ (nI r) = some 1 := by
  unfold m_X11_isSnapshot
  rw [show m_X11_within fu σ (nI r) (0 : Int32) (1 : Int32) = some 1 from qX11_w1 (lo := 0) (hi := 1) (Nat.zero_le _) (by omega) (by decide)]
  rfl
theorem qX11_isSnap0 {fu : Nat} {σ : zmem} {a : Int32} (h : ∀ k, 0 ≤ k → k ≤ 1 → a ≠ nI k) : m_X11_isSnapshot fu σ a = some 0 := by
  unfold m_X11_isSnapshot
  rw [show m_X11_within fu σ a (0 : Int32) (1 : Int32) = some 0 from qX11_w0 (lo := 0) (hi := 1) h (by decide) (by decide)]
  rfl
theorem pX10_snapOf {fu : Nat} {σ : zmem} {r : Nat} (h : r < 2) : m_X10_snapshotOf fu σ (nI r) = some (15 + 7 * r) := by
  rcases (show r = 0 ∨ r = 1 by omega) with rfl | rfl <;> rfl
theorem zkd_snap {r : Nat} (h : r < 2) : zkd (15 + 7 * r) = (7, 0) := by
  rcases (show r = 0 ∨ r = 1 by omega) with rfl | rfl
  · exact zc_15
  · exact zc_22
def zkeep (u : zU) (a : Nat) : zU := (u.1, u.2.1, ((fun x => u.2.2.1.1 x || decide (x = a)), fun x => if x = a then u.1 else u.2.2.1.2 x), u.2.2.2)
theorem zor1 {b : Bool} {p : Prop} [Decidable p] {x : Int32} (hx : x = zb b) (o : Option Int32) (ho : o = some (zb (decide p))) : ((if ¬ x = 0 then some (1 : Int32) else o) : Option Int32) = some (zb (b || decide p)) := by
  rw [hx, ho]
  cases b
  · rw [if_neg (by decide), Bool.false_or]
  · rw [if_pos (by decide)]
    rfl
theorem case_keep {fu : Nat} {u : zU} {a1 : Int32} (hu : zUw u) (hfu : 400 < fu) : zStep (fun σ => m_L_keep fu σ a1) (fun σ => m_X11_keep fu σ a1) u := by
  rcases zin_em a1 0 1 with ⟨a, _, ha, rfl⟩ | h1
  · have ha : a < 2 := by omega
    have hw : zUw (zkeep u a) := ⟨hu.1, hu.2.1, fun x => by
      show (∀ r j, ((if x = a then u.1 else u.2.2.1.2 x) : zS).2.1 r j < 4) ∧ ((if x = a then u.1 else u.2.2.1.2 x) : zS).1 0 ≤ 24 ∧ ((if x = a then u.1 else u.2.2.1.2 x) : zS).1 1 ≤ 24
      by_cases c : x = a
      · rw [if_pos c]
        exact ⟨hu.1.2.2.1, hu.1.1, hu.1.2.1⟩
      · rw [if_neg c]
        exact hu.2.2 x⟩
    refine ⟨0, nI (u.1.1 0 + u.1.1 1), zkeep u a, by decide, hw, fun σ h => ?_, fun σ h => ?_⟩
    · obtain ⟨s1, e1, r1, f1⟩ := pX7_takeRows (fu := fu) (zkd_snap ha) h.1.1.1 (by omega) (by omega)
      have k0 : s1.1 0 = σ.1 0 := f1.1 0 (by simp)
      let s2 := zst (zst s1 0 4 (zb (u.2.2.1.1 0 || decide (0 = a)))) 0 5 (zb (u.2.2.1.1 1 || decide (1 = a)))
      have n2 : ∀ b, b ≠ 0 → s2.1 b = s1.1 b := fun b hb => (zst_1 hb).trans (zst_1 hb)
      have f2 : ∀ k, k ≠ 4 → k ≠ 5 → s2.1 0 k = σ.1 0 k := fun k h4 h5 => by
        rw [← k0]
        exact (zst_s h5).trans (zst_s h4)
      have st1 := h.1.1.keepc (σ' := s1) (fun b g1 g2 => f1.1 b (by simp; omega))
      have jj : zCJ s2 (zkeep u a) := by
        refine ⟨st1.keepc (fun b g1 g2 => n2 b (by omega)), h.1.2.1.keepc ((n2 29 (by decide)).trans (f1.1 29 (by simp; omega))) ((n2 31 (by decide)).trans (f1.1 31 (by simp; omega))), h.1.2.2.1.keepc ((n2 32 (by decide)).trans (f1.1 32 (by simp; omega))) ((n2 34 (by decide)).trans (f1.1 34 (by simp; omega))), (zst_s (by decide)).trans zst_at, zst_at, fun x hx ht => ?_⟩
        show zRs s2 (15 + 7 * x) ((if x = a then u.1 else u.2.2.1.2 x) : zS).1 ((if x = a then u.1 else u.2.2.1.2 x) : zS).2.1
        by_cases c : x = a
        · rw [if_pos c, c]
          exact r1.keepc (fun b g1 g2 => n2 b (by omega))
        · rw [if_neg c]
          have ht : (u.2.2.1.1 x || decide (x = a)) = true := ht
          rw [decide_eq_false c, Bool.or_false] at ht
          exact (h.1.2.2.2.2.2 x hx ht).keepc (fun b g1 g2 => (n2 b (by omega)).trans (f1.1 b (by simp; omega)))
      have ji : zCI s2 (zkeep u a) := by
        refine ⟨jj, ?_⟩
        rcases h.2 with h7 | ⟨h7, h8, h9⟩
        · exact Or.inl ((f2 11 (by decide) (by decide)).trans h7)
        · exact Or.inr ⟨(f2 11 (by decide) (by decide)).trans h7, h8.keepa (fun b g1 g2 => (n2 b (by omega)).trans (f1.1 b (by simp; omega))), h9.keepa (fun b g1 g2 => (n2 b (by omega)).trans (f1.1 b (by simp; omega)))⟩
      have x4 : ((if ¬ (s1.1 0 4) = 0 then some (1 : Int32) else (if ¬ nI a = 0 then some (0 : Int32) else some (1 : Int32))) : Option (Int32)) = some (zb (u.2.2.1.1 0 || decide (0 = a))) := by
        refine zor1 (by rw [k0]; exact h.1.2.2.2.1) _ ?_
        rcases (show a = 0 ∨ a = 1 by omega) with rfl | rfl <;> rfl
      have x6 : ((if ¬ ((zst s1 0 4 (zb (u.2.2.1.1 0 || decide (0 = a)))).1 0 5) = 0 then some (1 : Int32) else (if ¬ nI a = (1 : Int32) then some (0 : Int32) else some (1 : Int32))) : Option (Int32)) = some (zb (u.2.2.1.1 1 || decide (1 = a))) := by
        refine zor1 (by rw [zst_s (by decide), k0]; exact h.1.2.2.2.2.1) _ ?_
        rcases (show a = 0 ∨ a = 1 by omega) with rfl | rfl <;> rfl
      have e : m_X10_keep fu σ (nI a) = some (.inr (nI (u.1.1 0 + u.1.1 1)), s2) := by
        unfold m_X10_keep
        rw [pX10_isSnap1 ha, Option.bind_some, if_pos (by decide), pX10_snapOf ha, Option.bind_some, e1, Option.bind_some, x4, Option.bind_some, zbo_zb, Option.bind_some, x6, Option.bind_some, zbo_zb, Option.bind_some]
        have sg : m_X7_signs fu s2 1 = some (nI (u.1.1 0 + u.1.1 1)) := pX7_signs jj.1.1
        rw [show m_X7_signs fu (zst (zst s1 0 4 (zb (u.2.2.1.1 0 || decide (0 = a)))) 0 5 (zb (u.2.2.1.1 1 || decide (1 = a)))) 1 = some (nI (u.1.1 0 + u.1.1 1)) from sg, Option.bind_some]
      unfold m_L_keep
      exact zLo_ok e rfl ji ((f1.c (by intro b; simp; omega)).tr (((zfr_st (l := [0]) (by simp)).tr (zfr_st (l := [0]) (by simp))).c (by simp)))
    · have h0 := h.st (k := 7) (v := (0 : Int32)) (by decide) (by decide)
      let s1 := zrw (zst σ 103 7 (0 : Int32)) 107 (upd ((zst σ 103 7 (0 : Int32)).1 107) a (1 : Int32))
      have f1 : zfr (zst σ 103 7 (0 : Int32)) s1 [107] := zfr_rw (by simp)
      obtain ⟨s2, e2, f2, p2, o2⟩ := qX11_keep_l (fu := fu) (σ := s1) ha (by omega)
      have f12 : zfr (zst σ 103 7 (0 : Int32)) s2 [106, 107] := (f1.mono (by intro b; simp; omega)).tr (f2.mono (by intro b; simp; omega))
      have z2 : zMz s2 104 0 u.1 := h0.1.keepr f12 (by simp)
      have p104 : ∀ j, s1.1 104 j = σ.1 104 j := fun j => by rw [f1.1 104 (by simp), zst_1 (by decide)]
      have z0 := h.1
      refine ⟨s2, _, ?_, ⟨z2, h0.2.1.keep (by rw [f12.1 103 (by simp)]) (f12.1 105 (by simp)), h0.2.2.1.keep (by rw [f12.1 103 (by simp)]) (f12.1 108 (by simp)), fun x hx => ?_, fun x hx ht => ?_⟩, (((zfr_st (l := [103]) (by simp)).x (by simp)).tr (f12.x (by intro b; simp; omega))), ?_, fun _ => rfl⟩
      · show m_X11_keep fu σ (nI a) = _
        unfold m_X11_keep
        rw [qX11_isSnap1 ha, Option.bind_some, if_neg (by decide), Option.bind_some, zst_at, if_pos (by decide), zwr_in zc_107 ha (by decide), Option.bind_some]
        show ((l_X11_keep_34 fu (nI a) fu (0 : Int32) s1).bind fun x7 => (m_X11_signs fu x7 (0 : Int32)).bind fun x8 => (m_X11_signs fu x7 (1 : Int32)).bind fun x9 => some ((x8 + x9), x7)) = _
        rw [e2, Option.bind_some, l0, l1, qX11_signs (r := 0) z2 (by decide), Option.bind_some, qX11_signs (r := 1) z2 (by decide), Option.bind_some, nI_add]
      · show s2.1 107 x = zb (u.2.2.1.1 x || decide (x = a))
        rw [f2.1 107 (by simp)]
        show (zrw (zst σ 103 7 (0 : Int32)) 107 (upd ((zst σ 103 7 (0 : Int32)).1 107) a (1 : Int32))).1 107 x = _
        rw [zrw_at]
        by_cases c : x = a
        · rw [c, upd_at, decide_eq_true rfl, Bool.or_true]
          rfl
        · rw [upd_ne c, decide_eq_false c, Bool.or_false, zst_1 (by decide)]
          exact h.2.2.2.1 x hx
      · show zMs s2 x ((if x = a then u.1 else u.2.2.1.2 x) : zS)
        by_cases c : x = a
        · rw [if_pos c, c]
          refine ⟨fun r hr => ?_, fun r j hr hj => ?_⟩
          · rw [p2 r (by omega), p104]
            have := z0.2.2.2.1 r hr
            rw [Nat.zero_add] at this
            exact this
          · have hl := hu.1.le hr
            rw [show 50 * a + 2 + 24 * r + j = 50 * a + (2 + 24 * r + j) by omega, p2 _ (by omega), p104, show 4 + (2 + 24 * r + j) = 6 + 24 * r + j by omega]
            have := z0.2.2.2.2 r j hr hj
            rw [Nat.zero_add] at this
            exact this
        · rw [if_neg c]
          have ht : (u.2.2.1.1 x || decide (x = a)) = true := ht
          rw [decide_eq_false c, Bool.or_false] at ht
          have hs := h.2.2.2.2 x hx ht
          have hl := hu.2.2 x
          have k6 : ∀ j, 50 * x ≤ j → j < 50 * x + 50 → s2.1 106 j = σ.1 106 j := fun j g1 g2 => by
            rw [o2 j (by omega), f1.1 106 (by simp), zst_1 (by decide)]
          refine ⟨fun r hr => ?_, fun r j hr hj => ?_⟩
          · rw [k6 _ (by omega) (by omega)]
            exact hs.1 r hr
          · have hj24 : j < 24 := by
              rcases (show r = 0 ∨ r = 1 by omega) with rfl | rfl
              · omega
              · omega
            rw [k6 _ (by omega) (by omega)]
            exact hs.2 r j hr hj
      · rw [f12.1 103 (by simp), zst_at]
        rfl
  · refine ⟨1, 0, u, by decide, hu, fun σ h => ?_, fun σ h => ?_⟩
    · have e : m_X10_keep fu σ a1 = some (.inl 0, σ) := by
        unfold m_X10_keep
        rw [pX10_isSnap0 h1, Option.bind_some, if_neg (by decide)]
      unfold m_L_keep
      exact zLo_no e rfl h zfc.rf (by decide)
    · have e : m_X11_keep fu σ a1 = some ((0 : Int32), zst σ 103 7 (nI 1)) := by
        unfold m_X11_keep
        rw [qX11_isSnap0 h1, Option.bind_some, if_pos rfl, Option.bind_some, zst_at, if_neg (by decide)]
        rfl
      show zXo (m_X11_keep fu σ _) σ _ _ _
      rw [e]
      exact zXo_no h (by decide)
def zrest (u : zU) (a : Nat) : zS := ((u.2.2.1.2 a).1, (u.2.2.1.2 a).2.1, u.1.2.2)
theorem zWf.rest {u : zU} {a : Nat} (h : zUw u) : zWf (zrest u a) := ⟨(h.2.2 a).2.1, (h.2.2 a).2.2, (h.2.2 a).1, h.1.2.2.2⟩
theorem case_restore {fu : Nat} {u : zU} {a1 : Int32} (hu : zUw u) (hfu : 400 < fu) : zStep (fun σ => m_L_restore fu σ a1) (fun σ => m_X11_restore fu σ a1) u := by
  rcases zin_em a1 0 1 with ⟨a, _, ha, rfl⟩ | h1
  · have ha : a < 2 := by omega
    have rd : ∀ σ : zmem, zRI σ u → zrd (zst σ 103 7 (0 : Int32)) 107 (nI a) = some (zb (u.2.2.1.1 a)) := fun σ h => by
      rw [zrd_in zc_107 ha (by decide), zst_1 (by decide), h.2.2.2.1 a ha]
    by_cases ht : u.2.2.1.1 a = true
    · refine ⟨0, nI ((zrest u a).1 0 + (zrest u a).1 1), (zrest u a, (zpush u).2), by decide, hu.push (zWf.rest hu), fun σ h => ?_, fun σ h => ?_⟩
      · obtain ⟨s1, e1, j1, fl, f1⟩ := pX10_save h.1 hfu
        obtain ⟨s2, e2, r2, f2⟩ := pX7_takeRows (fu := fu) (b := 1) zc_1 (j1.2.2.2.2.2 a ha ht) (by omega) (by omega)
        have st2 : zSt s2 1 (zrest u a) := ⟨r2, fun k hk => by rw [f2.1 _ (by simp)]; exact j1.1.2 k hk⟩
        have j2 : zCI s2 (zrest u a, (zpush u).2) := ⟨j1.now st2 (fun b h1 h2 => f2.1 b (by simp; omega)), Or.inl (by rw [f2.1 0 (by simp)]; exact fl)⟩
        have e : m_X10_restore fu σ (nI a) = some (.inr (nI ((zrest u a).1 0 + (zrest u a).1 1)), s2) := by
          unfold m_X10_restore
          rw [pX10_isSnap1 ha, Option.bind_some, if_pos (by decide)]
          rcases (show a = 0 ∨ a = 1 by omega) with rfl | rfl
          · rw [if_neg (show ¬ ¬ nI 0 = 0 by decide), h.1.2.2.2.1, ht, if_neg (by decide), e1, Option.bind_some, pX10_snapOf (r := 0) (by decide), Option.bind_some, e2, Option.bind_some, pX7_signs st2.1, Option.bind_some]
          · rw [if_pos (show ¬ nI 1 = 0 by decide), h.1.2.2.2.2.1, ht, if_pos (by decide), e1, Option.bind_some, pX10_snapOf (r := 1) (by decide), Option.bind_some, e2, Option.bind_some, pX7_signs st2.1, Option.bind_some]
        unfold m_L_restore
        exact zLo_ok e rfl j2 ((f1.c (by intro b; simp; omega)).tr (f2.c (by intro b; simp; omega)))
      · have h0 := h.st (k := 7) (v := (0 : Int32)) (by decide) (by decide)
        obtain ⟨s1, e1, j1, f1, k1⟩ := qX11_saveI (h0.st (k := 7) (v := (0 : Int32)) (by decide) (by decide)) hfu
        obtain ⟨s2, e2, f2, p2, o2⟩ := qX11_restore_l (fu := fu) (σ := s1) ha (by omega)
        have hs : zMs s1 a (u.2.2.1.2 a) := j1.2.2.2.2 a ha ht
        have hl := hu.2.2 a
        have z1 := j1.1
        have z2 : zMz s2 104 0 (zrest u a) := by
          refine ⟨hl.2.1, hl.2.2, fun k hk => ?_, fun r hr => ?_, fun r j hr hj => ?_⟩
          · rw [Nat.zero_add, o2 k hk]
            have := z1.2.2.1 k hk
            rw [Nat.zero_add] at this
            exact this
          · rw [Nat.zero_add, p2 r (by omega)]
            exact hs.1 r hr
          · have hj : j < (u.2.2.1.2 a).1 r := hj
            have hj24 : j < 24 := by
              rcases (show r = 0 ∨ r = 1 by omega) with rfl | rfl
              · omega
              · omega
            rw [Nat.zero_add, show 6 + 24 * r + j = 4 + (2 + 24 * r + j) by omega, p2 _ (by omega), show 50 * a + (2 + 24 * r + j) = 50 * a + 2 + 24 * r + j by omega]
            exact hs.2 r j hr hj
        refine ⟨s2, _, ?_, zref_fin j1 z2 f2, ((((zfr_st (l := [103]) (by simp)).x (by simp)).tr ((zfr_st (l := [103]) (by simp)).x (by simp))).tr (f1.x (by intro b; simp; omega))).tr (f2.x (by simp)), ?_, fun _ => rfl⟩
        · show m_X11_restore fu σ (nI a) = _
          unfold m_X11_restore
          rw [qX11_isSnap1 ha, Option.bind_some, if_neg (by decide), Option.bind_some]
          rw [zst_at, if_neg (show ¬ ¬ (0 : Int32) = 0 by decide), rd σ h, Option.bind_some, ht, if_neg (by decide), Option.bind_some, Option.bind_some, zst_at, if_pos (by decide), e1, Option.bind_some, e2, Option.bind_some, l0, l1, qX11_signs (r := 0) z2 (by decide), Option.bind_some, qX11_signs (r := 1) z2 (by decide), Option.bind_some, nI_add]
        · rw [f2.1 103 (by simp), k1 7 (by decide), zst_at]
          rfl
    · have ht := (Bool.not_eq_true _).mp ht
      refine ⟨2, 0, u, by decide, hu, fun σ h => ?_, fun σ h => ?_⟩
      · have e : m_X10_restore fu σ (nI a) = some (.inl 2, σ) := by
          unfold m_X10_restore
          rw [pX10_isSnap1 ha, Option.bind_some, if_pos (by decide)]
          rcases (show a = 0 ∨ a = 1 by omega) with rfl | rfl
          · rw [if_neg (show ¬ ¬ nI 0 = 0 by decide), h.1.2.2.2.1, ht, if_pos (by decide)]
          · rw [if_pos (show ¬ nI 1 = 0 by decide), h.1.2.2.2.2.1, ht, if_neg (by decide)]
        unfold m_L_restore
        exact zLo_no e rfl h zfc.rf (by decide)
      · have h0 := h.st (k := 7) (v := (0 : Int32)) (by decide) (by decide)
        have e : m_X11_restore fu σ (nI a) = some ((0 : Int32), zst (zst σ 103 7 (0 : Int32)) 103 7 (nI 2)) := by
          unfold m_X11_restore
          rw [qX11_isSnap1 ha, Option.bind_some, if_neg (by decide), Option.bind_some]
          rw [zst_at, if_neg (show ¬ ¬ (0 : Int32) = 0 by decide), rd σ h, Option.bind_some, ht, if_pos (by decide), Option.bind_some, Option.bind_some, zst_at, if_neg (by decide)]
          rfl
        show zXo (m_X11_restore fu σ _) σ _ _ _
        rw [e]
        exact ⟨_, _, rfl, h0.st (by decide) (by decide), ((zfr_st (l := [103]) (by simp)).x (by simp)).tr ((zfr_st (l := [103]) (by simp)).x (by simp)), zst_at, fun z => absurd z (by decide)⟩
  · refine ⟨1, 0, u, by decide, hu, fun σ h => ?_, fun σ h => ?_⟩
    · have e : m_X10_restore fu σ a1 = some (.inl 0, σ) := by
        unfold m_X10_restore
        rw [pX10_isSnap0 h1, Option.bind_some, if_neg (by decide)]
      unfold m_L_restore
      exact zLo_no e rfl h zfc.rf (by decide)
    · have e : m_X11_restore fu σ a1 = some ((0 : Int32), zst σ 103 7 (nI 1)) := by
        unfold m_X11_restore
        rw [qX11_isSnap0 h1, Option.bind_some, if_pos rfl, Option.bind_some, zst_at, if_pos (by decide), Option.bind_some, zst_at, if_neg (by decide)]
        rfl
      show zXo (m_X11_restore fu σ _) σ _ _ _
      rw [e]
      exact zXo_no h (by decide)
theorem case_undo {fu : Nat} {u : zU} (hu : zUw u) (hfu : 400 < fu) : zStep (fun σ => m_L_undo fu σ) (fun σ => m_X11_undo fu σ) u := by
  by_cases hm : u.2.1.1 = 0
  · refine ⟨1, 0, u, by decide, hu, fun σ h => ?_, fun σ h => ?_⟩
    · have e : m_X10_undo fu σ = some (.inl 2, σ) := by
        unfold m_X10_undo m_X4_size
        rw [h.1.2.1.2.2.1, hm, Option.bind_some, if_neg (by decide)]
      unfold m_L_undo
      exact zLo_no e rfl h zfc.rf (by decide)
    · have e : m_X11_undo fu σ = some ((0 : Int32), zst σ 103 7 (nI 1)) := by
        unfold m_X11_undo
        rw [h.2.1.1, hm, if_pos (show nI 0 ≤ 0 by decide), Option.bind_some, zst_at, if_neg (by decide)]
        rfl
      show zXo (m_X11_undo fu σ) σ _ _ _
      rw [e]
      exact zXo_no h (by decide)
  · obtain ⟨m, hm2⟩ : ∃ m, u.2.1.1 = m + 1 := ⟨u.2.1.1 - 1, by omega⟩
    refine ⟨0, nI m, (u.2.1.2 m, (m, u.2.1.2), u.2.2), by decide, ⟨hu.2.1 m (by omega), fun k hk => hu.2.1 k (by have hk : k < m := hk; omega), hu.2.2⟩, fun σ h => ?_, fun σ h => ?_⟩
    · have hh := h.1.2.1
      rw [hm2] at hh
      obtain ⟨s1, e1, h1, st1, f1⟩ := pX4_giveBack (fu := fu) (b := 1) hh zc_1 (by omega) hfu
      have f1' : ∀ b, b ≠ 29 → (b < 2 ∨ 8 ≤ b) → s1.1 b = σ.1 b := fun b g1 g2 => f1.1 b (by simp; omega)
      have hm6 := hh.2.2.2.1
      have jj : zCJ (zst s1 0 11 (1 : Int32)) (u.2.1.2 m, (m, u.2.1.2), u.2.2) := zCJ.st ⟨st1, h1, h.1.2.2.1.keepc (f1' 32 (by decide) (by decide)) (f1' 34 (by decide) (by decide)), by rw [f1' 0 (by decide) (by decide)]; exact h.1.2.2.2.1, by rw [f1' 0 (by decide) (by decide)]; exact h.1.2.2.2.2.1, fun x hx ht => (h.1.2.2.2.2.2 x hx ht).keepc (fun b g1 g2 => f1' b (by omega) (by omega))⟩
      have e : m_X10_undo fu σ = some (.inr (nI m), zst s1 0 11 (1 : Int32)) := by
        unfold m_X10_undo m_X4_size
        rw [hh.2.2.1, Option.bind_some, if_pos (nI_ne0 (by omega) (by omega)), e1, Option.bind_some, zst_1 (by decide), h1.2.2.1, Option.bind_some]
      unfold m_L_undo
      exact zLo_ok e rfl ⟨jj, Or.inl zst_at⟩ ((f1.c (by intro b; simp; omega)).tr ((zfr_st (l := [0]) (by simp)).c (by simp)))
    · have hh := h.2.1
      rw [hm2] at hh
      obtain ⟨s1, e1, h1, z1, f1, k1⟩ := qX11_undo (fu := fu) hh hfu
      refine ⟨s1, _, e1, ⟨z1, h1, h.2.2.1.keep (by rw [k1 5 (by decide)]; rfl) (f1.1 108 (by simp)), fun x hx => by rw [f1.1 107 (by simp)]; exact h.2.2.2.1 x hx, fun x hx ht => (h.2.2.2.2 x hx ht).keep (f1.1 106 (by simp))⟩, f1.x (by intro b; simp; omega), ?_, fun _ => rfl⟩
      rw [k1 7 (by decide)]
      rfl
