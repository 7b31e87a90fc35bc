/-! the calls that change rows: copy -/
def zcopy (S : zS) (r a b g : Nat) : zS := (fun k => if k = g then S.1 k + (b - a + 1) else S.1 k, fun k j => if k = g ∧ S.1 g ≤ j then S.2.1 r (a + (j - S.1 g)) else S.2.1 k j, S.2.2)
theorem zWf.copy {S : zS} {r a b g : Nat} (h : zWf S) (hn : S.1 g + (b - a + 1) ≤ 24) : zWf (zcopy S r a b g) := by
  refine ⟨?_, ?_, fun k j => ?_, h.2.2.2⟩
  · show (if 0 = g then S.1 0 + (b - a + 1) else S.1 0) ≤ 24
    have := h.1
    split
    · rename_i c
      rw [← c] at hn
      exact hn
    · omega
  · show (if 1 = g then S.1 1 + (b - a + 1) else S.1 1) ≤ 24
    have := h.2.1
    split
    · rename_i c
      rw [← c] at hn
      exact hn
    · omega
  · show (if k = g ∧ S.1 g ≤ j then S.2.1 r (a + (j - S.1 g)) else S.2.1 k j) < 4
    split <;> exact h.2.2.1 _ _
theorem zRr_ne {b r g : Nat} (h : r ≠ g) : zRr b r ≠ zRr b g ∧ zRr b r ≠ zRr b g + 1 ∧ zRr b r + 1 ≠ zRr b g ∧ zRr b r + 1 ≠ zRr b g + 1 := by
  unfold zRr
  omega
theorem pX10_copy_l {fu : Nat} {s1 : zmem} {n : Nat → Nat} {f : Nat → Nat → Nat} {r a b g : Nat} (h : zRs s1 1 n f) (hr : r < 2) (hg : g < 2) (hab : a ≤ b) (hb : b < n r) (hn : n g + (b - a + 1) ≤ 24) (hfu : 100 < fu) :
    ∃ s2, l_X10_copy_91 fu (nI r) (nI b) (nI g) fu (nI a) s1 = some s2 ∧ zfr s1 s2 [zRr 1 g, zRr 1 g + 1] ∧ zRow s2 (zRr 1 g) (n g + (b - a + 1)) (fun j => if n g ≤ j then f r (a + (j - n g)) else f g j) := by
  have hrr := h.row hr
  have hgg := h.row hg
  have hle := hrr.2.1
  obtain ⟨s2, e, _, p1, p2⟩ := loopP (L := l_X10_copy_91 fu (nI r) (nI b) (nI g)) (N := b + 1)
    (P := fun v τ => a ≤ v ∧ zfr s1 τ [zRr 1 g, zRr 1 g + 1] ∧ zRow τ (zRr 1 g) (n g + (v - a)) (fun j => if n g ≤ j then f r (a + (j - n g)) else f g j))
    (fun m τ _ => by rw [l_X10_copy_91, if_pos (nI_lt (Nat.lt_succ_self _) (by omega))])
    (fun m v τ hv ⟨q0, q1, q2⟩ => by
      have rd : m_X6_signAt fu τ (zRr 1 r) (nI v) = some (nI (f r v)) := by
        rw [pX6_signAt hrr.1 (by omega)]
        by_cases c : r = g
        · subst c
          rw [q2.2.2.2 v (by omega)]
          show some (nI (if n r ≤ v then f r (a + (v - n r)) else f r v)) = _
          rw [if_neg (by omega)]
        · have := zRr_ne (b := 1) c
          rw [q1.1 _ (by simp; omega)]
          exact congrArg some (hrr.2.2.2 v (by omega))
      obtain ⟨g2, e2, h2⟩ := pX6_extend (fu := fu) (v := nI (f r v)) q2 (by omega)
      refine ⟨zRw τ (zRr 1 g) (n g + (v + 1 - a)) g2, ?_, by omega, q1.tr (zfr_Rw (by simp) (by simp)), zRw_row q2.1 (by omega) (fun j hj => ?_)⟩
      · rw [l_X10_copy_91, if_neg (nI_nlt (by omega) (by omega)), pX7_rowOf hg, Option.bind_some, pX7_rowOf hr, Option.bind_some, rd, Option.bind_some, e2, Option.bind_some, za1, show n g + (v - a) + 1 = n g + (v + 1 - a) by omega]
      · rw [h2 j (by omega)]
        by_cases c : j = n g + (v - a)
        · rw [if_pos c, if_pos (by omega), show a + (j - n g) = v by omega]
        · rw [if_neg c])
    fu a s1 (by omega) (by omega) ⟨Nat.le_refl _, zfr.rf, by
      rw [Nat.sub_self, Nat.add_zero]
      exact ⟨hgg.1, hgg.2.1, hgg.2.2.1, fun j hj => by
        dsimp only
        rw [if_neg (by omega)]
        exact hgg.2.2.2 j hj⟩⟩
  rw [show b + 1 - a = b - a + 1 by omega] at p2
  exact ⟨s2, e, p1, p2⟩
theorem qX11_copyW {fu : Nat} {s1 : zmem} {S : zS} {r a b g : Nat} (h : zMz s1 104 0 S) (hr : r < 2) (hg : g < 2) (hab : a ≤ b) (hb : b < S.1 r) (hn : S.1 g + (b - a + 1) ≤ 24) (hfu : 100 < fu) :
    ∃ s2, ((m_X11_signs fu s1 (nI g)).bind fun x5 => (l_X11_copy_101 fu (nI r) (nI a) (nI b) (nI g) x5 fu (nI a) s1).bind fun x9 => (zrd x9 104 ((4 : Int32) + nI g)).bind fun x10 => (zwr x9 104 ((4 : Int32) + nI g) (x10 + ((nI b - nI a) + (1 : Int32)))).bind fun s11 => (m_X11_signs fu s11 (nI g)).bind fun x12 => some (x12, s11)) = some (nI (S.1 g + (b - a + 1)), s2) ∧ zMz s2 104 0 (zcopy S r a b g) ∧ zfr s1 s2 [104] := by
  have hle := fun k hk => h.le (r := k) hk
  have hlr := hle r hr
  have hlg := hle g hg
  obtain ⟨h1, h2, h3, h4, h5⟩ := h
  simp only [Nat.zero_add] at h3 h4 h5
  have h6 : zMz s1 104 0 S := ⟨h1, h2, fun k hk => by rw [Nat.zero_add]; exact h3 k hk, fun k hk => by rw [Nat.zero_add]; exact h4 k hk, fun k j hk hj => by rw [Nat.zero_add]; exact h5 k j hk hj⟩
  obtain ⟨s2, e, _, p1, p2⟩ := loopP (L := l_X11_copy_101 fu (nI r) (nI a) (nI b) (nI g) (nI (S.1 g))) (N := b + 1)
    (P := fun v τ => a ≤ v ∧ zfr s1 τ [104] ∧ ∀ j, τ.1 104 j = if 6 + 24 * g + S.1 g ≤ j ∧ j < 6 + 24 * g + S.1 g + (v - a) then nI (S.2.1 r (a + (j - (6 + 24 * g + S.1 g)))) else s1.1 104 j)
    (fun m τ _ => by rw [l_X11_copy_101, if_pos (nI_lt (Nat.lt_succ_self _) (by omega))])
    (fun m v τ hv ⟨q0, q1, q2⟩ => by
      refine ⟨zrw τ 104 (upd (τ.1 104) (6 + 24 * g + (S.1 g + v - a)) (nI (S.2.1 r v))), ?_, by omega, q1.tr (zfr_rw (by simp)), fun j => ?_⟩
      · have rd : τ.1 104 (6 + 24 * r + v) = nI (S.2.1 r v) := by
          rw [q2, if_neg (by
            by_cases c : r = g
            · subst c
              omega
            · omega)]
          exact h5 r v hr (by omega)
        rw [l_X11_copy_101, if_neg (nI_nlt (by omega) (by omega)), qX11_at1 hr (by omega), Option.bind_some, rd, nI_add, pk_sub (by omega), qX11_lay1 hg (by omega), Option.bind_some, za1]
      · rw [zrw_at]
        by_cases c : j = 6 + 24 * g + (S.1 g + v - a)
        · rw [c, upd_at, if_pos (by omega), show a + (6 + 24 * g + (S.1 g + v - a) - (6 + 24 * g + S.1 g)) = v by omega]
        · rw [upd_ne c, q2 j]
          by_cases d : 6 + 24 * g + S.1 g ≤ j ∧ j < 6 + 24 * g + S.1 g + (v - a)
          · rw [if_pos d, if_pos (by omega)]
          · rw [if_neg d, if_neg (by omega)])
    fu a s1 (by omega) (by omega) ⟨Nat.le_refl _, zfr.rf, fun j => by rw [if_neg (by omega)]⟩
  let s3 : zmem := zrw s2 104 (upd (s2.1 104) (4 + g) (nI (S.1 g + (b - a + 1))))
  have c3 : ∀ j, s3.1 104 j = if j = 4 + g then nI (S.1 g + (b - a + 1)) else s2.1 104 j := fun j => by
    show (zrw s2 104 (upd (s2.1 104) (4 + g) (nI (S.1 g + (b - a + 1))))).1 104 j = _
    rw [zrw_at]
    rfl
  have c1 : s2.1 104 (4 + g) = nI (S.1 g) := by
    rw [p2, if_neg (by omega)]
    exact h4 g hg
  refine ⟨s3, ?_, ⟨?_, ?_, fun k hk => ?_, fun k hk => ?_, fun k j hk hj => ?_⟩, p1.tr (zfr_rw (by simp))⟩
  · rw [qX11_signs h6 hg, Option.bind_some, e, Option.bind_some, l4m, zrd_in zc_104 (show 4 + g < 54 by omega) (by decide), c1, Option.bind_some, pk_sub hab, za1, nI_add, zwr_in zc_104 (show 4 + g < 54 by omega) (by decide), Option.bind_some]
    show ((m_X11_signs fu s3 (nI g)).bind fun x12 => some (x12, s3)) = _
    unfold m_X11_signs
    rw [l4m, zrd_in zc_104 (show 4 + g < 54 by omega) (by decide), c3, if_pos rfl]
    rfl
  · show (if 0 = g then S.1 0 + (b - a + 1) else S.1 0) ≤ 24
    split
    · rename_i c
      rw [← c] at hn
      exact hn
    · exact h1
  · show (if 1 = g then S.1 1 + (b - a + 1) else S.1 1) ≤ 24
    split
    · rename_i c
      rw [← c] at hn
      exact hn
    · exact h2
  · rw [Nat.zero_add, c3, if_neg (by omega), p2, if_neg (by omega)]
    exact h3 k hk
  · rw [Nat.zero_add, c3]
    show _ = nI (if k = g then S.1 k + (b - a + 1) else S.1 k)
    by_cases c : k = g
    · rw [if_pos (by omega), if_pos c, c]
    · rw [if_neg (by omega), if_neg c, p2, if_neg (by omega)]
      exact h4 k hk
  · have hj : j < (if k = g then S.1 k + (b - a + 1) else S.1 k) := hj
    have hl := hle k hk
    rw [Nat.zero_add, c3, if_neg (by omega), p2]
    show _ = nI (if k = g ∧ S.1 g ≤ j then S.2.1 r (a + (j - S.1 g)) else S.2.1 k j)
    by_cases c : k = g
    · rw [if_pos c] at hj
      subst c
      by_cases d : S.1 k ≤ j
      · rw [if_pos (by omega), if_pos ⟨rfl, d⟩, show 6 + 24 * k + j - (6 + 24 * k + S.1 k) = j - S.1 k by omega]
      · rw [if_neg (by omega), if_neg (fun z => d z.2)]
        exact h5 k j hk (by omega)
    · rw [if_neg c] at hj
      rw [if_neg (by omega), if_neg (fun z => c z.1)]
      exact h5 k j hk hj
theorem case_copy {fu : Nat} {u : zU} {a1 a2 a3 a4 : Int32} (hu : zUw u) (hfu : 400 < fu) : zStep (fun σ => m_L_copy fu σ a1 a2 a3 a4) (fun σ => m_X11_copy fu σ a1 a2 a3 a4) u := by
  have bad : (∀ σ, zCI σ u → m_X10_copy fu σ a1 a2 a3 a4 = some (.inl 0, σ)) → (∀ σ, zRI σ u → m_X11_copy fu σ a1 a2 a3 a4 = some ((0 : Int32), zst σ 103 7 (nI 1))) → zStep (fun σ => m_L_copy fu σ a1 a2 a3 a4) (fun σ => m_X11_copy fu σ a1 a2 a3 a4) u := fun g1 g2 => by
    refine ⟨1, 0, u, by decide, hu, fun σ h => ?_, fun σ h => ?_⟩
    · unfold m_L_copy
      exact zLo_no (g1 σ h) rfl h zfc.rf (by decide)
    · show zXo (m_X11_copy fu σ _ _ _ _) σ _ _ _
      rw [g2 σ h]
      exact zXo_no h (by decide)
  have bad2 : ∀ σ : zmem, (if ¬ ((zst σ 103 7 (1 : Int32)).1 103 7) = 0 then some (zst σ 103 7 (1 : Int32)) else (m_X11_signs fu (zst σ 103 7 (1 : Int32)) a4).bind fun x14 => ((if (((x14 + a3) - a2) + (1 : Int32)) ≤ (24 : Int32) then some (0 : Int32) else some (3 : Int32)) : Option (Int32)).bind fun x15 => some (zst (zst σ 103 7 (1 : Int32)) 103 7 x15)) = some (zst σ 103 7 (nI 1)) := fun σ => by
    rw [zst_at, if_pos (by decide)]
    rfl
  rcases zpl_em a1 a2 u.1.1 with ⟨r, a, hr, ha, rfl, rfl⟩ | h1
  · have hle := hu.1.le hr
    rcases zpl_em (nI r) a3 u.1.1 with ⟨r', b, hr', hb, er, rfl⟩ | h3
    · have er : r = r' := (nI_eq (by omega) (by omega)).mp er
      subst er
      rcases zin_em a4 0 1 with ⟨g, _, hg, rfl⟩ | h4
      · have hg : g < 2 := by omega
        have hlg := hu.1.le hg
        by_cases hab : a ≤ b
        · have sm : ((nI (u.1.1 g) + nI b) - nI a) + (1 : Int32) = nI (u.1.1 g + (b - a + 1)) := by
            rw [nI_add, pk_sub (by omega), za1, show u.1.1 g + b - a + 1 = u.1.1 g + (b - a + 1) by omega]
          by_cases hn : u.1.1 g + (b - a + 1) ≤ 24
          · refine ⟨0, nI (u.1.1 g + (b - a + 1)), (zcopy u.1 r a b g, (zpush u).2), by decide, hu.push (hu.1.copy hn), fun σ h => ?_, fun σ h => ?_⟩
            · obtain ⟨s1, e1, j1, fl, f1⟩ := pX10_save h.1 hfu
              have r0 : zRow σ (zRr 1 g) (u.1.1 g) (u.1.2.1 g) := h.1.1.1.row hg
              obtain ⟨s2, e2, f2, r2⟩ := pX10_copy_l (fu := fu) (n := u.1.1) (f := u.1.2.1) j1.1.1 hr hg hab hb hn (by omega)
              have r2' : zRow s2 (zRr 1 g) ((zcopy u.1 r a b g).1 g) ((zcopy u.1 r a b g).2.1 g) := by
                rw [show (zcopy u.1 r a b g).1 g = u.1.1 g + (b - a + 1) from if_pos rfl]
                refine ⟨r2.1, r2.2.1, r2.2.2.1, fun j hj => ?_⟩
                rw [r2.2.2.2 j hj]
                show nI (if u.1.1 g ≤ j then u.1.2.1 r (a + (j - u.1.1 g)) else u.1.2.1 g j) = nI (if g = g ∧ u.1.1 g ≤ j then u.1.2.1 r (a + (j - u.1.1 g)) else u.1.2.1 g j)
                by_cases c : u.1.1 g ≤ j
                · rw [if_pos c, if_pos ⟨rfl, c⟩]
                · rw [if_neg c, if_neg (fun z => c z.2)]
              have e : m_X10_copy fu σ (nI r) (nI a) (nI b) (nI g) = some (.inr (nI (u.1.1 g + (b - a + 1))), s2) := by
                unfold m_X10_copy
                rw [pX10_isRow hg, Option.bind_some, if_neg (by decide), pX10_isPlace h.1.1.1 hr ha, Option.bind_some, if_neg (by decide), pX10_isPlace h.1.1.1 hr hb, Option.bind_some, if_pos (by decide), if_pos (nI_le hab (by omega)), pX7_rowOf hg, Option.bind_some, pX6_size r0, Option.bind_some, sm, if_pos (show nI (u.1.1 g + (b - a + 1)) ≤ (24 : Int32) from nI_le hn (by decide)), e1, Option.bind_some, e2, Option.bind_some, pX7_rowOf hg, Option.bind_some, pX6_size r2, Option.bind_some]
              unfold m_L_copy
              exact zLo_ok e rfl (zrow_fin j1 fl hg f2 r2' (fun k hk hk2 => ⟨if_neg hk2, funext fun j => if_neg (fun z => hk2 z.1)⟩) rfl) ((f1.c (by intro a; simp; omega)).tr (f2.c (by intro a; simp; unfold zRr; omega)))
            · have h0 := h.st (k := 7) (v := (0 : Int32)) (by decide) (by decide)
              obtain ⟨s1, e1, j1, f1, k1⟩ := qX11_saveI (h0.st (k := 7) (v := (0 : Int32)) (by decide) (by decide)) hfu
              obtain ⟨s2, e2, z2, f2⟩ := qX11_copyW (fu := fu) j1.1 hr hg hab hb hn (by omega)
              refine ⟨s2, _, ?_, zref_fin j1 z2 f2, (((zfr_st (l := [103]) (by simp)).x (by simp)).tr (((zfr_st (l := [103]) (by simp)).x (by simp)).tr (f1.x (by intro a; simp; omega)))).tr (f2.x (by simp)), ?_, fun _ => rfl⟩
              · have z0 := h.1
                show m_X11_copy fu σ (nI r) (nI a) (nI b) (nI g) = _
                unfold m_X11_copy
                rw [qX11_isPlace1 z0 hr ha, Option.bind_some, if_neg (by decide), qX11_isPlace1 z0 hr hb, Option.bind_some, if_neg (by decide), qX11_isRow1 hg, Option.bind_some, if_pos (by decide), if_pos (nI_le hab (by omega)), Option.bind_some]
                rw [zst_at, if_neg (show ¬ ¬ (0 : Int32) = 0 by decide), qX11_signs h0.1 hg, Option.bind_some, sm, if_pos (show nI (u.1.1 g + (b - a + 1)) ≤ (24 : Int32) from nI_le hn (by decide)), Option.bind_some, Option.bind_some, zst_at, if_pos (by decide), e1, Option.bind_some]
                exact e2
              · rw [f2.1 103 (by simp), k1 7 (by decide), zst_at]
                rfl
          · refine ⟨3, 0, u, by decide, hu, fun σ h => ?_, fun σ h => ?_⟩
            · have r0 : zRow σ (zRr 1 g) (u.1.1 g) (u.1.2.1 g) := h.1.1.1.row hg
              have e : m_X10_copy fu σ (nI r) (nI a) (nI b) (nI g) = some (.inl 2, σ) := by
                unfold m_X10_copy
                rw [pX10_isRow hg, Option.bind_some, if_neg (by decide), pX10_isPlace h.1.1.1 hr ha, Option.bind_some, if_neg (by decide), pX10_isPlace h.1.1.1 hr hb, Option.bind_some, if_pos (by decide), if_pos (nI_le hab (by omega)), pX7_rowOf hg, Option.bind_some, pX6_size r0, Option.bind_some, sm, if_neg (show ¬ nI (u.1.1 g + (b - a + 1)) ≤ (24 : Int32) from nI_ge (b := u.1.1 g + (b - a + 1)) (a := 24) (by omega) (by omega))]
              unfold m_L_copy
              exact zLo_no e rfl h zfc.rf (by decide)
            · have h0 := h.st (k := 7) (v := (0 : Int32)) (by decide) (by decide)
              have e : m_X11_copy fu σ (nI r) (nI a) (nI b) (nI g) = some ((0 : Int32), zst (zst σ 103 7 (0 : Int32)) 103 7 (nI 3)) := by
                unfold m_X11_copy
                rw [qX11_isPlace1 h.1 hr ha, Option.bind_some, if_neg (by decide), qX11_isPlace1 h.1 hr hb, Option.bind_some, if_neg (by decide), qX11_isRow1 hg, Option.bind_some, if_pos (by decide), if_pos (nI_le hab (by omega)), Option.bind_some]
                rw [zst_at, if_neg (show ¬ ¬ (0 : Int32) = 0 by decide), qX11_signs h0.1 hg, Option.bind_some, sm, if_neg (show ¬ nI (u.1.1 g + (b - a + 1)) ≤ (24 : Int32) from nI_ge (b := u.1.1 g + (b - a + 1)) (a := 24) (by omega) (by omega)), Option.bind_some, Option.bind_some, zst_at, if_neg (by decide)]
                rfl
              show zXo (m_X11_copy fu σ _ _ _ _) σ _ _ _
              rw [e]
              exact ⟨_, _, rfl, h0.st (by decide) (by decide), ((zfr_st (l := [103]) (by simp)).x (by simp)).tr ((zfr_st (l := [103]) (by simp)).x (by simp)), zst_at, fun z => absurd z (by decide)⟩
        · refine ⟨2, 0, u, by decide, hu, fun σ h => ?_, fun σ h => ?_⟩
          · have e : m_X10_copy fu σ (nI r) (nI a) (nI b) (nI g) = some (.inl 1, σ) := by
              unfold m_X10_copy
              rw [pX10_isRow hg, Option.bind_some, if_neg (by decide), pX10_isPlace h.1.1.1 hr ha, Option.bind_some, if_neg (by decide), pX10_isPlace h.1.1.1 hr hb, Option.bind_some, if_pos (by decide), if_neg (nI_ge (by omega) (by omega))]
            unfold m_L_copy
            exact zLo_no e rfl h zfc.rf (by decide)
          · have e : m_X11_copy fu σ (nI r) (nI a) (nI b) (nI g) = some ((0 : Int32), zst σ 103 7 (nI 2)) := by
              unfold m_X11_copy
              rw [qX11_isPlace1 h.1 hr ha, Option.bind_some, if_neg (by decide), qX11_isPlace1 h.1 hr hb, Option.bind_some, if_neg (by decide), qX11_isRow1 hg, Option.bind_some, if_pos (by decide), if_neg (nI_ge (by omega) (by omega)), Option.bind_some, zst_at, if_pos (by decide), Option.bind_some, zst_at, if_neg (by decide)]
              rfl
            show zXo (m_X11_copy fu σ _ _ _ _) σ _ _ _
            rw [e]
            exact zXo_no h (by decide)
      · refine bad (fun σ h => ?_) (fun σ h => ?_)
        · unfold m_X10_copy
          rw [pX10_isRow0 (fun k hk => h4 k (Nat.zero_le _) (by omega)), Option.bind_some, if_pos rfl]
        · unfold m_X11_copy
          rw [qX11_isPlace1 h.1 hr ha, Option.bind_some, if_neg (by decide), qX11_isPlace1 h.1 hr hb, Option.bind_some, if_neg (by decide), qX11_isRow0 h4, Option.bind_some, if_neg (by decide), Option.bind_some, bad2, Option.bind_some, zst_at, if_neg (by decide)]
    · refine bad (fun σ h => ?_) (fun σ h => ?_)
      · unfold m_X10_copy
        rcases qX11_isRow (fu := fu) (σ := σ) (a := a4) with ⟨_, g, hg, e4⟩ | ⟨_, h4⟩
        · rw [e4, pX10_isRow hg, Option.bind_some, if_neg (by decide), pX10_isPlace h.1.1.1 hr ha, Option.bind_some, if_neg (by decide), pX10_isPlace0 h.1.1.1 h3, Option.bind_some, if_neg (by decide)]
        · rw [pX10_isRow0 h4, Option.bind_some, if_pos rfl]
      · unfold m_X11_copy
        rw [qX11_isPlace1 h.1 hr ha, Option.bind_some, if_neg (by decide), qX11_isPlace0 h.1 h3, Option.bind_some, if_pos rfl, Option.bind_some, bad2, Option.bind_some, zst_at, if_neg (by decide)]
  · refine bad (fun σ h => ?_) (fun σ h => ?_)
    · unfold m_X10_copy
      rcases qX11_isRow (fu := fu) (σ := σ) (a := a4) with ⟨_, g, hg, e4⟩ | ⟨_, h4⟩
      · rw [e4, pX10_isRow hg, Option.bind_some, if_neg (by decide), pX10_isPlace0 h.1.1.1 h1, Option.bind_some, if_pos rfl]
      · rw [pX10_isRow0 h4, Option.bind_some, if_pos rfl]
    · unfold m_X11_copy
      rw [qX11_isPlace0 h.1 h1, Option.bind_some, if_pos rfl, Option.bind_some, bad2, Option.bind_some, zst_at, if_neg (by decide)]
