/-! texts, snapshots, undo -/
theorem zCl.keepa {σ σ' : zmem} {i0 : Nat} {S : zS} (h : zCl σ i0 S) (hc : ∀ a, i0 ≤ a → a < i0 + 28 → σ'.1 a = σ.1 a) : zCl σ' i0 S := by
  obtain ⟨h1, h2, h3⟩ := h
  refine ⟨⟨by rw [hc _ (by omega) (by omega)]; exact h1.1, by rw [hc _ (by omega) (by omega)]; exact h1.2.1, fun i hi => by rw [hc _ (by omega) (by omega), hc _ (by omega) (by omega)]; exact h1.2.2 i hi⟩, ⟨by rw [hc _ (by omega) (by omega)]; exact h2.1, fun j hj => by rw [hc _ (by omega) (by omega)]; exact h2.2.1 j hj, fun k hk => by rw [hc _ (by omega) (by omega), hc _ (by omega) (by omega)]; exact h2.2.2 k hk⟩, ?_⟩
  exact ⟨by rw [hc _ (by omega) (by omega)]; exact h3.1, by rw [hc _ (by omega) (by omega)]; exact h3.2.1, fun g k hg hk => by rw [hc _ (by omega) (by omega)]; exact h3.2.2.1 g k hg hk, h3.2.2.2.keep (hc _ (by omega) (by omega)) (hc _ (by omega) (by omega))⟩
theorem zTu.keepa {σ σ' : zmem} {t0 : Nat} {S : zS} (h : zTu σ t0 S) (hc : ∀ a, t0 ≤ a → a < t0 + 12 → σ'.1 a = σ.1 a) : zTu σ' t0 S := by
  obtain ⟨h1, h2, h3, h4⟩ := h
  exact ⟨⟨by rw [hc _ (by omega) (by omega)]; exact h1.1, by rw [hc _ (by omega) (by omega)]; exact h1.2.1, fun i hi => by rw [hc _ (by omega) (by omega), hc _ (by omega) (by omega)]; exact h1.2.2 i hi⟩, by rw [hc _ (by omega) (by omega)]; exact h2, by rw [hc _ (by omega) (by omega)]; exact h3, fun k hk => by rw [hc _ (by omega) (by omega)]; exact h4 k hk⟩
theorem zCI.text {σ σ' : zmem} {u : zU} {L : Nat} {C : Nat → Nat} (h : zCI σ u) (hf : ∀ a, a ≠ 32 → a ≠ 34 → a < 103 → σ'.1 a = σ.1 a) (ht : zTx σ' 32 L C) : zCI σ' (u.1, u.2.1, u.2.2.1, (L, C)) := by
  obtain ⟨⟨h1, h2, h3, h4, h5, h6⟩, h7⟩ := h
  refine ⟨⟨h1.keepc (fun a g1 g2 => hf a (by omega) (by omega) (by omega)), h2.keepc (hf _ (by omega) (by omega) (by omega)) (hf _ (by omega) (by omega) (by omega)), ht, by rw [hf 0 (by omega) (by omega) (by omega)]; exact h4, by rw [hf 0 (by omega) (by omega) (by omega)]; exact h5, fun x hx hk => (h6 x hx hk).keepc (fun a g1 g2 => hf a (by omega) (by omega) (by omega))⟩, ?_⟩
  rcases h7 with h7 | ⟨h7, h8, h9⟩
  · exact Or.inl (by rw [hf 0 (by omega) (by omega) (by omega)]; exact h7)
  · exact Or.inr ⟨by rw [hf 0 (by omega) (by omega) (by omega)]; exact h7, h8.keepa (fun a g1 g2 => hf a (by omega) (by omega) (by omega)), h9.keepa (fun a g1 g2 => hf a (by omega) (by omega) (by omega))⟩
theorem zRI.text {σ σ' : zmem} {u : zU} {L : Nat} {C : Nat → Nat} (h : zRI σ u) (hf : ∀ a, 104 ≤ a → a < 108 → σ'.1 a = σ.1 a) (h1 : σ'.1 103 1 = σ.1 103 1) (ht : zMt σ' L C) : zRI σ' (u.1, u.2.1, u.2.2.1, (L, C)) :=
  ⟨h.1.keep (fun j _ => by rw [hf 104 (by omega) (by omega)]), h.2.1.keep h1 (hf 105 (by omega) (by omega)), ht, fun x hx => by rw [hf 107 (by omega) (by omega)]; exact h.2.2.2.1 x hx, fun x hx hk => (h.2.2.2.2 x hx hk).keep (hf 106 (by omega) (by omega))⟩
theorem case_append {fu : Nat} {u : zU} {a1 : Int32} (hu : zUw u) (hfu : 400 < fu) : zStep (fun σ => m_L_append fu σ a1) (fun σ => m_X11_append fu σ a1) u := by
  rcases zin_em a1 33 126 with ⟨c, hc1, hc2, rfl⟩ | h1
  · by_cases hL : u.2.2.2.1 < 60
    · refine ⟨0, nI (u.2.2.2.1 + 1), (u.1, u.2.1, u.2.2.1, (u.2.2.2.1 + 1, fun j => if j = u.2.2.2.1 then c else u.2.2.2.2 j)), by decide, ⟨hu.1, hu.2.1, hu.2.2⟩, fun σ h => ?_, fun σ h => ?_⟩
      · obtain ⟨s1, e1, t1, f1⟩ := pX8_add (fu := fu) h.1.2.2.1 hL ⟨hc1, hc2⟩
        have e : m_X10_append fu σ (nI c) = some (.inr (nI (u.2.2.2.1 + 1)), s1) := by
          unfold m_X10_append
          rw [if_neg (show ¬ nI c < (33 : Int32) from nI_nlt (b := 33) hc1 (by omega)), if_pos (show nI c ≤ (126 : Int32) from nI_le hc2 (by decide)), pX8_size h.1.2.2.1, Option.bind_some, if_pos (show nI u.2.2.2.1 < (60 : Int32) from nI_lt hL (by decide)), e1, Option.bind_some, pX8_size t1, Option.bind_some]
        unfold m_L_append
        exact zLo_ok e rfl (h.text (fun a g1 g2 g3 => f1.1 a (by simp; omega)) t1) (f1.c (by intro a; simp; omega))
      · rcases qX11_append (fu := fu) (a := nI c) h.2.2.1 with ⟨c', _, _, ec, _, s1, e1, t1, f1, k1⟩ | ⟨_, e, _⟩ | ⟨e, _⟩
        · have hcc : c' = c := by
            have := (nI_eq (by omega) (by omega)).mp ec
            omega
          subst hcc
          refine ⟨s1, _, e1, h.text (fun a g1 g2 => f1.1 a (by simp; omega)) (by rw [k1 1 (by decide)]; rfl) t1, f1.x (by intro a; simp; omega), ?_, fun _ => rfl⟩
          rw [k1 7 (by decide)]
          rfl
        · exact absurd e (by omega)
        · exact absurd rfl (e c hc1 hc2)
    · refine ⟨2, 0, u, by decide, hu, fun σ h => ?_, fun σ h => ?_⟩
      · have hL6 := h.1.2.2.1.2.2.1
        have e : m_X10_append fu σ (nI c) = some (.inl 2, σ) := by
          unfold m_X10_append
          rw [if_neg (show ¬ nI c < (33 : Int32) from nI_nlt (b := 33) hc1 (by omega)), if_pos (show nI c ≤ (126 : Int32) from nI_le hc2 (by decide)), pX8_size h.1.2.2.1, Option.bind_some, if_neg (show ¬ nI u.2.2.2.1 < (60 : Int32) from nI_nlt (b := 60) (by omega) (by omega))]
        unfold m_L_append
        exact zLo_no e rfl h zfc.rf (by decide)
      · rcases qX11_append (fu := fu) (a := nI c) h.2.2.1 with ⟨c', _, _, ec, e, _⟩ | ⟨_, _, e⟩ | ⟨e, _⟩
        · exact absurd e hL
        · show zXo (m_X11_append fu σ _) σ _ _ _
          rw [e]
          exact zXo_no h (by decide)
        · exact absurd rfl (e c hc1 hc2)
  · refine ⟨1, 0, u, by decide, hu, fun σ h => ?_, fun σ h => ?_⟩
    · have e : m_X10_append fu σ a1 = some (.inl 1, σ) := by
        unfold m_X10_append
        rcases zbtw0 h1 (by decide) (by decide) with c | c
        · rw [if_pos (show a1 < (33 : Int32) from c)]
        · by_cases d : a1 < (33 : Int32)
          · rw [if_pos d]
          · rw [if_neg d, if_neg (show ¬ a1 ≤ (126 : Int32) from fun z => (Int32.not_lt.mpr z) c)]
      unfold m_L_append
      exact zLo_no e rfl h zfc.rf (by decide)
    · rcases qX11_append (fu := fu) (a := a1) h.2.2.1 with ⟨c', g1, g2, ec, _⟩ | ⟨⟨c', g1, g2, ec⟩, _⟩ | ⟨_, e⟩
      · exact absurd ec (h1 c' g1 g2)
      · exact absurd ec (h1 c' g1 g2)
      · show zXo (m_X11_append fu σ _) σ _ _ _
        rw [e]
        exact zXo_no h (by decide)
theorem case_clear {fu : Nat} {u : zU} (hu : zUw u) : zStep0 (fun σ => m_X10_clearBuffer fu σ) (fun σ => m_X11_clearBuffer fu σ) u := by
  refine ⟨nI u.2.2.2.1, (u.1, u.2.1, u.2.2.1, (0, u.2.2.2.2)), ⟨hu.1, hu.2.1, hu.2.2⟩, fun σ h => ?_, fun σ h => ?_⟩
  · obtain ⟨s1, e1, t1, f1⟩ := pX8_clear (fu := fu) h.1.2.2.1
    refine ⟨s1, ?_, h.text (fun a g1 g2 g3 => f1.1 a (by simp; omega)) t1, f1.c (by simp)⟩
    show m_X10_clearBuffer fu σ = _
    unfold m_X10_clearBuffer
    rw [pX8_size h.1.2.2.1, Option.bind_some, e1, Option.bind_some]
  · obtain ⟨s1, e1, t1, f1, k1⟩ := qX11_clearBuffer (fu := fu) h.2.2.1
    exact ⟨s1, e1, h.text (fun a g1 g2 => f1.1 a (by simp; omega)) (by rw [k1 1 (by decide)]; rfl) t1, f1.x (by simp)⟩
theorem zRI.told {σ σ' : zmem} {u : zU} (h : zRI σ u) (hf : zfr σ σ' [103, 122, 123]) (h1 : σ'.1 103 1 = σ.1 103 1) (h5 : σ'.1 103 5 = σ.1 103 5) : zRI σ' u := h.keep (fun a g1 g2 => hf.1 a (by simp; omega)) h1 h5
theorem case_firstError {fu : Nat} {u : zU} (hfu : 400 < fu) : ∃ v, (∀ σ, zCI σ u → m_X10_firstError fu σ = some v) ∧ ∀ σ, zRI σ u → ∃ σ', m_X11_firstError fu σ = some (v, σ') ∧ zRI σ' u ∧ zfx σ σ' := by
  refine ⟨nI (zPg u.2.2.2.2 u.2.2.2.1 0 zP0).1, fun σ h => ?_, fun σ h => ?_⟩
  · unfold m_X10_firstError
    rw [pX8_faultPlace h.1.2.2.1 (by omega)]
    rfl
  · obtain ⟨s1, e1, f1, k1⟩ := qX11_firstError (fu := fu) h.2.2.1 (by omega)
    exact ⟨s1, e1, h.told f1 (by rw [k1 1 (by decide) (by decide)]; rfl) (by rw [k1 5 (by decide) (by decide)]; rfl), f1.x (by intro a; simp; omega)⟩
theorem zMp.keep {σ σ' : zmem} {P : zPs} (h : zMp σ P) (h1 : σ'.1 103 27 = σ.1 103 27) (h2 : σ'.1 103 28 = σ.1 103 28) (h3 : σ'.1 122 = σ.1 122) (h4 : σ'.1 123 = σ.1 123) : zMp σ' P :=
  ⟨h1.trans h.1, h2.trans h.2.1, fun r hr => by rw [h4]; exact h.2.2.1 r hr, fun r j hr hj => by rw [h3]; exact h.2.2.2 r j hr hj⟩
theorem case_read {fu : Nat} {u : zU} (hu : zUw u) (hfu : 400 < fu) : zStep (fun σ => m_L_read fu σ) (fun σ => m_X11_read fu σ) u := by
  have hi := zPg_i (C := u.2.2.2.2) u.2.2.2.1 0 zP0 zP0_i
  by_cases hc : (zPg u.2.2.2.2 u.2.2.2.1 0 zP0).1 = u.2.2.2.1 ∧ (zPg u.2.2.2.2 u.2.2.2.1 0 zP0).2.2.2.1 = 1
  · have hS : zWf ((zPg u.2.2.2.2 u.2.2.2.1 0 zP0).2.1, (zPg u.2.2.2.2 u.2.2.2.1 0 zP0).2.2.1, u.1.2.2) := ⟨hi.1.2.2.2.1 0, hi.1.2.2.2.1 1, hi.1.2.2.2.2, hu.1.2.2.2⟩
    have hw : zUw (((zPg u.2.2.2.2 u.2.2.2.1 0 zP0).2.1, (zPg u.2.2.2.2 u.2.2.2.1 0 zP0).2.2.1, u.1.2.2), (zpush u).2.1, u.2.2.1, (0, u.2.2.2.2)) := by
      have := hu.push hS
      exact ⟨this.1, this.2.1, this.2.2⟩
    refine ⟨0, nI (zcN ((zPg u.2.2.2.2 u.2.2.2.1 0 zP0).2.1, (zPg u.2.2.2.2 u.2.2.2.1 0 zP0).2.2.1, u.1.2.2)), (((zPg u.2.2.2.2 u.2.2.2.1 0 zP0).2.1, (zPg u.2.2.2.2 u.2.2.2.1 0 zP0).2.2.1, u.1.2.2), (zpush u).2.1, u.2.2.1, (0, u.2.2.2.2)), by decide, hw, fun σ h => ?_, fun σ h => ?_⟩
    · obtain ⟨s1, e1, j1, fl, f1⟩ := pX10_save h.1 hfu
      have t1 : zTx s1 32 u.2.2.2.1 u.2.2.2.2 := j1.2.2.1
      obtain ⟨s2, e2, r2, f2⟩ := pX8_writeRows (fu := fu) (b := 1) t1 zc_1 (by omega) hc.1 (by omega)
      have t2 := t1.keep f2 (by simp) (by simp)
      obtain ⟨s3, e3, t3, f3⟩ := pX8_clear (fu := fu) t2
      have st2 : zSt s2 1 ((zPg u.2.2.2.2 u.2.2.2.1 0 zP0).2.1, (zPg u.2.2.2.2 u.2.2.2.1 0 zP0).2.2.1, u.1.2.2) := ⟨r2, fun k hk => by rw [f2.1 _ (by simp)]; exact j1.1.2 k hk⟩
      have j2 : zCI s2 (((zPg u.2.2.2.2 u.2.2.2.1 0 zP0).2.1, (zPg u.2.2.2.2 u.2.2.2.1 0 zP0).2.2.1, u.1.2.2), (zpush u).2) := ⟨j1.now st2 (fun a h1 h2 => f2.1 a (by simp; omega)), Or.inl (by rw [f2.1 0 (by simp)]; exact fl)⟩
      have j3 := j2.text (fun a g1 g2 g3 => f3.1 a (by simp; omega)) t3
      obtain ⟨s4, e4, c4, f4⟩ := pX10_refresh (fu := fu) j3 hw (by omega)
      have e : m_X10_read fu σ = some (.inr (nI (zcN ((zPg u.2.2.2.2 u.2.2.2.1 0 zP0).2.1, (zPg u.2.2.2.2 u.2.2.2.1 0 zP0).2.2.1, u.1.2.2))), s4) := by
        unfold m_X10_read
        rw [pX8_isPair h.1.2.2.1 (by omega), if_pos hc, Option.bind_some, if_pos (by decide), e1, Option.bind_some, e2, Option.bind_some, e3, Option.bind_some, e4, Option.bind_some, c4.n]
      unfold m_L_read
      exact zLo_ok e rfl c4.i ((((f1.c (by intro a; simp; omega)).tr (f2.c (by intro a; simp; omega))).tr (f3.c (by simp))).tr f4)
    · obtain ⟨s0, e0, p0, f0, k0⟩ := qX11_rightUpTo (fu := fu) h.2.2.1 (by omega)
      have h0 := h.told f0 (k0 1 (by decide) (by decide)) (k0 5 (by decide) (by decide))
      have p0 := p0 hc.1
      obtain ⟨s1, e1, j1, f1, k1⟩ := qX11_saveI (h0.st (k := 7) (v := (0 : Int32)) (by decide) (by decide)) hfu
      have p1 : zMp s1 (zPg u.2.2.2.2 u.2.2.2.1 0 zP0).2 := p0.keep (by rw [k1 27 (by decide)]; exact zst_s (by decide)) (by rw [k1 28 (by decide)]; exact zst_s (by decide)) (by rw [f1.1 122 (by simp)]; exact zst_1 (by decide)) (by rw [f1.1 123 (by simp)]; exact zst_1 (by decide))
      have p2 : zMp (zst s1 103 5 (0 : Int32)) (zPg u.2.2.2.2 u.2.2.2.1 0 zP0).2 := p1.keep (zst_s (by decide)) (zst_s (by decide)) (zst_1 (by decide)) (zst_1 (by decide))
      have j2 : zRI (zst s1 103 5 (0 : Int32)) (u.1, (zpush u).2.1, u.2.2.1, (0, u.2.2.2.2)) := j1.text (fun a g1 g2 => zst_1 (by omega)) (zst_s (by decide)) ⟨by decide, zst_at, fun j hj => absurd hj (Nat.not_lt_zero _)⟩
      obtain ⟨s3, e3, f3, z3⟩ := qX11_readRows (fu := fu) hi.1 p2 j2.1 (by omega)
      have j3 := zref_fin j2 z3 f3
      obtain ⟨s4, e4, a4, _, m4, _⟩ := qX11_layAnchors (fu := fu) z3 hS (by omega)
      refine ⟨s4, _, ?_, j3.m m4, (((((f0.x (by intro a; simp; omega)).tr ((zfr_st (l := [103]) (by simp)).x (by simp))).tr (f1.x (by intro a; simp; omega))).tr ((zfr_st (l := [103]) (by simp)).x (by simp))).tr (f3.x (by simp))).tr m4.x, ?_, fun _ => a4.n⟩
      · show m_X11_read fu σ = _
        unfold m_X11_read
        rw [e0, Option.bind_some]
        dsimp only
        rw [k0 5 (by decide) (by decide), h.2.2.1.2.1, p0.1, if_neg (show ¬ ¬ nI (zPg u.2.2.2.2 u.2.2.2.1 0 zP0).1 = nI u.2.2.2.1 from fun z => z (congrArg nI hc.1)), if_neg (show ¬ ¬ nI (zPg u.2.2.2.2 u.2.2.2.1 0 zP0).2.2.2.1 = (1 : Int32) from fun z => z (congrArg nI hc.2)), Option.bind_some, zst_at, if_pos (by decide), e1, Option.bind_some, e3, Option.bind_some, e4, Option.bind_some]
      · rw [m4.2.1 7 (by decide) (by decide) (by decide) (by decide), f3.1 103 (by simp), zst_s (by decide), k1 7 (by decide), zst_at]
        rfl
  · refine ⟨1, 0, u, by decide, hu, fun σ h => ?_, fun σ h => ?_⟩
    · have e : m_X10_read fu σ = some (.inl 1, σ) := by
        unfold m_X10_read
        rw [pX8_isPair h.1.2.2.1 (by omega), if_neg hc, Option.bind_some, if_neg (by decide)]
      unfold m_L_read
      exact zLo_no e rfl h zfc.rf (by decide)
    · obtain ⟨s0, e0, p0, f0, k0⟩ := qX11_rightUpTo (fu := fu) h.2.2.1 (by omega)
      have h0 := h.told f0 (k0 1 (by decide) (by decide)) (k0 5 (by decide) (by decide))
      have hL6 := h.2.2.1.1
      have e : m_X11_read fu σ = some ((0 : Int32), zst s0 103 7 (nI 1)) := by
        unfold m_X11_read
        rw [e0, Option.bind_some]
        dsimp only
        rw [k0 5 (by decide) (by decide), h.2.2.1.2.1]
        by_cases c : (zPg u.2.2.2.2 u.2.2.2.1 0 zP0).1 = u.2.2.2.1
        · have p0 := p0 c
          have h2 : ¬ (zPg u.2.2.2.2 u.2.2.2.1 0 zP0).2.2.2.1 = 1 := fun z => hc ⟨c, z⟩
          have h3 := hi.1.1
          rw [p0.1, if_neg (show ¬ ¬ nI (zPg u.2.2.2.2 u.2.2.2.1 0 zP0).1 = nI u.2.2.2.1 from fun z => z (congrArg nI c)), if_pos (nI_n1 (by omega) h2), Option.bind_some, zst_at, if_neg (by decide)]
          rfl
        · have := hi.2
          rw [if_pos (fun z => c ((nI_eq (by omega) (by omega)).mp z)), Option.bind_some, zst_at, if_neg (by decide)]
          rfl
      show zXo (m_X11_read fu σ) σ _ _ _
      rw [e]
      exact ⟨_, _, rfl, h0.st (by decide) (by decide), (f0.x (by intro a; simp; omega)).tr ((zfr_st (l := [103]) (by simp)).x (by simp)), zst_at, fun z => absurd z (by decide)⟩
