/-! the calls that change rows: put, take, change, turn -/
theorem zLo_ok {mX : Option zRX} {σ σ' : zmem} {u : zU} {v : Int32} {g : zRX → Option (Int32 × zmem)} (e : mX = some (.inr v, σ')) (hg : g (.inr v, σ') = (zwL σ' 124 0 v.toInt64).bind fun s => some ((0 : Int32), s)) (h : zCI σ' u) (hf : zfc σ σ') : zLo (mX.bind g) σ 0 v u := by
  refine ⟨zsl σ' 124 0 v.toInt64, ?_, h.sl, hf.tr zfc_sl, fun _ => zsl_at⟩
  rw [e, Option.bind_some, hg, zwL_out]
  rfl
theorem zLo_no {mX : Option zRX} {σ σ' : zmem} {u : zU} {k code : Nat} {v : Int32} {g : zRX → Option (Int32 × zmem)} (e : mX = some (.inl k, σ')) (hg : g (.inl k, σ') = some (nI code, σ')) (h : zCI σ' u) (hf : zfc σ σ') (hc : code ≠ 0) : zLo (mX.bind g) σ code v u := by
  refine ⟨σ', ?_, h, hf, fun z => absurd z hc⟩
  rw [e, Option.bind_some, hg]
theorem zXo_no {σ : zmem} {u : zU} {code : Nat} {v : Int32} (h : zRI σ u) (hc : code ≠ 0) : zXo (some ((0 : Int32), zst σ 103 7 (nI code))) σ code v u :=
  ⟨_, _, rfl, h.st (by decide) (by decide), (zfr_st (l := [103]) (by simp)).x (by simp), zst_at, fun z => absurd z hc⟩
theorem nI_n24 {c : Nat} (h : c < 2 ^ 31) (h1 : ¬ c = 24) : ¬ nI c = (24 : Int32) := fun q => h1 ((nI_eq (b := 24) h (by decide)).mp q)
theorem nI_c {c : Nat} (h0 : c ≠ 0) (h : c < 4) : ¬ nI c ≤ 0 := nI_nle (by omega) (by omega)
theorem zSt.row {σ σ' : zmem} {b r : Nat} {S S' : zS} (h : zSt σ b S) (hr : r < 2) (hf : zfr σ σ' [zRr b r, zRr b r + 1]) (hrow : zRow σ' (zRr b r) (S'.1 r) (S'.2.1 r)) (ho : ∀ k, k < 2 → k ≠ r → S'.1 k = S.1 k ∧ S'.2.1 k = S.2.1 k) (hs : S'.2.2 = S.2.2) : zSt σ' b S' := by
  have hz : zRr b r = b + 1 + 2 * r := rfl
  refine ⟨⟨h.1.1, ?_, ?_⟩, fun k hk => ?_⟩
  · by_cases c : r = 0
    · subst c
      exact hrow
    · have := ho 0 (by decide) (fun z => c z.symm)
      rw [this.1, this.2]
      exact h.1.2.1.keep (hf.1 _ (by simp; omega)) (hf.1 _ (by simp; omega))
  · by_cases c : r = 1
    · subst c
      exact hrow
    · have := ho 1 (by decide) (fun z => c z.symm)
      rw [this.1, this.2]
      exact h.1.2.2.keep (hf.1 _ (by simp; omega)) (hf.1 _ (by simp; omega))
  · rw [hs, hf.1 _ (by simp; omega)]
    exact h.2 k hk
theorem zrow_fin {s1 s2 : zmem} {u : zU} {S' : zS} {r : Nat} (j : zCJ s1 u) (fl : s1.1 0 11 = 1) (hr : r < 2) (hf : zfr s1 s2 [zRr 1 r, zRr 1 r + 1]) (hrow : zRow s2 (zRr 1 r) (S'.1 r) (S'.2.1 r)) (ho : ∀ k, k < 2 → k ≠ r → S'.1 k = u.1.1 k ∧ S'.2.1 k = u.1.2.1 k) (hs : S'.2.2 = u.1.2.2) : zCI s2 (S', u.2) := by
  have hz : zRr 1 r = 2 + 2 * r := by unfold zRr; omega
  exact ⟨j.now (j.1.row hr hf hrow ho hs) (fun a h1 h2 => hf.1 a (by simp; omega)), Or.inl (by rw [hf.1 0 (by simp; omega)]; exact fl)⟩
theorem zref_fin {s1 s2 : zmem} {u : zU} {S' : zS} (h : zRI s1 u) (hz : zMz s2 104 0 S') (hf : zfr s1 s2 [104]) : zRI s2 (S', u.2) := h.now hz (fun a h1 h2 => hf.1 a (by simp; omega)) (by rw [hf.1 103 (by simp)]) (by rw [hf.1 103 (by simp)])
theorem pX10_isSign1 {fu : Nat} {σ : zmem} {x : Nat} (h : x < 4) : m_X10_isSign fu σ (nI x) = some 1 := by
  unfold m_X10_isSign
  rw [if_neg (nI_pos (by omega)), if_neg (show ¬ (4 : Int32) ≤ nI x from nI_ge h (by decide))]
theorem pX10_isSign0 {fu : Nat} {σ : zmem} {a : Int32} (h : ∀ k, 0 ≤ k → k ≤ 3 → a ≠ nI k) : m_X10_isSign fu σ a = some 0 := by
  unfold m_X10_isSign
  rcases znot_lt (n := 4) (fun k hk => h k (Nat.zero_le _) (by omega)) (by decide) with c | c
  · rw [if_pos c]
  · by_cases d : a < 0
    · rw [if_pos d]
    · rw [if_neg d, if_pos (show (4 : Int32) ≤ a from c)]
theorem qX11_isSign1 {fu : Nat} {σ : zmem} {x : Nat} (h : x < 4) : m_X11_isSign fu σ (nI x) = some 1 := by
  unfold m_X11_isSign
  rw [show m_X11_within fu σ (nI x) (0 : Int32) (3 : Int32) = some 1 from qX11_w1 (lo := 0) (hi := 3) (Nat.zero_le _) (by omega) (by decide)]
  rfl
theorem qX11_isSign0 {fu : Nat} {σ : zmem} {a : Int32} (h : ∀ k, 0 ≤ k → k ≤ 3 → a ≠ nI k) : m_X11_isSign fu σ a = some 0 := by
  unfold m_X11_isSign
  rw [show m_X11_within fu σ a (0 : Int32) (3 : Int32) = some 0 from qX11_w0 (lo := 0) (hi := 3) h (by decide) (by decide)]
  rfl
theorem qX11_isRow1 {fu : Nat} {σ : zmem} {r : Nat} (h : r < 2) : m_X11_isRow fu σ (nI r) = some 1 := by
  unfold m_X11_isRow
  rw [show m_X11_within fu σ (nI r) (0 : Int32) (1 : Int32) = some 1 from qX11_w1 (lo := 0) (hi := 1) (Nat.zero_le _) (by omega) (by decide)]
  rfl
theorem qX11_isRow0 {fu : Nat} {σ : zmem} {a : Int32} (h : ∀ k, 0 ≤ k → k ≤ 1 → a ≠ nI k) : m_X11_isRow fu σ a = some 0 := by
  unfold m_X11_isRow
  rw [show m_X11_within fu σ a (0 : Int32) (1 : Int32) = some 0 from qX11_w0 (lo := 0) (hi := 1) h (by decide) (by decide)]
  rfl
theorem zWf.put {S : zS} {r p x : Nat} (h : zWf S) (hn : S.1 r < 24) (hx : x < 4) : zWf (zput S r p x) := by
  refine ⟨?_, ?_, fun k j => ?_, h.2.2.2⟩
  · show (if 0 = r then S.1 0 + 1 else S.1 0) ≤ 24
    have := h.1
    split
    · rename_i c
      rw [← c] at hn
      omega
    · omega
  · show (if 1 = r then S.1 1 + 1 else S.1 1) ≤ 24
    have := h.2.1
    split
    · rename_i c
      rw [← c] at hn
      omega
    · omega
  · show (if k = r then (if j < p then S.2.1 k j else if j = p then x else S.2.1 k (j - 1)) else S.2.1 k j) < 4
    repeat' split
    all_goals first | exact hx | exact h.2.2.1 _ _
theorem case_put {fu : Nat} {u : zU} {a1 a2 a3 : Int32} (hu : zUw u) (hfu : 400 < fu) : zStep (fun σ => m_L_put fu σ a1 a2 a3) (fun σ => m_X11_put fu σ a1 a2 a3) u := by
  rcases zin_em a1 0 1 with ⟨r, _, hr, rfl⟩ | h1
  · have hr : r < 2 := by omega
    have hle := hu.1.le hr
    rcases zin_em a2 0 (u.1.1 r) with ⟨p, _, hp, rfl⟩ | h2
    · rcases zin_em a3 0 3 with ⟨x, _, hx, rfl⟩ | h3
      · by_cases hn : u.1.1 r < 24
        · refine ⟨0, nI (u.1.1 r + 1), (zput u.1 r p x, (zpush u).2), by decide, hu.push (hu.1.put hn (by omega)), fun σ h => ?_, fun σ h => ?_⟩
          · obtain ⟨s1, e1, j1, fl, f1⟩ := pX10_save h.1 hfu
            have r0 := h.1.1.1.row hr
            have r1 : zRow s1 (zRr 1 r) (u.1.1 r) (u.1.2.1 r) := j1.1.1.row hr
            obtain ⟨g, e2, hg⟩ := pX6_insert (fu := fu) (v := nI x) r1 hn hp (by omega)
            have r2 : zRow (zRw s1 (zRr 1 r) (u.1.1 r + 1) g) (zRr 1 r) ((zput u.1 r p x).1 r) ((zput u.1 r p x).2.1 r) := by
              rw [show (zput u.1 r p x).1 r = u.1.1 r + 1 from if_pos rfl]
              refine zRw_row r1.1 (by omega) (fun j hj => ?_)
              have hj : j < u.1.1 r + 1 := hj
              rw [hg j (by omega)]
              show _ = nI (if r = r then (if j < p then u.1.2.1 r j else if j = p then x else u.1.2.1 r (j - 1)) else u.1.2.1 r j)
              rw [if_pos rfl]
              repeat' split
              all_goals rfl
            have e : m_X10_put fu σ (nI r) (nI p) (nI x) = some (.inr (nI (u.1.1 r + 1)), zRw s1 (zRr 1 r) (u.1.1 r + 1) g) := by
              have r2' : m_X6_size fu (zRw s1 (zRr 1 r) (u.1.1 r + 1) g) (zRr 1 r) = some (nI (u.1.1 r + 1)) := by
                have := pX6_size (fu := fu) r2
                rw [show (zput u.1 r p x).1 r = u.1.1 r + 1 from if_pos rfl] at this
                exact this
              unfold m_X10_put
              rw [pX10_isRow hr, Option.bind_some, if_neg (by decide), if_neg (nI_pos (by omega)), pX7_rowOf hr, Option.bind_some, pX6_size r0, Option.bind_some, if_pos (nI_le hp (by omega)), pX10_isSign1 (by omega), Option.bind_some, if_pos (by decide), Option.bind_some, pX6_size r0, Option.bind_some, if_pos (show nI (u.1.1 r) < (24 : Int32) from nI_lt hn (by decide)), e1, Option.bind_some, pX7_rowOf hr, Option.bind_some]
              rw [show m_X6_insert fu s1 (zRr 1 r) (nI p) (nI x) = some (zRw s1 (zRr 1 r) (u.1.1 r + 1) g) from e2, Option.bind_some, pX7_rowOf hr, Option.bind_some, r2', Option.bind_some]
            unfold m_L_put
            exact zLo_ok e rfl (zrow_fin j1 fl hr (zfr_Rw (by simp) (by simp)) r2 (fun k hk hk2 => ⟨if_neg hk2, funext fun j => if_neg hk2⟩) rfl) ((f1.c (by intro a; simp; omega)).tr ((zfr_Rw (l := [zRr 1 r, zRr 1 r + 1]) (by simp) (by simp)).c (by intro a; simp; unfold zRr; omega)))
          · obtain ⟨s1, e1, j1, f1, k1⟩ := qX11_saveI (h.st (k := 7) (v := (0 : Int32)) (by decide) (by decide)) hfu
            obtain ⟨s2, e2, z2, f2⟩ := qX11_putW (fu := fu) (x := x) j1.1 hr hp hn (by omega)
            refine ⟨s2, _, ?_, zref_fin j1 z2 f2, (((zfr_st (l := [103]) (by simp)).x (by simp)).tr (f1.x (by intro a; simp; omega))).tr (f2.x (by simp)), ?_, fun _ => rfl⟩
            · have z0 := h.1
              show m_X11_put fu σ (nI r) (nI p) (nI x) = _
              unfold m_X11_put
              rw [qX11_isRow1 hr, Option.bind_some, if_neg (by decide), qX11_signs z0 hr, Option.bind_some, show m_X11_within fu σ (nI p) (0 : Int32) (nI (u.1.1 r)) = some 1 from qX11_w1 (lo := 0) (Nat.zero_le _) hp (by omega), Option.bind_some, if_pos (by decide), qX11_isSign1 (by omega), Option.bind_some, if_pos (by decide), Option.bind_some, if_pos (nI_n24 (by omega) (by omega)), Option.bind_some, zst_at, if_pos (by decide), e1, Option.bind_some]
              exact e2
            · rw [f2.1 103 (by simp), k1 7 (by decide), zst_at]
              rfl
        · refine ⟨3, 0, u, by decide, hu, fun σ h => ?_, fun σ h => ?_⟩
          · have r0 := h.1.1.1.row hr
            have e : m_X10_put fu σ (nI r) (nI p) (nI x) = some (.inl 2, σ) := by
              unfold m_X10_put
              rw [pX10_isRow hr, Option.bind_some, if_neg (by decide), if_neg (nI_pos (by omega)), pX7_rowOf hr, Option.bind_some, pX6_size r0, Option.bind_some, if_pos (nI_le hp (by omega)), pX10_isSign1 (by omega), Option.bind_some, if_pos (by decide), Option.bind_some, pX6_size r0, Option.bind_some, if_neg (show ¬ nI (u.1.1 r) < (24 : Int32) from nI_nlt (b := 24) (by omega) (by omega))]
            unfold m_L_put
            exact zLo_no e rfl h zfc.rf (by decide)
          · have z0 := h.1
            have e : m_X11_put fu σ (nI r) (nI p) (nI x) = some ((0 : Int32), zst σ 103 7 (nI 3)) := by
              unfold m_X11_put
              rw [qX11_isRow1 hr, Option.bind_some, if_neg (by decide), qX11_signs z0 hr, Option.bind_some, show m_X11_within fu σ (nI p) (0 : Int32) (nI (u.1.1 r)) = some 1 from qX11_w1 (lo := 0) (Nat.zero_le _) hp (by omega), Option.bind_some, if_pos (by decide), qX11_isSign1 (by omega), Option.bind_some, if_pos (by decide), Option.bind_some, if_neg (show ¬ ¬ nI (u.1.1 r) = (24 : Int32) from fun q => q (by rw [show u.1.1 r = 24 by omega]; rfl)), Option.bind_some, zst_at, if_neg (by decide)]
              rfl
            show zXo (m_X11_put fu σ _ _ _) σ _ _ _
            rw [e]
            exact zXo_no h (by decide)
      · refine ⟨2, 0, u, by decide, hu, fun σ h => ?_, fun σ h => ?_⟩
        · have r0 := h.1.1.1.row hr
          have e : m_X10_put fu σ (nI r) (nI p) a3 = some (.inl 1, σ) := by
            unfold m_X10_put
            rw [pX10_isRow hr, Option.bind_some, if_neg (by decide), if_neg (nI_pos (by omega)), pX7_rowOf hr, Option.bind_some, pX6_size r0, Option.bind_some, if_pos (nI_le hp (by omega)), pX10_isSign0 h3, Option.bind_some, if_neg (by decide)]
          unfold m_L_put
          exact zLo_no e rfl h zfc.rf (by decide)
        · have z0 := h.1
          have e : m_X11_put fu σ (nI r) (nI p) a3 = some ((0 : Int32), zst σ 103 7 (nI 2)) := by
            unfold m_X11_put
            rw [qX11_isRow1 hr, Option.bind_some, if_neg (by decide), qX11_signs z0 hr, Option.bind_some, show m_X11_within fu σ (nI p) (0 : Int32) (nI (u.1.1 r)) = some 1 from qX11_w1 (lo := 0) (Nat.zero_le _) hp (by omega), Option.bind_some, if_pos (by decide), qX11_isSign0 h3, Option.bind_some, if_neg (by decide), Option.bind_some, zst_at, if_neg (by decide)]
            rfl
          show zXo (m_X11_put fu σ _ _ _) σ _ _ _
          rw [e]
          exact zXo_no h (by decide)
    · refine ⟨1, 0, u, by decide, hu, fun σ h => ?_, fun σ h => ?_⟩
      · have r0 := h.1.1.1.row hr
        have e : m_X10_put fu σ (nI r) a2 a3 = some (.inl 0, σ) := by
          unfold m_X10_put
          rw [pX10_isRow hr, Option.bind_some, if_neg (by decide)]
          rcases znot_le (fun k hk => h2 k (Nat.zero_le _) hk) (show u.1.1 r < 2 ^ 30 by omega) with c | c
          · rw [if_pos c]
          · by_cases d : a2 < 0
            · rw [if_pos d]
            · rw [if_neg d, pX7_rowOf hr, Option.bind_some, pX6_size r0, Option.bind_some, if_neg c]
        unfold m_L_put
        exact zLo_no e rfl h zfc.rf (by decide)
      · have z0 := h.1
        have e : m_X11_put fu σ (nI r) a2 a3 = some ((0 : Int32), zst σ 103 7 (nI 1)) := by
          unfold m_X11_put
          rw [qX11_isRow1 hr, Option.bind_some, if_neg (by decide), qX11_signs z0 hr, Option.bind_some, show m_X11_within fu σ a2 (0 : Int32) (nI (u.1.1 r)) = some 0 from qX11_w0 (lo := 0) h2 (by omega) (by decide), Option.bind_some, if_neg (by decide), Option.bind_some, zst_at, if_neg (by decide)]
          rfl
        show zXo (m_X11_put fu σ _ _ _) σ _ _ _
        rw [e]
        exact zXo_no h (by decide)
  · refine ⟨1, 0, u, by decide, hu, fun σ h => ?_, fun σ h => ?_⟩
    · have e : m_X10_put fu σ a1 a2 a3 = some (.inl 0, σ) := by
        unfold m_X10_put
        rw [pX10_isRow0 (fun k hk => h1 k (Nat.zero_le _) (by omega)), Option.bind_some, if_pos rfl]
      unfold m_L_put
      exact zLo_no e rfl h zfc.rf (by decide)
    · have e : m_X11_put fu σ a1 a2 a3 = some ((0 : Int32), zst σ 103 7 (nI 1)) := by
        unfold m_X11_put
        rw [qX11_isRow0 h1, Option.bind_some, if_pos rfl, Option.bind_some, zst_at, if_neg (by decide)]
        rfl
      show zXo (m_X11_put fu σ _ _ _) σ _ _ _
      rw [e]
      exact zXo_no h (by decide)
