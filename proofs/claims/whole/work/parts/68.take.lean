/-! the calls that change rows: take, change, turn -/
theorem zpl_em (a b : Int32) (n : Nat → Nat) : (∃ r p, r < 2 ∧ p < n r ∧ a = nI r ∧ b = nI p) ∨ ∀ r p, r < 2 → p < n r → a = nI r → b ≠ nI p := by
  rcases Classical.em (∃ r p, r < 2 ∧ p < n r ∧ a = nI r ∧ b = nI p) with h | h
  · exact Or.inl h
  · exact Or.inr (fun r p h1 h2 h3 h4 => h ⟨r, p, h1, h2, h3, h4⟩)
theorem qX11_isPlace1 {fu : Nat} {σ : zmem} {S : zS} {r p : Nat} (h : zMz σ 104 0 S) (hr : r < 2) (hp : p < S.1 r) : m_X11_isPlace fu σ (nI r) (nI p) = some 1 := by
  rcases qX11_isPlace (fu := fu) (a := nI r) (b := nI p) h with ⟨e, _⟩ | ⟨_, h2⟩
  · exact e
  · exact absurd rfl (h2 r p hr hp rfl)
theorem qX11_isPlace0 {fu : Nat} {σ : zmem} {S : zS} {a b : Int32} (h : zMz σ 104 0 S) (hn : ∀ r p, r < 2 → p < S.1 r → a = nI r → b ≠ nI p) : m_X11_isPlace fu σ a b = some 0 := by
  rcases qX11_isPlace (fu := fu) (a := a) (b := b) h with ⟨_, r, p, h1, h2, h3, h4⟩ | ⟨e, _⟩
  · exact absurd h4 (hn r p h1 h2 h3)
  · exact e
theorem znot_1 {a : Int32} {n : Nat} (h : ∀ k, 1 ≤ k → k ≤ n → a ≠ nI k) (hn : n < 2 ^ 30) : a < (1 : Int32) ∨ ¬ a ≤ nI n := by
  by_cases c : a < (1 : Int32)
  · exact Or.inl c
  · refine Or.inr (fun z => ?_)
    have c0 : ¬ a < 0 := fun q => c (Int32.lt_trans q (by decide))
    obtain ⟨k, hk, e⟩ := za_le c0 z hn
    by_cases d : k = 0
    · exact c (by rw [e, d]; decide)
    · exact h k (by omega) hk e
theorem zWf.take {S : zS} {r p q : Nat} (h : zWf S) : zWf (ztake S r p q) := by
  refine ⟨?_, ?_, fun k j => ?_, h.2.2.2⟩
  · show (if 0 = r then S.1 0 - q else S.1 0) ≤ 24
    have := h.1
    split <;> omega
  · show (if 1 = r then S.1 1 - q else S.1 1) ≤ 24
    have := h.2.1
    split <;> omega
  · show (if k = r then (if j < p then S.2.1 k j else S.2.1 k (j + q)) else S.2.1 k j) < 4
    repeat' split
    all_goals exact h.2.2.1 _ _
theorem zWf.chg {S : zS} {r p x : Nat} (h : zWf S) (hx : x < 4) : zWf (zchg S r p x) := by
  refine ⟨h.1, h.2.1, fun k j => ?_, h.2.2.2⟩
  show (if k = r ∧ j = p then x else S.2.1 k j) < 4
  split
  · exact hx
  · exact h.2.2.1 _ _
theorem zWf.turn {S : zS} {r a b : Nat} (h : zWf S) : zWf (zturn S r a b) := by
  refine ⟨h.1, h.2.1, fun k j => ?_, h.2.2.2⟩
  show (if k = r ∧ a ≤ j ∧ j ≤ b then S.2.1 k (a + b - j) else S.2.1 k j) < 4
  split <;> exact h.2.2.1 _ _
theorem case_take {fu : Nat} {u : zU} {a1 a2 a3 : Int32} (hu : zUw u) (hfu : 400 < fu) : zStep (fun σ => m_L_take fu σ a1 a2 a3) (fun σ => m_X11_take fu σ a1 a2 a3) u := by
  rcases zpl_em a1 a2 u.1.1 with ⟨r, p, hr, hp, rfl, rfl⟩ | h1
  · have hle := hu.1.le hr
    rcases zin_em a3 1 (u.1.1 r - p) with ⟨q, hq1, hq, rfl⟩ | h3
    · refine ⟨0, nI (u.1.1 r - q), (ztake u.1 r p q, (zpush u).2), by decide, hu.push hu.1.take, fun σ h => ?_, fun σ h => ?_⟩
      · obtain ⟨s1, e1, j1, fl, f1⟩ := pX10_save h.1 hfu
        have r0 : zRow σ (zRr 1 r) (u.1.1 r) (u.1.2.1 r) := h.1.1.1.row hr
        have r1 : zRow s1 (zRr 1 r) (u.1.1 r) (u.1.2.1 r) := j1.1.1.row hr
        obtain ⟨g, e2, hg⟩ := pX6_remove (fu := fu) r1 hq1 (show p + q ≤ u.1.1 r by omega) (by omega)
        have r2 : zRow (zRw s1 (zRr 1 r) (u.1.1 r - q) g) (zRr 1 r) ((ztake u.1 r p q).1 r) ((ztake u.1 r p q).2.1 r) := by
          rw [show (ztake u.1 r p q).1 r = u.1.1 r - q from if_pos rfl]
          refine zRw_row r1.1 (by omega) (fun j hj => ?_)
          have hj : j < u.1.1 r - q := hj
          rw [hg j hj]
          show _ = nI (if r = r then (if j < p then u.1.2.1 r j else u.1.2.1 r (j + q)) else u.1.2.1 r j)
          rw [if_pos rfl]
        have r2' : m_X6_size fu (zRw s1 (zRr 1 r) (u.1.1 r - q) g) (zRr 1 r) = some (nI (u.1.1 r - q)) := by
          have := pX6_size (fu := fu) r2
          rw [show (ztake u.1 r p q).1 r = u.1.1 r - q from if_pos rfl] at this
          exact this
        have e : m_X10_take fu σ (nI r) (nI p) (nI q) = some (.inr (nI (u.1.1 r - q)), zRw s1 (zRr 1 r) (u.1.1 r - q) g) := by
          unfold m_X10_take
          rw [pX10_isPlace h.1.1.1 hr hp, Option.bind_some, if_pos (by decide), if_neg (show ¬ nI q < (1 : Int32) from nI_nlt (b := 1) hq1 (by omega)), pX7_rowOf hr, Option.bind_some, pX6_size r0, Option.bind_some, pk_sub (by omega), if_pos (nI_le hq (by omega)), e1, Option.bind_some, pX7_rowOf hr, Option.bind_some, e2, Option.bind_some, pX7_rowOf hr, Option.bind_some, r2', Option.bind_some]
        unfold m_L_take
        exact zLo_ok e rfl (zrow_fin j1 fl hr (zfr_Rw (by simp) (by simp)) r2 (fun k hk hk2 => ⟨if_neg hk2, funext fun j => if_neg hk2⟩) rfl) ((f1.c (by intro a; simp; omega)).tr ((zfr_Rw (l := [zRr 1 r, zRr 1 r + 1]) (by simp) (by simp)).c (by intro a; simp; unfold zRr; omega)))
      · obtain ⟨s1, e1, j1, f1, k1⟩ := qX11_saveI (h.st (k := 7) (v := (0 : Int32)) (by decide) (by decide)) hfu
        obtain ⟨s2, e2, z2, f2⟩ := qX11_takeW (fu := fu) (r := r) (p := p) (q := q) j1.1 hr (show p + q ≤ u.1.1 r by omega) (by omega)
        refine ⟨s2, _, ?_, zref_fin j1 z2 f2, (((zfr_st (l := [103]) (by simp)).x (by simp)).tr (f1.x (by intro a; simp; omega))).tr (f2.x (by simp)), ?_, fun _ => rfl⟩
        · have z0 := h.1
          show m_X11_take fu σ (nI r) (nI p) (nI q) = _
          unfold m_X11_take
          rw [qX11_isPlace1 z0 hr hp, Option.bind_some, if_pos (by decide), qX11_signs z0 hr, Option.bind_some, pk_sub (by omega), show m_X11_within fu σ (nI q) (1 : Int32) (nI (u.1.1 r - p)) = some 1 from qX11_w1 (lo := 1) hq1 hq (by omega), Option.bind_some, if_neg (by decide), Option.bind_some, zst_at, if_pos (by decide), e1, Option.bind_some]
          exact e2
        · rw [f2.1 103 (by simp), k1 7 (by decide), zst_at]
          rfl
    · refine ⟨2, 0, u, by decide, hu, fun σ h => ?_, fun σ h => ?_⟩
      · have r0 : zRow σ (zRr 1 r) (u.1.1 r) (u.1.2.1 r) := h.1.1.1.row hr
        have e : m_X10_take fu σ (nI r) (nI p) a3 = some (.inl 1, σ) := by
          unfold m_X10_take
          rw [pX10_isPlace h.1.1.1 hr hp, Option.bind_some, if_pos (by decide)]
          rcases znot_1 h3 (show u.1.1 r - p < 2 ^ 30 by omega) with c | c
          · rw [if_pos c]
          · by_cases d : a3 < (1 : Int32)
            · rw [if_pos d]
            · rw [if_neg d, pX7_rowOf hr, Option.bind_some, pX6_size r0, Option.bind_some, pk_sub (by omega), if_neg c]
        unfold m_L_take
        exact zLo_no e rfl h zfc.rf (by decide)
      · have z0 := h.1
        have e : m_X11_take fu σ (nI r) (nI p) a3 = some ((0 : Int32), zst σ 103 7 (nI 2)) := by
          unfold m_X11_take
          rw [qX11_isPlace1 z0 hr hp, Option.bind_some, if_pos (by decide), qX11_signs z0 hr, Option.bind_some, pk_sub (by omega), show m_X11_within fu σ a3 (1 : Int32) (nI (u.1.1 r - p)) = some 0 from qX11_w0 (lo := 1) h3 (by omega) (by decide), Option.bind_some, if_pos rfl, Option.bind_some, zst_at, if_neg (by decide)]
          rfl
        show zXo (m_X11_take fu σ _ _ _) σ _ _ _
        rw [e]
        exact zXo_no h (by decide)
  · refine ⟨1, 0, u, by decide, hu, fun σ h => ?_, fun σ h => ?_⟩
    · have e : m_X10_take fu σ a1 a2 a3 = some (.inl 0, σ) := by
        unfold m_X10_take
        rw [pX10_isPlace0 h.1.1.1 h1, Option.bind_some, if_neg (by decide)]
      unfold m_L_take
      exact zLo_no e rfl h zfc.rf (by decide)
    · have e : m_X11_take fu σ a1 a2 a3 = some ((0 : Int32), zst σ 103 7 (nI 1)) := by
        unfold m_X11_take
        rw [qX11_isPlace0 h.1 h1, Option.bind_some, if_neg (by decide), Option.bind_some, zst_at, if_neg (by decide)]
        rfl
      show zXo (m_X11_take fu σ _ _ _) σ _ _ _
      rw [e]
      exact zXo_no h (by decide)
theorem case_change {fu : Nat} {u : zU} {a1 a2 a3 : Int32} (hu : zUw u) (hfu : 400 < fu) : zStep (fun σ => m_L_change fu σ a1 a2 a3) (fun σ => m_X11_change fu σ a1 a2 a3) u := by
  rcases zpl_em a1 a2 u.1.1 with ⟨r, p, hr, hp, rfl, rfl⟩ | h1
  · have hle := hu.1.le hr
    rcases zin_em a3 0 3 with ⟨x, _, hx, rfl⟩ | h3
    · refine ⟨0, nI (u.1.2.1 r p), (zchg u.1 r p x, (zpush u).2), by decide, hu.push (hu.1.chg (by omega)), fun σ h => ?_, fun σ h => ?_⟩
      · obtain ⟨s1, e1, j1, fl, f1⟩ := pX10_save h.1 hfu
        have r1 : zRow s1 (zRr 1 r) (u.1.1 r) (u.1.2.1 r) := j1.1.1.row hr
        have fz : zfr s1 (zrw s1 (zRr 1 r + 1) (upd (s1.1 (zRr 1 r + 1)) p (nI x))) [zRr 1 r, zRr 1 r + 1] := zfr_rw (by simp)
        have r2 : zRow (zrw s1 (zRr 1 r + 1) (upd (s1.1 (zRr 1 r + 1)) p (nI x))) (zRr 1 r) ((zchg u.1 r p x).1 r) ((zchg u.1 r p x).2.1 r) := by
          refine ⟨r1.1, r1.2.1, by rw [zrw_ne (by omega)]; exact r1.2.2.1, fun j hj => ?_⟩
          have hj : j < u.1.1 r := hj
          rw [zrw_at]
          show _ = nI (if r = r ∧ j = p then x else u.1.2.1 r j)
          by_cases c : j = p
          · rw [if_pos ⟨rfl, c⟩, c, upd_at]
          · rw [if_neg (fun z => c z.2), upd_ne c]
            exact r1.2.2.2 j hj
        have e : m_X10_change fu σ (nI r) (nI p) (nI x) = some (.inr (nI (u.1.2.1 r p)), zrw s1 (zRr 1 r + 1) (upd (s1.1 (zRr 1 r + 1)) p (nI x))) := by
          unfold m_X10_change
          rw [pX10_isPlace h.1.1.1 hr hp, Option.bind_some, if_pos (by decide), pX10_isSign1 (by omega), Option.bind_some, if_pos (by decide), e1, Option.bind_some, pX7_rowOf hr, Option.bind_some, pX6_signAt r1.1 (by omega), Option.bind_some, Option.bind_some, pX6_write r1.1 (by omega), Option.bind_some, r1.2.2.2 p hp]
        unfold m_L_change
        exact zLo_ok e rfl (zrow_fin j1 fl hr fz r2 (fun k hk hk2 => ⟨rfl, funext fun j => if_neg (fun z => hk2 z.1)⟩) rfl) ((f1.c (by intro a; simp; omega)).tr (fz.c (by intro a; simp; unfold zRr; omega)))
      · obtain ⟨s1, e1, j1, f1, k1⟩ := qX11_saveI (h.st (k := 7) (v := (0 : Int32)) (by decide) (by decide)) hfu
        have z2 := zMz.chg (x := x) (p := p) j1.1 hr hp
        have f2 : zfr s1 (zrw s1 104 (upd (s1.1 104) (6 + 24 * r + p) (nI x))) [104] := zfr_rw (by simp)
        refine ⟨_, _, ?_, zref_fin j1 z2 f2, (((zfr_st (l := [103]) (by simp)).x (by simp)).tr (f1.x (by intro a; simp; omega))).tr (f2.x (by simp)), ?_, fun _ => rfl⟩
        · have z0 := h.1
          show m_X11_change fu σ (nI r) (nI p) (nI x) = _
          unfold m_X11_change
          rw [qX11_isPlace1 z0 hr hp, Option.bind_some, if_pos (by decide), qX11_isSign1 (by omega), Option.bind_some, if_neg (by decide), Option.bind_some, zst_at, if_pos (by decide), e1, Option.bind_some, qX11_at j1.1 hr hp, Option.bind_some, qX11_lay1 hr (by omega), Option.bind_some]
          rfl
        · rw [f2.1 103 (by simp), k1 7 (by decide), zst_at]
          rfl
    · refine ⟨2, 0, u, by decide, hu, fun σ h => ?_, fun σ h => ?_⟩
      · have e : m_X10_change fu σ (nI r) (nI p) a3 = some (.inl 1, σ) := by
          unfold m_X10_change
          rw [pX10_isPlace h.1.1.1 hr hp, Option.bind_some, if_pos (by decide), pX10_isSign0 h3, Option.bind_some, if_neg (by decide)]
        unfold m_L_change
        exact zLo_no e rfl h zfc.rf (by decide)
      · have e : m_X11_change fu σ (nI r) (nI p) a3 = some ((0 : Int32), zst σ 103 7 (nI 2)) := by
          unfold m_X11_change
          rw [qX11_isPlace1 h.1 hr hp, Option.bind_some, if_pos (by decide), qX11_isSign0 h3, Option.bind_some, if_pos rfl, Option.bind_some, zst_at, if_neg (by decide)]
          rfl
        show zXo (m_X11_change fu σ _ _ _) σ _ _ _
        rw [e]
        exact zXo_no h (by decide)
  · refine ⟨1, 0, u, by decide, hu, fun σ h => ?_, fun σ h => ?_⟩
    · have e : m_X10_change fu σ a1 a2 a3 = some (.inl 0, σ) := by
        unfold m_X10_change
        rw [pX10_isPlace0 h.1.1.1 h1, Option.bind_some, if_neg (by decide)]
      unfold m_L_change
      exact zLo_no e rfl h zfc.rf (by decide)
    · have e : m_X11_change fu σ a1 a2 a3 = some ((0 : Int32), zst σ 103 7 (nI 1)) := by
        unfold m_X11_change
        rw [qX11_isPlace0 h.1 h1, Option.bind_some, if_neg (by decide), Option.bind_some, zst_at, if_neg (by decide)]
        rfl
      show zXo (m_X11_change fu σ _ _ _) σ _ _ _
      rw [e]
      exact zXo_no h (by decide)
theorem za_le2 {a b : Nat} (ha : a < 2 ^ 20) (hb : b < 2 ^ 20) : (nI a ≤ nI b) = (a ≤ b) := propext (nI_leI (by omega) (by omega))
theorem case_turn {fu : Nat} {u : zU} {a1 a2 a3 : Int32} (hu : zUw u) (hfu : 400 < fu) : zStep (fun σ => m_L_turn fu σ a1 a2 a3) (fun σ => m_X11_turn fu σ a1 a2 a3) u := by
  have bad : (∀ σ, zCI σ u → m_X10_turn fu σ a1 a2 a3 = some (.inl 0, σ)) → (∀ σ, zRI σ u → m_X11_turn fu σ a1 a2 a3 = some ((0 : Int32), zst σ 103 7 (nI 1))) → zStep (fun σ => m_L_turn fu σ a1 a2 a3) (fun σ => m_X11_turn fu σ a1 a2 a3) u := fun g1 g2 => by
    refine ⟨1, 0, u, by decide, hu, fun σ h => ?_, fun σ h => ?_⟩
    · unfold m_L_turn
      exact zLo_no (g1 σ h) rfl h zfc.rf (by decide)
    · show zXo (m_X11_turn fu σ _ _ _) σ _ _ _
      rw [g2 σ h]
      exact zXo_no h (by decide)
  rcases zpl_em a1 a2 u.1.1 with ⟨r, a, hr, ha, rfl, rfl⟩ | h1
  · have hle := hu.1.le hr
    rcases zpl_em (nI r) a3 u.1.1 with ⟨r', b, hr', hb, er, rfl⟩ | h3
    · have er : r = r' := (nI_eq (by omega) (by omega)).mp er
      subst er
      by_cases hab : a ≤ b
      · refine ⟨0, nI (zrc (u.1.2.1 r) a b fu), (zturn u.1 r a b, (zpush u).2), by decide, hu.push hu.1.turn, fun σ h => ?_, fun σ h => ?_⟩
        · obtain ⟨s1, e1, j1, fl, f1⟩ := pX10_save h.1 hfu
          have r1 : zRow s1 (zRr 1 r) (u.1.1 r) (u.1.2.1 r) := j1.1.1.row hr
          obtain ⟨g, e2, hg⟩ := pX6_reverse (fu := fu) r1 (fun j _ => hu.1.2.2.1 r j) hab hb (by omega)
          have fz : zfr s1 (zrw s1 (zRr 1 r + 1) g) [zRr 1 r, zRr 1 r + 1] := zfr_rw (by simp)
          have r2 : zRow (zrw s1 (zRr 1 r + 1) g) (zRr 1 r) ((zturn u.1 r a b).1 r) ((zturn u.1 r a b).2.1 r) := by
            refine ⟨r1.1, r1.2.1, by rw [zrw_ne (by omega)]; exact r1.2.2.1, fun j hj => ?_⟩
            have hj : j < u.1.1 r := hj
            rw [zrw_at, hg j hj]
            show nI (if a ≤ j ∧ j ≤ b then u.1.2.1 r (a + b - j) else u.1.2.1 r j) = nI (if r = r ∧ a ≤ j ∧ j ≤ b then u.1.2.1 r (a + b - j) else u.1.2.1 r j)
            by_cases c : a ≤ j ∧ j ≤ b
            · rw [if_pos c, if_pos ⟨rfl, c⟩]
            · rw [if_neg c, if_neg (fun z => c z.2)]
          have e : m_X10_turn fu σ (nI r) (nI a) (nI b) = some (.inr (nI (zrc (u.1.2.1 r) a b fu)), zrw s1 (zRr 1 r + 1) g) := by
            unfold m_X10_turn
            rw [pX10_isPlace h.1.1.1 hr ha, Option.bind_some, if_neg (by decide), pX10_isPlace h.1.1.1 hr hb, Option.bind_some, if_pos (by decide), if_pos (nI_le hab (by omega)), e1, Option.bind_some, pX7_rowOf hr, Option.bind_some, e2, Option.bind_some]
          unfold m_L_turn
          exact zLo_ok e rfl (zrow_fin j1 fl hr fz r2 (fun k hk hk2 => ⟨rfl, funext fun j => if_neg (fun z => hk2 z.1)⟩) rfl) ((f1.c (by intro a; simp; omega)).tr (fz.c (by intro a; simp; unfold zRr; omega)))
        · obtain ⟨s1, e1, j1, f1, k1⟩ := qX11_saveI (h.st (k := 7) (v := (0 : Int32)) (by decide) (by decide)) hfu
          obtain ⟨s2, e2, z2, f2⟩ := qX11_turnW (fu := fu) j1.1 hr hab hb (fun j => hu.1.2.2.1 r j) (by omega)
          refine ⟨s2, _, ?_, zref_fin j1 z2 f2, (((zfr_st (l := [103]) (by simp)).x (by simp)).tr (f1.x (by intro a; simp; omega))).tr (f2.x (by simp)), ?_, fun _ => rfl⟩
          · have z0 := h.1
            show m_X11_turn fu σ (nI r) (nI a) (nI b) = _
            unfold m_X11_turn
            rw [qX11_isPlace1 z0 hr ha, Option.bind_some, if_neg (by decide), qX11_isPlace1 z0 hr hb, Option.bind_some, if_pos (by decide), if_pos (nI_le hab (by omega)), Option.bind_some, zst_at, if_pos (by decide), e1, Option.bind_some]
            exact e2
          · rw [f2.1 103 (by simp), k1 7 (by decide), zst_at]
            rfl
      · refine ⟨2, 0, u, by decide, hu, fun σ h => ?_, fun σ h => ?_⟩
        · have e : m_X10_turn fu σ (nI r) (nI a) (nI b) = some (.inl 1, σ) := by
            unfold m_X10_turn
            rw [pX10_isPlace h.1.1.1 hr ha, Option.bind_some, if_neg (by decide), pX10_isPlace h.1.1.1 hr hb, Option.bind_some, if_pos (by decide), if_neg (nI_ge (by omega) (by omega))]
          unfold m_L_turn
          exact zLo_no e rfl h zfc.rf (by decide)
        · have e : m_X11_turn fu σ (nI r) (nI a) (nI b) = some ((0 : Int32), zst σ 103 7 (nI 2)) := by
            unfold m_X11_turn
            rw [qX11_isPlace1 h.1 hr ha, Option.bind_some, if_neg (by decide), qX11_isPlace1 h.1 hr hb, Option.bind_some, if_pos (by decide), if_neg (nI_ge (by omega) (by omega)), Option.bind_some, zst_at, if_neg (by decide)]
            rfl
          show zXo (m_X11_turn fu σ _ _ _) σ _ _ _
          rw [e]
          exact zXo_no h (by decide)
    · refine bad (fun σ h => ?_) (fun σ h => ?_)
      · unfold m_X10_turn
        rw [pX10_isPlace h.1.1.1 hr ha, Option.bind_some, if_neg (by decide), pX10_isPlace0 h.1.1.1 h3, Option.bind_some, if_neg (by decide)]
      · unfold m_X11_turn
        rw [qX11_isPlace1 h.1 hr ha, Option.bind_some, if_neg (by decide), qX11_isPlace0 h.1 h3, Option.bind_some, if_neg (by decide), Option.bind_some, zst_at, if_neg (by decide)]
        rfl
  · refine bad (fun σ h => ?_) (fun σ h => ?_)
    · unfold m_X10_turn
      rw [pX10_isPlace0 h.1.1.1 h1, Option.bind_some, if_pos rfl]
    · unfold m_X11_turn
      rw [qX11_isPlace0 h.1 h1, Option.bind_some, if_pos rfl, Option.bind_some, zst_at, if_neg (by decide)]
      rfl
