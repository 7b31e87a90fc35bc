/-! what would be, both sides -/
/-- only the trial state and its lineup have changed -/
def zft8 (σ σ' : zmem) : Prop := (∀ a, a < 8 ∨ (15 ≤ a ∧ a < 63) ∨ 91 ≤ a → σ'.1 a = σ.1 a) ∧ σ'.2 = σ.2
theorem zft8.tr {σ σ1 σ2 : zmem} (h : zft8 σ σ1) (h2 : zft8 σ1 σ2) : zft8 σ σ2 := ⟨fun a ha => (h2.1 a ha).trans (h.1 a ha), h2.2.trans h.2⟩
theorem zfn.t8 {σ σ' : zmem} {lo hi : Nat} (h : zfn σ σ' lo hi) (h1 : (8 ≤ lo ∧ hi ≤ 15) ∨ (63 ≤ lo ∧ hi ≤ 91)) : zft8 σ σ' := ⟨fun a ha => h.1 a (by omega), h.2⟩
theorem zfr.t8 {σ σ' : zmem} {l : List Nat} (h : zfr σ σ' l) (hl : ∀ a, a ∈ l → 8 ≤ a ∧ a < 15) : zft8 σ σ' := ⟨fun a ha => h.1 a (fun q => by have := hl a q; omega), h.2⟩
theorem zft8.c {σ σ' : zmem} (h : zft8 σ σ') : zfc σ σ' := ⟨fun a ha => h.1 a (by omega), fun a _ => by rw [h.2]⟩
theorem zCF.t8 {σ σ' : zmem} {u : zU} (h : zCF σ u) (hf : zft8 σ σ') : zCF σ' u := by
  obtain ⟨h1, h2, h3, h4⟩ := h
  exact ⟨h1.keepc (fun a g1 g2 => hf.1 a (by omega)), by rw [hf.1 0 (by omega)]; exact h2, h3.keepa (fun a g1 g2 => hf.1 a (by omega)), h4.keepa (fun a g1 g2 => hf.1 a (by omega))⟩
theorem zCI.t8 {σ σ' : zmem} {u : zU} (h : zCI σ u) (hf : zft8 σ σ') : zCI σ' u := by
  refine ⟨h.1.keepc (fun a g1 g2 => hf.1 a (by omega)), ?_⟩
  rcases h.2 with h7 | ⟨h7, h8, h9⟩
  · exact Or.inl (by rw [hf.1 0 (by omega)]; exact h7)
  · exact Or.inr ⟨by rw [hf.1 0 (by omega)]; exact h7, h8.keepa (fun a g1 g2 => hf.1 a (by omega)), h9.keepa (fun a g1 g2 => hf.1 a (by omega))⟩
theorem pX10_trial {fu : Nat} {σ : zmem} {S : zS} (h : zSt σ 1 S) (hfu : 100 < fu) : ∃ σ', m_X7_takeAll fu σ 8 1 = some σ' ∧ zSt σ' 8 S ∧ zft8 σ σ' := by
  obtain ⟨s1, e1, t1, f1⟩ := pX7_takeAll (fu := fu) (b := 8) zc_8 h (by omega) (by omega)
  exact ⟨s1, e1, t1, f1.t8 (by intro a; simp; omega)⟩
theorem pX10_costSet {fu : Nat} {σ : zmem} {S : zS} {i v : Nat} (h : zSt σ 1 S) (hS : zWf S) (hi : i < 4) (h1 : zvl i ≤ v) (h2 : v ≤ zvh i) (hfu : 100 < fu) : ∃ σ', m_X10_costWithSetting fu σ (nI i) (nI v) = some (nI (zcost (zset S i v)), σ') ∧ zft8 σ σ' := by
  obtain ⟨s1, e1, t1, f1⟩ := pX10_trial (fu := fu) h hfu
  have t2 := zSt.set (i := i) (v := v) t1
  have f2 : zfn s1 (zrw s1 (8 + 6) (upd (s1.1 (8 + 6)) i (nI v))) 14 15 := zfn_rw (by omega) (by omega)
  obtain ⟨s3, e3, _, f3⟩ := pX5_build (fu := fu) (i0 := 63) (b := 8) zc_63 t2 (hS.set hi h1 h2) (by omega) hfu
  refine ⟨s3, ?_, (f1.tr (f2.t8 (by omega))).tr (f3.t8 (by omega))⟩
  unfold m_X10_costWithSetting
  rw [e1, Option.bind_some, pX1_store zc_14 hi (by decide), Option.bind_some]
  show ((m_X5_build fu (zrw s1 (8 + 6) (upd (s1.1 (8 + 6)) i (nI v))) 63 8).bind fun x3 => some (x3.1, x3.2)) = _
  rw [e3, Option.bind_some]
theorem pX10_costSign {fu : Nat} {σ : zmem} {S : zS} {r p x : Nat} (h : zSt σ 1 S) (hS : zWf S) (hr : r < 2) (hp : p < S.1 r) (hx : x < 4) (hfu : 100 < fu) : ∃ σ', m_X10_costWithSign fu σ (nI r) (nI p) (nI x) = some (nI (zcost (zchg S r p x)), σ') ∧ zft8 σ σ' := by
  have hle := hS.le hr
  obtain ⟨s1, e1, t1, f1⟩ := pX10_trial (fu := fu) h hfu
  have r1 : zRow s1 (zRr 8 r) (S.1 r) (S.2.1 r) := t1.1.row hr
  have fz : zfr s1 (zrw s1 (zRr 8 r + 1) (upd (s1.1 (zRr 8 r + 1)) p (nI x))) [zRr 8 r, zRr 8 r + 1] := zfr_rw (by simp)
  have r2 : zRow (zrw s1 (zRr 8 r + 1) (upd (s1.1 (zRr 8 r + 1)) p (nI x))) (zRr 8 r) ((zchg S r p x).1 r) ((zchg S r p x).2.1 r) := by
    refine ⟨r1.1, r1.2.1, by rw [zrw_ne (by omega)]; exact r1.2.2.1, fun j hj => ?_⟩
    have hj : j < S.1 r := hj
    rw [zrw_at]
    show _ = nI (if r = r ∧ j = p then x else S.2.1 r j)
    by_cases c : j = p
    · rw [if_pos ⟨rfl, c⟩, c, upd_at]
    · rw [if_neg (fun z => c z.2), upd_ne c]
      exact r1.2.2.2 j hj
  have t2 : zSt (zrw s1 (zRr 8 r + 1) (upd (s1.1 (zRr 8 r + 1)) p (nI x))) 8 (zchg S r p x) := t1.row hr fz r2 (fun k hk hk2 => ⟨rfl, funext fun j => if_neg (fun z => hk2 z.1)⟩) rfl
  obtain ⟨s3, e3, _, f3⟩ := pX5_build (fu := fu) (i0 := 63) (b := 8) zc_63 t2 (hS.chg hx) (by omega) hfu
  refine ⟨s3, ?_, (f1.tr (fz.t8 (by intro a; simp; unfold zRr; omega))).tr (f3.t8 (by omega))⟩
  unfold m_X10_costWithSign
  rw [e1, Option.bind_some, pX7_rowOf hr, Option.bind_some, pX6_write r1.1 (by omega), Option.bind_some, e3, Option.bind_some]
theorem zset_set {S : zS} {i v : Nat} : zset (zset S i v) i (S.2.2 i) = S := by
  refine Prod.ext rfl (Prod.ext rfl (funext fun k => ?_))
  show (if k = i then S.2.2 i else if k = i then v else S.2.2 k) = S.2.2 k
  by_cases c : k = i
  · rw [if_pos c, c]
  · rw [if_neg c, if_neg c]
theorem zset_2 {S : zS} {i v w : Nat} : zset (zset S i v) i w = zset S i w := by
  refine Prod.ext rfl (Prod.ext rfl (funext fun k => ?_))
  show (if k = i then w else if k = i then v else S.2.2 k) = if k = i then w else S.2.2 k
  by_cases c : k = i
  · rw [if_pos c, if_pos c]
  · rw [if_neg c, if_neg c, if_neg c]
theorem zchg_chg {S : zS} {r p x : Nat} : zchg (zchg S r p x) r p (S.2.1 r p) = S := by
  refine Prod.ext rfl (Prod.ext (funext fun k => funext fun j => ?_) rfl)
  show (if k = r ∧ j = p then S.2.1 r p else if k = r ∧ j = p then x else S.2.1 k j) = S.2.1 k j
  by_cases c : k = r ∧ j = p
  · rw [if_pos c, c.1, c.2]
  · rw [if_neg c, if_neg c]
theorem qX11_setThen {fu : Nat} {σ : zmem} {u : zU} {i v : Nat} (h : zRI σ u) (hu : zUw u) (hi : i < 4) (h1 : zvl i ≤ v) (h2 : v ≤ zvh i) (hfu : 100 < fu) : ∃ σ', m_X11_setThen fu σ (nI i) (nI v) = some (nI (zcost (zset u.1 i v)), σ') ∧ zRI σ' u ∧ zfx σ σ' ∧ σ'.1 103 7 = σ.1 103 7 ∧ σ'.2 = σ.2 := by
  have z1 := zMz.set (i := i) (v := v) h.1 hi
  have f1 : zfr σ (zrw σ 104 (upd (σ.1 104) i (nI v))) [104] := zfr_rw (by simp)
  have j1 := zref_fin h z1 f1
  obtain ⟨s2, e2, _, m2⟩ := qX11_costNow (fu := fu) z1 (hu.1.set hi h1 h2) hfu
  have j2 := j1.m m2
  have z3 := zMz.set (i := i) (v := u.1.2.2 i) j2.1 hi
  rw [zset_set] at z3
  have f3 : zfr s2 (zrw s2 104 (upd (s2.1 104) i (nI (u.1.2.2 i)))) [104] := zfr_rw (by simp)
  have j3 := zref_fin j2 z3 f3
  refine ⟨_, ?_, j3, ((f1.x (by simp)).tr m2.x).tr (f3.x (by simp)), ?_, ?_⟩
  · unfold m_X11_setThen
    rw [qX11_set (fu := fu) h.1 hi, Option.bind_some, zwr_in zc_104 (show i < 54 by omega) (by decide), Option.bind_some, e2, Option.bind_some, zwr_in zc_104 (show i < 54 by omega) (by decide), Option.bind_some]
  · rw [f3.1 103 (by simp), m2.f7, f1.1 103 (by simp)]
  · rw [f3.2, m2.2.2, f1.2]
theorem qX11_changedThen {fu : Nat} {σ : zmem} {u : zU} {r p x : Nat} (h : zRI σ u) (hu : zUw u) (hr : r < 2) (hp : p < u.1.1 r) (hx : x < 4) (hfu : 100 < fu) : ∃ σ', m_X11_changedThen fu σ (nI r) (nI p) (nI x) = some (nI (zcost (zchg u.1 r p x)), σ') ∧ zRI σ' u ∧ zfx σ σ' ∧ σ'.1 103 7 = σ.1 103 7 ∧ σ'.2 = σ.2 := by
  have hle := hu.1.le hr
  have z1 := zMz.chg (x := x) (p := p) h.1 hr hp
  have f1 : zfr σ (zrw σ 104 (upd (σ.1 104) (6 + 24 * r + p) (nI x))) [104] := zfr_rw (by simp)
  have j1 := zref_fin h z1 f1
  obtain ⟨s2, e2, _, m2⟩ := qX11_costNow (fu := fu) z1 (hu.1.chg hx) hfu
  have j2 := j1.m m2
  have z3 := zMz.chg (x := u.1.2.1 r p) (p := p) j2.1 hr hp
  rw [zchg_chg] at z3
  have f3 : zfr s2 (zrw s2 104 (upd (s2.1 104) (6 + 24 * r + p) (nI (u.1.2.1 r p)))) [104] := zfr_rw (by simp)
  have j3 := zref_fin j2 z3 f3
  refine ⟨_, ?_, j3, ((f1.x (by simp)).tr m2.x).tr (f3.x (by simp)), ?_, ?_⟩
  · unfold m_X11_changedThen
    rw [qX11_at h.1 hr hp, Option.bind_some, qX11_lay1 hr (by omega), Option.bind_some, e2, Option.bind_some, qX11_lay1 hr (by omega), Option.bind_some]
  · rw [f3.1 103 (by simp), m2.f7, f1.1 103 (by simp)]
  · rw [f3.2, m2.2.2, f1.2]
theorem case_ifSet {fu : Nat} {u : zU} {a1 a2 : Int32} (hu : zUw u) (hfu : 400 < fu) : zStep (fun σ => m_L_ifSet fu σ a1 a2) (fun σ => m_X11_ifSet fu σ a1 a2) u := by
  rcases zin_em a1 0 3 with ⟨i, _, hi, rfl⟩ | h1
  · have hi : i < 4 := by omega
    rcases zin_em a2 (zvl i) (zvh i) with ⟨v, hv1, hv2, rfl⟩ | h2
    · refine ⟨0, nI (zcost (zset u.1 i v)), u, by decide, hu, fun σ h => ?_, fun σ h => ?_⟩
      · obtain ⟨s1, e1, f1⟩ := pX10_costSet (fu := fu) h.1.1 hu.1 hi hv1 hv2 (by omega)
        have e : m_X10_ifSet fu σ (nI i) (nI v) = some (.inr (nI (zcost (zset u.1 i v))), s1) := by
          unfold m_X10_ifSet
          rw [pX10_isSetting1 hi, Option.bind_some, if_pos (by decide), pX10_isValue1 hi hv1 hv2, Option.bind_some, if_pos (by decide), e1, Option.bind_some]
        unfold m_L_ifSet
        exact zLo_ok e rfl (h.t8 f1) f1.c
      · have h0 := h.st (k := 7) (v := (0 : Int32)) (by decide) (by decide)
        obtain ⟨s2, e2, j2, f2, k2, _⟩ := qX11_setThen (fu := fu) h0 hu hi hv1 hv2 (by omega)
        refine zXo_ok ?_ j2 (zst7.tr f2) (by rw [k2]; exact zst_at)
        show m_X11_ifSet fu σ (nI i) (nI v) = _
        unfold m_X11_ifSet
        rw [qX11_isSetting1 hi, Option.bind_some, if_pos (by decide), qX11_isValue1 hi hv1 hv2, Option.bind_some, if_neg (by decide), Option.bind_some, zst_at, if_pos (by decide), e2, Option.bind_some]
    · refine ⟨2, 0, u, by decide, hu, fun σ h => ?_, fun σ h => ?_⟩
      · have e : m_X10_ifSet fu σ (nI i) a2 = some (.inl 1, σ) := by
          unfold m_X10_ifSet
          rw [pX10_isSetting1 hi, Option.bind_some, if_pos (by decide), pX10_isValue0 hi h2, Option.bind_some, if_neg (by decide)]
        unfold m_L_ifSet
        exact zLo_no e rfl h zfc.rf (by decide)
      · refine zXo_no2 (b := 0) (σ' := σ) ?_ h zfx.rf (by decide)
        show m_X11_ifSet fu σ (nI i) a2 = _
        unfold m_X11_ifSet
        rw [qX11_isSetting1 hi, Option.bind_some, if_pos (by decide), qX11_isValue0 hi h2, Option.bind_some, if_pos rfl, Option.bind_some, zst_at, if_neg (by decide)]
        rfl
  · refine ⟨1, 0, u, by decide, hu, fun σ h => ?_, fun σ h => ?_⟩
    · have e : m_X10_ifSet fu σ a1 a2 = some (.inl 0, σ) := by
        unfold m_X10_ifSet
        rw [pX10_isSetting0 h1, Option.bind_some, if_neg (by decide)]
      unfold m_L_ifSet
      exact zLo_no e rfl h zfc.rf (by decide)
    · refine zXo_no2 (b := 0) (σ' := σ) ?_ h zfx.rf (by decide)
      show m_X11_ifSet fu σ a1 a2 = _
      unfold m_X11_ifSet
      rw [qX11_isSetting0 h1, Option.bind_some, if_neg (by decide), Option.bind_some, zst_at, if_neg (by decide)]
      rfl
theorem case_ifChanged {fu : Nat} {u : zU} {a1 a2 a3 : Int32} (hu : zUw u) (hfu : 400 < fu) : zStep (fun σ => m_L_ifChanged fu σ a1 a2 a3) (fun σ => m_X11_ifChanged fu σ a1 a2 a3) u := by
  rcases zpl_em a1 a2 u.1.1 with ⟨r, p, hr, hp, rfl, rfl⟩ | h1
  · rcases zin_em a3 0 3 with ⟨x, _, hx, rfl⟩ | h3
    · refine ⟨0, nI (zcost (zchg u.1 r p x)), u, by decide, hu, fun σ h => ?_, fun σ h => ?_⟩
      · obtain ⟨s1, e1, f1⟩ := pX10_costSign (fu := fu) (x := x) h.1.1 hu.1 hr hp (by omega) (by omega)
        have e : m_X10_ifChanged fu σ (nI r) (nI p) (nI x) = some (.inr (nI (zcost (zchg u.1 r p x))), s1) := by
          unfold m_X10_ifChanged
          rw [pX10_isPlace h.1.1.1 hr hp, Option.bind_some, if_pos (by decide), pX10_isSign1 (by omega), Option.bind_some, if_pos (by decide), e1, Option.bind_some]
        unfold m_L_ifChanged
        exact zLo_ok e rfl (h.t8 f1) f1.c
      · have h0 := h.st (k := 7) (v := (0 : Int32)) (by decide) (by decide)
        obtain ⟨s2, e2, j2, f2, k2, _⟩ := qX11_changedThen (fu := fu) (x := x) h0 hu hr hp (by omega) (by omega)
        refine zXo_ok ?_ j2 (zst7.tr f2) (by rw [k2]; exact zst_at)
        show m_X11_ifChanged fu σ (nI r) (nI p) (nI x) = _
        unfold m_X11_ifChanged
        rw [qX11_isPlace1 h.1 hr hp, Option.bind_some, if_pos (by decide), qX11_isSign1 (by omega), Option.bind_some, if_neg (by decide), Option.bind_some, zst_at, if_pos (by decide), e2, Option.bind_some]
    · refine ⟨2, 0, u, by decide, hu, fun σ h => ?_, fun σ h => ?_⟩
      · have e : m_X10_ifChanged fu σ (nI r) (nI p) a3 = some (.inl 1, σ) := by
          unfold m_X10_ifChanged
          rw [pX10_isPlace h.1.1.1 hr hp, Option.bind_some, if_pos (by decide), pX10_isSign0 h3, Option.bind_some, if_neg (by decide)]
        unfold m_L_ifChanged
        exact zLo_no e rfl h zfc.rf (by decide)
      · refine zXo_no2 (b := 0) (σ' := σ) ?_ h zfx.rf (by decide)
        show m_X11_ifChanged fu σ (nI r) (nI p) a3 = _
        unfold m_X11_ifChanged
        rw [qX11_isPlace1 h.1 hr hp, Option.bind_some, if_pos (by decide), qX11_isSign0 h3, Option.bind_some, if_pos rfl, Option.bind_some, zst_at, if_neg (by decide)]
        rfl
  · refine ⟨1, 0, u, by decide, hu, fun σ h => ?_, fun σ h => ?_⟩
    · have e : m_X10_ifChanged fu σ a1 a2 a3 = some (.inl 0, σ) := by
        unfold m_X10_ifChanged
        rw [pX10_isPlace0 h.1.1.1 h1, Option.bind_some, if_neg (by decide)]
      unfold m_L_ifChanged
      exact zLo_no e rfl h zfc.rf (by decide)
    · refine zXo_no2 (b := 0) (σ' := σ) ?_ h zfx.rf (by decide)
      show m_X11_ifChanged fu σ a1 a2 a3 = _
      unfold m_X11_ifChanged
      rw [qX11_isPlace0 h.1 h1, Option.bind_some, if_neg (by decide), Option.bind_some, zst_at, if_neg (by decide)]
      rfl
