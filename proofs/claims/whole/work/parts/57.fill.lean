/-! the class fills the grid of a gap; the reference lays its costs -/
theorem pX3_fill {fu : Nat} {σ : zmem} {g b p m q n B : Nat} {S : zS} (hg : zkd g = (3, 0)) (h : zSt σ b S) (hS : zWf S) (hf : σ.1 g 2 = nI p ∧ σ.1 g 3 = nI m ∧ σ.1 g 4 = nI q ∧ σ.1 g 5 = nI n) (hp : p + m ≤ S.1 0) (hq : q + n ≤ S.1 1) (hB : B ≤ 24) (hd : g + 3 ≤ b ∨ b + 7 ≤ g) (hfu : 100 < fu) :
    ∃ σ', m_X3_fill fu σ g b (nI B) = some (nI (zgc S p q B m n), σ') ∧ zfn σ σ' (g + 1) (g + 3) ∧ ∀ i j, 1 ≤ i → i ≤ m → 1 ≤ j → j ≤ n → zad i j ≤ B → σ'.1 (g + 2) (25 * i + j) = nI (zsp S p q B i j) := by
  have l0' := hS.1
  have l1' := hS.2.1
  have fld : ∀ τ : zmem, zfn σ τ (g + 1) (g + 3) → τ.1 g 2 = nI p ∧ τ.1 g 3 = nI m ∧ τ.1 g 4 = nI q ∧ τ.1 g 5 = nI n := fun τ hτ => by
    rw [hτ.1 g (by omega)]
    exact hf
  obtain ⟨σ', e, p1, p2⟩ := loopP (L := l_X3_fill_2 fu g b (nI B)) (N := m + 1) (P := fun v τ => zfn σ τ (g + 1) (g + 3) ∧ zGr τ g S p q B n v 0)
    (fun k τ ⟨q1, _⟩ => by rw [l_X3_fill_2, (fld τ q1).2.1, if_pos (nI_lt (Nat.lt_succ_self _) (by omega))])
    (fun k v τ hv ⟨q1, q2⟩ => by
      obtain ⟨τ', e', r1, r2⟩ := loopP (L := l_X3_fill_13 fu g b (nI B) (nI v)) (N := n + 1) (P := fun u τ => zfn σ τ (g + 1) (g + 3) ∧ zGr τ g S p q B n v u)
        (fun k τ ⟨q1, _⟩ => by rw [l_X3_fill_13, (fld τ q1).2.2.2, if_pos (nI_lt (Nat.lt_succ_self _) (by omega))])
        (fun k u τ hu ⟨q1, q2⟩ => by
          have hT := h.keepn q1 (by omega)
          have cell : ∃ y, ((if (zabs (nI v - nI u)) ≤ nI B then (if ¬ nI v = 0 then (m_X3_fillCell fu τ g b (nI v) (nI u)).bind fun x2 => some x2 else (if ¬ nI u = 0 then (m_X3_fillCell fu τ g b (nI v) (nI u)).bind fun x3 => some x3 else (m_X3_store fu τ g (nI v) (nI u) (0 : Int32) (-1 : Int32)).bind fun x4 => some x4)) else (m_X3_store fu τ g (nI v) (nI u) (1000000 : Int32) (-1 : Int32)).bind fun x7 => some x7) : Option (zmem)) = some (zrw (zrw τ (g + 1) (upd (τ.1 (g + 1)) (25 * v + u) (nI (zgc S p q B v u)))) (g + 2) (upd (τ.1 (g + 2)) (25 * v + u) y)) ∧ (1 ≤ v → 1 ≤ u → zad v u ≤ B → y = nI (zsp S p q B v u)) := by
            have hz : zad v u ≤ 24 := by unfold zad; split <;> omega
            rw [zabs_sub (by omega) (by omega)]
            by_cases c1 : zad v u ≤ B
            · rw [if_pos (nI_le c1 (by omega))]
              by_cases c2 : v = 0
              · rw [if_neg (fun z => z (by rw [c2]; rfl))]
                by_cases c3 : u = 0
                · rw [if_neg (fun z => z (by rw [c3]; rfl)), pX3_store hg (by omega) (by omega)]
                  refine ⟨(-1 : Int32), ?_, fun h1 => by omega⟩
                  rw [c2, c3]
                  rfl
                · obtain ⟨y, ey, hy⟩ := pX3_fillCell (fu := fu) hg hT hS (fld τ q1) hp hq (show v ≤ m by omega) (show u ≤ n by omega) (by omega) c1 q2
                  rw [if_pos (nI_ne0 (by omega) (by omega)), ey]
                  exact ⟨y, rfl, hy⟩
              · obtain ⟨y, ey, hy⟩ := pX3_fillCell (fu := fu) hg hT hS (fld τ q1) hp hq (show v ≤ m by omega) (show u ≤ n by omega) (by omega) c1 q2
                rw [if_pos (nI_ne0 (by omega) (by omega)), ey]
                exact ⟨y, rfl, hy⟩
            · rw [if_neg (nI_ge (by omega) (by omega)), pX3_store hg (by omega) (by omega), zgc_out v u (by omega)]
              exact ⟨(-1 : Int32), rfl, fun _ _ z => absurd z c1⟩
          obtain ⟨y, ey, hy⟩ := cell
          refine ⟨_, ?_, q1.tr ((zfn_rw (by omega) (by omega)).tr (zfn_rw (by omega) (by omega))), q2.put (by omega) (by omega) hy⟩
          rw [l_X3_fill_13, (fld τ q1).2.2.2, if_neg (nI_nlt (by omega) (by omega)), ey]
          simp only [Option.bind_some, za1])
        fu 0 τ (by omega) (by omega) ⟨q1, q2⟩
      refine ⟨τ', ?_, r1, fun i j hij => r2 i j (by omega)⟩
      rw [l_X3_fill_2, (fld τ q1).2.1, if_neg (nI_nlt (by omega) (by omega)), l0, e']
      simp only [Option.bind_some, za1])
    fu 0 σ (by omega) (by omega) ⟨zfn.rf, fun i j hij => by omega⟩
  refine ⟨σ', ?_, p1, fun i j h1 h2 h3 h4 h5 => (p2 i j (by omega)).2 h1 h3 h5⟩
  unfold m_X3_fill
  rw [l0, e]
  simp only [Option.bind_some]
  rw [(fld σ' p1).2.1, (fld σ' p1).2.2.2, pX3_cost hg (by omega) (by omega), (p2 m n (by omega)).1]
  rfl
theorem zgc_ref {S : zS} {p q B i j : Nat} (hS : zWf S) (hi : i ≤ 24) (hj : j ≤ 24) : (if zad i j ≤ B then min (min (if i = 0 ∨ j = 0 then (if i = 0 ∧ j = 0 then 0 else 1000000) else zgc S p q B (i - 1) (j - 1) + zuc S p q (i - 1) (j - 1)) (if i = 0 then 1000000 else zgc S p q B (i - 1) j + S.2.2 2)) (if j = 0 then 1000000 else zgc S p q B i (j - 1) + S.2.2 2) else 1000000) = zgc S p q B i j := by
  have hw := hS.2.2.2
  by_cases h : zad i j ≤ B
  · rw [if_pos h]
    cases i with
    | zero =>
      cases j with
      | zero => rfl
      | succ j =>
        rw [zad_0] at h
        have e : zgc S p q B 0 (j + 1) = zgc S p q B 0 j + S.2.2 2 := if_neg (by omega)
        have := zgc_in (p := p) (q := q) (B := B) hS 0 j (by rw [zad_0]; omega)
        rw [if_pos (Or.inl rfl), if_neg (by omega), if_pos rfl, if_neg (by omega), Nat.add_sub_cancel, e]
        omega
    | succ i =>
      cases j with
      | zero =>
        rw [zad_n] at h
        have e : zgc S p q B (i + 1) 0 = zgc S p q B i 0 + S.2.2 2 := if_neg (by omega)
        have := zgc_in (p := p) (q := q) (B := B) hS i 0 (by rw [zad_n]; omega)
        rw [if_pos (Or.inr rfl), if_neg (by omega), if_neg (by omega), if_pos rfl, Nat.add_sub_cancel, e]
        omega
      | succ j =>
        rw [zad_s] at h
        rw [if_neg (by omega), if_neg (by omega), if_neg (by omega), Nat.add_sub_cancel, Nat.add_sub_cancel, Nat.min_assoc]
        exact (if_neg (by omega)).symm
  · rw [if_neg h, zgc_out i j (by omega)]
def zMl (σ : zmem) (S : zS) (p q B n v u : Nat) : Prop := ∀ i j, (i < v ∧ j ≤ n) ∨ (i = v ∧ j < u) → σ.1 121 (25 * i + j) = nI (zgc S p q B i j)
theorem r25m (i j : Nat) : ((25 : Int32) * nI i) + nI j = nI (25 * i + j) := by rw [show (25 : Int32) = nI 25 from rfl, pk_mul, nI_add]
theorem l26 : (26 : Int32) = nI 26 := rfl
theorem qX11_layLeast {fu : Nat} {σ : zmem} {p m q n B : Nat} {S : zS} (h : zMz σ 104 0 S) (hS : zWf S) (hp : p + m ≤ S.1 0) (hq : q + n ≤ S.1 1) (hB : B ≤ 24) (hfu : 100 < fu) :
    ∃ σ', m_X11_layLeast fu σ (nI p) (nI m) (nI q) (nI n) (nI B) = some σ' ∧ zfr σ σ' [121] ∧ ∀ i j, i ≤ m → j ≤ n → σ'.1 121 (25 * i + j) = nI (zgc S p q B i j) := by
  have l0' := hS.1
  have l1' := hS.2.1
  have hw := hS.2.2.2
  obtain ⟨σ', e, p1, p2⟩ := loopP (L := l_X11_layLeast_3 fu (nI p) (nI m) (nI q) (nI n) (nI B)) (N := m + 1) (P := fun v τ => zfr σ τ [121] ∧ zMl τ S p q B n v 0)
    (fun k τ ⟨q1, _⟩ => by rw [l_X11_layLeast_3, if_pos (nI_lt (Nat.lt_succ_self _) (by omega))])
    (fun k v τ hv ⟨q1, q2⟩ => by
      obtain ⟨τ', e', r1, r2⟩ := loopP (L := l_X11_layLeast_12 fu (nI p) (nI m) (nI q) (nI n) (nI B) (nI v)) (N := n + 1) (P := fun u τ => zfr σ τ [121] ∧ zMl τ S p q B n v u)
        (fun k τ ⟨q1, _⟩ => by rw [l_X11_layLeast_12, if_pos (nI_lt (Nat.lt_succ_self _) (by omega))])
        (fun k u τ hu ⟨q1, q2⟩ => by
          have hT := h.keepr q1 (by simp)
          have hl : ∀ i j, i ≤ 24 → j ≤ 24 → zgc S p q B i j ≤ 1000000 := fun i j hi hj => zgc_le hS hi hj
          have E1 : ((if ¬ nI v = 0 then some (1000000 : Int32) else (if ¬ nI u = 0 then some (1000000 : Int32) else some (0 : Int32))) : Option (Int32)) = some (nI (if v = 0 ∧ u = 0 then 0 else 1000000)) := by
            by_cases c2 : v = 0
            · rw [if_neg (fun z => z (by rw [c2]; rfl))]
              by_cases c3 : u = 0
              · rw [if_neg (fun z => z (by rw [c3]; rfl)), if_pos ⟨c2, c3⟩]
                rfl
              · rw [if_pos (nI_ne0 (by omega) (by omega)), if_neg (fun z => c3 z.2)]
                rfl
            · rw [if_pos (nI_ne0 (by omega) (by omega)), if_neg (fun z => c2 z.1)]
              rfl
          have E2 : ((if nI v ≤ 0 then some (nI (if v = 0 ∧ u = 0 then 0 else 1000000)) else (if nI u ≤ 0 then some (nI (if v = 0 ∧ u = 0 then 0 else 1000000)) else (m_X11_at fu τ (0 : Int32) ((nI p + nI v) - (1 : Int32))).bind fun x20 => (m_X11_at fu τ (1 : Int32) ((nI q + nI u) - (1 : Int32))).bind fun x21 => ((if ¬ x20 = x21 then (zrd τ 104 (1 : Int32)).bind fun x24 => some x24 else some (0 : Int32)) : Option (Int32)).bind fun x22 => (zrd τ 121 ((((25 : Int32) * nI v) + nI u) - (26 : Int32))).bind fun x23 => some (x23 + x22))) : Option (Int32)) = some (nI (if v = 0 ∨ u = 0 then (if v = 0 ∧ u = 0 then 0 else 1000000) else zgc S p q B (v - 1) (u - 1) + zuc S p q (v - 1) (u - 1))) := by
            by_cases c2 : v = 0
            · rw [if_pos (show nI v ≤ 0 by rw [c2]; decide), if_pos (Or.inl c2)]
            · rw [if_neg (nI_nle (by omega) (by omega))]
              by_cases c3 : u = 0
              · rw [if_pos (show nI u ≤ 0 by rw [c3]; decide), if_pos (Or.inr c3)]
              · have f0 := hS.2.2.1 0 (p + (v - 1))
                have f1 := hS.2.2.1 1 (q + (u - 1))
                rw [if_neg (nI_nle (by omega) (by omega)), if_neg (show ¬ (v = 0 ∨ u = 0) by omega), nI_add, nI_add, zs1 (by omega), zs1 (by omega), show p + v - 1 = p + (v - 1) by omega, show q + u - 1 = q + (u - 1) by omega, show m_X11_at fu τ (0 : Int32) (nI (p + (v - 1))) = _ from qX11_at (r := 0) hT (by decide) (by omega), show m_X11_at fu τ (1 : Int32) (nI (q + (u - 1))) = _ from qX11_at (r := 1) hT (by decide) (by omega)]
                simp only [Option.bind_some]
                rw [r25m, l26, pk_sub (by omega), zrd_in zc_121 (show 25 * v + u - 26 < 625 by omega) (by decide), show 25 * v + u - 26 = 25 * (v - 1) + (u - 1) by omega, q2 (v - 1) (u - 1) (by omega), show zrd τ 104 (1 : Int32) = some (nI (S.2.2 1)) from qX11_set (fu := fu) (k := 1) hT (by decide)]
                unfold zuc
                by_cases d : S.2.1 0 (p + (v - 1)) = S.2.1 1 (q + (u - 1))
                · rw [if_neg (fun z => z (congrArg nI d)), if_pos d]
                  simp only [Option.bind_some]
                  rw [l0, nI_add]
                · rw [if_pos (fun z => d ((nI_eq (by omega) (by omega)).mp z)), if_neg d]
                  simp only [Option.bind_some]
                  rw [nI_add]
          have E3 : ((if nI v ≤ 0 then some (1000000 : Int32) else (zrd τ 121 ((((25 : Int32) * nI v) + nI u) - (25 : Int32))).bind fun x17 => (zrd τ 104 (2 : Int32)).bind fun x18 => some (x17 + x18)) : Option (Int32)) = some (nI (if v = 0 then 1000000 else zgc S p q B (v - 1) u + S.2.2 2)) := by
            by_cases c2 : v = 0
            · rw [if_pos (show nI v ≤ 0 by rw [c2]; decide), if_pos c2]
              rfl
            · rw [if_neg (nI_nle (by omega) (by omega)), if_neg c2, r25m, l25, pk_sub (by omega), zrd_in zc_121 (show 25 * v + u - 25 < 625 by omega) (by decide), show 25 * v + u - 25 = 25 * (v - 1) + u by omega, q2 (v - 1) u (by omega), show zrd τ 104 (2 : Int32) = some (nI (S.2.2 2)) from qX11_set (fu := fu) (k := 2) hT (by decide)]
              simp only [Option.bind_some]
              rw [nI_add]
          have E4 : ((if nI u ≤ 0 then some (1000000 : Int32) else (zrd τ 121 ((((25 : Int32) * nI v) + nI u) - (1 : Int32))).bind fun x14 => (zrd τ 104 (2 : Int32)).bind fun x15 => some (x14 + x15)) : Option (Int32)) = some (nI (if u = 0 then 1000000 else zgc S p q B v (u - 1) + S.2.2 2)) := by
            by_cases c2 : u = 0
            · rw [if_pos (show nI u ≤ 0 by rw [c2]; decide), if_pos c2]
              rfl
            · rw [if_neg (nI_nle (by omega) (by omega)), if_neg c2, r25m, zs1 (by omega), zrd_in zc_121 (show 25 * v + u - 1 < 625 by omega) (by decide), show 25 * v + u - 1 = 25 * v + (u - 1) by omega, q2 v (u - 1) (by omega), show zrd τ 104 (2 : Int32) = some (nI (S.2.2 2)) from qX11_set (fu := fu) (k := 2) hT (by decide)]
              simp only [Option.bind_some]
              rw [nI_add]
          have mn : ∀ a b, a < 2 ^ 30 → b < 2 ^ 30 → ((if nI a ≤ nI b then some (nI a) else some (nI b)) : Option Int32) = some (nI (min a b)) := fun a b ha hb => by
            by_cases c : a ≤ b
            · rw [if_pos (nI_le c (by omega)), Nat.min_eq_left c]
            · rw [if_neg (nI_ge (by omega) (by omega)), Nat.min_eq_right (by omega)]
          have E7 : ((if nI v ≤ nI u then some (nI u - nI v) else some (nI v - nI u)) : Option Int32) = some (nI (zad v u)) := by
            unfold zad
            by_cases c : v ≤ u
            · rw [if_pos (nI_le c (by omega)), if_pos c, pk_sub c]
            · rw [if_neg (nI_ge (by omega) (by omega)), if_neg c, pk_sub (by omega)]
          have hz : zad v u ≤ 24 := by unfold zad; split <;> omega
          have B2 : (if v = 0 ∨ u = 0 then (if v = 0 ∧ u = 0 then 0 else 1000000) else zgc S p q B (v - 1) (u - 1) + zuc S p q (v - 1) (u - 1)) < 2 ^ 30 := by
            have := hl (v - 1) (u - 1) (by omega) (by omega)
            have := zuc_le (p := p) (q := q) (i := v - 1) (j := u - 1) hS
            repeat' split
            all_goals omega
          have B3 : (if v = 0 then 1000000 else zgc S p q B (v - 1) u + S.2.2 2) < 2 ^ 30 := by
            have := hl (v - 1) u (by omega) (by omega)
            split <;> omega
          have B4 : (if u = 0 then 1000000 else zgc S p q B v (u - 1) + S.2.2 2) < 2 ^ 30 := by
            have := hl v (u - 1) (by omega) (by omega)
            split <;> omega
          have E8 : ∀ x, ((if nI (zad v u) ≤ nI B then some (nI x) else some (1000000 : Int32)) : Option Int32) = some (nI (if zad v u ≤ B then x else 1000000)) := fun x => by
            by_cases c : zad v u ≤ B
            · rw [if_pos (nI_le c (by omega)), if_pos c]
            · rw [if_neg (nI_ge (by omega) (by omega)), if_neg c]
              rfl
          have ref := zgc_ref (p := p) (q := q) (B := B) hS (show v ≤ 24 by omega) (show u ≤ 24 by omega)
          refine ⟨zrw τ 121 (upd (τ.1 121) (25 * v + u) (nI (zgc S p q B v u))), ?_, q1.tr (zfr_rw (by simp)), fun i j hij => ?_⟩
          · rw [l_X11_layLeast_12, if_neg (nI_nlt (by omega) (by omega)), E1]
            simp only [Option.bind_some]
            rw [E2]
            simp only [Option.bind_some]
            rw [E3]
            simp only [Option.bind_some]
            rw [E4]
            simp only [Option.bind_some]
            rw [mn _ _ B2 B3]
            simp only [Option.bind_some]
            rw [mn _ _ (Nat.lt_of_le_of_lt (Nat.min_le_left _ _) B2) B4]
            simp only [Option.bind_some]
            rw [E7]
            simp only [Option.bind_some]
            rw [E8]
            simp only [Option.bind_some]
            rw [ref, r25m, zwr_in zc_121 (show 25 * v + u < 625 by omega) (by decide)]
            simp only [Option.bind_some, za1]
          · rw [zrw_at]
            by_cases c : i = v ∧ j = u
            · rw [c.1, c.2, upd_at]
            · rw [upd_ne (by omega)]
              exact q2 i j (by omega))
        fu 0 τ (by omega) (by omega) ⟨q1, q2⟩
      refine ⟨τ', ?_, r1, fun i j hij => r2 i j (by omega)⟩
      rw [l_X11_layLeast_3, if_neg (nI_nlt (by omega) (by omega)), l0, e']
      simp only [Option.bind_some, za1])
    fu 0 σ (by omega) (by omega) ⟨zfr.rf, fun i j hij => by omega⟩
  refine ⟨σ', ?_, p1, fun i j h1 h2 => p2 i j (by omega)⟩
  unfold m_X11_layLeast
  rw [l0, e]
  rfl
