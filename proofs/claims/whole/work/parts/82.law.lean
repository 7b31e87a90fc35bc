/-! the law's loop: every call, and the end -/
theorem zRI.c {σ σ' : zmem} {u : zU} (h : zRI σ u) (hf : zfc σ σ') : zRI σ' u := h.keep (fun a g1 g2 => hf.1 a (by omega)) (by rw [hf.1 103 (by omega)]) (by rw [hf.1 103 (by omega)])
theorem zCI.x {σ σ' : zmem} {u : zU} (h : zCI σ u) (hf : zfx σ σ') : zCI σ' u := by
  refine ⟨h.1.keepc (fun a g1 g2 => hf.1 a (by omega)), ?_⟩
  rcases h.2 with h7 | ⟨h7, h8, h9⟩
  · exact Or.inl (by rw [hf.1 0 (by omega)]; exact h7)
  · exact Or.inr ⟨by rw [hf.1 0 (by omega)]; exact h7, h8.keepa (fun a g1 g2 => hf.1 a (by omega)), h9.keepa (fun a g1 g2 => hf.1 a (by omega))⟩
theorem zrl_out {σ : zmem} : zrl σ 124 (0 : Int32) = some (σ.2 124 0) := by
  unfold zrl
  rw [if_neg (by decide)]
  rfl
def zGo (K : zmem → Option Int32) : Prop := ∀ σ u, zUw u → zCI σ u → zRI σ u → K σ = some 1
theorem zlaw_t {fu : Nat} {mL mX : zmem → Option (Int32 × zmem)} {K : zmem → Option Int32} {σ : zmem} {u : zU} (hs : zStep mL mX u) (hC : zCI σ u) (hR : zRI σ u) (hK : zGo K) : ((mL σ).bind fun x6 => (mX x6.2).bind fun x10 => (m_X11_thrown fu x10.2).bind fun x11 => (if x11 = x6.1 then (if ¬ x6.1 = 0 then K x10.2 else (zrl x10.2 124 (0 : Int32)).bind fun x12 => (if (lg_cmp x12 (x10.1.toInt64)) = 0 then K x10.2 else some (0 : Int32))) else some (0 : Int32))) = some 1 := by
  obtain ⟨code, v, u', hc, hu, h1, h2⟩ := hs
  obtain ⟨s1, e1, c1, f1, o1⟩ := h1 σ hC
  obtain ⟨s2, b, e2, r2, f2, t2, o2⟩ := h2 s1 (hR.c f1)
  have k2 := hK s2 u' hu (c1.x f2) r2
  rw [e1, Option.bind_some]
  dsimp only
  rw [e2, Option.bind_some]
  unfold m_X11_thrown
  rw [Option.bind_some]
  dsimp only
  rw [t2, if_pos rfl]
  by_cases c : code = 0
  · rw [if_neg (show ¬ ¬ nI code = 0 from fun z => z (by rw [c]; rfl)), zrl_out, Option.bind_some, f2.2 124 (by decide), o1 c, o2 c, if_pos ((lg_cmp_eq _ _).mpr rfl)]
    exact k2
  · rw [if_pos (nI_ne0 (by omega) (by omega))]
    exact k2
theorem zlaw_t1 {fu : Nat} {mL mX : zmem → Int32 → Option (Int32 × zmem)} {K : zmem → Option Int32} {σ : zmem} {u : zU} {z1 : Option Int32} {a1 : Int32} (hz1 : z1 = some a1) (hs : zStep (fun σ => mL σ a1) (fun σ => mX σ a1) u) (hC : zCI σ u) (hR : zRI σ u) (hK : zGo K) : (z1.bind fun y1 => (mL σ y1).bind fun x6 => z1.bind fun w1 => (mX x6.2 w1).bind fun x10 => (m_X11_thrown fu x10.2).bind fun x11 => (if x11 = x6.1 then (if ¬ x6.1 = 0 then K x10.2 else (zrl x10.2 124 (0 : Int32)).bind fun x12 => (if (lg_cmp x12 (x10.1.toInt64)) = 0 then K x10.2 else some (0 : Int32))) else some (0 : Int32))) = some 1 := by
  rw [hz1]
  exact zlaw_t (fu := fu) hs hC hR hK
theorem zlaw_t2 {fu : Nat} {mL mX : zmem → Int32 → Int32 → Option (Int32 × zmem)} {K : zmem → Option Int32} {σ : zmem} {u : zU} {z1 z2 : Option Int32} {a1 a2 : Int32} (hz1 : z1 = some a1) (hz2 : z2 = some a2) (hs : zStep (fun σ => mL σ a1 a2) (fun σ => mX σ a1 a2) u) (hC : zCI σ u) (hR : zRI σ u) (hK : zGo K) : (z1.bind fun y1 => z2.bind fun y2 => (mL σ y1 y2).bind fun x6 => z1.bind fun w1 => z2.bind fun w2 => (mX x6.2 w1 w2).bind fun x10 => (m_X11_thrown fu x10.2).bind fun x11 => (if x11 = x6.1 then (if ¬ x6.1 = 0 then K x10.2 else (zrl x10.2 124 (0 : Int32)).bind fun x12 => (if (lg_cmp x12 (x10.1.toInt64)) = 0 then K x10.2 else some (0 : Int32))) else some (0 : Int32))) = some 1 := by
  rw [hz1, hz2]
  exact zlaw_t (fu := fu) hs hC hR hK
theorem zlaw_t3 {fu : Nat} {mL mX : zmem → Int32 → Int32 → Int32 → Option (Int32 × zmem)} {K : zmem → Option Int32} {σ : zmem} {u : zU} {z1 z2 z3 : Option Int32} {a1 a2 a3 : Int32} (hz1 : z1 = some a1) (hz2 : z2 = some a2) (hz3 : z3 = some a3) (hs : zStep (fun σ => mL σ a1 a2 a3) (fun σ => mX σ a1 a2 a3) u) (hC : zCI σ u) (hR : zRI σ u) (hK : zGo K) : (z1.bind fun y1 => z2.bind fun y2 => z3.bind fun y3 => (mL σ y1 y2 y3).bind fun x6 => z1.bind fun w1 => z2.bind fun w2 => z3.bind fun w3 => (mX x6.2 w1 w2 w3).bind fun x10 => (m_X11_thrown fu x10.2).bind fun x11 => (if x11 = x6.1 then (if ¬ x6.1 = 0 then K x10.2 else (zrl x10.2 124 (0 : Int32)).bind fun x12 => (if (lg_cmp x12 (x10.1.toInt64)) = 0 then K x10.2 else some (0 : Int32))) else some (0 : Int32))) = some 1 := by
  rw [hz1, hz2, hz3]
  exact zlaw_t (fu := fu) hs hC hR hK
theorem zlaw_t4 {fu : Nat} {mL mX : zmem → Int32 → Int32 → Int32 → Int32 → Option (Int32 × zmem)} {K : zmem → Option Int32} {σ : zmem} {u : zU} {z1 z2 z3 z4 : Option Int32} {a1 a2 a3 a4 : Int32} (hz1 : z1 = some a1) (hz2 : z2 = some a2) (hz3 : z3 = some a3) (hz4 : z4 = some a4) (hs : zStep (fun σ => mL σ a1 a2 a3 a4) (fun σ => mX σ a1 a2 a3 a4) u) (hC : zCI σ u) (hR : zRI σ u) (hK : zGo K) : (z1.bind fun y1 => z2.bind fun y2 => z3.bind fun y3 => z4.bind fun y4 => (mL σ y1 y2 y3 y4).bind fun x6 => z1.bind fun w1 => z2.bind fun w2 => z3.bind fun w3 => z4.bind fun w4 => (mX x6.2 w1 w2 w3 w4).bind fun x10 => (m_X11_thrown fu x10.2).bind fun x11 => (if x11 = x6.1 then (if ¬ x6.1 = 0 then K x10.2 else (zrl x10.2 124 (0 : Int32)).bind fun x12 => (if (lg_cmp x12 (x10.1.toInt64)) = 0 then K x10.2 else some (0 : Int32))) else some (0 : Int32))) = some 1 := by
  rw [hz1, hz2, hz3, hz4]
  exact zlaw_t (fu := fu) hs hC hR hK
theorem zlaw_e {mC mX : zmem → Option (Int32 × zmem)} {K : zmem → Option Int32} {σ : zmem} {u : zU} (hs : zStep0 mC mX u) (hC : zCI σ u) (hR : zRI σ u) (hK : zGo K) : ((mC σ).bind fun x75 => (mX x75.2).bind fun x76 => (if x75.1 = x76.1 then K x76.2 else some (0 : Int32))) = some 1 := by
  obtain ⟨v, u', hu, h1, h2⟩ := hs
  obtain ⟨s1, e1, c1, f1⟩ := h1 σ hC
  obtain ⟨s2, e2, r2, f2⟩ := h2 s1 (hR.c f1)
  have k2 := hK s2 u' hu (c1.x f2) r2
  rw [e1, Option.bind_some]
  dsimp only
  rw [e2, Option.bind_some]
  dsimp only
  rw [if_pos rfl]
  exact k2
theorem zlaw_f {mC : Option Int32} {mX : Option (Int32 × zmem)} {K : zmem → Option Int32} {σ : zmem} {u : zU} {v : Int32} (hu : zUw u) (h1 : mC = some v) (h2 : ∃ σ', mX = some (v, σ') ∧ zRI σ' u ∧ zfx σ σ') (hC : zCI σ u) (hK : zGo K) : (mC.bind fun x105 => mX.bind fun x106 => (if x105 = x106.1 then K x106.2 else some (0 : Int32))) = some 1 := by
  obtain ⟨s2, e2, r2, f2⟩ := h2
  have k2 := hK s2 u hu (hC.x f2) r2
  rw [h1, Option.bind_some, e2, Option.bind_some]
  dsimp only
  rw [if_pos rfl]
  exact k2
theorem zlaw_s {mC mX : zmem → Option (UInt64 × zmem)} {K : zmem → Option Int32} {σ : zmem} {u : zU} {v : UInt64} (hu : zUw u) (hv : Op.cmpValue (FP.dcmp v v) CmpOp.l = 0) (h1 : ∀ σ, zCI σ u → ∃ σ', mC σ = some (v, σ') ∧ zCI σ' u ∧ zfc σ σ') (h2 : ∀ σ, zRI σ u → ∃ σ', mX σ = some (v, σ') ∧ zRI σ' u ∧ zfx σ σ') (hC : zCI σ u) (hR : zRI σ u) (hK : zGo K) : ((mC σ).bind fun x267 => (mX x267.2).bind fun x268 => (if (Op.cmpValue (FP.dcmp x267.1 x268.1) CmpOp.l) = 0 then K x268.2 else (if (Op.cmpValue (FP.dcmp x267.1 x267.1) CmpOp.l) = 0 then some (0 : Int32) else (if ¬ (Op.cmpValue (FP.dcmp x268.1 x268.1) CmpOp.l) = 0 then K x268.2 else some (0 : Int32))))) = some 1 := by
  obtain ⟨s1, e1, c1, f1⟩ := h1 σ hC
  obtain ⟨s2, e2, r2, f2⟩ := h2 s1 (hR.c f1)
  have k2 := hK s2 u hu (c1.x f2) r2
  rw [e1, Option.bind_some]
  dsimp only
  rw [e2, Option.bind_some]
  dsimp only
  rw [if_pos hv]
  exact k2
theorem zlaw_d {mC mX : zmem → Option (Int64 × zmem)} {K : zmem → Option Int32} {σ : zmem} {u : zU} {v : Int64} (hu : zUw u) (h1 : ∀ σ, zCI σ u → ∃ σ', mC σ = some (v, σ') ∧ zCI σ' u ∧ zfc σ σ') (h2 : ∀ σ, zRI σ u → ∃ σ', mX σ = some (v, σ') ∧ zRI σ' u ∧ zfx σ σ') (hC : zCI σ u) (hR : zRI σ u) (hK : zGo K) : ((mC σ).bind fun x273 => (mX x273.2).bind fun x274 => (if (lg_cmp x273.1 x274.1) = 0 then K x274.2 else some (0 : Int32))) = some 1 := by
  obtain ⟨s1, e1, c1, f1⟩ := h1 σ hC
  obtain ⟨s2, e2, r2, f2⟩ := h2 s1 (hR.c f1)
  have k2 := hK s2 u hu (c1.x f2) r2
  rw [e1, Option.bind_some]
  dsimp only
  rw [e2, Option.bind_some]
  dsimp only
  rw [if_pos ((lg_cmp_eq _ _).mpr rfl)]
  exact k2
theorem zsx_in {xs : Nat → Int32} {L j : Nat} (h : j < L) (hL : L ≤ 2560) : zsx xs L (nI j) = some (xs j) := by
  unfold zsx
  rw [if_neg (nI_in h (by omega)), nI_clamp (by omega)]
theorem zlaw_end {L v : Nat} (hL : L ≤ 2560) (hv : v ≤ 2560) : (nI L - (5 : Int32) < nI v) ↔ L < v + 5 := by
  have e : (nI L - nI 5).toInt = (L : Int) - 5 := pk_sub_toInt (by omega) (by omega)
  have e2 : (nI v).toInt = (v : Int) := nI_toInt (by omega)
  show nI L - nI 5 < nI v ↔ _
  rw [Int32.lt_iff_toInt_lt, e, e2]
  omega
theorem zlaw_l {xs : Nat → Int32} {L : Nat} (hL : L ≤ 2560) : ∀ (n t : Nat) (σ : zmem) (u : zU), 5 * t ≤ L → L < 5 * t + 5 * n → zUw u → zCI σ u → zRI σ u → l_L_law 5000 xs L n (nI (5 * t)) σ = some 1 := by
  intro n
  induction n with
  | zero => intro t σ u h1 h2; omega
  | succ n ih =>
    intro t σ u h1 h2 hu hC hR
    rw [l_L_law]
    by_cases c : L < 5 * t + 5
    · rw [if_pos ((zlaw_end hL (by omega)).mpr c)]
    · have hK : zGo (fun τ => l_L_law 5000 xs L n (nI (5 * t) + 5) τ) := fun τ u' hu' hC' hR' => by
        show l_L_law 5000 xs L n (nI (5 * t) + nI 5) τ = some 1
        rw [nI_add, show 5 * t + 5 = 5 * (t + 1) by omega]
        exact ih (t + 1) τ u' (by omega) (by omega) hu' hC' hR'
      have z1 : zsx xs L (nI (5 * t) + (1 : Int32)) = some (xs (5 * t + 1)) := by rw [za1, zsx_in (by omega) hL]
      have z2 : zsx xs L (nI (5 * t) + (2 : Int32)) = some (xs (5 * t + 2)) := by rw [za2, zsx_in (by omega) hL]
      have z3 : zsx xs L (nI (5 * t) + (3 : Int32)) = some (xs (5 * t + 3)) := by rw [l3, nI_add, zsx_in (by omega) hL]
      have z4 : zsx xs L (nI (5 * t) + (4 : Int32)) = some (xs (5 * t + 4)) := by rw [l4, nI_add, zsx_in (by omega) hL]
      rw [if_neg (fun z => c ((zlaw_end hL (by omega)).mp z)), zsx_in (show 5 * t < L by omega) hL, Option.bind_some]
      obtain ⟨k, hk, ek⟩ := pk_andE (xs (5 * t)) (m := (31 : Int32)) 5 (by decide)
      rw [ek]
      have hk : k < 32 := hk
      rcases (show k = 0 ∨ k = 1 ∨ k = 2 ∨ k = 3 ∨ k = 4 ∨ k = 5 ∨ k = 6 ∨ k = 7 ∨ k = 8 ∨ k = 9 ∨ k = 10 ∨ k = 11 ∨ k = 12 ∨ k = 13 ∨ k = 14 ∨ k = 15 ∨ k = 16 ∨ k = 17 ∨ k = 18 ∨ k = 19 ∨ k = 20 ∨ k = 21 ∨ k = 22 ∨ k = 23 ∨ k = 24 ∨ k = 25 ∨ k = 26 ∨ 27 ≤ k by omega) with rfl | rfl | rfl | rfl | rfl | rfl | rfl | rfl | rfl | rfl | rfl | rfl | rfl | rfl | rfl | rfl | rfl | rfl | rfl | rfl | rfl | rfl | rfl | rfl | rfl | rfl | rfl | hk2
      · rw [if_pos (show nI 0 = (0 : Int32) from rfl)]
        exact zlaw_t3 (fu := 5000) (mL := m_L_put 5000) (mX := m_X11_put 5000) z1 z2 z3 (case_put hu (by decide)) hC hR hK
      · rw [if_neg (show ¬ nI 1 = (0 : Int32) by decide), if_pos (show nI 1 = (1 : Int32) from rfl)]
        exact zlaw_t3 (fu := 5000) (mL := m_L_take 5000) (mX := m_X11_take 5000) z1 z2 z3 (case_take hu (by decide)) hC hR hK
      · rw [if_neg (show ¬ nI 2 = (0 : Int32) by decide), if_neg (show ¬ nI 2 = (1 : Int32) by decide), if_pos (show nI 2 = (2 : Int32) from rfl)]
        exact zlaw_t3 (fu := 5000) (mL := m_L_change 5000) (mX := m_X11_change 5000) z1 z2 z3 (case_change hu (by decide)) hC hR hK
      · rw [if_neg (show ¬ nI 3 = (0 : Int32) by decide), if_neg (show ¬ nI 3 = (1 : Int32) by decide), if_neg (show ¬ nI 3 = (2 : Int32) by decide), if_pos (show nI 3 = (3 : Int32) from rfl)]
        exact zlaw_t3 (fu := 5000) (mL := m_L_turn 5000) (mX := m_X11_turn 5000) z1 z2 z3 (case_turn hu (by decide)) hC hR hK
      · rw [if_neg (show ¬ nI 4 = (0 : Int32) by decide), if_neg (show ¬ nI 4 = (1 : Int32) by decide), if_neg (show ¬ nI 4 = (2 : Int32) by decide), if_neg (show ¬ nI 4 = (3 : Int32) by decide), if_pos (show nI 4 = (4 : Int32) from rfl)]
        exact zlaw_t4 (fu := 5000) (mL := m_L_copy 5000) (mX := m_X11_copy 5000) z1 z2 z3 z4 (case_copy hu (by decide)) hC hR hK
      · rw [if_neg (show ¬ nI 5 = (0 : Int32) by decide), if_neg (show ¬ nI 5 = (1 : Int32) by decide), if_neg (show ¬ nI 5 = (2 : Int32) by decide), if_neg (show ¬ nI 5 = (3 : Int32) by decide), if_neg (show ¬ nI 5 = (4 : Int32) by decide), if_pos (show nI 5 = (5 : Int32) from rfl)]
        exact zlaw_e (mC := fun σ => m_X10_exchange 5000 σ) (mX := fun σ => m_X11_exchange 5000 σ) (case_exchange hu (by decide)) hC hR hK
      · rw [if_neg (show ¬ nI 6 = (0 : Int32) by decide), if_neg (show ¬ nI 6 = (1 : Int32) by decide), if_neg (show ¬ nI 6 = (2 : Int32) by decide), if_neg (show ¬ nI 6 = (3 : Int32) by decide), if_neg (show ¬ nI 6 = (4 : Int32) by decide), if_neg (show ¬ nI 6 = (5 : Int32) by decide), if_pos (show nI 6 = (6 : Int32) from rfl)]
        exact zlaw_t2 (fu := 5000) (mL := m_L_set 5000) (mX := m_X11_set 5000) z1 z2 (case_set hu (by decide)) hC hR hK
      · rw [if_neg (show ¬ nI 7 = (0 : Int32) by decide), if_neg (show ¬ nI 7 = (1 : Int32) by decide), if_neg (show ¬ nI 7 = (2 : Int32) by decide), if_neg (show ¬ nI 7 = (3 : Int32) by decide), if_neg (show ¬ nI 7 = (4 : Int32) by decide), if_neg (show ¬ nI 7 = (5 : Int32) by decide), if_neg (show ¬ nI 7 = (6 : Int32) by decide), if_pos (show nI 7 = (7 : Int32) from rfl)]
        exact zlaw_t1 (fu := 5000) (mL := m_L_append 5000) (mX := m_X11_append 5000) z1 (case_append hu (by decide)) hC hR hK
      · rw [if_neg (show ¬ nI 8 = (0 : Int32) by decide), if_neg (show ¬ nI 8 = (1 : Int32) by decide), if_neg (show ¬ nI 8 = (2 : Int32) by decide), if_neg (show ¬ nI 8 = (3 : Int32) by decide), if_neg (show ¬ nI 8 = (4 : Int32) by decide), if_neg (show ¬ nI 8 = (5 : Int32) by decide), if_neg (show ¬ nI 8 = (6 : Int32) by decide), if_neg (show ¬ nI 8 = (7 : Int32) by decide), if_pos (show nI 8 = (8 : Int32) from rfl)]
        exact zlaw_e (mC := fun σ => m_X10_clearBuffer 5000 σ) (mX := fun σ => m_X11_clearBuffer 5000 σ) (case_clear hu) hC hR hK
      · rw [if_neg (show ¬ nI 9 = (0 : Int32) by decide), if_neg (show ¬ nI 9 = (1 : Int32) by decide), if_neg (show ¬ nI 9 = (2 : Int32) by decide), if_neg (show ¬ nI 9 = (3 : Int32) by decide), if_neg (show ¬ nI 9 = (4 : Int32) by decide), if_neg (show ¬ nI 9 = (5 : Int32) by decide), if_neg (show ¬ nI 9 = (6 : Int32) by decide), if_neg (show ¬ nI 9 = (7 : Int32) by decide), if_neg (show ¬ nI 9 = (8 : Int32) by decide), if_pos (show nI 9 = (9 : Int32) from rfl)]
        obtain ⟨v, g1, g2⟩ := case_firstError (fu := 5000) (u := u) (by decide)
        exact zlaw_f hu (g1 σ hC) (g2 σ hR) hC hK
      · rw [if_neg (show ¬ nI 10 = (0 : Int32) by decide), if_neg (show ¬ nI 10 = (1 : Int32) by decide), if_neg (show ¬ nI 10 = (2 : Int32) by decide), if_neg (show ¬ nI 10 = (3 : Int32) by decide), if_neg (show ¬ nI 10 = (4 : Int32) by decide), if_neg (show ¬ nI 10 = (5 : Int32) by decide), if_neg (show ¬ nI 10 = (6 : Int32) by decide), if_neg (show ¬ nI 10 = (7 : Int32) by decide), if_neg (show ¬ nI 10 = (8 : Int32) by decide), if_neg (show ¬ nI 10 = (9 : Int32) by decide), if_pos (show nI 10 = (10 : Int32) from rfl)]
        exact zlaw_t (fu := 5000) (mL := fun σ => m_L_read 5000 σ) (mX := fun σ => m_X11_read 5000 σ) (case_read hu (by decide)) hC hR hK
      · rw [if_neg (show ¬ nI 11 = (0 : Int32) by decide), if_neg (show ¬ nI 11 = (1 : Int32) by decide), if_neg (show ¬ nI 11 = (2 : Int32) by decide), if_neg (show ¬ nI 11 = (3 : Int32) by decide), if_neg (show ¬ nI 11 = (4 : Int32) by decide), if_neg (show ¬ nI 11 = (5 : Int32) by decide), if_neg (show ¬ nI 11 = (6 : Int32) by decide), if_neg (show ¬ nI 11 = (7 : Int32) by decide), if_neg (show ¬ nI 11 = (8 : Int32) by decide), if_neg (show ¬ nI 11 = (9 : Int32) by decide), if_neg (show ¬ nI 11 = (10 : Int32) by decide), if_pos (show nI 11 = (11 : Int32) from rfl)]
        exact zlaw_t1 (fu := 5000) (mL := m_L_keep 5000) (mX := m_X11_keep 5000) z1 (case_keep hu (by decide)) hC hR hK
      · rw [if_neg (show ¬ nI 12 = (0 : Int32) by decide), if_neg (show ¬ nI 12 = (1 : Int32) by decide), if_neg (show ¬ nI 12 = (2 : Int32) by decide), if_neg (show ¬ nI 12 = (3 : Int32) by decide), if_neg (show ¬ nI 12 = (4 : Int32) by decide), if_neg (show ¬ nI 12 = (5 : Int32) by decide), if_neg (show ¬ nI 12 = (6 : Int32) by decide), if_neg (show ¬ nI 12 = (7 : Int32) by decide), if_neg (show ¬ nI 12 = (8 : Int32) by decide), if_neg (show ¬ nI 12 = (9 : Int32) by decide), if_neg (show ¬ nI 12 = (10 : Int32) by decide), if_neg (show ¬ nI 12 = (11 : Int32) by decide), if_pos (show nI 12 = (12 : Int32) from rfl)]
        exact zlaw_t1 (fu := 5000) (mL := m_L_restore 5000) (mX := m_X11_restore 5000) z1 (case_restore hu (by decide)) hC hR hK
      · rw [if_neg (show ¬ nI 13 = (0 : Int32) by decide), if_neg (show ¬ nI 13 = (1 : Int32) by decide), if_neg (show ¬ nI 13 = (2 : Int32) by decide), if_neg (show ¬ nI 13 = (3 : Int32) by decide), if_neg (show ¬ nI 13 = (4 : Int32) by decide), if_neg (show ¬ nI 13 = (5 : Int32) by decide), if_neg (show ¬ nI 13 = (6 : Int32) by decide), if_neg (show ¬ nI 13 = (7 : Int32) by decide), if_neg (show ¬ nI 13 = (8 : Int32) by decide), if_neg (show ¬ nI 13 = (9 : Int32) by decide), if_neg (show ¬ nI 13 = (10 : Int32) by decide), if_neg (show ¬ nI 13 = (11 : Int32) by decide), if_neg (show ¬ nI 13 = (12 : Int32) by decide), if_pos (show nI 13 = (13 : Int32) from rfl)]
        exact zlaw_t (fu := 5000) (mL := fun σ => m_L_undo 5000 σ) (mX := fun σ => m_X11_undo 5000 σ) (case_undo hu (by decide)) hC hR hK
      · rw [if_neg (show ¬ nI 14 = (0 : Int32) by decide), if_neg (show ¬ nI 14 = (1 : Int32) by decide), if_neg (show ¬ nI 14 = (2 : Int32) by decide), if_neg (show ¬ nI 14 = (3 : Int32) by decide), if_neg (show ¬ nI 14 = (4 : Int32) by decide), if_neg (show ¬ nI 14 = (5 : Int32) by decide), if_neg (show ¬ nI 14 = (6 : Int32) by decide), if_neg (show ¬ nI 14 = (7 : Int32) by decide), if_neg (show ¬ nI 14 = (8 : Int32) by decide), if_neg (show ¬ nI 14 = (9 : Int32) by decide), if_neg (show ¬ nI 14 = (10 : Int32) by decide), if_neg (show ¬ nI 14 = (11 : Int32) by decide), if_neg (show ¬ nI 14 = (12 : Int32) by decide), if_neg (show ¬ nI 14 = (13 : Int32) by decide), if_pos (show nI 14 = (14 : Int32) from rfl)]
        exact zlaw_t2 (fu := 5000) (mL := m_L_sign 5000) (mX := m_X11_sign 5000) z1 z2 (case_sign hu (by decide)) hC hR hK
      · rw [if_neg (show ¬ nI 15 = (0 : Int32) by decide), if_neg (show ¬ nI 15 = (1 : Int32) by decide), if_neg (show ¬ nI 15 = (2 : Int32) by decide), if_neg (show ¬ nI 15 = (3 : Int32) by decide), if_neg (show ¬ nI 15 = (4 : Int32) by decide), if_neg (show ¬ nI 15 = (5 : Int32) by decide), if_neg (show ¬ nI 15 = (6 : Int32) by decide), if_neg (show ¬ nI 15 = (7 : Int32) by decide), if_neg (show ¬ nI 15 = (8 : Int32) by decide), if_neg (show ¬ nI 15 = (9 : Int32) by decide), if_neg (show ¬ nI 15 = (10 : Int32) by decide), if_neg (show ¬ nI 15 = (11 : Int32) by decide), if_neg (show ¬ nI 15 = (12 : Int32) by decide), if_neg (show ¬ nI 15 = (13 : Int32) by decide), if_neg (show ¬ nI 15 = (14 : Int32) by decide), if_pos (show nI 15 = (15 : Int32) from rfl)]
        exact zlaw_t2 (fu := 5000) (mL := m_L_anchor 5000) (mX := m_X11_anchor 5000) z1 z2 (case_anchor hu (by decide)) hC hR hK
      · rw [if_neg (show ¬ nI 16 = (0 : Int32) by decide), if_neg (show ¬ nI 16 = (1 : Int32) by decide), if_neg (show ¬ nI 16 = (2 : Int32) by decide), if_neg (show ¬ nI 16 = (3 : Int32) by decide), if_neg (show ¬ nI 16 = (4 : Int32) by decide), if_neg (show ¬ nI 16 = (5 : Int32) by decide), if_neg (show ¬ nI 16 = (6 : Int32) by decide), if_neg (show ¬ nI 16 = (7 : Int32) by decide), if_neg (show ¬ nI 16 = (8 : Int32) by decide), if_neg (show ¬ nI 16 = (9 : Int32) by decide), if_neg (show ¬ nI 16 = (10 : Int32) by decide), if_neg (show ¬ nI 16 = (11 : Int32) by decide), if_neg (show ¬ nI 16 = (12 : Int32) by decide), if_neg (show ¬ nI 16 = (13 : Int32) by decide), if_neg (show ¬ nI 16 = (14 : Int32) by decide), if_neg (show ¬ nI 16 = (15 : Int32) by decide), if_pos (show nI 16 = (16 : Int32) from rfl)]
        exact zlaw_t2 (fu := 5000) (mL := m_L_turned 5000) (mX := m_X11_turned 5000) z1 z2 (case_turned hu (by decide)) hC hR hK
      · rw [if_neg (show ¬ nI 17 = (0 : Int32) by decide), if_neg (show ¬ nI 17 = (1 : Int32) by decide), if_neg (show ¬ nI 17 = (2 : Int32) by decide), if_neg (show ¬ nI 17 = (3 : Int32) by decide), if_neg (show ¬ nI 17 = (4 : Int32) by decide), if_neg (show ¬ nI 17 = (5 : Int32) by decide), if_neg (show ¬ nI 17 = (6 : Int32) by decide), if_neg (show ¬ nI 17 = (7 : Int32) by decide), if_neg (show ¬ nI 17 = (8 : Int32) by decide), if_neg (show ¬ nI 17 = (9 : Int32) by decide), if_neg (show ¬ nI 17 = (10 : Int32) by decide), if_neg (show ¬ nI 17 = (11 : Int32) by decide), if_neg (show ¬ nI 17 = (12 : Int32) by decide), if_neg (show ¬ nI 17 = (13 : Int32) by decide), if_neg (show ¬ nI 17 = (14 : Int32) by decide), if_neg (show ¬ nI 17 = (15 : Int32) by decide), if_neg (show ¬ nI 17 = (16 : Int32) by decide), if_pos (show nI 17 = (17 : Int32) from rfl)]
        exact zlaw_t2 (fu := 5000) (mL := m_L_gap 5000) (mX := m_X11_gap 5000) z1 z2 (case_gap hu (by decide)) hC hR hK
      · rw [if_neg (show ¬ nI 18 = (0 : Int32) by decide), if_neg (show ¬ nI 18 = (1 : Int32) by decide), if_neg (show ¬ nI 18 = (2 : Int32) by decide), if_neg (show ¬ nI 18 = (3 : Int32) by decide), if_neg (show ¬ nI 18 = (4 : Int32) by decide), if_neg (show ¬ nI 18 = (5 : Int32) by decide), if_neg (show ¬ nI 18 = (6 : Int32) by decide), if_neg (show ¬ nI 18 = (7 : Int32) by decide), if_neg (show ¬ nI 18 = (8 : Int32) by decide), if_neg (show ¬ nI 18 = (9 : Int32) by decide), if_neg (show ¬ nI 18 = (10 : Int32) by decide), if_neg (show ¬ nI 18 = (11 : Int32) by decide), if_neg (show ¬ nI 18 = (12 : Int32) by decide), if_neg (show ¬ nI 18 = (13 : Int32) by decide), if_neg (show ¬ nI 18 = (14 : Int32) by decide), if_neg (show ¬ nI 18 = (15 : Int32) by decide), if_neg (show ¬ nI 18 = (16 : Int32) by decide), if_neg (show ¬ nI 18 = (17 : Int32) by decide), if_pos (show nI 18 = (18 : Int32) from rfl)]
        exact zlaw_t2 (fu := 5000) (mL := m_L_partner 5000) (mX := m_X11_partner 5000) z1 z2 (case_partner hu (by decide)) hC hR hK
      · rw [if_neg (show ¬ nI 19 = (0 : Int32) by decide), if_neg (show ¬ nI 19 = (1 : Int32) by decide), if_neg (show ¬ nI 19 = (2 : Int32) by decide), if_neg (show ¬ nI 19 = (3 : Int32) by decide), if_neg (show ¬ nI 19 = (4 : Int32) by decide), if_neg (show ¬ nI 19 = (5 : Int32) by decide), if_neg (show ¬ nI 19 = (6 : Int32) by decide), if_neg (show ¬ nI 19 = (7 : Int32) by decide), if_neg (show ¬ nI 19 = (8 : Int32) by decide), if_neg (show ¬ nI 19 = (9 : Int32) by decide), if_neg (show ¬ nI 19 = (10 : Int32) by decide), if_neg (show ¬ nI 19 = (11 : Int32) by decide), if_neg (show ¬ nI 19 = (12 : Int32) by decide), if_neg (show ¬ nI 19 = (13 : Int32) by decide), if_neg (show ¬ nI 19 = (14 : Int32) by decide), if_neg (show ¬ nI 19 = (15 : Int32) by decide), if_neg (show ¬ nI 19 = (16 : Int32) by decide), if_neg (show ¬ nI 19 = (17 : Int32) by decide), if_neg (show ¬ nI 19 = (18 : Int32) by decide), if_pos (show nI 19 = (19 : Int32) from rfl)]
        exact zlaw_t2 (fu := 5000) (mL := m_L_doubled 5000) (mX := m_X11_doubled 5000) z1 z2 (case_doubled hu (by decide)) hC hR hK
      · rw [if_neg (show ¬ nI 20 = (0 : Int32) by decide), if_neg (show ¬ nI 20 = (1 : Int32) by decide), if_neg (show ¬ nI 20 = (2 : Int32) by decide), if_neg (show ¬ nI 20 = (3 : Int32) by decide), if_neg (show ¬ nI 20 = (4 : Int32) by decide), if_neg (show ¬ nI 20 = (5 : Int32) by decide), if_neg (show ¬ nI 20 = (6 : Int32) by decide), if_neg (show ¬ nI 20 = (7 : Int32) by decide), if_neg (show ¬ nI 20 = (8 : Int32) by decide), if_neg (show ¬ nI 20 = (9 : Int32) by decide), if_neg (show ¬ nI 20 = (10 : Int32) by decide), if_neg (show ¬ nI 20 = (11 : Int32) by decide), if_neg (show ¬ nI 20 = (12 : Int32) by decide), if_neg (show ¬ nI 20 = (13 : Int32) by decide), if_neg (show ¬ nI 20 = (14 : Int32) by decide), if_neg (show ¬ nI 20 = (15 : Int32) by decide), if_neg (show ¬ nI 20 = (16 : Int32) by decide), if_neg (show ¬ nI 20 = (17 : Int32) by decide), if_neg (show ¬ nI 20 = (18 : Int32) by decide), if_neg (show ¬ nI 20 = (19 : Int32) by decide), if_pos (show nI 20 = (20 : Int32) from rfl)]
        exact zlaw_t1 (fu := 5000) (mL := m_L_count 5000) (mX := m_X11_count 5000) z1 (case_count hu (by decide)) hC hR hK
      · rw [if_neg (show ¬ nI 21 = (0 : Int32) by decide), if_neg (show ¬ nI 21 = (1 : Int32) by decide), if_neg (show ¬ nI 21 = (2 : Int32) by decide), if_neg (show ¬ nI 21 = (3 : Int32) by decide), if_neg (show ¬ nI 21 = (4 : Int32) by decide), if_neg (show ¬ nI 21 = (5 : Int32) by decide), if_neg (show ¬ nI 21 = (6 : Int32) by decide), if_neg (show ¬ nI 21 = (7 : Int32) by decide), if_neg (show ¬ nI 21 = (8 : Int32) by decide), if_neg (show ¬ nI 21 = (9 : Int32) by decide), if_neg (show ¬ nI 21 = (10 : Int32) by decide), if_neg (show ¬ nI 21 = (11 : Int32) by decide), if_neg (show ¬ nI 21 = (12 : Int32) by decide), if_neg (show ¬ nI 21 = (13 : Int32) by decide), if_neg (show ¬ nI 21 = (14 : Int32) by decide), if_neg (show ¬ nI 21 = (15 : Int32) by decide), if_neg (show ¬ nI 21 = (16 : Int32) by decide), if_neg (show ¬ nI 21 = (17 : Int32) by decide), if_neg (show ¬ nI 21 = (18 : Int32) by decide), if_neg (show ¬ nI 21 = (19 : Int32) by decide), if_neg (show ¬ nI 21 = (20 : Int32) by decide), if_pos (show nI 21 = (21 : Int32) from rfl)]
        exact zlaw_t1 (fu := 5000) (mL := m_L_setting 5000) (mX := m_X11_setting 5000) z1 (case_setting hu (by decide)) hC hR hK
      · rw [if_neg (show ¬ nI 22 = (0 : Int32) by decide), if_neg (show ¬ nI 22 = (1 : Int32) by decide), if_neg (show ¬ nI 22 = (2 : Int32) by decide), if_neg (show ¬ nI 22 = (3 : Int32) by decide), if_neg (show ¬ nI 22 = (4 : Int32) by decide), if_neg (show ¬ nI 22 = (5 : Int32) by decide), if_neg (show ¬ nI 22 = (6 : Int32) by decide), if_neg (show ¬ nI 22 = (7 : Int32) by decide), if_neg (show ¬ nI 22 = (8 : Int32) by decide), if_neg (show ¬ nI 22 = (9 : Int32) by decide), if_neg (show ¬ nI 22 = (10 : Int32) by decide), if_neg (show ¬ nI 22 = (11 : Int32) by decide), if_neg (show ¬ nI 22 = (12 : Int32) by decide), if_neg (show ¬ nI 22 = (13 : Int32) by decide), if_neg (show ¬ nI 22 = (14 : Int32) by decide), if_neg (show ¬ nI 22 = (15 : Int32) by decide), if_neg (show ¬ nI 22 = (16 : Int32) by decide), if_neg (show ¬ nI 22 = (17 : Int32) by decide), if_neg (show ¬ nI 22 = (18 : Int32) by decide), if_neg (show ¬ nI 22 = (19 : Int32) by decide), if_neg (show ¬ nI 22 = (20 : Int32) by decide), if_neg (show ¬ nI 22 = (21 : Int32) by decide), if_pos (show nI 22 = (22 : Int32) from rfl)]
        exact zlaw_t2 (fu := 5000) (mL := m_L_ifSet 5000) (mX := m_X11_ifSet 5000) z1 z2 (case_ifSet hu (by decide)) hC hR hK
      · rw [if_neg (show ¬ nI 23 = (0 : Int32) by decide), if_neg (show ¬ nI 23 = (1 : Int32) by decide), if_neg (show ¬ nI 23 = (2 : Int32) by decide), if_neg (show ¬ nI 23 = (3 : Int32) by decide), if_neg (show ¬ nI 23 = (4 : Int32) by decide), if_neg (show ¬ nI 23 = (5 : Int32) by decide), if_neg (show ¬ nI 23 = (6 : Int32) by decide), if_neg (show ¬ nI 23 = (7 : Int32) by decide), if_neg (show ¬ nI 23 = (8 : Int32) by decide), if_neg (show ¬ nI 23 = (9 : Int32) by decide), if_neg (show ¬ nI 23 = (10 : Int32) by decide), if_neg (show ¬ nI 23 = (11 : Int32) by decide), if_neg (show ¬ nI 23 = (12 : Int32) by decide), if_neg (show ¬ nI 23 = (13 : Int32) by decide), if_neg (show ¬ nI 23 = (14 : Int32) by decide), if_neg (show ¬ nI 23 = (15 : Int32) by decide), if_neg (show ¬ nI 23 = (16 : Int32) by decide), if_neg (show ¬ nI 23 = (17 : Int32) by decide), if_neg (show ¬ nI 23 = (18 : Int32) by decide), if_neg (show ¬ nI 23 = (19 : Int32) by decide), if_neg (show ¬ nI 23 = (20 : Int32) by decide), if_neg (show ¬ nI 23 = (21 : Int32) by decide), if_neg (show ¬ nI 23 = (22 : Int32) by decide), if_pos (show nI 23 = (23 : Int32) from rfl)]
        exact zlaw_t3 (fu := 5000) (mL := m_L_ifChanged 5000) (mX := m_X11_ifChanged 5000) z1 z2 z3 (case_ifChanged hu (by decide)) hC hR hK
      · rw [if_neg (show ¬ nI 24 = (0 : Int32) by decide), if_neg (show ¬ nI 24 = (1 : Int32) by decide), if_neg (show ¬ nI 24 = (2 : Int32) by decide), if_neg (show ¬ nI 24 = (3 : Int32) by decide), if_neg (show ¬ nI 24 = (4 : Int32) by decide), if_neg (show ¬ nI 24 = (5 : Int32) by decide), if_neg (show ¬ nI 24 = (6 : Int32) by decide), if_neg (show ¬ nI 24 = (7 : Int32) by decide), if_neg (show ¬ nI 24 = (8 : Int32) by decide), if_neg (show ¬ nI 24 = (9 : Int32) by decide), if_neg (show ¬ nI 24 = (10 : Int32) by decide), if_neg (show ¬ nI 24 = (11 : Int32) by decide), if_neg (show ¬ nI 24 = (12 : Int32) by decide), if_neg (show ¬ nI 24 = (13 : Int32) by decide), if_neg (show ¬ nI 24 = (14 : Int32) by decide), if_neg (show ¬ nI 24 = (15 : Int32) by decide), if_neg (show ¬ nI 24 = (16 : Int32) by decide), if_neg (show ¬ nI 24 = (17 : Int32) by decide), if_neg (show ¬ nI 24 = (18 : Int32) by decide), if_neg (show ¬ nI 24 = (19 : Int32) by decide), if_neg (show ¬ nI 24 = (20 : Int32) by decide), if_neg (show ¬ nI 24 = (21 : Int32) by decide), if_neg (show ¬ nI 24 = (22 : Int32) by decide), if_neg (show ¬ nI 24 = (23 : Int32) by decide), if_pos (show nI 24 = (24 : Int32) from rfl)]
        exact zlaw_e (mC := fun σ => m_X10_bestLength 5000 σ) (mX := fun σ => m_X11_bestLength 5000 σ) (case_best hu (by decide)) hC hR hK
      · rw [if_neg (show ¬ nI 25 = (0 : Int32) by decide), if_neg (show ¬ nI 25 = (1 : Int32) by decide), if_neg (show ¬ nI 25 = (2 : Int32) by decide), if_neg (show ¬ nI 25 = (3 : Int32) by decide), if_neg (show ¬ nI 25 = (4 : Int32) by decide), if_neg (show ¬ nI 25 = (5 : Int32) by decide), if_neg (show ¬ nI 25 = (6 : Int32) by decide), if_neg (show ¬ nI 25 = (7 : Int32) by decide), if_neg (show ¬ nI 25 = (8 : Int32) by decide), if_neg (show ¬ nI 25 = (9 : Int32) by decide), if_neg (show ¬ nI 25 = (10 : Int32) by decide), if_neg (show ¬ nI 25 = (11 : Int32) by decide), if_neg (show ¬ nI 25 = (12 : Int32) by decide), if_neg (show ¬ nI 25 = (13 : Int32) by decide), if_neg (show ¬ nI 25 = (14 : Int32) by decide), if_neg (show ¬ nI 25 = (15 : Int32) by decide), if_neg (show ¬ nI 25 = (16 : Int32) by decide), if_neg (show ¬ nI 25 = (17 : Int32) by decide), if_neg (show ¬ nI 25 = (18 : Int32) by decide), if_neg (show ¬ nI 25 = (19 : Int32) by decide), if_neg (show ¬ nI 25 = (20 : Int32) by decide), if_neg (show ¬ nI 25 = (21 : Int32) by decide), if_neg (show ¬ nI 25 = (22 : Int32) by decide), if_neg (show ¬ nI 25 = (23 : Int32) by decide), if_neg (show ¬ nI 25 = (24 : Int32) by decide), if_pos (show nI 25 = (25 : Int32) from rfl)]
        exact zlaw_s (mC := fun σ => m_X10_likeShare 5000 σ) (mX := fun σ => m_X11_likeShare 5000 σ) hu (zshare_cmp hu.1) (case_share hu (by decide)).1 (case_share hu (by decide)).2 hC hR hK
      · rw [if_neg (show ¬ nI 26 = (0 : Int32) by decide), if_neg (show ¬ nI 26 = (1 : Int32) by decide), if_neg (show ¬ nI 26 = (2 : Int32) by decide), if_neg (show ¬ nI 26 = (3 : Int32) by decide), if_neg (show ¬ nI 26 = (4 : Int32) by decide), if_neg (show ¬ nI 26 = (5 : Int32) by decide), if_neg (show ¬ nI 26 = (6 : Int32) by decide), if_neg (show ¬ nI 26 = (7 : Int32) by decide), if_neg (show ¬ nI 26 = (8 : Int32) by decide), if_neg (show ¬ nI 26 = (9 : Int32) by decide), if_neg (show ¬ nI 26 = (10 : Int32) by decide), if_neg (show ¬ nI 26 = (11 : Int32) by decide), if_neg (show ¬ nI 26 = (12 : Int32) by decide), if_neg (show ¬ nI 26 = (13 : Int32) by decide), if_neg (show ¬ nI 26 = (14 : Int32) by decide), if_neg (show ¬ nI 26 = (15 : Int32) by decide), if_neg (show ¬ nI 26 = (16 : Int32) by decide), if_neg (show ¬ nI 26 = (17 : Int32) by decide), if_neg (show ¬ nI 26 = (18 : Int32) by decide), if_neg (show ¬ nI 26 = (19 : Int32) by decide), if_neg (show ¬ nI 26 = (20 : Int32) by decide), if_neg (show ¬ nI 26 = (21 : Int32) by decide), if_neg (show ¬ nI 26 = (22 : Int32) by decide), if_neg (show ¬ nI 26 = (23 : Int32) by decide), if_neg (show ¬ nI 26 = (24 : Int32) by decide), if_neg (show ¬ nI 26 = (25 : Int32) by decide), if_pos (show nI 26 = (26 : Int32) from rfl)]
        exact zlaw_d (mC := fun σ => m_X10_digest 5000 σ) (mX := fun σ => m_X11_digest 5000 σ) hu (fun σ h => pX10_digest h hu (by decide)) (fun σ h => qX11_digest h hu (by decide)) hC hR hK
      · have hne : ∀ j, j < 27 → ¬ nI k = nI j := fun j hj z => by
          have := (nI_eq (by omega) (by omega)).mp z
          omega
        rw [if_neg (show ¬ nI k = (0 : Int32) from hne 0 (by decide)), if_neg (show ¬ nI k = (1 : Int32) from hne 1 (by decide)), if_neg (show ¬ nI k = (2 : Int32) from hne 2 (by decide)), if_neg (show ¬ nI k = (3 : Int32) from hne 3 (by decide)), if_neg (show ¬ nI k = (4 : Int32) from hne 4 (by decide)), if_neg (show ¬ nI k = (5 : Int32) from hne 5 (by decide)), if_neg (show ¬ nI k = (6 : Int32) from hne 6 (by decide)), if_neg (show ¬ nI k = (7 : Int32) from hne 7 (by decide)), if_neg (show ¬ nI k = (8 : Int32) from hne 8 (by decide)), if_neg (show ¬ nI k = (9 : Int32) from hne 9 (by decide)), if_neg (show ¬ nI k = (10 : Int32) from hne 10 (by decide)), if_neg (show ¬ nI k = (11 : Int32) from hne 11 (by decide)), if_neg (show ¬ nI k = (12 : Int32) from hne 12 (by decide)), if_neg (show ¬ nI k = (13 : Int32) from hne 13 (by decide)), if_neg (show ¬ nI k = (14 : Int32) from hne 14 (by decide)), if_neg (show ¬ nI k = (15 : Int32) from hne 15 (by decide)), if_neg (show ¬ nI k = (16 : Int32) from hne 16 (by decide)), if_neg (show ¬ nI k = (17 : Int32) from hne 17 (by decide)), if_neg (show ¬ nI k = (18 : Int32) from hne 18 (by decide)), if_neg (show ¬ nI k = (19 : Int32) from hne 19 (by decide)), if_neg (show ¬ nI k = (20 : Int32) from hne 20 (by decide)), if_neg (show ¬ nI k = (21 : Int32) from hne 21 (by decide)), if_neg (show ¬ nI k = (22 : Int32) from hne 22 (by decide)), if_neg (show ¬ nI k = (23 : Int32) from hne 23 (by decide)), if_neg (show ¬ nI k = (24 : Int32) from hne 24 (by decide)), if_neg (show ¬ nI k = (25 : Int32) from hne 25 (by decide)), if_neg (show ¬ nI k = (26 : Int32) from hne 26 (by decide))]
        exact hK σ u hu hC hR
def zS0 : zS := (fun _ => 0, fun _ _ => 0, fun k => if k = 0 then 3 else if k = 1 then 2 else if k = 2 then 3 else 4)
def zu0 : zU := (zS0, (0, fun _ => zS0), ((fun _ => false), fun _ => zS0), (0, fun _ => 0))
theorem zS0_w : zWf zS0 := ⟨by decide, by decide, fun _ _ => (by decide : 0 < 4), by decide, by decide, by decide, by decide, by decide⟩
theorem zu0_w : zUw zu0 := ⟨zS0_w, fun k hk => absurd hk (Nat.not_lt_zero _), fun _ => ⟨fun _ _ => (by decide : 0 < 4), (by decide : 0 ≤ 24), (by decide : 0 ≤ 24)⟩⟩
theorem zu0_C : zCI zσ0 zu0 := by
  refine ⟨⟨⟨⟨zc_1, ⟨zc_2, (by decide : 0 ≤ 24), (by decide : zσ0.1 2 1 = nI 0), fun j hj => absurd hj (Nat.not_lt_zero _)⟩, ⟨zc_4, (by decide : 0 ≤ 24), (by decide : zσ0.1 4 1 = nI 0), fun j hj => absurd hj (Nat.not_lt_zero _)⟩⟩, ?_⟩, ⟨zc_29, zc_31, (by decide : zσ0.1 29 1 = nI 0), (by decide : 0 ≤ 6), fun k hk => absurd hk (Nat.not_lt_zero _)⟩, ⟨zc_32, zc_34, (by decide : 0 ≤ 60), (by decide : zσ0.1 32 1 = nI 0), fun j hj => absurd hj (Nat.not_lt_zero _)⟩, (by decide : zσ0.1 0 4 = zb false), (by decide : zσ0.1 0 5 = zb false), fun x hx ht => absurd ht (by decide : ¬ false = true)⟩, Or.inl (by decide)⟩
  intro k hk
  show zσ0.1 7 k = nI (if k = 0 then 3 else if k = 1 then 2 else if k = 2 then 3 else 4)
  rcases (show k = 0 ∨ k = 1 ∨ k = 2 ∨ k = 3 by omega) with rfl | rfl | rfl | rfl <;> decide
theorem zu0_R : zRI zσ0 zu0 := by
  refine ⟨⟨(by decide : 0 ≤ 24), (by decide : 0 ≤ 24), ?_, ?_, fun r j hr hj => absurd hj (Nat.not_lt_zero _)⟩, ⟨(by decide : zσ0.1 103 1 = nI 0), (by decide : 0 ≤ 6), fun k hk => absurd hk (Nat.not_lt_zero _)⟩, ⟨(by decide : 0 ≤ 60), (by decide : zσ0.1 103 5 = nI 0), fun j hj => absurd hj (Nat.not_lt_zero _)⟩, ?_, fun x hx ht => absurd ht (by decide : ¬ false = true)⟩
  · intro k hk
    show zσ0.1 104 (0 + k) = nI (if k = 0 then 3 else if k = 1 then 2 else if k = 2 then 3 else 4)
    rcases (show k = 0 ∨ k = 1 ∨ k = 2 ∨ k = 3 by omega) with rfl | rfl | rfl | rfl <;> decide
  · intro r hr
    show zσ0.1 104 (0 + 4 + r) = nI 0
    rcases (show r = 0 ∨ r = 1 by omega) with rfl | rfl <;> decide
  · intro x hx
    show zσ0.1 107 x = zb false
    rcases (show x = 0 ∨ x = 1 by omega) with rfl | rfl <;> decide
theorem zlaw_ok : ∀ (xs : Nat → Int32) (L : Nat), L ≤ 2560 → l_L_law 5000 xs L 5000 0 zσ0 = some 1 := fun xs L hL => zlaw_l hL 5000 0 zσ0 zu0 (by omega) (by omega) zu0_w zu0_C zu0_R
