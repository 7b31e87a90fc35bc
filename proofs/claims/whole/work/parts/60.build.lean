/-! the rows lined up: plain functions -/
def zwp (P : zQp) (u v : Nat) : Nat → zQp
  | 0 => P
  | i + 1 => zlp (zwp P u v i) (u + i) (v + i)
def zlU (S : zS) (k : Nat) : Nat := (zanc S false).2.1 ((zchn S).2.1 k)
def zlV (S : zS) (k : Nat) : Nat := (zanc S false).2.2 ((zchn S).2.1 k)
def zl0 : zGp := (0, fun _ _ => 0, (fun _ => zM1, fun _ => zM1))
abbrev zLt : Type := Nat × Nat × zGp
def zlg (S : zS) (k : Nat) (x : zLt) : zGp := if k = 0 ∨ x.1 < zlU S k ∨ x.2.1 < zlV S k then zgl S x.2.2 x.1 (zlU S k - x.1) x.2.1 (zlV S k - x.2.1) else x.2.2
def zla (S : zS) : Nat → zLt
  | 0 => (0, 0, zl0)
  | k + 1 => (zlU S k + S.2.2 0, zlV S k + S.2.2 0, ((zlg S k (zla S k)).1, (zlg S k (zla S k)).2.1, zwp (zlg S k (zla S k)).2.2 (zlU S k) (zlV S k) (S.2.2 0)))
def zlE (S : zS) : zLt := zla S (zchn S).1
/-- all gaps and partners of a state -/
def zlu (S : zS) : zGp := zgl S (zlE S).2.2 (zlE S).1 (S.1 0 - (zlE S).1) (zlE S).2.1 (S.1 1 - (zlE S).2.1)
def zcost (S : zS) : Nat := zsm (fun g => (zlu S).2.1 g 4) (zlu S).1
theorem zlg_le {S : zS} {k : Nat} {x : zLt} : (zlg S k x).1 ≤ x.2.2.1 + 1 := by
  unfold zlg
  split
  · exact Nat.le_refl _
  · exact Nat.le_succ _
theorem zla_le {S : zS} : ∀ k, (zla S k).2.2.1 ≤ k := by
  intro k
  induction k with
  | zero => exact Nat.le_refl _
  | succ k ih =>
    show (zlg S k (zla S k)).1 ≤ k + 1
    have := zlg_le (S := S) (k := k) (x := zla S k)
    omega
theorem zchn_in {S : zS} (hS : zWf S) : (zchn S).1 ≤ 23 ∧ ∀ k, k < (zchn S).1 → (zchn S).2.1 k < zcN S ∧ zlU S k + S.2.2 0 ≤ S.1 0 ∧ zlV S k + S.2.2 0 ≤ S.1 1 := by
  have ha := zanc_in (t := false) hS
  have h := zpk_le (F := zcF S) (g := zcg S) (most := zcm S) (zcN S)
  have hN : zcN S ≤ 23 := ha.1
  refine ⟨by have : (zchn S).1 ≤ zcN S := h.1; omega, fun k hk => ?_⟩
  have h1 : (zchn S).2.1 k < zcN S := h.2 k hk
  exact ⟨h1, ha.2 _ h1⟩
theorem zla_in {S : zS} (hS : zWf S) {k : Nat} (hk : k ≤ (zchn S).1) : (zla S k).1 ≤ S.1 0 ∧ (zla S k).2.1 ≤ S.1 1 := by
  cases k with
  | zero => exact ⟨Nat.zero_le _, Nat.zero_le _⟩
  | succ k =>
    have := (zchn_in hS).2 k (by omega)
    exact this.2
theorem zla_gap {S : zS} (hS : zWf S) {k : Nat} (hk : k < (zchn S).1) (h : k = 0 ∨ (zla S k).1 < zlU S k ∨ (zla S k).2.1 < zlV S k) : (zla S k).1 ≤ zlU S k ∧ (zla S k).2.1 ≤ zlV S k := by
  cases k with
  | zero => exact ⟨Nat.zero_le _, Nat.zero_le _⟩
  | succ k =>
    have hf := zpk_fit (F := zcF S) (g := zcg S) (most := zcm S) (zcN S) k hk
    have hf : zcF S ((zchn S).2.1 k) ((zchn S).2.1 (k + 1)) = true := hf
    unfold zcF zft at hf
    have hf := of_decide_eq_true hf
    have e1 : (zla S (k + 1)).1 = zlU S k + S.2.2 0 := rfl
    have e2 : (zla S (k + 1)).2.1 = zlV S k + S.2.2 0 := rfl
    rw [e1, e2] at h ⊢
    have e3 : zlU S k = (zanc S false).2.1 ((zchn S).2.1 k) := rfl
    have e4 : zlV S k = (zanc S false).2.2 ((zchn S).2.1 k) := rfl
    have e5 : zlU S (k + 1) = (zanc S false).2.1 ((zchn S).2.1 (k + 1)) := rfl
    have e6 : zlV S (k + 1) = (zanc S false).2.2 ((zchn S).2.1 (k + 1)) := rfl
    omega
/-! the class lines up -/
def zCl (σ : zmem) (i0 : Nat) (S : zS) : Prop := zAc σ (i0 + 1) S false ∧ zCc σ (i0 + 10) S ∧ zCg σ i0 (zlu S)
theorem zAc.keepg {σ σ' : zmem} {i0 : Nat} {S : zS} {t : Bool} (h : zAc σ (i0 + 1) S t) (hf : zfg σ σ' i0) : zAc σ' (i0 + 1) S t := ⟨by rw [hf.1 _ (by omega) (by omega)]; exact h.1, by rw [hf.1 _ (by omega) (by omega)]; exact h.2.1, fun i hi => by rw [hf.1 _ (by omega) (by omega), hf.1 _ (by omega) (by omega)]; exact h.2.2 i hi⟩
theorem zCc.keepg {σ σ' : zmem} {i0 : Nat} {S : zS} (h : zCc σ (i0 + 10) S) (hf : zfg σ σ' i0) : zCc σ' (i0 + 10) S := ⟨by rw [hf.1 _ (by omega) (by omega)]; exact h.1, fun j hj => by rw [hf.1 _ (by omega) (by omega)]; exact h.2.1 j hj, fun k hk => by rw [hf.1 _ (by omega) (by omega), hf.1 _ (by omega) (by omega)]; exact h.2.2 k hk⟩
theorem pX5_closeGap2 {fu : Nat} {σ : zmem} {i0 b p u q v : Nat} {S : zS} {Z : zGp} (hi : zkd i0 = (5, 0)) (h : zSt σ b S) (hS : zWf S) (hZ : zCg σ i0 Z) (hg : Z.1 < 25) (hp : p ≤ u) (hu : u ≤ S.1 0) (hq : q ≤ v) (hv : v ≤ S.1 1) (hd : b + 7 ≤ i0 ∨ i0 + 28 ≤ b) (hfu : 100 < fu) :
    ∃ σ', m_X5_closeGap fu σ i0 b (nI p) (nI u) (nI q) (nI v) = some σ' ∧ zCg σ' i0 (zgl S Z p (u - p) q (v - q)) ∧ zfg σ σ' i0 := by
  obtain ⟨σ', e, h2, h3⟩ := pX5_closeGap (fu := fu) (p := p) (m := u - p) (q := q) (n := v - q) hi h hS hZ hg (by omega) (by omega) hd hfu
  rw [show p + (u - p) = u by omega, show q + (v - q) = v by omega] at e
  exact ⟨σ', e, h2, h3⟩
theorem pX5_forget {fu : Nat} {σ : zmem} {i0 : Nat} (hi : zkd i0 = (5, 0)) (hfu : 100 < fu) : ∃ σ', m_X5_forget fu σ i0 = some σ' ∧ zCg σ' i0 zl0 ∧ zfg σ σ' i0 := by
  obtain ⟨_, _, k1, k2⟩ := za5 hi
  obtain ⟨σ', e, p1, p2⟩ := loopP (L := l_X5_forget_12 fu i0) (N := 24) (P := fun v τ => zfn (zst (zst σ i0 2 (0 : Int32)) i0 3 (0 : Int32)) τ (i0 + 25) (i0 + 28) ∧ ∀ j, j < v → τ.1 (i0 + 25) j = zM1 ∧ τ.1 (i0 + 27) j = zM1)
    (fun m τ _ => by rw [l_X5_forget_12, l24, if_pos (nI_le (Nat.le_refl _) (by decide))])
    (fun m v τ hv ⟨q1, q2⟩ => by
      refine ⟨zrw (zrw τ (i0 + 25) (upd (τ.1 (i0 + 25)) v (-1 : Int32))) (i0 + 27) (upd (τ.1 (i0 + 27)) v (-1 : Int32)), ?_, q1.tr ((zfn_rw (by omega) (by omega)).tr (zfn_rw (by omega) (by omega))), fun j hj => ?_⟩
      · rw [l_X5_forget_12, l24, if_neg (nI_ge hv (by decide)), pX1_store k1 hv (by decide)]
        simp only [Option.bind_some]
        rw [pX1_store k2 hv (by decide), zrw_ne (show i0 + 26 + 1 ≠ i0 + 24 + 1 by omega)]
        simp only [Option.bind_some, za1]
      · rw [zrw_ne (show i0 + 25 ≠ i0 + 27 by omega), zrw_at, zrw_at]
        by_cases c : j = v
        · rw [c, upd_at, upd_at]
          exact ⟨rfl, rfl⟩
        · rw [upd_ne c, upd_ne c]
          exact q2 j (by omega))
    fu 0 (zst (zst σ i0 2 (0 : Int32)) i0 3 (0 : Int32)) (by omega) (by omega) ⟨zfn.rf, fun j hj => absurd hj (Nat.not_lt_zero _)⟩
  refine ⟨σ', ?_, ⟨?_, ?_, fun g k hg => absurd hg (Nat.not_lt_zero _), fun j hj => p2 j hj⟩, ((zfg_st (Or.inl rfl)).tr (zfg_st (Or.inr rfl))).tr (p1.g (by omega) (by omega))⟩
  · unfold m_X5_forget
    exact congrArg (fun o => o.bind fun x => some x) e
  · rw [p1.1 i0 (by omega), zst_s (by decide), zst_at]
    rfl
  · rw [p1.1 i0 (by omega), zst_at]
    rfl
theorem pX5_pairWord {fu : Nat} {σ : zmem} {i0 u v : Nat} {S : zS} {P : zQp} (hi : zkd i0 = (5, 0)) (hS : zWf S) (hw : σ.1 (i0 + 1) 3 = nI (S.2.2 0)) (h : zCp σ i0 P) (hu : u + S.2.2 0 ≤ 24) (hv : v + S.2.2 0 ≤ 24) (hfu : 100 < fu) : ∃ σ', m_X5_pairWord fu σ i0 (nI u) (nI v) = some σ' ∧ zCp σ' i0 (zwp P u v (S.2.2 0)) ∧ zfn σ σ' (i0 + 25) (i0 + 28) := by
  have h5 := hS.2.2.2
  obtain ⟨σ', e, p1, p2⟩ := loopP (L := l_X5_pairWord_2 fu i0 (nI u) (nI v)) (N := S.2.2 0) (P := fun k τ => zfn σ τ (i0 + 25) (i0 + 28) ∧ zCp τ i0 (zwp P u v k))
    (fun m τ ⟨q1, _⟩ => by rw [l_X5_pairWord_2, q1.1 _ (by omega), hw, if_pos (nI_le (Nat.le_refl _) (by omega))])
    (fun m k τ hk ⟨q1, q2⟩ => by
      obtain ⟨τ', e1, c1, f1⟩ := pX5_pair (fu := fu) (u := u + k) (v := v + k) hi q2 (by omega) (by omega)
      refine ⟨τ', ?_, q1.tr f1, c1⟩
      rw [l_X5_pairWord_2, q1.1 _ (by omega), hw, if_neg (nI_ge hk (by omega)), nI_add, nI_add, e1]
      simp only [Option.bind_some, za1])
    fu 0 σ (by omega) (by omega) ⟨zfn.rf, h⟩
  refine ⟨σ', ?_, p2, p1⟩
  unfold m_X5_pairWord
  exact congrArg (fun o => o.bind fun x => some x) e
theorem pX5_build {fu : Nat} {σ : zmem} {i0 b : Nat} {S : zS} (hi : zkd i0 = (5, 0)) (h : zSt σ b S) (hS : zWf S) (hd : b + 7 ≤ i0 ∨ i0 + 28 ≤ b) (hfu : 100 < fu) :
    ∃ σ', m_X5_build fu σ i0 b = some (nI (zcost S), σ') ∧ zCl σ' i0 S ∧ zfn σ σ' i0 (i0 + 28) := by
  have l0' := hS.1
  have l1' := hS.2.1
  have hw := hS.2.2.2
  have hc := zchn_in hS
  obtain ⟨s1, e1, a1, f1⟩ := pX0_find (fu := fu) (A := i0 + 1) (t := false) (zs_5_0 hi) h hS (by omega) hfu
  have h1 := h.keepn f1 (by omega)
  obtain ⟨s2, e2, a2, c2, f2⟩ := pX2_find (fu := fu) (zs_5_0 hi) (zs_5_1 hi) a1 hS (by omega) hfu
  have h2 := h1.keepn f2 (by omega)
  obtain ⟨s3, e3, g3, f3⟩ := pX5_forget (fu := fu) (σ := s2) hi hfu
  have h3 := h2.keepg f3 hd
  have hA := zchn_in hS
  have hN : zcN S ≤ 23 := (zanc_in (t := false) hS).1
  have kA := za0 (zs_5_0 hi)
  have kC := za2k (zs_5_1 hi)
  obtain ⟨y, e4, p1, p2, p3, p4⟩ := loopG (L := fun n k (x : Int32 × Int32 × zmem) => l_X5_build_31 fu i0 b n x.1 x.2.1 (nI k) x.2.2) (N := (zchn S).1)
    (P := fun k x => x.1 = nI (zla S k).1 ∧ x.2.1 = nI (zla S k).2.1 ∧ zfg s3 x.2.2 i0 ∧ zCg x.2.2 i0 (zla S k).2.2)
    (R := fun x => x.1 = nI (zlE S).1 ∧ x.2.1 = nI (zlE S).2.1 ∧ zfg s3 x.2.2 i0 ∧ zCg x.2.2 i0 (zlE S).2.2)
    (fun n x ⟨q1, q2, q3, q4⟩ => ⟨x, by
      show l_X5_build_31 fu i0 b (n + 1) x.1 x.2.1 (nI (zchn S).1) x.2.2 = some x
      rw [l_X5_build_31, ((c2.keepg f3).keepg q3).1, if_pos (nI_le (Nat.le_refl _) (by omega))], q1, q2, q3, q4⟩)
    (fun n k x hk ⟨q1, q2, q3, q4⟩ => by
      have hT := h3.keepg q3 hd
      have aT := (a2.keepg f3).keepg q3
      have cT := (c2.keepg f3).keepg q3
      have hm := hA.2 k hk
      have hl := zla_in hS (Nat.le_of_lt hk)
      have hle := zla_le (S := S) k
      have r1 : x.2.2.1 (i0 + 11 + 1) k = nI ((zchn S).2.1 k) := cT.2.1 k hk
      have r2 : x.2.2.1 (i0 + 2 + 1) ((zchn S).2.1 k) = nI (zlU S k) := (aT.2.2 _ hm.1).1
      have r3 : x.2.2.1 (i0 + 4 + 1) ((zchn S).2.1 k) = nI (zlV S k) := (aT.2.2 _ hm.1).2
      have gap : ∃ τ, ((if nI k = 0 then (m_X5_closeGap fu x.2.2 i0 b (nI (zla S k).1) (nI (zlU S k)) (nI (zla S k).2.1) (nI (zlV S k))).bind fun x10 => some x10 else (if nI (zla S k).1 < nI (zlU S k) then (m_X5_closeGap fu x.2.2 i0 b (nI (zla S k).1) (nI (zlU S k)) (nI (zla S k).2.1) (nI (zlV S k))).bind fun x11 => some x11 else (if nI (zlV S k) ≤ nI (zla S k).2.1 then some x.2.2 else (m_X5_closeGap fu x.2.2 i0 b (nI (zla S k).1) (nI (zlU S k)) (nI (zla S k).2.1) (nI (zlV S k))).bind fun x12 => some x12))) : Option (zmem)) = some τ ∧ zfg x.2.2 τ i0 ∧ zCg τ i0 (zlg S k (zla S k)) := by
        have doit : (k = 0 ∨ (zla S k).1 < zlU S k ∨ (zla S k).2.1 < zlV S k) → ∃ τ, m_X5_closeGap fu x.2.2 i0 b (nI (zla S k).1) (nI (zlU S k)) (nI (zla S k).2.1) (nI (zlV S k)) = some τ ∧ zfg x.2.2 τ i0 ∧ zCg τ i0 (zlg S k (zla S k)) := fun c => by
          have hg := zla_gap hS hk c
          obtain ⟨τ, e, g1, g2⟩ := pX5_closeGap2 (fu := fu) hi hT hS q4 (by omega) hg.1 (by omega) hg.2 (by omega) hd hfu
          refine ⟨τ, e, g2, ?_⟩
          unfold zlg
          rw [if_pos c]
          exact g1
        by_cases c1 : k = 0
        · obtain ⟨τ, e, g1, g2⟩ := doit (Or.inl c1)
          rw [if_pos (show nI k = 0 by rw [c1]; rfl), e]
          exact ⟨τ, rfl, g1, g2⟩
        · rw [if_neg (nI_ne0 (by omega) (by omega))]
          by_cases c2 : (zla S k).1 < zlU S k
          · obtain ⟨τ, e, g1, g2⟩ := doit (Or.inr (Or.inl c2))
            rw [if_pos (nI_lt c2 (by omega)), e]
            exact ⟨τ, rfl, g1, g2⟩
          · rw [if_neg (nI_nlt (by omega) (by omega))]
            by_cases c3 : (zla S k).2.1 < zlV S k
            · obtain ⟨τ, e, g1, g2⟩ := doit (Or.inr (Or.inr c3))
              rw [if_neg (nI_ge c3 (by omega)), e]
              exact ⟨τ, rfl, g1, g2⟩
            · rw [if_pos (nI_le (by omega) (by omega))]
              refine ⟨_, rfl, zfg.rf, ?_⟩
              unfold zlg
              rw [if_neg (by omega)]
              exact q4
      obtain ⟨τ, et, g1, g2⟩ := gap
      obtain ⟨τ2, e9, g3', f9⟩ := pX5_pairWord (fu := fu) (u := zlU S k) (v := zlV S k) hi hS (aT.keepg g1).2.1 g2.2.2.2 (by omega) (by omega) hfu
      have w9 : τ2.1 (i0 + 1) 3 = nI (S.2.2 0) := by rw [f9.1 _ (by omega)]; exact (aT.keepg g1).2.1
      refine ⟨(nI (zlU S k + S.2.2 0), nI (zlV S k + S.2.2 0), τ2), ?_, rfl, rfl, (q3.tr g1).tr (f9.g (by omega) (by omega)), ?_, ?_, fun g j hg hj => ?_, g3'⟩
      · show l_X5_build_31 fu i0 b (n + 1) x.1 x.2.1 (nI k) x.2.2 = l_X5_build_31 fu i0 b n (nI (zlU S k + S.2.2 0)) (nI (zlV S k + S.2.2 0)) (nI (k + 1)) τ2
        rw [l_X5_build_31, cT.1, if_neg (nI_ge hk (by omega)), pX1_at kC.1 (show k < 24 by omega) (by decide), r1]
        simp only [Option.bind_some]
        rw [pX1_at kA.1 (show (zchn S).2.1 k < 24 by omega) (by decide), r2]
        simp only [Option.bind_some]
        rw [pX1_at kA.2.1 (show (zchn S).2.1 k < 24 by omega) (by decide), r3]
        simp only [Option.bind_some]
        rw [q1, q2, et]
        simp only [Option.bind_some]
        rw [e9]
        simp only [Option.bind_some]
        rw [w9, nI_add, nI_add, za1]
      · rw [f9.1 _ (by omega)]
        exact g2.1
      · rw [f9.1 _ (by omega)]
        exact g2.2.1
      · rw [f9.1 _ (by omega)]
        exact g2.2.2.1 g j hg hj)
    fu 0 ((0 : Int32), (0 : Int32), s3) (by omega) (by omega) ⟨rfl, rfl, zfg.rf, g3⟩
  have e4 : l_X5_build_31 fu i0 b fu (0 : Int32) (0 : Int32) (0 : Int32) s3 = some y := e4
  have hE := zla_in hS (Nat.le_refl (zchn S).1)
  have hEl := zla_le (S := S) (zchn S).1
  have hT := h3.keepg p3 hd
  obtain ⟨s5, e5, g5, f5⟩ := pX5_closeGap2 (fu := fu) (p := (zlE S).1) (u := S.1 0) (q := (zlE S).2.1) (v := S.1 1) hi hT hS p4 (show (zlE S).2.2.1 < 25 by show (zla S (zchn S).1).2.2.1 < 25; omega) hE.1 (Nat.le_refl _) hE.2 (Nat.le_refl _) hd hfu
  have fA : zfg s2 s5 i0 := (f3.tr p3).tr f5
  refine ⟨s5, ?_, ⟨a2.keepg fA, c2.keepg fA, g5⟩, ⟨fun a ha => ?_, ?_⟩⟩
  · unfold m_X5_build
    rw [show (0 : Int32) = zb false from rfl, e1]
    simp only [Option.bind_some]
    rw [e2]
    simp only [Option.bind_some]
    rw [e3]
    simp only [Option.bind_some]
    show (l_X5_build_31 fu i0 b fu (0 : Int32) (0 : Int32) (0 : Int32) s3).bind _ = _
    rw [e4]
    simp only [Option.bind_some]
    rw [pX6_size hT.1.2.1, pX6_size hT.1.2.2]
    simp only [Option.bind_some]
    rw [p1, p2, e5]
    simp only [Option.bind_some]
    rw [g5.2.1]
    rfl
  · rw [fA.1 a (by omega) (by omega), f2.1 a (by omega), f1.1 a (by omega)]
  · rw [fA.2.2, f2.2, f1.2]
