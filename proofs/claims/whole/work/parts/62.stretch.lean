/-! free cost, turned stretches -/
def zfree (S : zS) : Nat := zgc S 0 0 24 (S.1 0) (S.1 1)
theorem pX5_free {fu : Nat} {σ : zmem} {i0 b : Nat} {S : zS} (hi : zkd i0 = (5, 0)) (h : zSt σ b S) (hS : zWf S) (hd : b + 7 ≤ i0 ∨ i0 + 28 ≤ b) (hfu : 100 < fu) :
    ∃ σ', m_X5_freeCost fu σ i0 b = some (nI (zfree S), σ') ∧ zfn σ σ' (i0 + 19) (i0 + 22) := by
  let s1 := zst (zst (zst (zst σ (i0 + 19) 2 (nI 0)) (i0 + 19) 3 (nI (S.1 0))) (i0 + 19) 4 (nI 0)) (i0 + 19) 5 (nI (S.1 1))
  have f1 : zfn σ s1 (i0 + 19) (i0 + 20) := (((zfn_st (by omega) (by omega)).tr (zfn_st (by omega) (by omega))).tr (zfn_st (by omega) (by omega))).tr (zfn_st (by omega) (by omega))
  have fl : s1.1 (i0 + 19) 2 = nI 0 ∧ s1.1 (i0 + 19) 3 = nI (S.1 0) ∧ s1.1 (i0 + 19) 4 = nI 0 ∧ s1.1 (i0 + 19) 5 = nI (S.1 1) := by
    refine ⟨?_, ?_, ?_, zst_at⟩
    · exact (zst_s (by decide)).trans ((zst_s (by decide)).trans ((zst_s (by decide)).trans zst_at))
    · exact (zst_s (by decide)).trans ((zst_s (by decide)).trans zst_at)
    · exact (zst_s (by decide)).trans zst_at
  obtain ⟨s2, e2, f2, _⟩ := pX3_fill (fu := fu) (B := 24) (za5 hi).1 (h.keepn f1 (by omega)) hS fl (by omega) (by omega) (by omega) (by omega) hfu
  refine ⟨s2, ?_, (f1.mono (by omega) (by omega)).tr (f2.mono (by omega) (by omega))⟩
  unfold m_X5_freeCost m_X3_layParts
  rw [pX6_size h.1.2.1, pX6_size h.1.2.2]
  simp only [Option.bind_some]
  show (m_X3_fill fu s1 (i0 + 19) b (nI 24)).bind _ = _
  rw [e2]
  rfl
theorem qX11_free {fu : Nat} {σ : zmem} {S : zS} (hz : zMz σ 104 0 S) (hS : zWf S) (hfu : 100 < fu) : ∃ σ', m_X11_freeCost fu σ = some (nI (zfree S), σ') ∧ zfm σ σ' := by
  have l0' := hS.1
  have l1' := hS.2.1
  obtain ⟨s1, e1, f1, g1⟩ := qX11_layLeast (fu := fu) (p := 0) (m := S.1 0) (q := 0) (n := S.1 1) (B := 24) hz hS (by omega) (by omega) (by omega) hfu
  have z1 := hz.keepr f1 (by simp)
  refine ⟨s1, ?_, f1.m (by intro a; simp; omega)⟩
  unfold m_X11_freeCost zfree
  rw [l0, l1, l24, qX11_signs (r := 0) hz (by decide), qX11_signs (r := 1) hz (by decide)]
  simp only [Option.bind_some]
  rw [e1, Option.bind_some, qX11_signs (r := 0) z1 (by decide), Option.bind_some, qX11_signs (r := 1) z1 (by decide), Option.bind_some]
  rw [r25m, zrd_in zc_121 (show 25 * S.1 0 + S.1 1 < 625 by omega) (by decide), g1 _ _ (Nat.le_refl _) (Nat.le_refl _)]
  simp only [Option.bind_some]
/-- the turned anchor k goes on with the stretch of the one before -/
def zte (V : Nat → Nat) (k : Nat) : Bool := decide (0 < k ∧ V k < V (k - 1))
/-- stretches, the longest one, the size of this one -/
def zts (V : Nat → Nat) : Nat → Nat × Nat × Nat
  | 0 => (0, 0, 0)
  | k + 1 => if zte V k then ((zts V k).1, max (zts V k).2.1 ((zts V k).2.2 + 1), (zts V k).2.2 + 1) else ((zts V k).1 + 1, max (zts V k).2.1 1, 1)
theorem zts_t {V : Nat → Nat} {k : Nat} (h : zte V k = true) : zts V (k + 1) = ((zts V k).1, max (zts V k).2.1 ((zts V k).2.2 + 1), (zts V k).2.2 + 1) := if_pos h
theorem zts_f {V : Nat → Nat} {k : Nat} (h : ¬ zte V k = true) : zts V (k + 1) = ((zts V k).1 + 1, max (zts V k).2.1 1, 1) := if_neg h
theorem zts_pos {V : Nat → Nat} : ∀ k, 1 ≤ (zts V (k + 1)).1 := by
  intro k
  by_cases c : zte V k = true
  · rw [zts_t c]
    cases k with
    | zero =>
      have : 0 < 0 ∧ _ := of_decide_eq_true c
      omega
    | succ k => exact zts_pos k
  · rw [zts_f c]
    exact Nat.le_add_left _ _
theorem zts_le {V : Nat → Nat} : ∀ k, (zts V k).1 ≤ k ∧ (zts V k).2.1 ≤ k ∧ (zts V k).2.2 ≤ k := by
  intro k
  induction k with
  | zero => exact ⟨Nat.le_refl _, Nat.le_refl _, Nat.le_refl _⟩
  | succ k ih =>
    by_cases c : zte V k = true
    · rw [zts_t c]
      dsimp only
      omega
    · rw [zts_f c]
      dsimp only
      omega
def ztV (S : zS) : Nat → Nat := (zanc S true).2.2
def ztN (S : zS) : Nat := (zanc S true).1
theorem zte_if {V : Nat → Nat} {k : Nat} (hk : k < 2 ^ 20) (hV : ∀ j, j ≤ k → V j < 2 ^ 20) : ((if nI k ≤ 0 then some (0 : Int32) else (if nI (V (k - 1)) ≤ nI (V k) then some (0 : Int32) else some (1 : Int32))) : Option Int32) = some (zb (zte V k)) := by
  unfold zte
  by_cases c : k = 0
  · rw [if_pos (show nI k ≤ 0 by rw [c]; decide), decide_eq_false (by omega)]
    rfl
  · have h1 := hV k (Nat.le_refl _)
    have h2 := hV (k - 1) (by omega)
    rw [if_neg (nI_nle (by omega) (by omega))]
    by_cases d : V k < V (k - 1)
    · rw [if_neg (nI_ge d (by omega)), decide_eq_true ⟨by omega, d⟩]
      rfl
    · rw [if_pos (nI_le (by omega) (by omega)), decide_eq_false (by omega)]
      rfl
def zTu (σ : zmem) (t0 : Nat) (S : zS) : Prop := zAc σ (t0 + 1) S true ∧ σ.1 t0 1 = nI (zts (ztV S) (ztN S)).1 ∧ σ.1 t0 2 = nI (zts (ztV S) (ztN S)).2.1 ∧ ∀ k, k < ztN S → σ.1 (t0 + 11) k = nI ((zts (ztV S) (k + 1)).1 - 1)
theorem za9 {i : Nat} (h : zkd i = (9, 0)) : zkd (i + 11) = (100, 24) := (show ∀ i, i < 125 → zkd i = (9, 0) → zkd (i + 11) = (100, 24) by decide +kernel) i (zkd_lt h (by decide)) h
theorem pX9_find {fu : Nat} {σ : zmem} {t0 b : Nat} {S : zS} (ht : zkd t0 = (9, 0)) (h : zSt σ b S) (hS : zWf S) (hd : b + 7 ≤ t0 ∨ t0 + 12 ≤ b) (hfu : 100 < fu) :
    ∃ σ', m_X9_find fu σ t0 b = some σ' ∧ zTu σ' t0 S ∧ zfn σ σ' t0 (t0 + 12) := by
  have l1' := hS.2.1
  have hA := zanc_in (t := true) hS
  have hN : ztN S ≤ 23 := hA.1
  obtain ⟨s1, e1, a1, f1⟩ := pX0_find (fu := fu) (A := t0 + 1) (t := true) (zs_9_0 ht) h hS (by omega) hfu
  obtain ⟨kA1, kA2, _, _⟩ := za0 (zs_9_0 ht)
  let s2 := zst (zst s1 t0 1 (0 : Int32)) t0 2 (0 : Int32)
  have hV : ∀ k, k < ztN S → ∀ j, j ≤ k → ztV S j < 2 ^ 20 := fun k hk j hj => by
    have := (hA.2 j (show j < (zanc S true).1 from Nat.lt_of_le_of_lt hj hk)).2
    show (zanc S true).2.2 j < 2 ^ 20
    omega
  have aK : ∀ τ : zmem, (∀ a, a ≠ t0 → a ≠ t0 + 11 → τ.1 a = s1.1 a) → zAc τ (t0 + 1) S true := fun τ hτ => ⟨by rw [hτ _ (by omega) (by omega)]; exact a1.1, by rw [hτ _ (by omega) (by omega)]; exact a1.2.1, fun i hi => by rw [hτ _ (by omega) (by omega), hτ _ (by omega) (by omega)]; exact a1.2.2 i hi⟩
  obtain ⟨s3, e3, p1, p1', p2, p3, p4⟩ := loopG (L := fun n k (x : Int32 × zmem) => l_X9_find_23 fu t0 n x.1 (nI k) x.2) (N := ztN S)
    (P := fun k x => x.1 = nI (zts (ztV S) k).2.2 ∧ (∀ a, a ≠ t0 → a ≠ t0 + 11 → x.2.1 a = s1.1 a) ∧ x.2.2 = s1.2 ∧ x.2.1 t0 1 = nI (zts (ztV S) k).1 ∧ x.2.1 t0 2 = nI (zts (ztV S) k).2.1 ∧ ∀ j, j < k → x.2.1 (t0 + 11) j = nI ((zts (ztV S) (j + 1)).1 - 1))
    (R := fun τ => (∀ a, a ≠ t0 → a ≠ t0 + 11 → τ.1 a = s1.1 a) ∧ τ.2 = s1.2 ∧ τ.1 t0 1 = nI (zts (ztV S) (ztN S)).1 ∧ τ.1 t0 2 = nI (zts (ztV S) (ztN S)).2.1 ∧ ∀ j, j < ztN S → τ.1 (t0 + 11) j = nI ((zts (ztV S) (j + 1)).1 - 1))
    (fun n x ⟨_, q2, q3, q4, q5, q6⟩ => ⟨x.2, by
      show l_X9_find_23 fu t0 (n + 1) x.1 (nI (ztN S)) x.2 = some x.2
      rw [l_X9_find_23, show x.2.1 (t0 + 1) 2 = nI (ztN S) from (aK _ q2).1, if_pos (nI_le (Nat.le_refl _) (by omega))], q2, q3, q4, q5, q6⟩)
    (fun n k x hk ⟨q1, q2, q3, q4, q5, q6⟩ => by
      have aT := aK _ q2
      have r8 : m_X1_at fu x.2 (t0 + 4) (nI k) = some (nI (ztV S k)) := by
        rw [pX1_at kA2 (show k < 24 by omega) (by decide)]
        exact congrArg some (aT.2.2 k hk).2
      have r9 : 1 ≤ k → m_X1_at fu x.2 (t0 + 4) (nI k - (1 : Int32)) = some (nI (ztV S (k - 1))) := fun h1 => by
        rw [zs1 h1, pX1_at kA2 (show k - 1 < 24 by omega) (by decide)]
        exact congrArg some (aT.2.2 (k - 1) (show k - 1 < (zanc S true).1 from Nat.lt_of_le_of_lt (Nat.sub_le _ _) hk)).2
      have E2 : ((if nI k ≤ 0 then some (0 : Int32) else (m_X1_at fu x.2 (t0 + 4) (nI k)).bind fun x8 => (m_X1_at fu x.2 (t0 + 4) (nI k - (1 : Int32))).bind fun x9 => (if x9 ≤ x8 then some (0 : Int32) else some (1 : Int32))) : Option (Int32)) = some (zb (zte (ztV S) k)) := by
        rw [← zte_if (show k < 2 ^ 20 by omega) (hV k hk), r8]
        by_cases c : k = 0
        · rw [if_pos (show nI k ≤ 0 by rw [c]; decide), if_pos (show nI k ≤ 0 by rw [c]; decide)]
        · rw [if_neg (nI_nle (by omega) (by omega)), if_neg (nI_nle (by omega) (by omega)), r9 (by omega)]
          rfl
      have hle := zts_le (V := ztV S) k
      have unf : l_X9_find_23 fu t0 (n + 1) x.1 (nI k) x.2 = l_X9_find_23 fu t0 n (nI (zts (ztV S) (k + 1)).2.2) (nI (k + 1)) (zrw (zst (zst x.2 t0 1 (nI (zts (ztV S) (k + 1)).1)) t0 2 (nI (zts (ztV S) (k + 1)).2.1)) (t0 + 11) (upd (x.2.1 (t0 + 11)) k (nI ((zts (ztV S) (k + 1)).1 - 1)))) := by
        rw [l_X9_find_23, show x.2.1 (t0 + 1) 2 = nI (ztN S) from aT.1, if_neg (nI_ge hk (by omega)), E2]
        simp only [Option.bind_some]
        have hp := zts_pos (V := ztV S) k
        by_cases c : zte (ztV S) k = true
        · rw [zts_t c] at hp ⊢
          dsimp only at hp ⊢
          rw [c, if_neg (show ¬ zb true = 0 by decide), if_neg (show ¬ zb true = 0 by decide)]
          simp only [Option.bind_some]
          rw [q1, q4, za1, show nI (zts (ztV S) k).1 + (0 : Int32) = nI (zts (ztV S) k).1 from nI_add _ 0, zst_s (show 2 ≠ 1 by decide), q5, zmax_nI (by omega) (by omega), zst_s (show 1 ≠ 2 by decide), zst_at, zs1 hp, pX1_store (za9 ht) (show k < 24 by omega) (by decide), zst_1 (show t0 + 10 + 1 ≠ t0 by omega), zst_1 (show t0 + 10 + 1 ≠ t0 by omega)]
          simp only [Option.bind_some]
          rw [za1]
        · rw [zts_f c] at hp ⊢
          dsimp only at hp ⊢
          rw [(Bool.not_eq_true _).mp c, if_pos (show zb false = 0 by decide), if_pos (show zb false = 0 by decide)]
          simp only [Option.bind_some]
          rw [q4, za1, zst_s (show 2 ≠ 1 by decide), q5, show (1 : Int32) = nI 1 from rfl, zmax_nI (by omega) (by omega), zst_s (show 1 ≠ 2 by decide), zst_at, pk_sub hp, pX1_store (za9 ht) (show k < 24 by omega) (by decide), zst_1 (show t0 + 10 + 1 ≠ t0 by omega), zst_1 (show t0 + 10 + 1 ≠ t0 by omega)]
          simp only [Option.bind_some]
          rw [nI_add]
      refine ⟨(nI (zts (ztV S) (k + 1)).2.2, zrw (zst (zst x.2 t0 1 (nI (zts (ztV S) (k + 1)).1)) t0 2 (nI (zts (ztV S) (k + 1)).2.1)) (t0 + 11) (upd (x.2.1 (t0 + 11)) k (nI ((zts (ztV S) (k + 1)).1 - 1)))), unf, rfl, fun a h1 h2 => ?_, q3, ?_, ?_, fun j hj => ?_⟩
      · show (zrw (zst (zst x.2 t0 1 _) t0 2 _) (t0 + 11) _).1 a = _
        rw [zrw_ne h2, zst_1 h1, zst_1 h1]
        exact q2 a h1 h2
      · show (zrw (zst (zst x.2 t0 1 _) t0 2 _) (t0 + 11) _).1 t0 1 = _
        rw [zrw_ne (by omega), zst_s (by decide), zst_at]
      · show (zrw (zst (zst x.2 t0 1 _) t0 2 _) (t0 + 11) _).1 t0 2 = _
        rw [zrw_ne (by omega), zst_at]
      · show (zrw (zst (zst x.2 t0 1 _) t0 2 _) (t0 + 11) (upd (x.2.1 (t0 + 11)) k (nI ((zts (ztV S) (k + 1)).1 - 1)))).1 (t0 + 11) j = _
        rw [zrw_at]
        by_cases c : j = k
        · rw [c, upd_at]
        · rw [upd_ne c]
          exact q6 j (by omega))
    fu 0 ((0 : Int32), s2) (by omega) (by omega) ⟨rfl, fun a h1 h2 => (zst_1 h1).trans (zst_1 h1), rfl, (zst_s (by decide)).trans zst_at, zst_at, fun j hj => absurd hj (Nat.not_lt_zero _)⟩
  have e3 : l_X9_find_23 fu t0 fu (0 : Int32) (0 : Int32) s2 = some s3 := e3
  refine ⟨s3, ?_, ⟨aK _ p1, p2, p3, p4⟩, ⟨fun a ha => ?_, ?_⟩⟩
  · unfold m_X9_find
    rw [show (1 : Int32) = zb true from rfl, e1]
    simp only [Option.bind_some]
    show (l_X9_find_23 fu t0 fu (0 : Int32) (0 : Int32) s2).bind _ = _
    rw [e3]
    rfl
  · rw [p1 a (by omega) (by omega), f1.1 a (by omega)]
  · rw [p1', f1.2]
theorem qX11_stretches {fu : Nat} {σ : zmem} {S : zS} {l : Bool} (hz : zMz σ 104 0 S) (hS : zWf S) (hfu : 100 < fu) : ∃ σ', m_X11_turnedStretches fu σ (zb l) = some (nI (if l then (zts (ztV S) (ztN S)).2.1 else (zts (ztV S) (ztN S)).1), σ') ∧ zfm σ σ' := by
  have l1' := hS.2.1
  have hA := zanc_in (t := true) hS
  have hN : ztN S ≤ 23 := hA.1
  obtain ⟨s1, e1, a1, t1, m1, _⟩ := qX11_layAnchors hz hS hfu
  have hV : ∀ k, k < ztN S → ∀ j, j ≤ k → ztV S j < 2 ^ 20 := fun k hk j hj => by
    have := (hA.2 j (show j < (zanc S true).1 from Nat.lt_of_le_of_lt hj hk)).2
    show (zanc S true).2.2 j < 2 ^ 20
    omega
  obtain ⟨y, e, hy1, hy2⟩ := loopG (L := fun n k (x : Int32 × Int32 × Int32) => l_X11_turnedStretches_14 fu s1 (zb l) n x.1 x.2.1 x.2.2 (nI k)) (N := ztN S)
    (P := fun k x => x.1 = nI (zts (ztV S) k).1 ∧ x.2.1 = nI (zts (ztV S) k).2.1 ∧ x.2.2 = nI (zts (ztV S) k).2.2) (R := fun x => x.1 = nI (zts (ztV S) (ztN S)).1 ∧ x.2 = nI (zts (ztV S) (ztN S)).2.1)
    (fun n x ⟨q1, q2, _⟩ => ⟨(x.1, x.2.1), by
      show l_X11_turnedStretches_14 fu s1 (zb l) (n + 1) x.1 x.2.1 x.2.2 (nI (ztN S)) = some (x.1, x.2.1)
      rw [l_X11_turnedStretches_14, show s1.1 103 13 = nI (ztN S) from t1.1, if_pos (nI_le (Nat.le_refl _) (by omega))], q1, q2⟩)
    (fun n k x hk ⟨q1, q2, q3⟩ => by
      have r8 : zrd s1 112 (nI k) = some (nI (ztV S k)) := by
        rw [zrd_in zc_112 (show k < 24 by omega) (by decide)]
        exact congrArg some (t1.2 k hk).2
      have r9 : 1 ≤ k → zrd s1 112 (nI k - (1 : Int32)) = some (nI (ztV S (k - 1))) := fun h1 => by
        rw [zs1 h1, zrd_in zc_112 (show k - 1 < 24 by omega) (by decide)]
        exact congrArg some (t1.2 (k - 1) (show k - 1 < (zanc S true).1 from Nat.lt_of_le_of_lt (Nat.sub_le _ _) hk)).2
      have E2 : ((if nI k ≤ 0 then some (0 : Int32) else (zrd s1 112 (nI k)).bind fun x9 => (zrd s1 112 (nI k - (1 : Int32))).bind fun x10 => (if x10 ≤ x9 then some (0 : Int32) else some (1 : Int32))) : Option (Int32)) = some (zb (zte (ztV S) k)) := by
        rw [← zte_if (show k < 2 ^ 20 by omega) (hV k hk), r8]
        by_cases c : k = 0
        · rw [if_pos (show nI k ≤ 0 by rw [c]; decide), if_pos (show nI k ≤ 0 by rw [c]; decide)]
        · rw [if_neg (nI_nle (by omega) (by omega)), if_neg (nI_nle (by omega) (by omega)), r9 (by omega)]
          rfl
      have hle := zts_le (V := ztV S) k
      have mx : ∀ a b, a < 2 ^ 20 → b < 2 ^ 20 → ((if nI b ≤ nI a then some (nI a) else some (nI b)) : Option Int32) = some (nI (max a b)) := fun a b ha hb => by
        by_cases c : b ≤ a
        · rw [if_pos (nI_le c (by omega)), Nat.max_eq_left c]
        · rw [if_neg (nI_ge (by omega) (by omega)), Nat.max_eq_right (by omega)]
      refine ⟨(nI (zts (ztV S) (k + 1)).1, nI (zts (ztV S) (k + 1)).2.1, nI (zts (ztV S) (k + 1)).2.2), ?_, rfl, rfl, rfl⟩
      show l_X11_turnedStretches_14 fu s1 (zb l) (n + 1) x.1 x.2.1 x.2.2 (nI k) = l_X11_turnedStretches_14 fu s1 (zb l) n (nI (zts (ztV S) (k + 1)).1) (nI (zts (ztV S) (k + 1)).2.1) (nI (zts (ztV S) (k + 1)).2.2) (nI (k + 1))
      rw [l_X11_turnedStretches_14, show s1.1 103 13 = nI (ztN S) from t1.1, if_neg (nI_ge hk (by omega)), E2]
      simp only [Option.bind_some]
      by_cases c : zte (ztV S) k = true
      · rw [c, if_neg (show ¬ zb true = 0 by decide), if_neg (show ¬ zb true = 0 by decide), zts_t c]
        simp only [Option.bind_some]
        rw [q1, q2, q3, za1, mx _ _ (by omega) (by omega), show nI (zts (ztV S) k).1 + (0 : Int32) = nI (zts (ztV S) k).1 from nI_add _ 0]
        simp only [Option.bind_some]
        rw [za1]
      · rw [(Bool.not_eq_true _).mp c, if_pos (show zb false = 0 by decide), if_pos (show zb false = 0 by decide), zts_f c]
        simp only [Option.bind_some]
        rw [q1, q2, show (1 : Int32) = nI 1 from rfl, mx _ _ (by omega) (by omega)]
        simp only [Option.bind_some]
        rw [nI_add, nI_add])
    fu 0 ((0 : Int32), (0 : Int32), (0 : Int32)) (by omega) (by omega) ⟨rfl, rfl, rfl⟩
  have e : l_X11_turnedStretches_14 fu s1 (zb l) fu (0 : Int32) (0 : Int32) (0 : Int32) (0 : Int32) = some y := e
  refine ⟨s1, ?_, m1⟩
  unfold m_X11_turnedStretches
  rw [e1]
  simp only [Option.bind_some]
  rw [e]
  simp only [Option.bind_some]
  rw [hy1, hy2]
  cases l
  · rfl
  · rfl
theorem qX11_stretchOf {fu : Nat} {σ : zmem} {S : zS} {a : Nat} (hS : zWf S) (t1 : zMn σ 13 111 (zanc S true)) (ha : a < ztN S) (hfu : 100 < fu) : m_X11_stretchOf fu σ (nI a) = some (nI ((zts (ztV S) (a + 1)).1 - 1)) := by
  have l1' := hS.2.1
  have hA := zanc_in (t := true) hS
  have hN : ztN S ≤ 23 := hA.1
  have hV : ∀ k, k < ztN S → ztV S k < 2 ^ 20 := fun k hk => by
    have := (hA.2 k hk).2
    show (zanc S true).2.2 k < 2 ^ 20
    omega
  obtain ⟨y, e, hy⟩ := loopG (L := fun n k x => l_X11_stretchOf_4 fu σ (nI a) n x (nI k)) (N := a + 1)
    (P := fun k x => 1 ≤ k ∧ x = nI ((zts (ztV S) k).1 - 1)) (R := fun x => x = nI ((zts (ztV S) (a + 1)).1 - 1))
    (fun n x ⟨_, q1⟩ => ⟨x, by
      show l_X11_stretchOf_4 fu σ (nI a) (n + 1) x (nI (a + 1)) = some x
      rw [l_X11_stretchOf_4, if_pos (nI_lt (Nat.lt_succ_self _) (by omega))], q1⟩)
    (fun n k x hk ⟨h1, q1⟩ => by
      have hkN : k < ztN S := by omega
      have hp : 1 ≤ (zts (ztV S) k).1 := by
        obtain ⟨k', rfl⟩ : ∃ k', k = k' + 1 := ⟨k - 1, by omega⟩
        exact zts_pos k'
      have v1 := hV k hkN
      have v2 := hV (k - 1) (by omega)
      refine ⟨nI ((zts (ztV S) (k + 1)).1 - 1), ?_, by omega, rfl⟩
      show l_X11_stretchOf_4 fu σ (nI a) (n + 1) x (nI k) = l_X11_stretchOf_4 fu σ (nI a) n (nI ((zts (ztV S) (k + 1)).1 - 1)) (nI (k + 1))
      rw [l_X11_stretchOf_4, if_neg (nI_nlt (by omega) (by omega)), zs1 h1, zrd_in zc_112 (show k < 24 by omega) (by decide), zrd_in zc_112 (show k - 1 < 24 by omega) (by decide), show σ.1 112 k = nI (ztV S k) from (t1.2 k hkN).2, show σ.1 112 (k - 1) = nI (ztV S (k - 1)) from (t1.2 (k - 1) (show k - 1 < (zanc S true).1 from Nat.lt_of_le_of_lt (Nat.sub_le _ _) hkN)).2]
      simp only [Option.bind_some]
      by_cases c : ztV S k < ztV S (k - 1)
      · have c2 : zte (ztV S) k = true := decide_eq_true ⟨by omega, c⟩
        rw [if_neg (nI_ge c (by omega)), zts_t c2, q1]
        simp only [Option.bind_some]
        rw [show nI ((zts (ztV S) k).1 - 1) + (0 : Int32) = nI ((zts (ztV S) k).1 - 1) from nI_add _ 0, za1]
      · have c2 : ¬ zte (ztV S) k = true := fun z => c (of_decide_eq_true z).2
        rw [if_pos (nI_le (by omega) (by omega)), zts_f c2, q1]
        simp only [Option.bind_some]
        rw [za1, za1, show (zts (ztV S) k).1 - 1 + 1 = (zts (ztV S) k).1 + 1 - 1 by omega])
    fu 1 (0 : Int32) (by omega) (by omega) ⟨Nat.le_refl _, by
      have : zts (ztV S) 1 = (1, 1, 1) := zts_f (fun z => by
        have : 0 < 0 ∧ _ := of_decide_eq_true z
        omega)
      rw [this]
      rfl⟩
  have e : l_X11_stretchOf_4 fu σ (nI a) fu (0 : Int32) (1 : Int32) = some y := e
  unfold m_X11_stretchOf
  rw [e, hy]
  rfl
