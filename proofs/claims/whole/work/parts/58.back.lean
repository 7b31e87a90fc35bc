/-! the way back through a gap -/
abbrev zQp : Type := (Nat → Int32) × (Nat → Int32)
def zlp (P : zQp) (u v : Nat) : zQp := (upd P.1 u (nI v), upd P.2 v (nI u))
def zbk (S : zS) (p q B : Nat) : Nat → Nat → Nat → zQp → zQp
  | 0, _, _, P => P
  | f + 1, i, j, P => if i = 0 ∨ j = 0 then P else if zsp S p q B i j = 0 then zbk S p q B f (i - 1) (j - 1) (zlp P (p + (i - 1)) (q + (j - 1))) else if zsp S p q B i j = 1 then zbk S p q B f (i - 1) j P else zbk S p q B f i (j - 1) P
theorem zbk_0 {S : zS} {p q B f i j : Nat} {P : zQp} (h : i = 0 ∨ j = 0) : zbk S p q B f i j P = P := by
  cases f with
  | zero => rfl
  | succ f => exact if_pos h
theorem zsp_le {S : zS} {p q B i j : Nat} : zsp S p q B i j ≤ 2 := by
  unfold zsp
  repeat' split
  all_goals omega
theorem zsp_band {S : zS} {p q B i j : Nat} (hS : zWf S) (hi : i ≤ 24) (hj : j ≤ 24) (h1 : 1 ≤ i) (h2 : 1 ≤ j) (h : zad i j ≤ B) : zad (i - 1) (j - 1) ≤ B ∧ (zsp S p q B i j = 1 → zad (i - 1) j ≤ B) ∧ (zsp S p q B i j = 2 → zad i (j - 1) ≤ B) := by
  have hm := zgc_min (c := zuc S p q (i - 1) (j - 1)) hS hi hj h (by omega) (fun _ _ => rfl)
  have hb := zgc_in (p := p) (q := q) hS i j h
  unfold zw1 zw2 zw3 at hm
  rw [if_neg (by omega), if_neg (by omega), if_neg (by omega)] at hm
  refine ⟨?_, fun e => ?_, fun e => ?_⟩
  · have : zad (i - 1) (j - 1) = zad i j := by
      unfold zad
      repeat' split
      all_goals omega
    omega
  · by_cases c : zad (i - 1) j ≤ B
    · exact c
    · have := zgc_out (S := S) (p := p) (q := q) (i - 1) j (Nat.lt_of_not_le c)
      unfold zsp at e
      repeat' split at e
      all_goals omega
  · by_cases c : zad i (j - 1) ≤ B
    · exact c
    · have := zgc_out (S := S) (p := p) (q := q) i (j - 1) (Nat.lt_of_not_le c)
      unfold zsp at e
      repeat' split at e
      all_goals omega
theorem za5 {i : Nat} (h : zkd i = (5, 0)) : zkd (i + 19) = (3, 0) ∧ zkd (i + 23) = (100, 125) ∧ zkd (i + 25) = (100, 24) ∧ zkd (i + 27) = (100, 24) := (show ∀ i, i < 125 → zkd i = (5, 0) → zkd (i + 19) = (3, 0) ∧ zkd (i + 23) = (100, 125) ∧ zkd (i + 25) = (100, 24) ∧ zkd (i + 27) = (100, 24) by decide +kernel) i (zkd_lt h (by decide)) h
def zCp (σ : zmem) (i0 : Nat) (P : zQp) : Prop := ∀ j, j < 24 → σ.1 (i0 + 25) j = P.1 j ∧ σ.1 (i0 + 27) j = P.2 j
theorem pX5_pair {fu : Nat} {σ : zmem} {i0 u v : Nat} {P : zQp} (hi : zkd i0 = (5, 0)) (h : zCp σ i0 P) (hu : u < 24) (hv : v < 24) : ∃ σ', m_X5_pairPlaces fu σ i0 (nI u) (nI v) = some σ' ∧ zCp σ' i0 (zlp P u v) ∧ zfn σ σ' (i0 + 25) (i0 + 28) := by
  obtain ⟨_, _, k1, k2⟩ := za5 hi
  refine ⟨zrw (zrw σ (i0 + 25) (upd (σ.1 (i0 + 25)) u (nI v))) (i0 + 27) (upd (σ.1 (i0 + 27)) v (nI u)), ?_, fun j hj => ?_, (zfn_rw (by omega) (by omega)).tr (zfn_rw (by omega) (by omega))⟩
  · unfold m_X5_pairPlaces
    rw [pX1_store k1 hu (by decide)]
    simp only [Option.bind_some]
    rw [pX1_store k2 hv (by decide), zrw_ne (show i0 + 26 + 1 ≠ i0 + 24 + 1 by omega)]
    rfl
  · rw [zrw_ne (show i0 + 25 ≠ i0 + 27 by omega), zrw_at, zrw_at]
    have := h j hj
    show _ = upd P.1 u (nI v) j ∧ _ = upd P.2 v (nI u) j
    refine ⟨?_, ?_⟩
    · by_cases c : j = u
      · rw [c, upd_at, upd_at]
      · rw [upd_ne c, upd_ne c]
        exact this.1
    · by_cases c : j = v
      · rw [c, upd_at, upd_at]
      · rw [upd_ne c, upd_ne c]
        exact this.2
theorem pX5_pairGap_l {fu i0 p q B m n : Nat} {S : zS} (hi : zkd i0 = (5, 0)) (hS : zWf S) (hm : p + m ≤ 24) (hn : q + n ≤ 24) : ∀ (k i j l f : Nat) (σ : zmem) (P : zQp), i ≤ m → j ≤ n → zad i j ≤ B → i + j ≤ l → l < 2 ^ 20 → i + j ≤ f → i + j < k → σ.1 (i0 + 19) 2 = nI p ∧ σ.1 (i0 + 19) 4 = nI q → (∀ i j, 1 ≤ i → i ≤ m → 1 ≤ j → j ≤ n → zad i j ≤ B → σ.1 (i0 + 21) (25 * i + j) = nI (zsp S p q B i j)) → zCp σ i0 P →
    ∃ σ', l_X5_pairGap_20 fu i0 k (nI i) (nI j) (nI l) σ = some σ' ∧ zCp σ' i0 (zbk S p q B f i j P) ∧ zfn σ σ' (i0 + 25) (i0 + 28) := by
  obtain ⟨kg, _, k1, k2⟩ := za5 hi
  intro k
  induction k with
  | zero => intro i j l f σ P _ _ _ _ _ _ h; omega
  | succ k ih =>
    intro i j l f σ P h1 h2 h3 h4 h5 h6 h7 hf hs hP
    rw [l_X5_pairGap_20]
    by_cases c0 : l = 0
    · rw [if_pos (show nI l ≤ 0 by rw [c0]; decide), zbk_0 (by omega)]
      exact ⟨σ, rfl, hP, zfn.rf⟩
    · rw [if_neg (nI_nle (by omega) (by omega))]
      by_cases c1 : i = 0
      · rw [if_pos (show nI i ≤ 0 by rw [c1]; decide), zbk_0 (Or.inl c1)]
        exact ⟨σ, rfl, hP, zfn.rf⟩
      · rw [if_neg (nI_nle (by omega) (by omega))]
        by_cases c2 : j = 0
        · rw [if_pos (show nI j ≤ 0 by rw [c2]; decide), zbk_0 (Or.inr c2)]
          exact ⟨σ, rfl, hP, zfn.rf⟩
        · obtain ⟨f, rfl⟩ : ∃ f', f = f' + 1 := ⟨f - 1, by omega⟩
          have hb := zsp_band (p := p) (q := q) hS (show i ≤ 24 by omega) (show j ≤ 24 by omega) (by omega) (by omega) h3
          have hz := zsp_le (S := S) (p := p) (q := q) (B := B) (i := i) (j := j)
          rw [if_neg (nI_nle (by omega) (by omega)), pX3_step kg (by omega) (by omega), hs i j (by omega) h1 (by omega) h2 h3]
          simp only [Option.bind_some]
          rw [show zbk S p q B (f + 1) i j P = if zsp S p q B i j = 0 then zbk S p q B f (i - 1) (j - 1) (zlp P (p + (i - 1)) (q + (j - 1))) else if zsp S p q B i j = 1 then zbk S p q B f (i - 1) j P else zbk S p q B f i (j - 1) P from if_neg (by omega)]
          rcases (show zsp S p q B i j = 0 ∨ zsp S p q B i j = 1 ∨ zsp S p q B i j = 2 by omega) with e | e | e
          · rw [e, if_pos (show ¬ nI 0 = (2 : Int32) by decide), if_pos (show ¬ nI 0 = (1 : Int32) by decide), if_pos rfl]
            simp only [Option.bind_some]
            rw [if_neg (show ¬ ¬ nI 0 = 0 by decide)]
            obtain ⟨σ1, e1, p1, f1⟩ := pX5_pair (fu := fu) (u := p + (i - 1)) (v := q + (j - 1)) hi hP (by omega) (by omega)
            rw [zs1 (by omega), zs1 (by omega), zs1 (by omega), hf.1, hf.2, nI_add, nI_add, e1]
            simp only [Option.bind_some]
            obtain ⟨σ', e2, p2, f2⟩ := ih (i - 1) (j - 1) (l - 1) f σ1 _ (by omega) (by omega) hb.1 (by omega) (by omega) (by omega) (by omega) (by rw [f1.1 _ (by omega)]; exact hf) (fun a b g1 g2 g3 g4 g5 => by rw [f1.1 _ (by omega)]; exact hs a b g1 g2 g3 g4 g5) p1
            exact ⟨σ', e2, p2, f1.tr f2⟩
          · rw [e, if_pos (show ¬ nI 1 = (2 : Int32) by decide), if_neg (show ¬ ¬ nI 1 = (1 : Int32) by decide), if_neg (show ¬ 1 = 0 by decide), if_pos rfl]
            simp only [Option.bind_some]
            rw [if_pos (show ¬ nI 1 = 0 by decide)]
            simp only [Option.bind_some]
            rw [zs1 (by omega), zs1 (by omega), show nI j - (0 : Int32) = nI j from pk_sub (Nat.zero_le _)]
            exact ih (i - 1) j (l - 1) f σ P (by omega) h2 (hb.2.1 e) (by omega) (by omega) (by omega) (by omega) hf hs hP
          · rw [e, if_neg (show ¬ ¬ nI 2 = (2 : Int32) by decide), if_pos (show ¬ nI 2 = (1 : Int32) by decide), if_neg (show ¬ 2 = 0 by decide), if_neg (show ¬ 2 = 1 by decide)]
            simp only [Option.bind_some]
            rw [if_pos (show ¬ nI 2 = 0 by decide)]
            simp only [Option.bind_some]
            rw [zs1 (by omega), zs1 (by omega), show nI i - (0 : Int32) = nI i from pk_sub (Nat.zero_le _)]
            exact ih i (j - 1) (l - 1) f σ P h1 (by omega) (hb.2.2 e) (by omega) (by omega) (by omega) (by omega) hf hs hP
def zMq (σ : zmem) (P : zQp) : Prop := ∀ j, j < 24 → σ.1 120 j = P.1 j ∧ σ.1 120 (24 + j) = P.2 j
theorem qX11_lineUp {fu : Nat} {σ : zmem} {u v : Nat} {P : zQp} (h : zMq σ P) (hu : u < 24) (hv : v < 24) : ∃ σ', m_X11_lineUp fu σ (nI u) (nI v) = some σ' ∧ zMq σ' (zlp P u v) ∧ zfr σ σ' [120] := by
  refine ⟨zrw (zrw σ 120 (upd (σ.1 120) u (nI v))) 120 (upd (upd (σ.1 120) u (nI v)) (24 + v) (nI u)), ?_, fun j hj => ?_, (zfr_rw (by simp)).tr (zfr_rw (by simp))⟩
  · unfold m_X11_lineUp
    rw [zwr_in zc_120 (show u < 48 by omega) (by decide)]
    simp only [Option.bind_some]
    rw [l24, nI_add, zwr_in zc_120 (show 24 + v < 48 by omega) (by decide), zrw_at]
    rfl
  · have := h j hj
    rw [zrw_at]
    show _ = upd P.1 u (nI v) j ∧ _ = upd P.2 v (nI u) j
    refine ⟨(upd_ne (by omega)).trans ?_, ?_⟩
    · by_cases c : j = u
      · rw [c, upd_at, upd_at]
      · rw [upd_ne c, upd_ne c]
        exact this.1
    · by_cases c : j = v
      · rw [c, upd_at, upd_at]
      · rw [upd_ne (show 24 + j ≠ 24 + v by omega), upd_ne (show 24 + j ≠ u by omega), upd_ne c]
        exact this.2
theorem qX11_goBack_l {fu p q B m n : Nat} {S : zS} (hS : zWf S) (hm : p + m ≤ S.1 0) (hn : q + n ≤ S.1 1) : ∀ (k i j f : Nat) (σ : zmem) (P : zQp), i ≤ m → j ≤ n → zad i j ≤ B → i + j ≤ f → i + j < k → zMz σ 104 0 S → (∀ i j, i ≤ m → j ≤ n → σ.1 121 (25 * i + j) = nI (zgc S p q B i j)) → zMq σ P →
    ∃ σ', l_X11_goBack_7 fu (nI p) (nI q) k (nI i) (nI j) σ = some σ' ∧ zMq σ' (zbk S p q B f i j P) ∧ zfr σ σ' [120] := by
  have l0' := hS.1
  have l1' := hS.2.1
  have hw := hS.2.2.2
  intro k
  induction k with
  | zero => intro i j f σ P _ _ _ _ h; omega
  | succ k ih =>
    intro i j f σ P h1 h2 h3 h6 h7 hz hs hP
    have b0 := zgc_le (p := p) (q := q) (B := B) hS (show i ≤ 24 by omega) (show j ≤ 24 by omega)
    have s1 : zrd σ 104 (1 : Int32) = some (nI (S.2.2 1)) := qX11_set (fu := fu) (k := 1) hz (by decide)
    have s2 : zrd σ 104 (2 : Int32) = some (nI (S.2.2 2)) := qX11_set (fu := fu) (k := 2) hz (by decide)
    have rd : zrd σ 121 (((25 : Int32) * nI i) + nI j) = some (nI (zgc S p q B i j)) := by
      rw [r25m, zrd_in zc_121 (show 25 * i + j < 625 by omega) (by decide), hs i j h1 h2]
    have ru : 1 ≤ i → zrd σ 121 ((((25 : Int32) * nI i) + nI j) - (25 : Int32)) = some (nI (zgc S p q B (i - 1) j)) := fun g => by
      rw [r25m, l25, pk_sub (by omega), zrd_in zc_121 (show 25 * i + j - 25 < 625 by omega) (by decide), show 25 * i + j - 25 = 25 * (i - 1) + j by omega, hs (i - 1) j (by omega) h2]
    rw [l_X11_goBack_7]
    by_cases c1 : i = 0
    · rw [if_neg (show ¬ 0 < nI i by rw [c1]; decide)]
      by_cases c2 : j = 0
      · rw [if_pos (show nI j ≤ 0 by rw [c2]; decide), zbk_0 (Or.inl c1)]
        exact ⟨σ, rfl, hP, zfr.rf⟩
      · rw [if_neg (nI_nle (by omega) (by omega)), rd]
        simp only [Option.bind_some]
        rw [if_pos (show nI i ≤ 0 by rw [c1]; decide)]
        simp only [Option.bind_some]
        rw [if_pos trivial, s1]
        simp only [Option.bind_some]
        rw [if_pos trivial, if_pos (show nI i ≤ 0 by rw [c1]; decide)]
        simp only [Option.bind_some]
        rw [zs1 (by omega)]
        obtain ⟨σ', e2, p2, f2⟩ := ih i (j - 1) f σ P h1 (by omega) (by rw [c1, zad_0] at h3 ⊢; omega) (by omega) (by omega) hz hs hP
        rw [zbk_0 (Or.inl c1)] at p2 ⊢
        exact ⟨σ', e2, p2, f2⟩
    · rw [if_pos (show 0 < nI i from nI_lt (a := 0) (by omega) (by omega)), rd]
      simp only [Option.bind_some]
      rw [if_neg (nI_nle (by omega) (by omega))]
      by_cases c2 : j = 0
      · rw [if_pos (show nI j ≤ 0 by rw [c2]; decide)]
        simp only [Option.bind_some]
        rw [if_pos trivial, s1]
        simp only [Option.bind_some]
        rw [if_pos trivial, if_neg (nI_nle (by omega) (by omega)), ru (by omega), s2]
        simp only [Option.bind_some]
        have eG : zgc S p q B (i - 1) j + S.2.2 2 = zgc S p q B i j := by
          obtain ⟨i', rfl⟩ : ∃ i', i = i' + 1 := ⟨i - 1, by omega⟩
          subst c2
          rw [zad_n] at h3
          exact (if_neg (show ¬ B < i' + 1 by omega)).symm
        rw [nI_add, if_neg (fun z => z (congrArg nI eG))]
        simp only [Option.bind_some]
        rw [zs1 (by omega)]
        obtain ⟨σ', e2, p2, f2⟩ := ih (i - 1) j f σ P (by omega) h2 (by rw [c2, zad_n] at h3 ⊢; omega) (by omega) (by omega) hz hs hP
        rw [zbk_0 (Or.inr c2)] at p2 ⊢
        exact ⟨σ', e2, p2, f2⟩
      · obtain ⟨f, rfl⟩ : ∃ f', f = f' + 1 := ⟨f - 1, by omega⟩
        have hb := zsp_band (p := p) (q := q) hS (show i ≤ 24 by omega) (show j ≤ 24 by omega) (by omega) (by omega) h3
        have f0 := hS.2.2.1 0 (p + (i - 1))
        have f1 := hS.2.2.1 1 (q + (j - 1))
        have b1 := zgc_le (p := p) (q := q) (B := B) hS (show i - 1 ≤ 24 by omega) (show j - 1 ≤ 24 by omega)
        have b2 := zgc_le (p := p) (q := q) (B := B) hS (show i - 1 ≤ 24 by omega) (show j ≤ 24 by omega)
        have b3 := zuc_le (p := p) (q := q) (i := i - 1) (j := j - 1) hS
        have e3 : (((m_X11_at fu σ (0 : Int32) ((nI p + nI i) - (1 : Int32))).bind fun x18 => (m_X11_at fu σ (1 : Int32) ((nI q + nI j) - (1 : Int32))).bind fun x19 => (if ¬ x18 = x19 then (zrd σ 104 (1 : Int32)).bind fun x20 => some x20 else some (0 : Int32))) : Option (Int32)) = some (nI (zuc S p q (i - 1) (j - 1))) := by
          rw [nI_add, nI_add, zs1 (by omega), zs1 (by omega), show p + i - 1 = p + (i - 1) by omega, show q + j - 1 = q + (j - 1) by omega, show m_X11_at fu σ (0 : Int32) (nI (p + (i - 1))) = _ from qX11_at (r := 0) hz (by decide) (by omega), show m_X11_at fu σ (1 : Int32) (nI (q + (j - 1))) = _ from qX11_at (r := 1) hz (by decide) (by omega), s1]
          simp only [Option.bind_some]
          unfold zuc
          by_cases d : S.2.1 0 (p + (i - 1)) = S.2.1 1 (q + (j - 1))
          · rw [if_neg (fun z => z (congrArg nI d)), if_pos d]
            rfl
          · rw [if_pos (fun z => d ((nI_eq (by omega) (by omega)).mp z)), if_neg d]
        have e9 : zrd σ 121 ((((25 : Int32) * nI i) + nI j) - (26 : Int32)) = some (nI (zgc S p q B (i - 1) (j - 1))) := by
          rw [r25m, l26, pk_sub (by omega), zrd_in zc_121 (show 25 * i + j - 26 < 625 by omega) (by decide), show 25 * i + j - 26 = 25 * (i - 1) + (j - 1) by omega, hs (i - 1) (j - 1) (by omega) (by omega)]
        rw [if_neg (nI_nle (by omega) (by omega))]
        simp only [Option.bind_some]
        rw [if_neg (show ¬ (1 : Int32) = 0 by decide), e3]
        simp only [Option.bind_some]
        rw [if_neg (show ¬ (1 : Int32) = 0 by decide), e9]
        simp only [Option.bind_some]
        rw [nI_add, show zbk S p q B (f + 1) i j P = if zsp S p q B i j = 0 then zbk S p q B f (i - 1) (j - 1) (zlp P (p + (i - 1)) (q + (j - 1))) else if zsp S p q B i j = 1 then zbk S p q B f (i - 1) j P else zbk S p q B f i (j - 1) P from if_neg (by omega)]
        by_cases d1 : zgc S p q B (i - 1) (j - 1) + zuc S p q (i - 1) (j - 1) = zgc S p q B i j
        · have e : zsp S p q B i j = 0 := if_pos d1
          obtain ⟨σ1, e1, p1, g1⟩ := qX11_lineUp (fu := fu) (u := p + (i - 1)) (v := q + (j - 1)) hP (by omega) (by omega)
          rw [if_neg (fun z => z (congrArg nI d1)), zs1 (by omega), zs1 (by omega), nI_add, nI_add, e1, if_pos e]
          simp only [Option.bind_some]
          obtain ⟨σ', e2, p2, g2⟩ := ih (i - 1) (j - 1) f σ1 _ (by omega) (by omega) hb.1 (by omega) (by omega) (hz.keepr g1 (by simp)) (fun a b g3 g4 => by rw [g1.1 121 (by simp)]; exact hs a b g3 g4) p1
          exact ⟨σ', e2, p2, g1.tr g2⟩
        · rw [if_pos (fun z => d1 ((nI_eq (by omega) (by omega)).mp z)), if_neg (nI_nle (by omega) (by omega)), ru (by omega), s2]
          simp only [Option.bind_some]
          rw [nI_add]
          by_cases d2 : zgc S p q B (i - 1) j + S.2.2 2 = zgc S p q B i j
          · have e : zsp S p q B i j = 1 := (if_neg d1).trans (if_pos d2)
            rw [if_neg (fun z => z (congrArg nI d2)), if_neg (by omega), if_pos e]
            simp only [Option.bind_some]
            rw [zs1 (by omega)]
            exact ih (i - 1) j f σ P (by omega) h2 (hb.2.1 e) (by omega) (by omega) hz hs hP
          · have e : zsp S p q B i j = 2 := (if_neg d1).trans (if_neg d2)
            rw [if_pos (fun z => d2 ((nI_eq (by omega) (by omega)).mp z)), if_neg (by omega), if_neg (by omega)]
            simp only [Option.bind_some]
            rw [zs1 (by omega)]
            exact ih i (j - 1) f σ P h1 (by omega) (hb.2.2 e) (by omega) (by omega) hz hs hP
