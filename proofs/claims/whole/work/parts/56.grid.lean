/-! the costs of a gap: plain functions; the class fills its grid -/
def zad (i j : Nat) : Nat := if i ≤ j then j - i else i - j
def zuc (S : zS) (p q i j : Nat) : Nat := if S.2.1 0 (p + i) = S.2.1 1 (q + j) then 0 else S.2.2 1
def zgr0 (S : zS) (B : Nat) : Nat → Nat
  | 0 => 0
  | j + 1 => if B < j + 1 then 1000000 else zgr0 S B j + S.2.2 2
def zgr (S : zS) (p q B i : Nat) (prev : Nat → Nat) : Nat → Nat
  | 0 => if B < i + 1 then 1000000 else prev 0 + S.2.2 2
  | j + 1 => if B < zad i j then 1000000 else min (prev j + zuc S p q i j) (min (prev (j + 1) + S.2.2 2) (zgr S p q B i prev j + S.2.2 2))
def zgc (S : zS) (p q B : Nat) : Nat → Nat → Nat
  | 0 => zgr0 S B
  | i + 1 => zgr S p q B i (zgc S p q B i)
theorem zad_s {i j : Nat} : zad (i + 1) (j + 1) = zad i j := by
  unfold zad
  repeat' split
  all_goals omega
theorem zuc_le {S : zS} {p q i j : Nat} (hS : zWf S) : zuc S p q i j ≤ 9 := by
  have := hS.2.2.2
  unfold zuc
  split <;> omega
theorem zgc_in {S : zS} {p q B : Nat} (hS : zWf S) : ∀ i j, zad i j ≤ B → zgc S p q B i j ≤ 9 * (i + j) := by
  have hw := hS.2.2.2
  intro i
  induction i with
  | zero =>
    intro j
    induction j with
    | zero => intro _; exact Nat.le_refl _
    | succ j ih =>
      intro h
      have h1 : zad 0 (j + 1) = j + 1 := by unfold zad; rw [if_pos (Nat.zero_le _)]; rfl
      have h2 : zad 0 j = j := by unfold zad; rw [if_pos (Nat.zero_le _)]; rfl
      show (if B < j + 1 then 1000000 else zgr0 S B j + S.2.2 2) ≤ _
      rw [if_neg (by omega)]
      have := ih (by omega)
      have e : zgc S p q B 0 j = zgr0 S B j := rfl
      omega
  | succ i ih =>
    intro j
    cases j with
    | zero =>
      intro h
      have h1 : zad (i + 1) 0 = i + 1 := by unfold zad; rw [if_neg (by omega)]; rfl
      have h2 : zad i 0 = i := by unfold zad; split <;> omega
      show (if B < i + 1 then 1000000 else zgc S p q B i 0 + S.2.2 2) ≤ _
      rw [if_neg (by omega)]
      have := ih 0 (by omega)
      omega
    | succ j =>
      intro h
      rw [zad_s] at h
      show (if B < zad i j then 1000000 else min (zgc S p q B i j + zuc S p q i j) _) ≤ _
      rw [if_neg (by omega)]
      have h1 := ih j h
      have h2 := zuc_le (p := p) (q := q) (i := i) (j := j) hS
      omega
theorem zgc_out {S : zS} {p q B : Nat} : ∀ i j, B < zad i j → zgc S p q B i j = 1000000 := by
  intro i j h
  cases i with
  | zero =>
    cases j with
    | zero => exact absurd h (Nat.not_lt_zero _)
    | succ j => exact if_pos (by have h1 : zad 0 (j + 1) = j + 1 := by { unfold zad; rw [if_pos (Nat.zero_le _)]; rfl }; omega)
  | succ i =>
    cases j with
    | zero => exact if_pos (by have h1 : zad (i + 1) 0 = i + 1 := by { unfold zad; rw [if_neg (by omega)]; rfl }; omega)
    | succ j => exact if_pos (by rw [← zad_s]; exact h)
theorem zgc_le {S : zS} {p q B i j : Nat} (hS : zWf S) (hi : i ≤ 24) (hj : j ≤ 24) : zgc S p q B i j ≤ 1000000 := by
  by_cases c : zad i j ≤ B
  · have := zgc_in (p := p) (q := q) hS i j c
    omega
  · rw [zgc_out i j (by omega)]
    exact Nat.le_refl _
/-- the three ways to a cell -/
def zw1 (S : zS) (p q B i j : Nat) : Nat := if i = 0 ∨ j = 0 then 1000000 else zgc S p q B (i - 1) (j - 1)
def zw2 (S : zS) (p q B i j : Nat) : Nat := if i = 0 then 1000000 else zgc S p q B (i - 1) j
def zw3 (S : zS) (p q B i j : Nat) : Nat := if j = 0 then 1000000 else zgc S p q B i (j - 1)
theorem zad_0 (j : Nat) : zad 0 j = j := by unfold zad; rw [if_pos (Nat.zero_le _)]; rfl
theorem zad_n (i : Nat) : zad i 0 = i := by unfold zad; split <;> omega
theorem zgc_min {S : zS} {p q B i j c : Nat} (hS : zWf S) (hi : i ≤ 24) (hj : j ≤ 24) (h : zad i j ≤ B) (h0 : 0 < i ∨ 0 < j) (hc : 1 ≤ i → 1 ≤ j → c = zuc S p q (i - 1) (j - 1)) :
    min (zw1 S p q B i j + c) (min (zw2 S p q B i j + S.2.2 2) (zw3 S p q B i j + S.2.2 2)) = zgc S p q B i j := by
  unfold zw1 zw2 zw3
  have hw := hS.2.2.2
  cases i with
  | zero =>
    cases j with
    | zero => omega
    | succ j =>
      rw [zad_0] at h
      have e : zgc S p q B 0 (j + 1) = zgc S p q B 0 j + S.2.2 2 := if_neg (by omega)
      have := zgc_in (p := p) (q := q) (B := B) hS 0 j (by rw [zad_0]; omega)
      rw [if_pos (Or.inl rfl), if_pos rfl, if_neg (by omega), Nat.add_sub_cancel, e]
      omega
  | succ i =>
    cases j with
    | zero =>
      rw [zad_n] at h
      have e : zgc S p q B (i + 1) 0 = zgc S p q B i 0 + S.2.2 2 := if_neg (by omega)
      have := zgc_in (p := p) (q := q) (B := B) hS i 0 (by rw [zad_n]; omega)
      rw [if_pos (Or.inr rfl), if_neg (by omega), if_pos rfl, Nat.add_sub_cancel, e]
      omega
    | succ j =>
      rw [zad_s] at h
      rw [if_neg (by omega), if_neg (by omega), if_neg (by omega), hc (by omega) (by omega), Nat.add_sub_cancel, Nat.add_sub_cancel]
      exact (if_neg (by omega)).symm
/-- the step that is told at a cell -/
def zsp (S : zS) (p q B i j : Nat) : Nat := if zgc S p q B (i - 1) (j - 1) + zuc S p q (i - 1) (j - 1) = zgc S p q B i j then 0 else if zgc S p q B (i - 1) j + S.2.2 2 = zgc S p q B i j then 1 else 2
theorem zmin_nI {a b : Nat} (ha : a < 2 ^ 31) (hb : b < 2 ^ 31) : zmin (nI a) (nI b) = nI (min a b) := by
  unfold zmin
  by_cases c : b < a
  · rw [if_pos (nI_lt c ha), Nat.min_eq_right (by omega)]
  · rw [if_neg (nI_nlt (by omega) hb), Nat.min_eq_left (by omega)]
theorem zabs_sub {i j : Nat} (hi : i < 25) (hj : j < 25) : zabs (nI i - nI j) = nI (zad i j) := (show ∀ i, i < 25 → ∀ j, j < 25 → zabs (nI i - nI j) = nI (zad i j) by decide +kernel) i hi j hj
theorem lFAR : (1000000 : Int32) = nI 1000000 := rfl
theorem l25m (i j : Nat) : (nI i * (25 : Int32)) + nI j = nI (25 * i + j) := by rw [show (25 : Int32) = nI 25 from rfl, pk_mul, nI_add, Nat.mul_comm]
theorem n25 {i : Nat} (h : i < 25) : ¬ (25 : Int32) ≤ nI i := nI_ge h (by decide)
theorem z01 : (nI 0 - (1 : Int32)) < 0 := by decide
theorem pX3_cost {fu : Nat} {σ : zmem} {g i j : Nat} (hg : zkd g = (3, 0)) (hi : i < 25) (hj : j < 25) : m_X3_costAt fu σ g (nI i) (nI j) = some (σ.1 (g + 1) (25 * i + j)) := by
  unfold m_X3_costAt
  rw [if_neg (nI_pos (by omega)), if_neg (n25 hi), if_neg (nI_pos (by omega)), if_pos (show nI j < (25 : Int32) from nI_lt hj (by decide)), l25m, zrd_in (zs_3_0 hg) (show 25 * i + j < 625 by omega) (by decide)]
  rfl
theorem pX3_step {fu : Nat} {σ : zmem} {g i j : Nat} (hg : zkd g = (3, 0)) (hi : i < 25) (hj : j < 25) : m_X3_stepAt fu σ g (nI i) (nI j) = some (σ.1 (g + 2) (25 * i + j)) := by
  unfold m_X3_stepAt
  rw [if_neg (nI_pos (by omega)), if_neg (n25 hi), if_neg (nI_pos (by omega)), if_pos (show nI j < (25 : Int32) from nI_lt hj (by decide)), l25m, zrd_in (zs_3_1 hg) (show 25 * i + j < 625 by omega) (by decide)]
  rfl
theorem pX3_store {fu : Nat} {σ : zmem} {g i j : Nat} {x y : Int32} (hg : zkd g = (3, 0)) (hi : i < 25) (hj : j < 25) : m_X3_store fu σ g (nI i) (nI j) x y = some (zrw (zrw σ (g + 1) (upd (σ.1 (g + 1)) (25 * i + j) x)) (g + 2) (upd (σ.1 (g + 2)) (25 * i + j) y)) := by
  unfold m_X3_store
  rw [if_neg (nI_pos (by omega)), if_neg (n25 hi), if_neg (nI_pos (by omega)), if_neg (n25 hj), l25m, zwr_in (zs_3_0 hg) (show 25 * i + j < 625 by omega) (by decide)]
  simp only [Option.bind_some]
  rw [zwr_in (zs_3_1 hg) (show 25 * i + j < 625 by omega) (by decide), zrw_ne (show g + 2 ≠ g + 1 by omega)]
  rfl
theorem pX6_sign1 {fu : Nat} {σ : zmem} {i a : Nat} (hi : zkd i = (6, 0)) (ha : a ≤ 24) : ∃ y, m_X6_signAt fu σ i (nI a - (1 : Int32)) = some y := by
  by_cases c : a = 0
  · refine ⟨(-1 : Int32), ?_⟩
    unfold m_X6_signAt
    rw [c, if_pos z01]
  · exact ⟨_, by rw [zs1 (by omega), pX6_signAt hi (by omega)]⟩
/-- what a grid knows: cells up to (v, u) -/
def zGr (σ : zmem) (g : Nat) (S : zS) (p q B n v u : Nat) : Prop := ∀ i j, (i < v ∧ j ≤ n) ∨ (i = v ∧ j < u) → σ.1 (g + 1) (25 * i + j) = nI (zgc S p q B i j) ∧ (1 ≤ i → 1 ≤ j → zad i j ≤ B → σ.1 (g + 2) (25 * i + j) = nI (zsp S p q B i j))
theorem zGr.put {σ : zmem} {g : Nat} {S : zS} {p q B n v u : Nat} {y : Int32} (h : zGr σ g S p q B n v u) (hu : u ≤ n) (hn : n ≤ 24) (hy : 1 ≤ v → 1 ≤ u → zad v u ≤ B → y = nI (zsp S p q B v u)) : zGr (zrw (zrw σ (g + 1) (upd (σ.1 (g + 1)) (25 * v + u) (nI (zgc S p q B v u)))) (g + 2) (upd (σ.1 (g + 2)) (25 * v + u) y)) g S p q B n v (u + 1) := by
  intro i j hij
  rw [zrw_ne (show g + 1 ≠ g + 2 by omega), zrw_at, zrw_at]
  by_cases c : i = v ∧ j = u
  · rw [c.1, c.2, upd_at, upd_at]
    exact ⟨rfl, hy⟩
  · rw [upd_ne (by omega), upd_ne (by omega)]
    exact h i j (by omega)
theorem pX3_fillCell {fu : Nat} {σ : zmem} {g b i j p m q n B : Nat} {S : zS} (hg : zkd g = (3, 0)) (h : zSt σ b S) (hS : zWf S) (hf : σ.1 g 2 = nI p ∧ σ.1 g 3 = nI m ∧ σ.1 g 4 = nI q ∧ σ.1 g 5 = nI n) (hp : p + m ≤ S.1 0) (hq : q + n ≤ S.1 1) (hi : i ≤ m) (hj : j ≤ n) (h0 : 0 < i ∨ 0 < j) (hB : zad i j ≤ B) (hG : zGr σ g S p q B n i j) :
    ∃ y, m_X3_fillCell fu σ g b (nI i) (nI j) = some (zrw (zrw σ (g + 1) (upd (σ.1 (g + 1)) (25 * i + j) (nI (zgc S p q B i j)))) (g + 2) (upd (σ.1 (g + 2)) (25 * i + j) y)) ∧ (1 ≤ i → 1 ≤ j → zad i j ≤ B → y = nI (zsp S p q B i j)) := by
  have hw := hS.2.2.2
  have l0' := hS.1
  have l1' := hS.2.1
  obtain ⟨y2, e2⟩ := pX6_sign1 (fu := fu) (σ := σ) (a := p + i) (zkd7_1 h.1.1) (by omega)
  obtain ⟨y3, e3⟩ := pX6_sign1 (fu := fu) (σ := σ) (a := q + j) (zkd7_3 h.1.1) (by omega)
  have c2 : 1 ≤ i → y2 = nI (S.2.1 0 (p + (i - 1))) := fun h1 => by
    rw [zs1 (by omega), pX6_signAt (zkd7_1 h.1.1) (by omega)] at e2
    injection e2 with e2
    rw [← e2, show p + i - 1 = p + (i - 1) by omega]
    exact h.1.2.1.2.2.2 _ (by omega)
  have c3 : 1 ≤ j → y3 = nI (S.2.1 1 (q + (j - 1))) := fun h1 => by
    rw [zs1 (by omega), pX6_signAt (zkd7_3 h.1.1) (by omega)] at e3
    injection e3 with e3
    rw [← e3, show q + j - 1 = q + (j - 1) by omega]
    exact h.1.2.2.2.2.2 _ (by omega)
  have f0 := hS.2.2.1 0 (p + (i - 1))
  have f1 := hS.2.2.1 1 (q + (j - 1))
  obtain ⟨c, ec, hc9, hc⟩ : ∃ c, (((if ¬ y2 = y3 then some (0 : Int32) else some (1 : Int32)) : Option (Int32)).bind fun x4 => ((if x4 = 0 then (m_X1_at fu σ (b + 5) (1 : Int32)).bind fun x14 => some x14 else some (0 : Int32)) : Option (Int32))) = some (nI c) ∧ c ≤ 9 ∧ (1 ≤ i → 1 ≤ j → c = zuc S p q (i - 1) (j - 1)) := by
    rw [show m_X1_at fu σ (b + 5) (1 : Int32) = some (nI (S.2.2 1)) from (pX1_at (j := 1) (zkd7_6 h.1.1) (by decide) (by decide)).trans (congrArg some (h.2 1 (by decide)))]
    by_cases d : y2 = y3
    · refine ⟨0, by rw [if_neg (fun z => z d)]; rfl, by omega, fun h1 h2 => ?_⟩
      rw [c2 h1, c3 h2] at d
      exact (if_pos ((nI_eq (by omega) (by omega)).mp d)).symm
    · refine ⟨S.2.2 1, by rw [if_pos d]; rfl, by omega, fun h1 h2 => ?_⟩
      exact (if_neg (fun z => d (by rw [c2 h1, c3 h2, z]))).symm
  have b1 : zw1 S p q B i j ≤ 1000000 := by
    unfold zw1
    split
    · exact Nat.le_refl _
    · exact zgc_le hS (by omega) (by omega)
  have b2 : zw2 S p q B i j ≤ 1000000 := by
    unfold zw2
    split
    · exact Nat.le_refl _
    · exact zgc_le hS (by omega) (by omega)
  have b3 : zw3 S p q B i j ≤ 1000000 := by
    unfold zw3
    split
    · exact Nat.le_refl _
    · exact zgc_le hS (by omega) (by omega)
  have e5 : m_X3_costAt fu σ g (nI i - (1 : Int32)) (nI j - (1 : Int32)) = some (nI (zw1 S p q B i j)) := by
    unfold zw1
    by_cases d1 : i = 0
    · unfold m_X3_costAt
      rw [d1, if_pos z01, if_pos (Or.inl rfl)]
      rfl
    · rw [zs1 (by omega)]
      by_cases d2 : j = 0
      · unfold m_X3_costAt
        rw [d2, if_neg (nI_pos (by omega)), if_neg (n25 (by omega)), if_pos z01, if_pos (Or.inr rfl)]
        rfl
      · rw [zs1 (by omega), pX3_cost hg (by omega) (by omega), (hG (i - 1) (j - 1) (by omega)).1, if_neg (by omega)]
  have e7 : m_X3_costAt fu σ g (nI i - (1 : Int32)) (nI j) = some (nI (zw2 S p q B i j)) := by
    unfold zw2
    by_cases d1 : i = 0
    · unfold m_X3_costAt
      rw [d1, if_pos z01, if_pos rfl]
      rfl
    · rw [zs1 (by omega), pX3_cost hg (by omega) (by omega), (hG (i - 1) j (by omega)).1, if_neg (by omega)]
  have e8 : m_X3_costAt fu σ g (nI i) (nI j - (1 : Int32)) = some (nI (zw3 S p q B i j)) := by
    unfold zw3
    by_cases d2 : j = 0
    · unfold m_X3_costAt
      rw [d2, if_neg (nI_pos (by omega)), if_neg (n25 (by omega)), if_pos z01, if_pos rfl]
      rfl
    · rw [zs1 (by omega), pX3_cost hg (by omega) (by omega), (hG i (j - 1) (by omega)).1, if_neg (by omega)]
  have hm := zgc_min hS (by omega) (by omega) hB h0 hc
  have ec' : ∀ (K : Int32 → Option zmem), ((if ¬ y2 = y3 then some (0 : Int32) else some (1 : Int32)) : Option (Int32)).bind (fun x4 => (m_X3_costAt fu σ g (nI i - (1 : Int32)) (nI j - (1 : Int32))).bind fun x5 => ((if x4 = 0 then (m_X1_at fu σ (b + 5) (1 : Int32)).bind fun x14 => some x14 else some (0 : Int32)) : Option (Int32)).bind fun x6 => K (x5 + x6)) = K (nI (zw1 S p q B i j + c)) := by
    intro K
    rw [e5]
    simp only [Option.bind_some]
    by_cases d : y2 = y3
    · rw [if_neg (fun z => z d)] at ec ⊢
      simp only [Option.bind_some] at ec ⊢
      rw [ec]
      simp only [Option.bind_some, nI_add]
    · rw [if_pos d] at ec ⊢
      simp only [Option.bind_some] at ec ⊢
      rw [ec]
      simp only [Option.bind_some, nI_add]
  have fin : m_X3_fillCell fu σ g b (nI i) (nI j) = (if ¬ nI (zw1 S p q B i j + c) = nI (zgc S p q B i j) then ((if ¬ nI (zw2 S p q B i j + S.2.2 2) = nI (zgc S p q B i j) then some (2 : Int32) else some (1 : Int32)) : Option (Int32)).bind fun x9 => (m_X3_store fu σ g (nI i) (nI j) (nI (zgc S p q B i j)) x9).bind fun x10 => some x10 else (m_X3_store fu σ g (nI i) (nI j) (nI (zgc S p q B i j)) (0 : Int32)).bind fun x12 => some x12) := by
    unfold m_X3_fillCell
    rw [show m_X1_at fu σ (b + 5) (2 : Int32) = some (nI (S.2.2 2)) from (pX1_at (j := 2) (zkd7_6 h.1.1) (by decide) (by decide)).trans (congrArg some (h.2 2 (by decide))), hf.1, hf.2.2.1, nI_add, nI_add, e2, e3]
    simp only [Option.bind_some]
    have := ec' (fun x => (m_X3_costAt fu σ g (nI i - (1 : Int32)) (nI j)).bind fun x7 => (m_X3_costAt fu σ g (nI i) (nI j - (1 : Int32))).bind fun x8 => (if ¬ x = (zmin x (zmin (x7 + nI (S.2.2 2)) (x8 + nI (S.2.2 2)))) then ((if ¬ (x7 + nI (S.2.2 2)) = (zmin x (zmin (x7 + nI (S.2.2 2)) (x8 + nI (S.2.2 2)))) then some (2 : Int32) else some (1 : Int32)) : Option (Int32)).bind fun x9 => (m_X3_store fu σ g (nI i) (nI j) (zmin x (zmin (x7 + nI (S.2.2 2)) (x8 + nI (S.2.2 2)))) x9).bind fun x10 => some x10 else (m_X3_store fu σ g (nI i) (nI j) (zmin x (zmin (x7 + nI (S.2.2 2)) (x8 + nI (S.2.2 2)))) (0 : Int32)).bind fun x12 => some x12))
    refine this.trans ?_
    rw [e7, e8]
    simp only [Option.bind_some]
    rw [nI_add, nI_add, zmin_nI (by omega) (by omega), zmin_nI (by omega) (by omega), hm]
  have hgl := zgc_le (p := p) (q := q) (B := B) hS (show i ≤ 24 by omega) (show j ≤ 24 by omega)
  by_cases d1 : zw1 S p q B i j + c = zgc S p q B i j
  · rw [if_neg (fun z => z (congrArg nI d1)), pX3_store hg (by omega) (by omega)] at fin
    refine ⟨(0 : Int32), fin, fun h1 h2 _ => ?_⟩
    unfold zsp
    unfold zw1 at d1
    rw [if_neg (by omega), hc h1 h2] at d1
    rw [if_pos d1]
    rfl
  · rw [if_pos (fun z => d1 ((nI_eq (by omega) (by omega)).mp z))] at fin
    by_cases d2 : zw2 S p q B i j + S.2.2 2 = zgc S p q B i j
    · rw [if_neg (fun z => z (congrArg nI d2))] at fin
      simp only [Option.bind_some] at fin
      rw [pX3_store hg (by omega) (by omega)] at fin
      refine ⟨(1 : Int32), fin, fun h1 h2 _ => ?_⟩
      unfold zsp
      unfold zw1 at d1
      unfold zw2 at d2
      rw [if_neg (by omega), hc h1 h2] at d1
      rw [if_neg (by omega)] at d2
      rw [if_neg d1, if_pos d2]
      rfl
    · rw [if_pos (fun z => d2 ((nI_eq (by omega) (by omega)).mp z))] at fin
      simp only [Option.bind_some] at fin
      rw [pX3_store hg (by omega) (by omega)] at fin
      refine ⟨(2 : Int32), fin, fun h1 h2 _ => ?_⟩
      unfold zsp
      unfold zw1 at d1
      unfold zw2 at d2
      rw [if_neg (by omega), hc h1 h2] at d1
      rw [if_neg (by omega)] at d2
      rw [if_neg d1, if_neg d2]
      rfl
