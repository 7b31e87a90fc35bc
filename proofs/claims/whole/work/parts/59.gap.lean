/-! a gap is closed, and laid -/
abbrev zGp : Type := Nat × (Nat → Nat → Nat) × zQp
def zbd (S : zS) (m n : Nat) : Nat := max (S.2.2 3) (zad m n)
def zgv (S : zS) (p m q n k : Nat) : Nat := if k = 0 then p else if k = 1 then m else if k = 2 then q else if k = 3 then n else zgc S p q (zbd S m n) m n
def zgl (S : zS) (Z : zGp) (p m q n : Nat) : zGp := (Z.1 + 1, fun g k => if g = Z.1 then zgv S p m q n k else Z.2.1 g k, zbk S p q (zbd S m n) (m + n) m n Z.2.2)
def zsm (h : Nat → Nat) : Nat → Nat
  | 0 => 0
  | n + 1 => zsm h n + h n
theorem zsm_congr {h h' : Nat → Nat} : ∀ n, (∀ g, g < n → h g = h' g) → zsm h n = zsm h' n := by
  intro n
  induction n with
  | zero => intro _; rfl
  | succ n ih =>
    intro e
    show zsm h n + h n = zsm h' n + h' n
    rw [ih (fun g hg => e g (by omega)), e n (by omega)]
theorem zgl_sum {S : zS} {Z : zGp} {p m q n : Nat} : zsm (fun g => (zgl S Z p m q n).2.1 g 4) (zgl S Z p m q n).1 = zsm (fun g => Z.2.1 g 4) Z.1 + zgc S p q (zbd S m n) m n := by
  show zsm (fun g => if g = Z.1 then zgv S p m q n 4 else Z.2.1 g 4) Z.1 + (if Z.1 = Z.1 then zgv S p m q n 4 else Z.2.1 Z.1 4) = _
  rw [if_pos rfl, zsm_congr (h' := fun g => Z.2.1 g 4) Z.1 (fun g hg => if_neg (by omega))]
  rfl
/-- only gaps, grid and partners of a lineup have changed -/
def zfg (σ σ' : zmem) (i0 : Nat) : Prop := (∀ a, a ≠ i0 → a < i0 + 19 ∨ i0 + 28 ≤ a → σ'.1 a = σ.1 a) ∧ (∀ k, k ≠ 2 → k ≠ 3 → σ'.1 i0 k = σ.1 i0 k) ∧ σ'.2 = σ.2
theorem zfg.rf {σ : zmem} {i0 : Nat} : zfg σ σ i0 := ⟨fun _ _ _ => rfl, fun _ _ _ => rfl, rfl⟩
theorem zfg.tr {σ σ1 σ2 : zmem} {i0 : Nat} (h : zfg σ σ1 i0) (h2 : zfg σ1 σ2 i0) : zfg σ σ2 i0 := ⟨fun a h3 h4 => (h2.1 a h3 h4).trans (h.1 a h3 h4), fun k h3 h4 => (h2.2.1 k h3 h4).trans (h.2.1 k h3 h4), h2.2.2.trans h.2.2⟩
theorem zfn.g {σ σ' : zmem} {lo hi i0 : Nat} (h : zfn σ σ' lo hi) (h1 : i0 + 19 ≤ lo) (h2 : hi ≤ i0 + 28) : zfg σ σ' i0 := ⟨fun a h3 h4 => h.1 a (by omega), fun k _ _ => by rw [h.1 i0 (by omega)], h.2⟩
theorem zfg_st {σ : zmem} {i0 k : Nat} {v : Int32} (h : k = 2 ∨ k = 3) : zfg σ (zst σ i0 k v) i0 := ⟨fun a h3 h4 => zst_1 h3, fun j h3 h4 => zst_s (by omega), rfl⟩
theorem zSt.keepg {σ σ' : zmem} {b i0 : Nat} {S : zS} (h : zSt σ b S) (hf : zfg σ σ' i0) (hd : b + 7 ≤ i0 ∨ i0 + 28 ≤ b) : zSt σ' b S :=
  ⟨⟨h.1.1, h.1.2.1.keep (hf.1 _ (by omega) (by omega)) (hf.1 _ (by omega) (by omega)), h.1.2.2.keep (hf.1 _ (by omega) (by omega)) (hf.1 _ (by omega) (by omega))⟩, fun k hk => by rw [hf.1 _ (by omega) (by omega)]; exact h.2 k hk⟩
def zCg (σ : zmem) (i0 : Nat) (Z : zGp) : Prop := σ.1 i0 2 = nI Z.1 ∧ σ.1 i0 3 = nI (zsm (fun g => Z.2.1 g 4) Z.1) ∧ (∀ g k, g < Z.1 → k < 5 → σ.1 (i0 + 23) (5 * g + k) = nI (Z.2.1 g k)) ∧ zCp σ i0 Z.2.2
theorem zCp.keep {σ σ' : zmem} {i0 : Nat} {P : zQp} (h : zCp σ i0 P) (h1 : σ'.1 (i0 + 25) = σ.1 (i0 + 25)) (h2 : σ'.1 (i0 + 27) = σ.1 (i0 + 27)) : zCp σ' i0 P := fun j hj => by
  rw [h1, h2]
  exact h j hj
theorem l5m (g : Nat) : nI g * (5 : Int32) = nI (5 * g) := by rw [l5, pk_mul, Nat.mul_comm]
theorem pX5_closeGap {fu : Nat} {σ : zmem} {i0 b p m q n : Nat} {S : zS} {Z : zGp} (hi : zkd i0 = (5, 0)) (h : zSt σ b S) (hS : zWf S) (hZ : zCg σ i0 Z) (hg : Z.1 < 25) (hp : p + m ≤ S.1 0) (hq : q + n ≤ S.1 1) (hd : b + 7 ≤ i0 ∨ i0 + 28 ≤ b) (hfu : 100 < fu) :
    ∃ σ', m_X5_closeGap fu σ i0 b (nI p) (nI (p + m)) (nI q) (nI (q + n)) = some σ' ∧ zCg σ' i0 (zgl S Z p m q n) ∧ zfg σ σ' i0 := by
  have l0' := hS.1
  have l1' := hS.2.1
  have hw := hS.2.2.2
  obtain ⟨kg, k3, k1, k2⟩ := za5 hi
  obtain ⟨z1, z2, z3, z4⟩ := hZ
  let s1 := zst (zst (zst (zst σ (i0 + 19) 2 (nI p)) (i0 + 19) 3 (nI m)) (i0 + 19) 4 (nI q)) (i0 + 19) 5 (nI n)
  have f1 : zfn σ s1 (i0 + 19) (i0 + 20) := (((zfn_st (by omega) (by omega)).tr (zfn_st (by omega) (by omega))).tr (zfn_st (by omega) (by omega))).tr (zfn_st (by omega) (by omega))
  have fl : s1.1 (i0 + 19) 2 = nI p ∧ s1.1 (i0 + 19) 3 = nI m ∧ s1.1 (i0 + 19) 4 = nI q ∧ s1.1 (i0 + 19) 5 = nI n := by
    refine ⟨?_, ?_, ?_, zst_at⟩
    · exact (zst_s (by decide)).trans ((zst_s (by decide)).trans ((zst_s (by decide)).trans zst_at))
    · exact (zst_s (by decide)).trans ((zst_s (by decide)).trans zst_at)
    · exact (zst_s (by decide)).trans zst_at
  have hz : zad m n ≤ 24 := by unfold zad; split <;> omega
  have hb : zbd S m n ≤ 24 := by unfold zbd; omega
  obtain ⟨s2, e2, f2, st2⟩ := pX3_fill (fu := fu) (B := zbd S m n) kg (h.keepn f1 (by omega)) hS fl hp hq hb (by omega) hfu
  have fl2 : s2.1 (i0 + 19) 2 = nI p ∧ s2.1 (i0 + 19) 3 = nI m ∧ s2.1 (i0 + 19) 4 = nI q ∧ s2.1 (i0 + 19) 5 = nI n := by
    rw [f2.1 _ (by omega)]
    exact fl
  have c2 : zCp s2 i0 Z.2.2 := z4.keep (by rw [f2.1 _ (by omega), f1.1 _ (by omega)]) (by rw [f2.1 _ (by omega), f1.1 _ (by omega)])
  obtain ⟨s3, e3, c3, f3⟩ := pX5_pairGap_l (fu := fu) (B := zbd S m n) hi hS (show p + m ≤ 24 by omega) (show q + n ≤ 24 by omega) fu m n (m + n) (m + n) s2 Z.2.2 (Nat.le_refl _) (Nat.le_refl _) (by unfold zbd; omega) (Nat.le_refl _) (by omega) (Nat.le_refl _) (by omega) ⟨fl2.1, fl2.2.2.1⟩ (fun i j g1 g2 g3 g4 g5 => st2 i j g1 g2 g3 g4 g5) c2
  have f123 : zfg σ s3 i0 := ((f1.g (by omega) (by omega)).tr (f2.g (by omega) (by omega))).tr (f3.g (by omega) (by omega))
  have g3 : s3.1 i0 2 = nI Z.1 := by rw [f3.1 i0 (by omega), f2.1 i0 (by omega), f1.1 i0 (by omega)]; exact z1
  have g4 : s3.1 i0 3 = nI (zsm (fun g => Z.2.1 g 4) Z.1) := by rw [f3.1 i0 (by omega), f2.1 i0 (by omega), f1.1 i0 (by omega)]; exact z2
  have g5 : s3.1 (i0 + 23) = σ.1 (i0 + 23) := by rw [f3.1 _ (by omega), f2.1 _ (by omega), f1.1 _ (by omega)]
  let G := zgc S p q (zbd S m n) m n
  let A := σ.1 (i0 + 23)
  let A5 := upd (upd (upd (upd (upd A (5 * Z.1) (nI p)) (5 * Z.1 + 1) (nI m)) (5 * Z.1 + 2) (nI q)) (5 * Z.1 + 3) (nI n)) (5 * Z.1 + 4) (nI G)
  have hA5 : ∀ j, A5 j = if j = 5 * Z.1 + 4 then nI G else if j = 5 * Z.1 + 3 then nI n else if j = 5 * Z.1 + 2 then nI q else if j = 5 * Z.1 + 1 then nI m else if j = 5 * Z.1 then nI p else A j := fun _ => rfl
  refine ⟨zst (zst (zrw s3 (i0 + 23) A5) i0 2 (nI (Z.1 + 1))) i0 3 (nI (zsm (fun g => Z.2.1 g 4) Z.1 + G)), ?_, ⟨?_, ?_, fun g k hgk hk => ?_, ?_⟩, (f123.tr ((zfn_rw (lo := i0 + 19) (hi := i0 + 28) (by omega) (by omega)).g (by omega) (by omega))).tr ((zfg_st (Or.inl rfl)).tr (zfg_st (Or.inr rfl)))⟩
  · have hG : G < 2 ^ 31 := by
      have := zgc_le (p := p) (q := q) (B := zbd S m n) hS (show m ≤ 24 by omega) (show n ≤ 24 by omega)
      show zgc S p q (zbd S m n) m n < 2 ^ 31
      omega
    unfold m_X5_closeGap m_X3_layParts
    rw [pk_sub (by omega), pk_sub (by omega), Nat.add_sub_cancel_left, Nat.add_sub_cancel_left]
    simp only [Option.bind_some]
    show (m_X1_at fu s1 (b + 5) (3 : Int32)).bind _ = _
    rw [show m_X1_at fu s1 (b + 5) (3 : Int32) = some (nI (S.2.2 3)) from (pX1_at (j := 3) (zkd7_6 h.1.1) (by decide) (by decide)).trans (congrArg some ((h.keepn f1 (by omega)).2 3 (by decide)))]
    simp only [Option.bind_some]
    rw [zabs_sub (by omega) (by omega), zmax_nI (by omega) (by omega)]
    show (m_X3_fill fu s1 (i0 + 19) b (nI (zbd S m n))).bind _ = _
    rw [e2]
    simp only [Option.bind_some]
    unfold m_X5_pairGap
    rw [fl2.2.1, fl2.2.2.2, nI_add, e3]
    simp only [Option.bind_some]
    rw [g3, l5m, pX1_store k3 (show 5 * Z.1 < 125 by omega) (by decide)]
    simp only [Option.bind_some]
    rw [za1, pX1_store k3 (show 5 * Z.1 + 1 < 125 by omega) (by decide), zrw_rw, zrw_at]
    simp only [Option.bind_some]
    rw [za2, pX1_store k3 (show 5 * Z.1 + 2 < 125 by omega) (by decide), zrw_rw, zrw_at]
    simp only [Option.bind_some]
    rw [l3, nI_add, pX1_store k3 (show 5 * Z.1 + 3 < 125 by omega) (by decide), zrw_rw, zrw_at]
    simp only [Option.bind_some]
    rw [l4, nI_add, pX1_store k3 (show 5 * Z.1 + 4 < 125 by omega) (by decide), zrw_rw, zrw_at]
    simp only [Option.bind_some]
    rw [zst_s (show 3 ≠ 2 by decide), zrw_ne (show i0 ≠ i0 + 22 + 1 by omega), g3, g4, za1, nI_add]
    show some (zst (zst (zrw s3 (i0 + 23) (upd (upd (upd (upd (upd (s3.1 (i0 + 23)) (5 * Z.1) (nI p)) (5 * Z.1 + 1) (nI m)) (5 * Z.1 + 2) (nI q)) (5 * Z.1 + 3) (nI n)) (5 * Z.1 + 4) (nI G))) i0 2 (nI (Z.1 + 1))) i0 3 (nI (zsm (fun g => Z.2.1 g 4) Z.1 + G))) = _
    rw [g5]
  · rw [zst_s (by decide), zst_at]
    rfl
  · rw [zst_at, zgl_sum]
  · have hgk : g < Z.1 + 1 := hgk
    rw [zst_1 (by omega), zst_1 (by omega), zrw_at, hA5]
    show _ = nI (if g = Z.1 then zgv S p m q n k else Z.2.1 g k)
    by_cases c : g = Z.1
    · rw [if_pos c, c]
      unfold zgv
      rcases (show k = 0 ∨ k = 1 ∨ k = 2 ∨ k = 3 ∨ k = 4 by omega) with rfl | rfl | rfl | rfl | rfl
      · rw [if_neg (by omega), if_neg (by omega), if_neg (by omega), if_neg (by omega), if_pos (by omega), if_pos rfl]
      · rw [if_neg (by omega), if_neg (by omega), if_neg (by omega), if_pos (by omega), if_neg (by omega), if_pos rfl]
      · rw [if_neg (by omega), if_neg (by omega), if_pos (by omega), if_neg (by omega), if_neg (by omega), if_pos rfl]
      · rw [if_neg (by omega), if_pos (by omega), if_neg (by omega), if_neg (by omega), if_neg (by omega), if_pos rfl]
      · rw [if_pos (by omega), if_neg (by omega), if_neg (by omega), if_neg (by omega), if_neg (by omega)]
    · rw [if_neg c, if_neg (by omega), if_neg (by omega), if_neg (by omega), if_neg (by omega), if_neg (by omega)]
      exact z3 g k (by omega) hk
  · exact c3.keep (by rw [zst_1 (by omega), zst_1 (by omega), zrw_ne (by omega)]) (by rw [zst_1 (by omega), zst_1 (by omega), zrw_ne (by omega)])
def zMg (σ : zmem) (Z : zGp) : Prop := σ.1 103 22 = nI Z.1 ∧ (∀ g, g < Z.1 → σ.1 117 (2 * g) = nI (Z.2.1 g 0) ∧ σ.1 117 (2 * g + 1) = nI (Z.2.1 g 2) ∧ σ.1 118 (2 * g) = nI (Z.2.1 g 1) ∧ σ.1 118 (2 * g + 1) = nI (Z.2.1 g 3) ∧ σ.1 119 g = nI (Z.2.1 g 4)) ∧ zMq σ Z.2.2
theorem zMq.keep {σ σ' : zmem} {P : zQp} (h : zMq σ P) (h1 : σ'.1 120 = σ.1 120) : zMq σ' P := fun j hj => by
  rw [h1]
  exact h j hj
theorem r2m (g : Nat) : (2 : Int32) * nI g = nI (2 * g) := by rw [l2, pk_mul]
theorem qX11_addGap {fu : Nat} {σ : zmem} {p m q n : Nat} {S : zS} {Z : zGp} (h : zMz σ 104 0 S) (hS : zWf S) (hZ : zMg σ Z) (hg : Z.1 < 25) (hp : p + m ≤ S.1 0) (hq : q + n ≤ S.1 1) (hfu : 100 < fu) :
    ∃ σ', m_X11_addGap fu σ (nI p) (nI m) (nI q) (nI n) = some σ' ∧ zMg σ' (zgl S Z p m q n) ∧ zfr σ σ' [103, 117, 118, 119, 120, 121] ∧ ∀ k, k ≠ 22 → σ'.1 103 k = σ.1 103 k := by
  have l0' := hS.1
  have l1' := hS.2.1
  have hw := hS.2.2.2
  obtain ⟨z1, z2, z3⟩ := hZ
  have hz : zad m n ≤ 24 := by unfold zad; split <;> omega
  have hb : zbd S m n ≤ 24 := by unfold zbd; omega
  let A7 := upd (upd (σ.1 117) (2 * Z.1) (nI p)) (2 * Z.1 + 1) (nI q)
  let A8 := upd (upd (σ.1 118) (2 * Z.1) (nI m)) (2 * Z.1 + 1) (nI n)
  let s4 := zrw (zrw σ 117 A7) 118 A8
  have f4 : zfr σ s4 [103, 117, 118, 119, 120, 121] := (zfr_rw (by simp)).tr (zfr_rw (by simp))
  have h4 := h.keepr f4 (by simp)
  obtain ⟨s7, e7, f7, g7⟩ := qX11_layLeast (fu := fu) (B := zbd S m n) h4 hS hp hq hb hfu
  let G := zgc S p q (zbd S m n) m n
  let s9 := zrw s7 119 (upd (s7.1 119) Z.1 (nI G))
  have f9 : zfr s7 s9 [119] := zfr_rw (by simp)
  have h9 := (h4.keepr f7 (by simp)).keepr f9 (by simp)
  have q9 : zMq s9 Z.2.2 := z3.keep (by rw [f9.1 120 (by simp), f7.1 120 (by simp)]; rfl)
  obtain ⟨s10, e10, c10, f10⟩ := qX11_goBack_l (fu := fu) (B := zbd S m n) hS hp hq fu m n (m + n) s9 Z.2.2 (Nat.le_refl _) (Nat.le_refl _) (by unfold zbd; omega) (Nat.le_refl _) (by omega) h9 (fun i j g1 g2 => by rw [f9.1 121 (by simp)]; exact g7 i j g1 g2) q9
  have k7 : s7.1 103 = σ.1 103 := by rw [f7.1 103 (by simp)]; rfl
  have k10 : s10.1 103 = σ.1 103 := by rw [f10.1 103 (by simp), f9.1 103 (by simp), k7]
  have a117 : s10.1 117 = A7 := by rw [f10.1 117 (by simp), f9.1 117 (by simp), f7.1 117 (by simp)]; rfl
  have a118 : s10.1 118 = A8 := by rw [f10.1 118 (by simp), f9.1 118 (by simp), f7.1 118 (by simp)]; rfl
  have a119 : s10.1 119 = upd (σ.1 119) Z.1 (nI G) := by
    rw [f10.1 119 (by simp)]
    show (zrw s7 119 (upd (s7.1 119) Z.1 (nI G))).1 119 = _
    rw [zrw_at, f7.1 119 (by simp)]
    rfl
  refine ⟨zst s10 103 22 (nI (Z.1 + 1)), ?_, ⟨zst_at, fun g hg1 => ?_, c10.keep (zst_1 (by decide))⟩, ((f4.tr (f7.mono (by intro a; simp; omega))).tr ((f9.mono (by intro a; simp; omega)).tr (f10.mono (by intro a; simp; omega)))).tr (zfr_st (by simp)), fun k hk => ?_⟩
  · unfold m_X11_addGap
    rw [z1, r2m, zwr_in zc_117 (show 2 * Z.1 < 50 by omega) (by decide)]
    simp only [Option.bind_some]
    rw [zrw_ne (show 103 ≠ 117 by decide), z1, r2m, za1, zwr_in zc_117 (show 2 * Z.1 + 1 < 50 by omega) (by decide), zrw_rw, zrw_at]
    simp only [Option.bind_some]
    rw [zrw_ne (show 103 ≠ 117 by decide), z1, r2m, zwr_in zc_118 (show 2 * Z.1 < 50 by omega) (by decide), zrw_ne (show 118 ≠ 117 by decide)]
    simp only [Option.bind_some]
    rw [zrw_ne (show 103 ≠ 118 by decide), zrw_ne (show 103 ≠ 117 by decide), z1, r2m, za1, zwr_in zc_118 (show 2 * Z.1 + 1 < 50 by omega) (by decide), zrw_rw, zrw_at]
    simp only [Option.bind_some]
    show ((zrd s4 104 (3 : Int32)).bind fun x5 => (m_X11_bandFor fu s4 (nI m) (nI n) x5).bind fun x6 => (m_X11_layLeast fu s4 (nI p) (nI m) (nI q) (nI n) x6).bind fun x7 => (zrd x7 121 (((25 : Int32) * nI m) + nI n)).bind fun x8 => (zwr x7 119 (x7.1 103 22) x8).bind fun s9 => (m_X11_goBack fu s9 (nI p) (nI m) (nI q) (nI n)).bind fun x10 => some (zst x10 103 22 ((x10.1 103 22) + (1 : Int32)))) = _
    rw [show zrd s4 104 (3 : Int32) = some (nI (S.2.2 3)) from qX11_set (fu := fu) (k := 3) h4 (by decide)]
    simp only [Option.bind_some]
    have eb : m_X11_bandFor fu s4 (nI m) (nI n) (nI (S.2.2 3)) = some (nI (zbd S m n)) := by
      have E7 : ((if nI m ≤ nI n then some (nI n - nI m) else some (nI m - nI n)) : Option Int32) = some (nI (zad m n)) := by
        unfold zad
        by_cases c : m ≤ n
        · rw [if_pos (nI_le c (by omega)), if_pos c, pk_sub c]
        · rw [if_neg (nI_ge (by omega) (by omega)), if_neg c, pk_sub (by omega)]
      unfold m_X11_bandFor
      rw [E7]
      simp only [Option.bind_some]
      unfold zbd
      by_cases c : zad m n ≤ S.2.2 3
      · rw [if_pos (nI_le c (by omega)), Nat.max_eq_left c]
      · rw [if_neg (nI_ge (by omega) (by omega)), Nat.max_eq_right (by omega)]
    rw [eb]
    simp only [Option.bind_some]
    rw [e7]
    simp only [Option.bind_some]
    rw [r25m, zrd_in zc_121 (show 25 * m + n < 625 by omega) (by decide), g7 m n (Nat.le_refl _) (Nat.le_refl _)]
    simp only [Option.bind_some]
    rw [k7, z1, zwr_in zc_119 (show Z.1 < 25 by omega) (by decide)]
    simp only [Option.bind_some]
    unfold m_X11_goBack
    show ((l_X11_goBack_7 fu (nI p) (nI q) fu (nI m) (nI n) s9).bind fun x51 => some x51).bind _ = _
    rw [e10]
    simp only [Option.bind_some]
    rw [k10, z1, za1]
  · have hg1 : g < Z.1 + 1 := hg1
    rw [zst_1 (by decide), zst_1 (by decide), zst_1 (by decide), a117, a118, a119]
    show upd (upd (σ.1 117) (2 * Z.1) (nI p)) (2 * Z.1 + 1) (nI q) (2 * g) = nI (if g = Z.1 then zgv S p m q n 0 else Z.2.1 g 0) ∧ upd (upd (σ.1 117) (2 * Z.1) (nI p)) (2 * Z.1 + 1) (nI q) (2 * g + 1) = nI (if g = Z.1 then zgv S p m q n 2 else Z.2.1 g 2) ∧ upd (upd (σ.1 118) (2 * Z.1) (nI m)) (2 * Z.1 + 1) (nI n) (2 * g) = nI (if g = Z.1 then zgv S p m q n 1 else Z.2.1 g 1) ∧ upd (upd (σ.1 118) (2 * Z.1) (nI m)) (2 * Z.1 + 1) (nI n) (2 * g + 1) = nI (if g = Z.1 then zgv S p m q n 3 else Z.2.1 g 3) ∧ upd (σ.1 119) Z.1 (nI G) g = nI (if g = Z.1 then zgv S p m q n 4 else Z.2.1 g 4)
    by_cases c : g = Z.1
    · rw [if_pos c, if_pos c, if_pos c, if_pos c, if_pos c, c, upd_at, upd_ne (by omega), upd_at, upd_at, upd_ne (by omega), upd_at, upd_at]
      exact ⟨rfl, rfl, rfl, rfl, rfl⟩
    · rw [if_neg c, if_neg c, if_neg c, if_neg c, if_neg c, upd_ne (by omega), upd_ne (by omega), upd_ne (by omega), upd_ne (by omega), upd_ne (by omega), upd_ne (by omega), upd_ne (by omega), upd_ne (by omega), upd_ne c]
      exact z2 g (by omega)
  · rw [zst_s hk, k10]
