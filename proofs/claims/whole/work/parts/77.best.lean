/-! the best length of words, both sides -/
def zok4 (Z : zGp) : Prop := ∀ g, g < Z.1 → Z.2.1 g 4 ≤ 1000000
theorem zok4.gl {S : zS} {Z : zGp} {p m q n : Nat} (h : zok4 Z) (hS : zWf S) (hm : m ≤ 24) (hn : n ≤ 24) : zok4 (zgl S Z p m q n) := fun g hg => by
  have hg : g < Z.1 + 1 := hg
  show (if g = Z.1 then zgv S p m q n 4 else Z.2.1 g 4) ≤ 1000000
  by_cases c : g = Z.1
  · rw [if_pos c]
    exact zgc_le hS hm hn
  · rw [if_neg c]
    exact h g (by omega)
theorem zok4.la {S : zS} (hS : zWf S) : ∀ k, k ≤ (zchn S).1 → zok4 (zla S k).2.2 := by
  have l0' := hS.1
  have l1' := hS.2.1
  intro k
  induction k with
  | zero => intro _ g hg; exact absurd hg (Nat.not_lt_zero _)
  | succ k ih =>
    intro hk
    have h := ih (by omega)
    have hm := (zchn_in hS).2 k (by omega)
    have h2 : zok4 (zlg S k (zla S k)) := by
      unfold zlg
      split
      · exact h.gl hS (by omega) (by omega)
      · exact h
    exact fun g hg => h2 g hg
theorem zok4.all {S : zS} (hS : zWf S) : zok4 (zlu S) := (zok4.la hS (zchn S).1 (Nat.le_refl _)).gl hS (by have := hS.1; omega) (by have := hS.2.1; omega)
theorem zsm_le {h : Nat → Nat} {B : Nat} : ∀ n, (∀ g, g < n → h g ≤ B) → zsm h n ≤ n * B := by
  intro n
  induction n with
  | zero => intro _; exact Nat.zero_le _
  | succ n ih =>
    intro e
    have h1 := ih (fun g hg => e g (by omega))
    have h2 := e n (by omega)
    show zsm h n + h n ≤ (n + 1) * B
    rw [Nat.succ_mul]
    omega
theorem zcost_le {S : zS} (hS : zWf S) : zcost S < 2 ^ 31 := by
  have h1 := zsm_le (h := fun g => (zlu S).2.1 g 4) (B := 1000000) (zlu S).1 (zok4.all hS)
  have h2 := zlu_le hS
  have h3 : (zlu S).1 * 1000000 ≤ 25 * 1000000 := Nat.mul_le_mul_right _ h2
  show zsm (fun g => (zlu S).2.1 g 4) (zlu S).1 < 2 ^ 31
  omega
def zbw (c : Nat → Nat) : Nat → Nat × Nat
  | 0 => (5, c 5)
  | j + 1 => if c (4 - j) < (zbw c j).2 then (4 - j, c (4 - j)) else zbw c j
def zbC (S : zS) (w : Nat) : Nat := zcost (zset S 0 w)
def zbest (S : zS) : Nat := (zbw (zbC S) 3).1
theorem zbC_le {S : zS} {w : Nat} (hS : zWf S) (h1 : 2 ≤ w) (h2 : w ≤ 5) : zbC S w < 2 ^ 31 := zcost_le (hS.set (i := 0) (by decide) h1 h2)
theorem zbw_in {S : zS} (hS : zWf S) : ∀ j, j ≤ 3 → 2 ≤ (zbw (zbC S) j).1 ∧ (zbw (zbC S) j).1 ≤ 5 ∧ (zbw (zbC S) j).2 < 2 ^ 31 := by
  intro j
  induction j with
  | zero => exact fun _ => ⟨show 2 ≤ 5 by decide, show 5 ≤ 5 by decide, zbC_le hS (by decide) (by decide)⟩
  | succ j ih =>
    intro hj
    show 2 ≤ (if zbC S (4 - j) < (zbw (zbC S) j).2 then (4 - j, zbC S (4 - j)) else zbw (zbC S) j).1 ∧ (if zbC S (4 - j) < (zbw (zbC S) j).2 then (4 - j, zbC S (4 - j)) else zbw (zbC S) j).1 ≤ 5 ∧ (if zbC S (4 - j) < (zbw (zbC S) j).2 then (4 - j, zbC S (4 - j)) else zbw (zbC S) j).2 < 2 ^ 31
    split
    · exact ⟨by show 2 ≤ 4 - j; omega, by show 4 - j ≤ 5; omega, zbC_le hS (by omega) (by omega)⟩
    · exact ih (by omega)
theorem zset_self {S : zS} {i : Nat} : zset S i (S.2.2 i) = S := by
  refine Prod.ext rfl (Prod.ext rfl (funext fun k => ?_))
  show (if k = i then S.2.2 i else S.2.2 k) = S.2.2 k
  by_cases c : k = i
  · rw [if_pos c, c]
  · rw [if_neg c]
theorem pX10_best_s {fu n w w0 : Nat} {τ : zmem} {S : zS} (h : zSt τ 8 (zset S 0 w0)) (hS : zWf S) (h1 : 2 ≤ w) (h2 : w ≤ 5) (hfu : 100 < fu) : ∃ τ', zSt τ' 8 (zset S 0 w) ∧ zft8 τ τ' ∧ ∀ v1 v2, l_X10_bestWordLength_17 fu (n + 1) v1 v2 (nI w) τ = ((if v1 = (-1 : Int32) then some (nI w, nI (zbC S w)) else (if v2 ≤ nI (zbC S w) then some (v1, v2) else some (nI w, nI (zbC S w)))) : Option (Int32 × Int32)).bind fun x4 => l_X10_bestWordLength_17 fu n x4.1 x4.2 (nI (w - 1)) τ' := by
  have t2 := zSt.set (i := 0) (v := w) h
  rw [zset_2] at t2
  have f2 : zfn τ (zrw τ (8 + 6) (upd (τ.1 (8 + 6)) 0 (nI w))) 14 15 := zfn_rw (by omega) (by omega)
  obtain ⟨s3, e3, _, f3⟩ := pX5_build (fu := fu) (i0 := 63) (b := 8) zc_63 t2 (hS.set (i := 0) (by decide) h1 h2) (by omega) hfu
  refine ⟨s3, t2.keepn f3 (by omega), (f2.t8 (by omega)).tr (f3.t8 (by omega)), fun v1 v2 => ?_⟩
  rw [l_X10_bestWordLength_17, if_neg (show ¬ nI w < (2 : Int32) from nI_nlt (b := 2) h1 (by omega)), show m_X1_store fu τ 13 (0 : Int32) (nI w) = some (zrw τ (8 + 6) (upd (τ.1 (8 + 6)) 0 (nI w))) from pX1_store (j := 0) zc_14 (by decide) (by decide), Option.bind_some, e3, Option.bind_some, zs1 (by omega)]
  rfl
theorem zbw_s {c : Nat → Nat} {j w : Nat} (hw : w = 4 - j) (h1 : (zbw c j).2 < 2 ^ 31) (h2 : c w < 2 ^ 31) : ((if nI (zbw c j).2 ≤ nI (c w) then some (nI (zbw c j).1, nI (zbw c j).2) else some (nI w, nI (c w))) : Option (Int32 × Int32)) = some (nI (zbw c (j + 1)).1, nI (zbw c (j + 1)).2) := by
  show _ = some (nI (if c (4 - j) < (zbw c j).2 then (4 - j, c (4 - j)) else zbw c j).1, nI (if c (4 - j) < (zbw c j).2 then (4 - j, c (4 - j)) else zbw c j).2)
  rw [← hw]
  by_cases d : c w < (zbw c j).2
  · rw [if_neg (nI_ge d h1), if_pos d]
  · rw [if_pos (nI_le (by omega) h2), if_neg d]
theorem pX10_best {fu : Nat} {σ : zmem} {S : zS} (h : zSt σ 1 S) (hS : zWf S) (hfu : 100 < fu) : ∃ σ', m_X10_bestWordLength fu σ = some (nI (zbest S), σ') ∧ zft8 σ σ' := by
  obtain ⟨s1, e1, t1, f1⟩ := pX10_trial (fu := fu) h hfu
  obtain ⟨n, hn⟩ : ∃ n, fu = n + 1 + 1 + 1 + 1 + 1 := ⟨fu - 5, by omega⟩
  rw [← zset_self (S := S) (i := 0)] at t1
  obtain ⟨s5, t5, f5, g5⟩ := pX10_best_s (fu := fu) (n := n + 1 + 1 + 1 + 1) (w := 5) t1 hS (by decide) (by decide) hfu
  obtain ⟨s4, t4, f4, g4⟩ := pX10_best_s (fu := fu) (n := n + 1 + 1 + 1) (w := 4) t5 hS (by decide) (by decide) hfu
  obtain ⟨s3, t3, f3, g3⟩ := pX10_best_s (fu := fu) (n := n + 1 + 1) (w := 3) t4 hS (by decide) (by decide) hfu
  obtain ⟨s2, t2, f2, g2⟩ := pX10_best_s (fu := fu) (n := n + 1) (w := 2) t3 hS (by decide) (by decide) hfu
  have b0 := zbw_in hS 0 (by decide)
  have b1 := zbw_in hS 1 (by decide)
  have b2 := zbw_in hS 2 (by decide)
  have key : ∀ N, N = n + 1 + 1 + 1 + 1 + 1 → l_X10_bestWordLength_17 fu N (-1 : Int32) (0 : Int32) (5 : Int32) s1 = some (nI (zbest S), s2) := fun N hN => by
    rw [hN, l5, g5, if_pos rfl, Option.bind_some]
    show l_X10_bestWordLength_17 fu (n + 1 + 1 + 1 + 1) (nI (zbw (zbC S) 0).1) (nI (zbw (zbC S) 0).2) (nI 4) s5 = _
    rw [g4, if_neg (nI_m1 (by omega)), zbw_s (c := zbC S) (j := 0) (w := 4) rfl b0.2.2 (zbC_le hS (by decide) (by decide)), Option.bind_some]
    show l_X10_bestWordLength_17 fu (n + 1 + 1 + 1) (nI (zbw (zbC S) 1).1) (nI (zbw (zbC S) 1).2) (nI 3) s4 = _
    rw [g3, if_neg (nI_m1 (by omega)), zbw_s (c := zbC S) (j := 1) (w := 3) rfl b1.2.2 (zbC_le hS (by decide) (by decide)), Option.bind_some]
    show l_X10_bestWordLength_17 fu (n + 1 + 1) (nI (zbw (zbC S) 2).1) (nI (zbw (zbC S) 2).2) (nI 2) s3 = _
    rw [g2, if_neg (nI_m1 (by omega)), zbw_s (c := zbC S) (j := 2) (w := 2) rfl b2.2.2 (zbC_le hS (by decide) (by decide)), Option.bind_some]
    show l_X10_bestWordLength_17 fu (n + 1) (nI (zbw (zbC S) 3).1) (nI (zbw (zbC S) 3).2) (nI 1) s2 = _
    rw [l_X10_bestWordLength_17, if_pos (by decide)]
    rfl
  refine ⟨s2, ?_, ((((f1.tr f5).tr f4).tr f3).tr f2)⟩
  unfold m_X10_bestWordLength
  rw [e1, Option.bind_some, key fu hn, Option.bind_some]
theorem qX11_best_s {fu n w : Nat} {τ : zmem} {u : zU} (h : zRI τ u) (hu : zUw u) (h1 : 2 ≤ w) (h2 : w ≤ 5) (hfu : 100 < fu) : ∃ τ', zRI τ' u ∧ zfx τ τ' ∧ τ'.1 103 7 = τ.1 103 7 ∧ τ'.2 = τ.2 ∧ ∀ v1 v2, l_X11_bestNow_11 fu (n + 1) v1 v2 (nI w) τ = ((if v2 ≤ nI (zbC u.1 w) then some (v1, v2) else some (nI w, nI (zbC u.1 w))) : Option (Int32 × Int32)).bind fun x4 => l_X11_bestNow_11 fu n x4.1 x4.2 (nI (w - 1)) τ' := by
  obtain ⟨s1, e1, j1, f1, k1, k2⟩ := qX11_setThen (fu := fu) (i := 0) (v := w) h hu (by decide) h1 h2 hfu
  refine ⟨s1, j1, f1, k1, k2, fun v1 v2 => ?_⟩
  rw [l_X11_bestNow_11, if_neg (show ¬ nI w ≤ (1 : Int32) from nI_ge (b := w) (a := 1) h1 (by omega)), show m_X11_setThen fu τ (0 : Int32) (nI w) = some (nI (zbC u.1 w), s1) from e1, Option.bind_some, zs1 (by omega)]
  dsimp only
  by_cases c : v2 ≤ nI (zbC u.1 w)
  · rw [if_pos c, if_pos c, if_pos c, Option.bind_some, Option.bind_some, Option.bind_some]
  · rw [if_neg c, if_neg c, if_neg c, Option.bind_some, Option.bind_some, Option.bind_some]
theorem qX11_best {fu : Nat} {σ : zmem} {u : zU} (h : zRI σ u) (hu : zUw u) (hfu : 100 < fu) : ∃ σ', m_X11_bestNow fu σ = some (nI (zbest u.1), σ') ∧ zRI σ' u ∧ zfx σ σ' ∧ σ'.1 103 7 = σ.1 103 7 ∧ σ'.2 = σ.2 := by
  obtain ⟨s5, e5, j5, f5, k5, m5⟩ := qX11_setThen (fu := fu) (i := 0) (v := 5) h hu (by decide) (by decide) (by decide) hfu
  obtain ⟨n, hn⟩ : ∃ n, fu = n + 1 + 1 + 1 + 1 := ⟨fu - 4, by omega⟩
  obtain ⟨s4, j4, f4, k4, m4, g4⟩ := qX11_best_s (fu := fu) (n := n + 1 + 1 + 1) (w := 4) j5 hu (by decide) (by decide) hfu
  obtain ⟨s3, j3, f3, k3, m3, g3⟩ := qX11_best_s (fu := fu) (n := n + 1 + 1) (w := 3) j4 hu (by decide) (by decide) hfu
  obtain ⟨s2, j2, f2, k2, m2, g2⟩ := qX11_best_s (fu := fu) (n := n + 1) (w := 2) j3 hu (by decide) (by decide) hfu
  have b0 := zbw_in hu.1 0 (by decide)
  have b1 := zbw_in hu.1 1 (by decide)
  have b2 := zbw_in hu.1 2 (by decide)
  have key : ∀ N, N = n + 1 + 1 + 1 + 1 → l_X11_bestNow_11 fu N (nI (zbw (zbC u.1) 0).1) (nI (zbw (zbC u.1) 0).2) (nI 4) s5 = some (nI (zbest u.1), s2) := fun N hN => by
    rw [hN, g4, zbw_s (c := zbC u.1) (j := 0) (w := 4) rfl b0.2.2 (zbC_le hu.1 (by decide) (by decide)), Option.bind_some]
    show l_X11_bestNow_11 fu (n + 1 + 1 + 1) (nI (zbw (zbC u.1) 1).1) (nI (zbw (zbC u.1) 1).2) (nI 3) s4 = _
    rw [g3, zbw_s (c := zbC u.1) (j := 1) (w := 3) rfl b1.2.2 (zbC_le hu.1 (by decide) (by decide)), Option.bind_some]
    show l_X11_bestNow_11 fu (n + 1 + 1) (nI (zbw (zbC u.1) 2).1) (nI (zbw (zbC u.1) 2).2) (nI 2) s3 = _
    rw [g2, zbw_s (c := zbC u.1) (j := 2) (w := 2) rfl b2.2.2 (zbC_le hu.1 (by decide) (by decide)), Option.bind_some]
    show l_X11_bestNow_11 fu (n + 1) (nI (zbw (zbC u.1) 3).1) (nI (zbw (zbC u.1) 3).2) (nI 1) s2 = _
    rw [l_X11_bestNow_11, if_pos (by decide)]
    rfl
  refine ⟨s2, ?_, j2, (((f5.tr f4).tr f3).tr f2), by rw [k2, k3, k4, k5], by rw [m2, m3, m4, m5]⟩
  unfold m_X11_bestNow
  rw [show m_X11_setThen fu σ (0 : Int32) (5 : Int32) = some (nI (zcost (zset u.1 0 5)), s5) from e5, Option.bind_some]
  show ((l_X11_bestNow_11 fu fu (nI (zbw (zbC u.1) 0).1) (nI (zbw (zbC u.1) 0).2) (nI 4) s5).bind fun x8 => some (x8.1, x8.2)) = _
  rw [key fu hn, Option.bind_some]
theorem case_best {fu : Nat} {u : zU} (hu : zUw u) (hfu : 400 < fu) : zStep0 (fun σ => m_X10_bestLength fu σ) (fun σ => m_X11_bestLength fu σ) u := by
  refine ⟨nI (zbest u.1), u, hu, fun σ h => ?_, fun σ h => ?_⟩
  · obtain ⟨s1, e1, f1⟩ := pX10_best (fu := fu) h.1.1 hu.1 (by omega)
    refine ⟨s1, ?_, h.t8 f1, f1.c⟩
    show m_X10_bestLength fu σ = _
    unfold m_X10_bestLength
    rw [e1, Option.bind_some]
  · have h0 := h.st (k := 7) (v := (0 : Int32)) (by decide) (by decide)
    obtain ⟨s2, e2, j2, f2, _⟩ := qX11_best (fu := fu) h0 hu (by omega)
    refine ⟨s2, ?_, j2, zst7.tr f2⟩
    show m_X11_bestLength fu σ = _
    unfold m_X11_bestLength
    rw [e2, Option.bind_some]
