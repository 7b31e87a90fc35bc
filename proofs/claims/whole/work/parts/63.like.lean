/-! like signs that are lined up, signs that are left out -/
def zPok (S : zS) (P : zQp) : Prop := ∀ j, P.1 j = zM1 ∨ ∃ v, v < S.1 1 ∧ P.1 j = nI v
theorem zPok.lp {S : zS} {P : zQp} {u v : Nat} (h : zPok S P) (hv : v < S.1 1) : zPok S (zlp P u v) := fun j => by
  show upd P.1 u (nI v) j = zM1 ∨ ∃ w, w < S.1 1 ∧ upd P.1 u (nI v) j = nI w
  by_cases c : j = u
  · rw [c, upd_at]
    exact Or.inr ⟨v, hv, rfl⟩
  · rw [upd_ne c]
    exact h j
theorem zPok.wp {S : zS} {P : zQp} {u v : Nat} (h : zPok S P) : ∀ k, v + k ≤ S.1 1 → zPok S (zwp P u v k) := by
  intro k
  induction k with
  | zero => intro _; exact h
  | succ k ih => intro hk; exact (ih (by omega)).lp (by omega)
theorem zPok.bk {S : zS} {p q B : Nat} : ∀ (f i j : Nat) (P : zQp), zPok S P → q + j ≤ S.1 1 → zPok S (zbk S p q B f i j P) := by
  intro f
  induction f with
  | zero => intro i j P h _; exact h
  | succ f ih =>
    intro i j P h hj
    show zPok S (if i = 0 ∨ j = 0 then P else if zsp S p q B i j = 0 then zbk S p q B f (i - 1) (j - 1) (zlp P (p + (i - 1)) (q + (j - 1))) else if zsp S p q B i j = 1 then zbk S p q B f (i - 1) j P else zbk S p q B f i (j - 1) P)
    by_cases c : i = 0 ∨ j = 0
    · rw [if_pos c]
      exact h
    · rw [if_neg c]
      split
      · exact ih _ _ _ (h.lp (by omega)) (by omega)
      · split
        · exact ih _ _ _ h hj
        · exact ih _ _ _ h (by omega)
theorem zPok.gl {S : zS} {Z : zGp} {p m q n : Nat} (h : zPok S Z.2.2) (hq : q + n ≤ S.1 1) : zPok S (zgl S Z p m q n).2.2 := zPok.bk _ _ _ _ h hq
theorem zPok.la {S : zS} (hS : zWf S) : ∀ k, k ≤ (zchn S).1 → zPok S (zla S k).2.2.2.2 := by
  intro k
  induction k with
  | zero => intro _ j; exact Or.inl rfl
  | succ k ih =>
    intro hk
    have h := ih (by omega)
    have hm := (zchn_in hS).2 k (by omega)
    show zPok S (zwp (zlg S k (zla S k)).2.2 (zlU S k) (zlV S k) (S.2.2 0))
    refine zPok.wp ?_ _ (by omega)
    unfold zlg
    split
    · rename_i c
      have hg := zla_gap hS (by omega) c
      exact h.gl (by omega)
    · exact h
theorem zPok.all {S : zS} (hS : zWf S) : zPok S (zlu S).2.2 := by
  have hE := zla_in hS (Nat.le_refl (zchn S).1)
  exact (zPok.la hS (zchn S).1 (Nat.le_refl _)).gl (by have : (zlE S).2.1 ≤ S.1 1 := hE.2; omega)
def zlike (S : zS) (j : Nat) : Bool := decide ((zlu S).2.2.1 j ≠ zM1 ∧ S.2.1 0 j = S.2.1 1 ((zlu S).2.2.1 j).toNatClampNeg)
def zlikes (S : zS) : Nat := zct (zlike S) (S.1 0)
def zpr (P : zQp) (r : Nat) : Nat → Int32 := if r = 0 then P.1 else P.2
def zout (S : zS) (r : Nat) : Nat := zct (fun j => decide (zpr (zlu S).2.2 r j = zM1)) (S.1 r)
theorem pX5_like {fu : Nat} {σ : zmem} {i0 b : Nat} {S : zS} (hi : zkd i0 = (5, 0)) (h : zSt σ b S) (hS : zWf S) (hc : zCp σ i0 (zlu S).2.2) (hfu : 100 < fu) : m_X5_likePairs fu σ i0 b = some (nI (zlikes S)) := by
  have l0' := hS.1
  have l1' := hS.2.1
  have hP := zPok.all hS
  obtain ⟨_, _, k1, _⟩ := za5 hi
  obtain ⟨y, e, hy⟩ := loopG (L := fun n v a => l_X5_likePairs_4 fu σ i0 b n a (nI v)) (N := S.1 0) (P := fun v a => a = nI (zct (zlike S) v)) (R := fun a => a = nI (zlikes S))
    (fun n a hP => ⟨a, by
      show l_X5_likePairs_4 fu σ i0 b (n + 1) a (nI (S.1 0)) = some a
      rw [l_X5_likePairs_4, pX6_size h.1.2.1]
      simp only [Option.bind_some]
      rw [if_pos (nI_le (Nat.le_refl _) (by omega))], hP⟩)
    (fun n v a hv ha => ⟨nI (zct (zlike S) (v + 1)), by
      show l_X5_likePairs_4 fu σ i0 b (n + 1) a (nI v) = l_X5_likePairs_4 fu σ i0 b n (nI (zct (zlike S) (v + 1))) (nI (v + 1))
      rw [l_X5_likePairs_4, pX6_size h.1.2.1]
      simp only [Option.bind_some]
      rw [if_neg (nI_ge hv (by omega)), pX1_at k1 (show v < 24 by omega) (by decide), show σ.1 (i0 + 24 + 1) v = (zlu S).2.2.1 v from (hc v (by omega)).1]
      simp only [Option.bind_some]
      rcases hP v with c | ⟨w, hw, c⟩
      · rw [c, if_pos (show zM1 = (-1 : Int32) from rfl), zct_f (P := zlike S) (by unfold zlike; rw [decide_eq_true_iff]; exact fun z => z.1 c), ha]
        simp only [Option.bind_some, za1]
      · have f0 := hS.2.2.1 0 v
        have f1 := hS.2.2.1 1 w
        rw [c, if_neg (nI_m1 (by omega)), pX6_signAt (zkd7_1 h.1.1) (show v < 24 by omega), show σ.1 (b + 1 + 1) v = nI (S.2.1 0 v) from h.1.2.1.2.2.2 v hv]
        simp only [Option.bind_some]
        rw [pX6_signAt (zkd7_3 h.1.1) (show w < 24 by omega), show σ.1 (b + 3 + 1) w = nI (S.2.1 1 w) from h.1.2.2.2.2.2 w hw]
        simp only [Option.bind_some]
        by_cases d : S.2.1 0 v = S.2.1 1 w
        · rw [if_neg (fun z => z (congrArg nI d)), zct_t (P := zlike S) (by unfold zlike; rw [decide_eq_true_iff, c, nI_clamp (by omega)]; exact ⟨zM1_ne (by omega), d⟩), ha]
          simp only [Option.bind_some, za1]
        · rw [if_pos (fun z => d ((nI_eq (by omega) (by omega)).mp z)), zct_f (P := zlike S) (by unfold zlike; rw [decide_eq_true_iff, c, nI_clamp (by omega)]; exact fun z => d z.2), ha]
          simp only [Option.bind_some, za1], rfl⟩)
    fu 0 (0 : Int32) (by omega) (by omega) rfl
  have e : l_X5_likePairs_4 fu σ i0 b fu (0 : Int32) (0 : Int32) = some y := e
  unfold m_X5_likePairs
  rw [e, hy]
  rfl
theorem pX5_partnersOf {fu : Nat} {σ : zmem} {i0 r : Nat} (hr : r < 2) : m_X5_partnersOf fu σ i0 (nI r) = some (i0 + 24 + 2 * r) := by
  rcases (show r = 0 ∨ r = 1 by omega) with rfl | rfl <;> rfl
theorem pX5_partner {fu : Nat} {σ : zmem} {i0 r j : Nat} {P : zQp} (hi : zkd i0 = (5, 0)) (hc : zCp σ i0 P) (hr : r < 2) (hj : j < 24) : m_X1_at fu σ (i0 + 24 + 2 * r) (nI j) = some (zpr P r j) := by
  obtain ⟨_, _, k1, k2⟩ := za5 hi
  rcases (show r = 0 ∨ r = 1 by omega) with rfl | rfl
  · exact (pX1_at k1 hj (by decide)).trans (congrArg some (hc j hj).1)
  · exact (pX1_at k2 hj (by decide)).trans (congrArg some (hc j hj).2)
theorem pX5_left {fu : Nat} {σ : zmem} {i0 r : Nat} {S : zS} (hi : zkd i0 = (5, 0)) (hS : zWf S) (hc : zCp σ i0 (zlu S).2.2) (hr : r < 2) (hfu : 100 < fu) : m_X5_leftOut fu σ i0 (nI r) (nI (S.1 r)) = some (nI (zout S r)) := by
  have hl := hS.le hr
  obtain ⟨y, e, hy⟩ := loopG (L := fun n v a => l_X5_leftOut_5 fu σ i0 (nI r) (nI (S.1 r)) n a (nI v)) (N := S.1 r) (P := fun v a => a = nI (zct (fun j => decide (zpr (zlu S).2.2 r j = zM1)) v)) (R := fun a => a = nI (zout S r))
    (fun n a hP => ⟨a, by
      show l_X5_leftOut_5 fu σ i0 (nI r) (nI (S.1 r)) (n + 1) a (nI (S.1 r)) = some a
      rw [l_X5_leftOut_5, if_pos (nI_le (Nat.le_refl _) (by omega))], hP⟩)
    (fun n v a hv ha => ⟨nI (zct (fun j => decide (zpr (zlu S).2.2 r j = zM1)) (v + 1)), by
      show l_X5_leftOut_5 fu σ i0 (nI r) (nI (S.1 r)) (n + 1) a (nI v) = l_X5_leftOut_5 fu σ i0 (nI r) (nI (S.1 r)) n (nI (zct (fun j => decide (zpr (zlu S).2.2 r j = zM1)) (v + 1))) (nI (v + 1))
      rw [l_X5_leftOut_5, if_neg (nI_ge hv (by omega)), pX5_partnersOf hr]
      simp only [Option.bind_some]
      rw [pX5_partner hi hc hr (show v < 24 by omega)]
      simp only [Option.bind_some]
      by_cases d : zpr (zlu S).2.2 r v = zM1
      · rw [if_neg (fun z => z d), zct_t (decide_eq_true d), ha]
        simp only [Option.bind_some, za1]
      · rw [if_pos (show ¬ zpr (zlu S).2.2 r v = (-1 : Int32) from d), zct_f (by rw [decide_eq_true_iff]; exact d), ha]
        simp only [Option.bind_some, za1], rfl⟩)
    fu 0 (0 : Int32) (by omega) (by omega) rfl
  have e : l_X5_leftOut_5 fu σ i0 (nI r) (nI (S.1 r)) fu (0 : Int32) (0 : Int32) = some y := e
  unfold m_X5_leftOut
  rw [e, hy]
  rfl
theorem qX11_like {fu : Nat} {σ : zmem} {S : zS} (hz : zMz σ 104 0 S) (hS : zWf S) (hfu : 100 < fu) : ∃ σ', m_X11_likeOnes fu σ = some (nI (zlikes S), σ') ∧ zfm σ σ' := by
  have l0' := hS.1
  have l1' := hS.2.1
  have hP := zPok.all hS
  obtain ⟨s1, e1, a1, m1⟩ := qX11_layAll hz hS hfu
  have z1 := hz.keepm m1
  have hc := a1.2.2.2.2.2
  obtain ⟨y, e, hy⟩ := loopG (L := fun n v a => l_X11_likeOnes_8 fu s1 n a (nI v)) (N := S.1 0) (P := fun v a => a = nI (zct (zlike S) v)) (R := fun a => a = nI (zlikes S))
    (fun n a hP => ⟨a, by
      show l_X11_likeOnes_8 fu s1 (n + 1) a (nI (S.1 0)) = some a
      rw [l_X11_likeOnes_8, l0, qX11_signs (r := 0) z1 (by decide), Option.bind_some, if_pos (nI_le (Nat.le_refl _) (by omega))], hP⟩)
    (fun n v a hv ha => ⟨nI (zct (zlike S) (v + 1)), by
      show l_X11_likeOnes_8 fu s1 (n + 1) a (nI v) = l_X11_likeOnes_8 fu s1 n (nI (zct (zlike S) (v + 1))) (nI (v + 1))
      rw [l_X11_likeOnes_8, l0, l1, qX11_signs (r := 0) z1 (by decide), Option.bind_some, if_neg (nI_ge hv (by omega)), zrd_in zc_120 (show v < 48 by omega) (by decide), (hc v (by omega)).1]
      rcases hP v with c | ⟨w, hw, c⟩
      · rw [c, zct_f (P := zlike S) (by unfold zlike; rw [decide_eq_true_iff]; exact fun z => z.1 c), ha]
        simp only [Option.bind_some]
        rw [if_pos (show zM1 = -nI 1 from rfl)]
        simp only [Option.bind_some]
        rw [nI_add, nI_add]
        rfl
      · have f0 := hS.2.2.1 0 v
        have f1 := hS.2.2.1 1 w
        rw [c]
        simp only [Option.bind_some]
        rw [if_neg (show ¬ nI w = -nI 1 from zM1_ne (by omega)), qX11_at (r := 0) z1 (by decide) hv, Option.bind_some, qX11_at (r := 1) z1 (by decide) hw, Option.bind_some]
        by_cases d : S.2.1 0 v = S.2.1 1 w
        · rw [if_neg (fun z => z (congrArg nI d)), zct_t (P := zlike S) (by unfold zlike; rw [decide_eq_true_iff, c, nI_clamp (by omega)]; exact ⟨zM1_ne (by omega), d⟩), ha]
          simp only [Option.bind_some, nI_add]
        · rw [if_pos (fun z => d ((nI_eq (by omega) (by omega)).mp z)), zct_f (P := zlike S) (by unfold zlike; rw [decide_eq_true_iff, c, nI_clamp (by omega)]; exact fun z => d z.2), ha]
          simp only [Option.bind_some, nI_add]
          rfl, rfl⟩)
    fu 0 (0 : Int32) (by omega) (by omega) rfl
  have e : l_X11_likeOnes_8 fu s1 fu (0 : Int32) (0 : Int32) = some y := e
  refine ⟨s1, ?_, m1⟩
  unfold m_X11_likeOnes
  rw [e1, Option.bind_some, e, hy]
  rfl
theorem zMq.at {σ : zmem} {P : zQp} {r j : Nat} (h : zMq σ P) (hr : r < 2) (hj : j < 24) : zrd σ 120 (((24 : Int32) * nI r) + nI j) = some (zpr P r j) := by
  rw [l24m, nI_add, zrd_in zc_120 (show 24 * r + j < 48 by omega) (by decide)]
  rcases (show r = 0 ∨ r = 1 by omega) with rfl | rfl
  · rw [show 24 * 0 + j = j by omega]
    exact congrArg some (h j hj).1
  · exact congrArg some (h j hj).2
theorem qX11_left {fu : Nat} {σ : zmem} {S : zS} {r : Nat} (hz : zMz σ 104 0 S) (hS : zWf S) (hr : r < 2) (hfu : 100 < fu) : ∃ σ', m_X11_leftOut fu σ (nI r) = some (nI (zout S r), σ') ∧ zfm σ σ' := by
  have hl := hS.le hr
  obtain ⟨s1, e1, a1, m1⟩ := qX11_layAll hz hS hfu
  have z1 := hz.keepm m1
  have hc := a1.2.2.2.2.2
  obtain ⟨y, e, hy⟩ := loopG (L := fun n v a => l_X11_leftOut_8 fu s1 (nI r) n a (nI v)) (N := S.1 r) (P := fun v a => a = nI (zct (fun j => decide (zpr (zlu S).2.2 r j = zM1)) v)) (R := fun a => a = nI (zout S r))
    (fun n a hP => ⟨a, by
      show l_X11_leftOut_8 fu s1 (nI r) (n + 1) a (nI (S.1 r)) = some a
      rw [l_X11_leftOut_8, qX11_signs z1 hr, Option.bind_some, if_pos (nI_le (Nat.le_refl _) (by omega))], hP⟩)
    (fun n v a hv ha => ⟨nI (zct (fun j => decide (zpr (zlu S).2.2 r j = zM1)) (v + 1)), by
      show l_X11_leftOut_8 fu s1 (nI r) (n + 1) a (nI v) = l_X11_leftOut_8 fu s1 (nI r) n (nI (zct (fun j => decide (zpr (zlu S).2.2 r j = zM1)) (v + 1))) (nI (v + 1))
      rw [l_X11_leftOut_8, qX11_signs z1 hr, Option.bind_some, if_neg (nI_ge hv (by omega)), hc.at hr (show v < 24 by omega), Option.bind_some]
      by_cases d : zpr (zlu S).2.2 r v = zM1
      · rw [if_neg (fun z => z d), zct_t (decide_eq_true d), ha]
        simp only [Option.bind_some, za1]
      · rw [if_pos (show ¬ zpr (zlu S).2.2 r v = (-1 : Int32) from d), zct_f (by rw [decide_eq_true_iff]; exact d), ha]
        simp only [Option.bind_some, za1, l0, nI_add]
        rfl, rfl⟩)
    fu 0 (0 : Int32) (by omega) (by omega) rfl
  have e : l_X11_leftOut_8 fu s1 (nI r) fu (0 : Int32) (0 : Int32) = some y := e
  refine ⟨s1, ?_, m1⟩
  unfold m_X11_leftOut
  rw [e1, Option.bind_some, e, hy]
  rfl
