/-! the class finds anchors -/
theorem za0 {i : Nat} (h : zkd i = (0, 0)) : zkd (i + 2) = (100, 24) ∧ zkd (i + 4) = (100, 24) ∧ zkd (i + 6) = (100, 24) ∧ zkd (i + 8) = (100, 24) := (show ∀ i, i < 125 → zkd i = (0, 0) → zkd (i + 2) = (100, 24) ∧ zkd (i + 4) = (100, 24) ∧ zkd (i + 6) = (100, 24) ∧ zkd (i + 8) = (100, 24) by decide +kernel) i (zkd_lt h (by decide)) h
theorem zct_t {P : Nat → Bool} {n : Nat} (h : P n = true) : zct P (n + 1) = zct P n + 1 := by
  show zct P n + (if P n then 1 else 0) = _
  rw [if_pos h]
theorem zct_f {P : Nat → Bool} {n : Nat} (h : ¬ P n = true) : zct P (n + 1) = zct P n := by
  show zct P n + (if P n then 1 else 0) = _
  rw [if_neg h]
  rfl
theorem nI_n1 {c : Nat} (h : c < 2 ^ 31) (h1 : ¬ c = 1) : ¬ nI c = (1 : Int32) := fun q => h1 ((nI_eq h (by decide)).mp q)
theorem pX0_times {fu : Nat} {σ : zmem} {i N x : Nat} {g : Nat → Nat} (hk : zkd (i + 1) = (100, 24)) (hN : N ≤ 24) (hg : ∀ q, q < N → σ.1 (i + 1) q = nI (g q) ∧ g q < 2 ^ 20) (hx : x < 2 ^ 20) (hfu : 100 < fu) : m_X0_times fu σ i (nI N) (nI x) = some (nI (zct (fun q => decide (g q = x)) N)) := by
  obtain ⟨y, e, hy⟩ := loopG (L := fun n v a => l_X0_times_5 fu σ i (nI N) (nI x) n a (nI v)) (N := N) (P := fun v a => a = nI (zct (fun q => decide (g q = x)) v)) (R := fun y => y = nI (zct (fun q => decide (g q = x)) N))
    (fun n a hP => ⟨a, by
      show l_X0_times_5 fu σ i (nI N) (nI x) (n + 1) a (nI N) = some a
      rw [l_X0_times_5, if_pos (nI_le (Nat.le_refl _) (by omega))], hP⟩)
    (fun n v a hv hP => ⟨nI (zct (fun q => decide (g q = x)) (v + 1)), by
      show l_X0_times_5 fu σ i (nI N) (nI x) (n + 1) a (nI v) = l_X0_times_5 fu σ i (nI N) (nI x) n (nI (zct (fun q => decide (g q = x)) (v + 1))) (nI (v + 1))
      rw [l_X0_times_5, if_neg (nI_ge hv (by omega)), pX1_at hk (by omega) (by decide), (hg v hv).1, hP]
      simp only [Option.bind_some]
      have := (hg v hv).2
      by_cases c : g v = x
      · rw [if_neg (fun q => q (congrArg nI c)), zct_t (decide_eq_true c)]
        simp only [Option.bind_some, za1]
      · rw [if_pos (fun q => c ((nI_eq (by omega) (by omega)).mp q)), zct_f (by rw [decide_eq_true_iff]; exact c)]
        simp only [Option.bind_some, za1], rfl⟩)
    fu 0 (0 : Int32) (by omega) (by omega) rfl
  unfold m_X0_times
  have e : l_X0_times_5 fu σ i (nI N) (nI x) fu (0 : Int32) (0 : Int32) = some y := e
  rw [e, hy]
  rfl
theorem pX0_first_l {fu : Nat} {σ : zmem} {i N x : Nat} {g : Nat → Nat} (hk : zkd (i + 1) = (100, 24)) (hN : N ≤ 24) (hg : ∀ q, q < N → σ.1 (i + 1) q = nI (g q) ∧ g q < 2 ^ 20) (hx : x < 2 ^ 20) (hc : zct (fun q => decide (g q = x)) N = 1) : ∀ m v, v ≤ N → N - v < m → (∀ q, q < v → g q ≠ x) → l_X0_firstPlace_2 fu σ i (nI N) (nI x) m (nI v) = some (.inl (nI (zls (fun q => decide (g q = x)) N))) := by
  intro m
  induction m with
  | zero => intro v _ h; omega
  | succ m ih =>
    intro v hv hm hq
    have hl := zct_last N (Nat.le_of_eq hc.symm)
    have hl2 : g (zls (fun q => decide (g q = x)) N) = x := of_decide_eq_true hl.2
    by_cases h : v = N
    · subst h
      exact absurd hl2 (hq _ hl.1)
    · rw [l_X0_firstPlace_2, if_neg (nI_ge (show v < N by omega) (by omega)), pX1_at hk (by omega) (by decide), (hg v (by omega)).1]
      simp only [Option.bind_some]
      have := (hg v (by omega)).2
      by_cases c : g v = x
      · rw [if_neg (fun q => q (congrArg nI c)), zct_one (q := v) N hc (by omega) (decide_eq_true c)]
      · rw [if_pos (fun q => c ((nI_eq (by omega) (by omega)).mp q)), za1]
        refine ih (v + 1) (by omega) (by omega) (fun q h1 => ?_)
        by_cases d : q = v
        · rw [d]; exact c
        · exact hq q (by omega)
theorem pX0_first {fu : Nat} {σ : zmem} {i N x : Nat} {g : Nat → Nat} (hk : zkd (i + 1) = (100, 24)) (hN : N ≤ 24) (hg : ∀ q, q < N → σ.1 (i + 1) q = nI (g q) ∧ g q < 2 ^ 20) (hx : x < 2 ^ 20) (hc : zct (fun q => decide (g q = x)) N = 1) (hfu : 100 < fu) : m_X0_firstPlace fu σ i (nI N) (nI x) = some (nI (zls (fun q => decide (g q = x)) N)) := by
  unfold m_X0_firstPlace
  rw [l0, pX0_first_l hk hN hg hx hc fu 0 (by omega) (by omega) (fun q hq => absurd hq (Nat.not_lt_zero _))]
  rfl
theorem zmax_w {n w : Nat} (hn : n ≤ 24) (hw : w ≤ 5) : zmax (0 : Int32) ((nI n - nI w) + (1 : Int32)) = nI (n + 1 - w) := (show ∀ n, n < 25 → ∀ w, w < 6 → zmax (0 : Int32) ((nI n - nI w) + (1 : Int32)) = nI (n + 1 - w) by decide +kernel) n (by omega) w (by omega)
theorem pX6_word {fu : Nat} {σ : zmem} {i n p w : Nat} {f : Nat → Nat} {b : Bool} (h : zRow σ i n f) (hp : p + w ≤ n) (hf : ∀ j, f j < 4) (hw : w ≤ 5) (hfu : 100 < fu) : m_X6_wordAt fu σ i (nI p) (nI w) (zb b) = some (nI (zwv f p w b w)) := pX6_wordAt h hp (fun j _ => hf j) hw (by omega)
theorem pX6_listWords {fu : Nat} {σ : zmem} {i c n w : Nat} {f : Nat → Nat} {b : Bool} (h : zRow σ i n f) (hc : zkd (c + 1) = (100, 24)) (hd : c + 1 ≠ i ∧ c + 1 ≠ i + 1) (hf : ∀ j, f j < 4) (hw : 2 ≤ w ∧ w ≤ 5) (hfu : 100 < fu) :
    ∃ σ', m_X6_listWords fu σ i c (nI w) (zb b) = some (nI (n + 1 - w), σ') ∧ zfn σ σ' (c + 1) (c + 2) ∧ ∀ p, p < n + 1 - w → σ'.1 (c + 1) p = nI (zwv f p w b w) := by
  have hn := h.2.1
  obtain ⟨σ', e, p1, p2⟩ := loopP (L := l_X6_listWords_17 fu i c (nI w) (zb b) (nI (n + 1 - w))) (N := n + 1 - w) (P := fun v τ => zfn σ τ (c + 1) (c + 2) ∧ ∀ p, p < v → τ.1 (c + 1) p = nI (zwv f p w b w))
    (fun m τ _ => by rw [l_X6_listWords_17, if_pos (nI_le (Nat.le_refl _) (by omega))])
    (fun m v τ hv ⟨q1, q2⟩ => by
      have hR : zRow τ i n f := h.keep (q1.1 _ (by omega)) (q1.1 _ (by omega))
      refine ⟨zrw τ (c + 1) (upd (τ.1 (c + 1)) v (nI (zwv f v w b w))), ?_, q1.tr (zfn_rw (by omega) (by omega)), fun p hp => ?_⟩
      · rw [l_X6_listWords_17, if_neg (nI_ge hv (by omega)), pX6_word hR (by omega) hf (by omega) hfu]
        simp only [Option.bind_some]
        rw [pX1_store hc (by omega) (by decide)]
        simp only [Option.bind_some, za1]
      · rw [zrw_at]
        by_cases c1 : p = v
        · rw [c1, upd_at]
        · rw [upd_ne c1]
          exact q2 p (by omega))
    fu 0 σ (by omega) (by omega) ⟨zfn.rf, fun p hp => absurd hp (Nat.not_lt_zero _)⟩
  refine ⟨σ', ?_, p1, p2⟩
  unfold m_X6_listWords
  rw [h.2.2.1, zmax_w (by omega) (by omega), l0, e]
  rfl
theorem zeq_wv {S : zS} {r p q : Nat} {t : Bool} (h : zWf S) (hp : p + S.2.2 0 ≤ S.1 0) (hq : q + S.2.2 0 ≤ S.1 r) : decide (zwv (S.2.1 r) q (S.2.2 0) t (S.2.2 0) = zwv (S.2.1 0) p (S.2.2 0) false (S.2.2 0)) = zeq S r p q t := by
  refine decide_eq_decide.mpr ((zwv_inj hq (fun j _ => h.2.2.1 r j) hp (fun j _ => h.2.2.1 0 j) (S.2.2 0) (Nat.le_refl _)).trans ?_)
  cases t
  · exact Iff.rfl
  · constructor
    · intro g k hk
      have := g (S.2.2 0 - 1 - k) (by omega)
      simp only [if_true, if_neg (show ¬ (false = true) by decide)] at this ⊢
      rw [show q + S.2.2 0 - 1 - (S.2.2 0 - 1 - k) = q + k by omega] at this
      rw [this]
      exact congrArg _ (by omega)
    · intro g j hj
      have := g (S.2.2 0 - 1 - j) (by omega)
      simp only [if_true, if_neg (show ¬ (false = true) by decide)] at this ⊢
      rw [show p + S.2.2 0 - 1 - (S.2.2 0 - 1 - j) = p + j by omega] at this
      rw [← this]
      exact congrArg _ (by omega)
/-- anchors are laid in an object of the class -/
def zAc (σ : zmem) (A : Nat) (S : zS) (t : Bool) : Prop := σ.1 A 2 = nI (zanc S t).1 ∧ σ.1 A 3 = nI (S.2.2 0) ∧ ∀ i, i < (zanc S t).1 → σ.1 (A + 2) i = nI ((zanc S t).2.1 i) ∧ σ.1 (A + 4) i = nI ((zanc S t).2.2 i)
theorem zwv_b {S : zS} {r q : Nat} {t : Bool} (h : zWf S) (hq : q + S.2.2 0 ≤ S.1 r) : zwv (S.2.1 r) q (S.2.2 0) t (S.2.2 0) < 2 ^ 20 := Nat.lt_of_lt_of_le (zwv_lt (b := t) hq (fun j _ => h.2.2.1 r j) _ (Nat.le_refl _)) (Nat.le_trans (Nat.pow_le_pow_right (by decide) h.2.2.2.2.1) (by decide))
theorem pX0_find {fu : Nat} {σ : zmem} {A b : Nat} {S : zS} {t : Bool} (hA : zkd A = (0, 0)) (h : zSt σ b S) (hS : zWf S) (hd : b + 7 ≤ A ∨ A + 9 ≤ b) (hfu : 100 < fu) :
    ∃ σ', m_X0_find fu σ A b (zb t) = some σ' ∧ zAc σ' A S t ∧ zfn σ σ' A (A + 9) := by
  have hw := hS.2.2.2
  have hl0 := hS.1
  have hl1 := hS.2.1
  have hf := hS.2.2.1
  obtain ⟨k1, k2, k3, k4⟩ := za0 hA
  let s0 := zst σ A 3 (nI (S.2.2 0))
  have f0 : zfn σ s0 A (A + 9) := zfn_st (by omega) (by omega)
  have h0 : zSt s0 b S := h.keepn f0 (by omega)
  obtain ⟨s1, e1, f1, w1⟩ := pX6_listWords (fu := fu) (c := A + 5) (w := S.2.2 0) (b := false) h0.1.2.1 k3 (by omega) (hf 0) (by omega) hfu
  have h1 : zSt s1 b S := h0.keepn f1 (by omega)
  obtain ⟨s2, e2, f2, w2⟩ := pX6_listWords (fu := fu) (c := A + 7) (w := S.2.2 0) (b := t) h1.1.2.2 k4 (by omega) (hf 1) (by omega) hfu
  have f3 : zfn σ (zst s2 A 2 (0 : Int32)) A (A + 9) := ((f0.tr (f1.mono (by omega) (by omega))).tr (f2.mono (by omega) (by omega))).tr (zfn_st (by omega) (by omega))
  have g1 : s1.1 A 3 = nI (S.2.2 0) := by
    rw [f1.1 A (by omega)]
    exact zst_at
  have g2 : s2.1 A 3 = nI (S.2.2 0) := by rw [f2.1 A (by omega), g1]
  obtain ⟨s4, e4, i1, i2, i3, i4, i5, i6⟩ := loopP (L := l_X0_find_55 fu A b (zb t) (nI (S.1 0 + 1 - S.2.2 0)) (nI (S.1 1 + 1 - S.2.2 0))) (N := S.1 0 + 1 - S.2.2 0)
    (P := fun v τ => zfn σ τ A (A + 9) ∧ (∀ p, p < S.1 0 + 1 - S.2.2 0 → τ.1 (A + 6) p = nI (zwv (S.2.1 0) p (S.2.2 0) false (S.2.2 0))) ∧ (∀ p, p < S.1 1 + 1 - S.2.2 0 → τ.1 (A + 8) p = nI (zwv (S.2.1 1) p (S.2.2 0) t (S.2.2 0))) ∧ τ.1 A 3 = nI (S.2.2 0) ∧ τ.1 A 2 = nI (zal S t v).1 ∧ ∀ i, i < (zal S t v).1 → τ.1 (A + 2) i = nI ((zal S t v).2.1 i) ∧ τ.1 (A + 4) i = nI ((zal S t v).2.2 i))
    (fun m τ _ => by rw [l_X0_find_55, if_pos (nI_le (Nat.le_refl _) (by omega))])
    (fun m v τ hv ⟨q1, q2, q3, q4, q5, q6⟩ => by
      have hT : zSt τ b S := h.keepn q1 (by omega)
      have hx := zwv_b (r := 0) (q := v) (t := false) hS (by omega)
      have hm := zal_le (S := S) (b := t) v
      have T0 : m_X0_times fu τ (A + 5) (nI (S.1 0 + 1 - S.2.2 0)) (nI (zwv (S.2.1 0) v (S.2.2 0) false (S.2.2 0))) = some (nI (zct (fun q => zeq S 0 v q false) (zwn S 0))) := by
        rw [pX0_times k3 (by omega) (fun q hq => ⟨q2 q hq, zwv_b hS (by omega)⟩) hx hfu, zct_congr (Q := fun q => zeq S 0 v q false) _ (fun q hq => zeq_wv hS (by omega) (by omega))]
        rfl
      have T1c : zct (fun q => decide (zwv (S.2.1 1) q (S.2.2 0) t (S.2.2 0) = zwv (S.2.1 0) v (S.2.2 0) false (S.2.2 0))) (S.1 1 + 1 - S.2.2 0) = zct (fun q => zeq S 1 v q t) (zwn S 1) := zct_congr (Q := fun q => zeq S 1 v q t) _ (fun q hq => zeq_wv hS (by omega) (by omega))
      have T1 : m_X0_times fu τ (A + 7) (nI (S.1 1 + 1 - S.2.2 0)) (nI (zwv (S.2.1 0) v (S.2.2 0) false (S.2.2 0))) = some (nI (zct (fun q => zeq S 1 v q t) (zwn S 1))) := by
        rw [pX0_times k4 (by omega) (fun q hq => ⟨q3 q hq, zwv_b hS (by omega)⟩) hx hfu, T1c]
      have b0 := zct_le (P := fun q => zeq S 0 v q false) (zwn S 0)
      have b1 := zct_le (P := fun q => zeq S 1 v q t) (zwn S 1)
      have n0 : zwn S 0 ≤ 24 := by unfold zwn; omega
      have n1 : zwn S 1 ≤ 24 := by unfold zwn; omega
      have E5 : ((if zb t = 0 then some (0 : Int32) else (m_X6_wordAt fu τ (b + 1) (nI v) (τ.1 A 3) (1 : Int32)).bind fun x15 => (if ¬ nI (zwv (S.2.1 0) v (S.2.2 0) false (S.2.2 0)) = x15 then some (0 : Int32) else some (1 : Int32))) : Option (Int32)) = some (zb (t && zeq S 0 v v true)) := by
        cases t
        · rfl
        · rw [if_neg (by decide), q4, show (1 : Int32) = zb true from rfl, pX6_word hT.1.2.1 (by omega) (hf 0) (by omega) hfu, ← zeq_wv hS (by omega) (by omega)]
          simp only [Option.bind_some]
          have hy := zwv_b (r := 0) (q := v) (t := true) hS (by omega)
          by_cases c : zwv (S.2.1 0) v (S.2.2 0) true (S.2.2 0) = zwv (S.2.1 0) v (S.2.2 0) false (S.2.2 0)
          · rw [if_neg (fun q => q (congrArg nI c.symm)), decide_eq_true c]
            rfl
          · rw [if_pos (fun q => c ((nI_eq (by omega) (by omega)).mp q).symm), decide_eq_false c]
            rfl
      rw [l_X0_find_55, if_neg (nI_ge hv (by omega)), pX1_at k3 (by omega) (by decide), q2 v hv]
      simp only [Option.bind_some]
      rw [E5]
      simp only [Option.bind_some]
      have none_case : zap S t v = none → ∃ σ', (some τ).bind (fun x6 => l_X0_find_55 fu A b (zb t) (nI (S.1 0 + 1 - S.2.2 0)) (nI (S.1 1 + 1 - S.2.2 0)) m (nI v + 1) x6) = l_X0_find_55 fu A b (zb t) (nI (S.1 0 + 1 - S.2.2 0)) (nI (S.1 1 + 1 - S.2.2 0)) m (nI (v + 1)) σ' ∧ zfn σ σ' A (A + 9) ∧ (∀ p, p < S.1 0 + 1 - S.2.2 0 → σ'.1 (A + 6) p = nI (zwv (S.2.1 0) p (S.2.2 0) false (S.2.2 0))) ∧ (∀ p, p < S.1 1 + 1 - S.2.2 0 → σ'.1 (A + 8) p = nI (zwv (S.2.1 1) p (S.2.2 0) t (S.2.2 0))) ∧ σ'.1 A 3 = nI (S.2.2 0) ∧ σ'.1 A 2 = nI (zal S t (v + 1)).1 ∧ ∀ i, i < (zal S t (v + 1)).1 → σ'.1 (A + 2) i = nI ((zal S t (v + 1)).2.1 i) ∧ σ'.1 (A + 4) i = nI ((zal S t (v + 1)).2.2 i) := fun hz => ⟨τ, by rw [Option.bind_some, za1], q1, q2, q3, q4, by rw [zal_none hz]; exact q5, by rw [zal_none hz]; exact q6⟩
      by_cases c1 : (t && zeq S 0 v v true) = true
      · rw [c1, if_pos (show ¬ zb true = 0 by decide)]
        refine none_case (if_neg (fun q => ?_))
        rw [Bool.and_eq_true] at c1
        rw [q.2.1 c1.1] at c1
        exact absurd c1.2 (by decide)
      · rw [Bool.not_eq_true] at c1
        rw [c1, if_neg (show ¬ ¬ zb false = 0 by decide), T0]
        simp only [Option.bind_some]
        by_cases c2 : zct (fun q => zeq S 0 v q false) (zwn S 0) = 1
        · rw [c2, if_neg (show ¬ ¬ nI 1 = (1 : Int32) by decide), T1]
          simp only [Option.bind_some]
          by_cases c3 : zct (fun q => zeq S 1 v q t) (zwn S 1) = 1
          · have hz : zap S t v = some (zls (fun q => zeq S 1 v q t) (zwn S 1)) := if_pos ⟨c2, fun ht => by rw [ht, Bool.true_and] at c1; exact c1, c3⟩
            have hq := zct_last (zwn S 1) (Nat.le_of_eq c3.symm)
            rw [c3, if_neg (show ¬ ¬ nI 1 = (1 : Int32) by decide), q5, pX1_store k1 (show (zal S t v).1 < 24 by omega) (by decide)]
            simp only [Option.bind_some]
            rw [pX0_first (i := A + 7) (g := fun q => zwv (S.2.1 1) q (S.2.2 0) t (S.2.2 0)) k4 (by omega) (fun q hq => ⟨by rw [zrw_ne (by omega)]; exact q3 q hq, zwv_b hS (by omega)⟩) hx (T1c.trans c3) hfu, zls_congr (Q := fun q => zeq S 1 v q t) _ (fun q hq => zeq_wv hS (by omega) (by omega))]
            simp only [Option.bind_some]
            rw [zrw_ne (show A ≠ A + 1 + 1 by omega), q5, pX1_store k2 (show (zal S t v).1 < 24 by omega) (by decide)]
            simp only [Option.bind_some]
            rw [za1, zrw_ne (show A ≠ A + 3 + 1 by omega), zrw_ne (show A ≠ A + 1 + 1 by omega), q5, za1]
            refine ⟨_, rfl, ((q1.tr (zfn_rw (by omega) (by omega))).tr (zfn_rw (by omega) (by omega))).tr (zfn_st (by omega) (by omega)), fun p hp => ?_, fun p hp => ?_, ?_, ?_, ?_⟩
            · rw [zst_1 (by omega), zrw_ne (by omega), zrw_ne (by omega)]
              exact q2 p hp
            · rw [zst_1 (by omega), zrw_ne (by omega), zrw_ne (by omega)]
              exact q3 p hp
            · rw [zst_s (by decide), zrw_ne (by omega), zrw_ne (by omega)]
              exact q4
            · rw [zst_at, zal_some hz]
              rfl
            · rw [zal_some hz]
              intro i hi
              have hi : i < (zal S t v).1 + 1 := hi
              show _ = nI (if i = (zal S t v).1 then v else (zal S t v).2.1 i) ∧ _ = nI (if i = (zal S t v).1 then zls (fun q => zeq S 1 v q t) (zwn S 1) else (zal S t v).2.2 i)
              rw [zst_1 (by omega), zst_1 (by omega), zrw_ne (show A + 2 ≠ A + 3 + 1 by omega), zrw_at, zrw_at]
              by_cases d : i = (zal S t v).1
              · rw [if_pos d, if_pos d, d, upd_at, upd_at]
                exact ⟨rfl, rfl⟩
              · rw [if_neg d, if_neg d, upd_ne d, upd_ne d, zrw_ne (show A + 3 + 1 ≠ A + 1 + 1 by omega)]
                exact q6 i (by omega)
          · rw [if_pos (nI_n1 (by omega) c3)]
            exact none_case (if_neg (fun q => c3 q.2.2))
        · rw [if_pos (nI_n1 (by omega) c2)]
          exact none_case (if_neg (fun q => c2 q.1)))
    fu 0 (zst s2 A 2 (0 : Int32)) (by omega) (by omega) ⟨f3, fun p hp => by
      rw [zst_1 (by omega), f2.1 _ (by omega)]
      exact w1 p hp, fun p hp => by
      rw [zst_1 (by omega)]
      exact w2 p hp, by rw [zst_s (by decide)]; exact g2, zst_at, fun i hi => absurd hi (Nat.not_lt_zero _)⟩
  refine ⟨s4, ?_, ⟨i5, i4, i6⟩, i1⟩
  unfold m_X0_find
  rw [l0, pX1_at (zkd7_6 h.1.1) (by decide) (by decide), h.2 0 (by decide)]
  simp only [Option.bind_some]
  show ((m_X6_listWords fu s0 (b + 1) (A + 5) (s0.1 A 3) (zb false)).bind _ ) = _
  rw [show s0.1 A 3 = nI (S.2.2 0) from zst_at, e1]
  simp only [Option.bind_some]
  rw [g1, e2]
  simp only [Option.bind_some]
  show (l_X0_find_55 fu A b (zb t) (nI (S.1 0 + 1 - S.2.2 0)) (nI (S.1 1 + 1 - S.2.2 0)) fu (nI 0) (zst s2 A 2 (0 : Int32))).bind _ = _
  rw [e4]
  rfl
