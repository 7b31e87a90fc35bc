/-! the reference finds the chain -/
def zMc (σ : zmem) (S : zS) : Prop := σ.1 103 18 = nI (zchn S).1 ∧ (∀ j, j < (zchn S).1 → σ.1 116 j = nI ((zchn S).2.1 j)) ∧ ∀ k, k < zcN S → σ.1 115 k = (zchn S).2.2 k ∧ σ.1 114 k = nI (zuT (zcF S) (zcN S) k)
theorem zMn.keep {σ σ' : zmem} {k a : Nat} {A : zAt} (h : zMn σ k a A) (h1 : σ'.1 103 k = σ.1 103 k) (h2 : σ'.1 a = σ.1 a) (h3 : σ'.1 (a + 1) = σ.1 (a + 1)) : zMn σ' k a A := ⟨h1.trans h.1, fun i hi => by rw [h2, h3]; exact h.2 i hi⟩
theorem zMn.n {σ : zmem} {S : zS} (h : zMn σ 10 109 (zanc S false)) : σ.1 103 10 = nI (zcN S) := h.1
theorem qX11_fit {fu : Nat} {σ : zmem} {i j : Nat} {S : zS} (hz : zMz σ 104 0 S) (h : zMn σ 10 109 (zanc S false)) (hS : zWf S) (hi : i < zcN S) (hj : j < zcN S) : m_X11_fit fu σ (nI i) (nI j) = some (zb (zcF S i j)) := by
  have hn := zanc_in (t := false) hS
  have hw := hS.2.2.2
  have h0 := hS.1
  have h1 := hS.2.1
  have bi := hn.2 i hi
  have bj := hn.2 j hj
  have hN : zcN S ≤ 23 := hn.1
  have a1 := (h.2 j hj).1
  have a2 := (h.2 i hi).1
  have a3 : σ.1 110 j = nI ((zanc S false).2.2 j) := (h.2 j hj).2
  have a4 : σ.1 110 i = nI ((zanc S false).2.2 i) := (h.2 i hi).2
  have a5 : zrd σ 104 (0 : Int32) = some (nI (S.2.2 0)) := qX11_set (fu := fu) (k := 0) hz (by decide)
  unfold m_X11_fit zcF zft
  rw [zrd_in zc_109 (show j < 24 by omega) (by decide), zrd_in zc_109 (show i < 24 by omega) (by decide), zrd_in zc_110 (show j < 24 by omega) (by decide), zrd_in zc_110 (show i < 24 by omega) (by decide), a1, a2, a3, a4, a5]
  simp only [Option.bind_some]
  generalize (zanc S false).2.1 i = ui at *
  generalize (zanc S false).2.1 j = uj at *
  generalize (zanc S false).2.2 i = vi at *
  generalize (zanc S false).2.2 j = vj at *
  have ex : ∃ x6, ((if (nI uj - nI ui) < nI (S.2.2 0) then some (1 : Int32) else (if nI (S.2.2 0) ≤ (nI vj - nI vi) then some (0 : Int32) else some (1 : Int32))) : Option (Int32)) = some x6 := by
    split
    · exact ⟨_, rfl⟩
    · split <;> exact ⟨_, rfl⟩
  by_cases c1 : uj ≤ ui
  · obtain ⟨x6, e6⟩ := ex
    rw [e6]
    simp only [Option.bind_some]
    rw [if_pos ((zsub_le (by omega) (by omega)).mpr c1), decide_eq_false (by omega)]
    rfl
  · by_cases c2 : vj ≤ vi
    · obtain ⟨x6, e6⟩ := ex
      rw [e6]
      simp only [Option.bind_some]
      rw [if_neg (fun q => c1 ((zsub_le (by omega) (by omega)).mp q)), if_pos ((zsub_le (by omega) (by omega)).mpr c2), decide_eq_false (by omega)]
      rfl
    · rw [pk_sub (by omega), pk_sub (by omega)]
      have e6 : ((if nI (uj - ui) < nI (S.2.2 0) then some (1 : Int32) else (if nI (S.2.2 0) ≤ nI (vj - vi) then some (0 : Int32) else some (1 : Int32))) : Option (Int32)) = some (zb (decide (uj - ui < S.2.2 0 ∨ vj - vi < S.2.2 0))) := by
        by_cases c4 : uj - ui < S.2.2 0
        · rw [if_pos (nI_lt c4 (by omega)), decide_eq_true (Or.inl c4)]
          rfl
        · rw [if_neg (nI_nlt (by omega) (by omega))]
          by_cases c5 : vj - vi < S.2.2 0
          · rw [if_neg (nI_ge c5 (by omega)), decide_eq_true (Or.inr c5)]
            rfl
          · rw [if_pos (nI_le (by omega) (by omega)), decide_eq_false (by omega)]
            rfl
      rw [e6]
      simp only [Option.bind_some]
      rw [if_neg (nI_nle (by omega) (by omega)), if_neg (nI_nle (by omega) (by omega))]
      by_cases c3 : uj - ui < S.2.2 0 ∨ vj - vi < S.2.2 0
      · rw [decide_eq_true c3, if_neg (show ¬ zb true = 0 by decide)]
        by_cases c6 : uj - ui = vj - vi
        · rw [if_neg (fun q => q (congrArg nI c6)), decide_eq_true (by omega)]
          rfl
        · rw [if_pos (fun q => c6 ((nI_eq (by omega) (by omega)).mp q)), decide_eq_false (by omega)]
          rfl
      · rw [decide_eq_false c3, if_pos (show zb false = 0 by decide), decide_eq_true (by omega)]
        rfl
theorem qX11_max {a b : Nat} (ha : a < 2 ^ 20) (hb : b < 2 ^ 20) : (if (nI a + (1 : Int32)) ≤ nI (1 + b) then some (nI (1 + b)) else some (nI a + (1 : Int32))) = some (nI (1 + max b a)) := by
  rw [za1]
  by_cases c : a + 1 ≤ 1 + b
  · rw [if_pos (nI_le c (by omega)), Nat.max_eq_left (by omega)]
  · rw [if_neg (nI_ge (by omega) (by omega)), Nat.max_eq_right (by omega), Nat.add_comm]
/-- the reference counts on: one entry of a table from others -/
theorem loopK {L : Nat → Int32 → zmem → Option zmem} {P : Nat → Bool} {g : Nat → Nat} {a N c k : Nat} {σ : zmem} (hk : zkd c = (100, 24)) (hk2 : k < 24) (hc : c ≠ 103 ∧ c ≠ 104 ∧ c ≠ 109 ∧ c ≠ 110)
    (h0 : ∀ n τ, zfr σ τ [c] → L (n + 1) (nI N) τ = some τ) (h1 : ∀ n v τ x, a ≤ v → v < N → zfr σ τ [c] → τ.1 c k = nI (1 + x) → (∀ j, j ≠ k → τ.1 c j = σ.1 c j) → x < 2 ^ 20 → L (n + 1) (nI v) τ = L n (nI (v + 1)) (zrw τ c (upd (τ.1 c) k (if P v = true then nI (1 + max x (g v)) else nI (1 + x)))))
    (hg : ∀ v, v < N → g v < 2 ^ 20 - 1) {fu : Nat} (ha : a ≤ N) (hfu : N < fu) (hs : σ.1 c k = nI (1 + zmx P g a)) : ∃ σ', L fu (nI a) σ = some σ' ∧ zfr σ σ' [c] ∧ σ'.1 c k = nI (1 + zmx P g N) ∧ ∀ j, j ≠ k → σ'.1 c j = σ.1 c j := by
  obtain ⟨σ', e, _, p1, p2, p3⟩ := loopP (L := L) (N := N) (P := fun v τ => a ≤ v ∧ zfr σ τ [c] ∧ τ.1 c k = nI (1 + zmx P g v) ∧ ∀ j, j ≠ k → τ.1 c j = σ.1 c j)
    (fun n τ ⟨_, q1, _⟩ => h0 n τ q1)
    (fun n v τ hv ⟨q0, q1, q2, q3⟩ => by
      have hb : zmx P g v < 2 ^ 20 := Nat.lt_of_le_of_lt (zmx_le (B := 2 ^ 20 - 1) v (fun i hi _ => by have := hg i (by omega); omega)) (by decide)
      refine ⟨_, h1 n v τ _ q0 hv q1 q2 q3 hb, by omega, q1.tr (zfr_rw (by simp)), ?_, fun j hj => ?_⟩
      · rw [zrw_at, upd_at]
        by_cases c : P v = true
        · rw [if_pos c, zmx_t c]
        · rw [if_neg c, zmx_f c]
      · rw [zrw_at, upd_ne hj]
        exact q3 j hj)
    fu a σ ha (by omega) ⟨Nat.le_refl _, zfr.rf, hs, fun _ _ => rfl⟩
  exact ⟨σ', e, p1, p2, p3⟩
theorem zMz.keepr {σ σ' : zmem} {S : zS} {l : List Nat} (h : zMz σ 104 0 S) (hf : zfr σ σ' l) (hl : 104 ∉ l) : zMz σ' 104 0 S := h.keep (fun j _ => by rw [hf.1 104 hl])
theorem zMn.keepr {σ σ' : zmem} {k a : Nat} {A : zAt} {l : List Nat} (h : zMn σ k a A) (hf : zfr σ σ' l) (h1 : 103 ∉ l) (h2 : a ∉ l) (h3 : a + 1 ∉ l) : zMn σ' k a A := h.keep (by rw [hf.1 _ h1]) (hf.1 _ h2) (hf.1 _ h3)
theorem qX11_down {fu : Nat} {σ : zmem} {S : zS} (hz : zMz σ 104 0 S) (h : zMn σ 10 109 (zanc S false)) (hS : zWf S) (hfu : 100 < fu) :
    ∃ σ', l_X11_layChain_13 fu fu (0 : Int32) ((σ.1 103 10) - (1 : Int32)) σ = some (nI (zcm S), σ') ∧ zfr σ σ' [113, 115] ∧ ∀ k, k < zcN S → σ'.1 113 k = nI (zcg S k) ∧ σ'.1 115 k = zM1 := by
  have hN : zcN S ≤ 23 := (zanc_in (t := false) hS).1
  have hA1 : (zanc S false).1 = zcN S := rfl
  obtain ⟨y, e, p1, p2, p3⟩ := loopG (L := fun n j (x : Int32 × zmem) => l_X11_layChain_13 fu n x.1 (nI (zcN S - j) - 1) x.2) (N := zcN S)
    (P := fun j x => zfr σ x.2 [113, 115] ∧ (∀ k, zcN S - j ≤ k → k < zcN S → x.2.1 113 k = nI (zoT (zcF S) (zcN S) j k) ∧ x.2.1 115 k = zM1) ∧ x.1 = nI (zmd (zcF S) (zcN S) j))
    (R := fun x => zfr σ x.2 [113, 115] ∧ (∀ k, k < zcN S → x.2.1 113 k = nI (zcg S k) ∧ x.2.1 115 k = zM1) ∧ x.1 = nI (zcm S))
    (fun n x ⟨q1, q2, q3⟩ => ⟨x, by
      show l_X11_layChain_13 fu (n + 1) x.1 (nI (zcN S - zcN S) - 1) x.2 = some x
      rw [l_X11_layChain_13, Nat.sub_self, if_pos (by decide)], q1, fun k hk => q2 k (by omega) hk, by rw [q3, zmd_mo]; rfl⟩)
    (fun n j x hj ⟨q1, q2, q3⟩ => by
      have hb := fun k => zoT_le (F := zcF S) (N := zcN S) j k
      have hm := zmd_le (F := zcF S) (N := zcN S) (j := j) (by omega)
      let K := zcN S - 1 - j
      have hK : K = zcN S - 1 - j := rfl
      let s1 := zrw (zrw x.2 113 (upd (x.2.1 113) K (1 : Int32))) 115 (upd (x.2.1 115) K (-1 : Int32))
      have f1 : zfr x.2 s1 [113, 115] := (zfr_rw (by simp)).tr (zfr_rw (by simp))
      have c1 : ∀ k, s1.1 113 k = if k = K then 1 else x.2.1 113 k := fun k => by
        show (zrw (zrw x.2 113 _) 115 _).1 113 k = _
        rw [zrw_ne (by decide), zrw_at]
        rfl
      have c2 : ∀ k, s1.1 115 k = if k = K then zM1 else x.2.1 115 k := fun k => by
        show (zrw (zrw x.2 113 _) 115 (upd (x.2.1 115) K (-1 : Int32))).1 115 k = _
        rw [zrw_at]
        rfl
      have f2 := q1.tr f1
      have hz1 := hz.keepr f2 (by simp)
      have h1 := h.keepr f2 (by simp) (by simp) (by simp)
      have hzr : zmx (fun i => decide (zcN S - 1 - j < i) && zcF S (zcN S - 1 - j) i) (zoT (zcF S) (zcN S) j) (K + 1) = 0 := zmx_zero _ (fun i hi => by rw [decide_eq_false (by omega)]; rfl)
      obtain ⟨s2, e2, f3, v2, o2⟩ := loopK (L := l_X11_layChain_35 fu x.1 (nI K)) (P := fun i => decide (zcN S - 1 - j < i) && zcF S (zcN S - 1 - j) i) (g := zoT (zcF S) (zcN S) j) (a := K + 1) (N := zcN S) (c := 113) (k := K) (σ := s1) zc_113 (by omega) (by decide)
        (fun n τ hf => by rw [l_X11_layChain_35, (h1.keepr hf (by simp) (by simp) (by simp)).n, if_pos (nI_le (Nat.le_refl _) (by omega))])
        (fun n v τ y h2 h3 hf hy hy2 hy3 => by
          have hg2 : τ.1 113 v = nI (zoT (zcF S) (zcN S) j v) := by
            rw [hy2 v (by omega), c1, if_neg (by omega)]
            exact (q2 v (by omega) h3).1
          have := hb v
          rw [l_X11_layChain_35, (h1.keepr hf (by simp) (by simp) (by simp)).n, if_neg (nI_ge h3 (by omega)), qX11_fit (hz1.keepr hf (by simp)) (h1.keepr hf (by simp) (by simp) (by simp)) hS (by omega) h3, decide_eq_true (show zcN S - 1 - j < v by omega), Bool.true_and]
          simp only [Option.bind_some]
          rw [zrd_in zc_113 (show K < 24 by omega) (by decide), zrd_in zc_113 (show v < 24 by omega) (by decide), hy, hg2]
          simp only [Option.bind_some]
          by_cases d : zcF S (zcN S - 1 - j) v = true
          · rw [show zcF S K v = true from d, if_neg (show ¬ zb true = 0 by decide), qX11_max (by omega) hy3, if_pos rfl]
            simp only [Option.bind_some]
            rw [zwr_in zc_113 (show K < 24 by omega) (by decide)]
            simp only [Option.bind_some, za1]
          · rw [show zcF S K v = false from (Bool.not_eq_true _).mp d, if_pos (show zb false = 0 by decide), if_neg (by decide)]
            simp only [Option.bind_some]
            rw [zwr_in zc_113 (show K < 24 by omega) (by decide)]
            simp only [Option.bind_some, za1])
        (fun i hi => by have := hb i; omega) (fu := fu) (by omega) (by omega) (by rw [hzr, c1, if_pos rfl]; rfl)
      have hb2 := zoT_le (F := zcF S) (N := zcN S) (j + 1) K
      have hv2 : s2.1 113 K = nI (zoT (zcF S) (zcN S) (j + 1) K) := by rw [v2, hK, zoT_at]
      refine ⟨(nI (zmd (zcF S) (zcN S) (j + 1)), s2), ?_, (f2.tr (f3.mono (by intro a; simp; omega))), fun k hk1 hk => ⟨?_, ?_⟩, rfl⟩
      · show l_X11_layChain_13 fu (n + 1) x.1 (nI (zcN S - j) - 1) x.2 = l_X11_layChain_13 fu n (nI (zmd (zcF S) (zcN S) (j + 1))) (nI (zcN S - (j + 1)) - 1) s2
        rw [l_X11_layChain_13, zs1 (show 1 ≤ zcN S - j by omega), show zcN S - j - 1 = K by omega, if_neg (nI_pos (by omega)), zwr_in zc_113 (show K < 24 by omega) (by decide)]
        simp only [Option.bind_some]
        rw [zwr_in zc_115 (show K < 24 by omega) (by decide), zrw_ne (show 115 ≠ 113 by decide), za1]
        simp only [Option.bind_some]
        show (l_X11_layChain_35 fu x.1 (nI K) fu (nI (K + 1)) s1).bind _ = _
        rw [e2]
        simp only [Option.bind_some]
        rw [zrd_in zc_113 (show K < 24 by omega) (by decide), hv2, q3]
        simp only [Option.bind_some]
        have e9 : ((if nI (zoT (zcF S) (zcN S) (j + 1) K) ≤ nI (zmd (zcF S) (zcN S) j) then some (nI (zmd (zcF S) (zcN S) j)) else some (nI (zoT (zcF S) (zcN S) (j + 1) K))) : Option Int32) = some (nI (zmd (zcF S) (zcN S) (j + 1))) := by
          show _ = some (nI (max (zmd (zcF S) (zcN S) j) (zoT (zcF S) (zcN S) (j + 1) K)))
          by_cases c : zoT (zcF S) (zcN S) (j + 1) K ≤ zmd (zcF S) (zcN S) j
          · rw [if_pos (nI_le c (by omega)), Nat.max_eq_left c]
          · rw [if_neg (nI_ge (by omega) (by omega)), Nat.max_eq_right (by omega)]
        rw [e9]
        simp only [Option.bind_some]
        rw [show zcN S - (j + 1) = K by omega]
      · by_cases d : k = K
        · rw [d]
          exact hv2
        · rw [o2 k d, c1, if_neg d, zoT_ne (by omega)]
          exact (q2 k (by omega) hk).1
      · rw [f3.1 115 (by simp), c2]
        by_cases d : k = K
        · rw [if_pos d]
        · rw [if_neg d]
          exact (q2 k (by omega) hk).2)
    fu 0 ((0 : Int32), σ) (by omega) (by omega) ⟨zfr.rf, fun k hk1 hk => by omega, rfl⟩
  have e : l_X11_layChain_13 fu fu (0 : Int32) (nI (zcN S - 0) - 1) σ = some y := e
  rw [Nat.sub_zero] at e
  refine ⟨y.2, ?_, p1, p2⟩
  rw [h.n, e, ← p3]
theorem qX11_up {fu : Nat} {σ : zmem} {S : zS} {a1 : Int32} (hz : zMz σ 104 0 S) (h : zMn σ 10 109 (zanc S false)) (hS : zWf S) (hfu : 100 < fu) :
    ∃ σ', l_X11_layChain_127 fu a1 fu (0 : Int32) σ = some σ' ∧ zfr σ σ' [114] ∧ ∀ k, k < zcN S → σ'.1 114 k = nI (zuT (zcF S) (zcN S) k) := by
  have hN : zcN S ≤ 23 := (zanc_in (t := false) hS).1
  have hA1 : (zanc S false).1 = zcN S := rfl
  obtain ⟨σ', e, p1, p2⟩ := loopP (L := l_X11_layChain_127 fu a1) (N := zcN S) (P := fun v τ => zfr σ τ [114] ∧ ∀ k, k < v → τ.1 114 k = nI (zuT (zcF S) v k))
    (fun m τ ⟨q1, _⟩ => by rw [l_X11_layChain_127, (h.keepr q1 (by simp) (by simp) (by simp)).n, if_pos (nI_le (Nat.le_refl _) (by omega))])
    (fun m v τ hv ⟨q1, q2⟩ => by
      have hb := fun k hk => zuT_le (F := zcF S) v k hk
      let s1 := zrw τ 114 (upd (τ.1 114) v (1 : Int32))
      have c1 : ∀ k, s1.1 114 k = if k = v then 1 else τ.1 114 k := fun k => by
        show (zrw τ 114 (upd (τ.1 114) v (1 : Int32))).1 114 k = _
        rw [zrw_at]
        rfl
      have f2 : zfr σ s1 [114] := q1.tr (zfr_rw (by simp))
      have hz1 := hz.keepr f2 (by simp)
      have h1 := h.keepr f2 (by simp) (by simp) (by simp)
      obtain ⟨s2, e2, f3, v2, o2⟩ := loopK (L := l_X11_layChain_144 fu a1 (nI v)) (P := fun i => zcF S i v) (g := fun i => if i < v then zuT (zcF S) v i else 0) (a := 0) (N := v) (c := 114) (k := v) (σ := s1) zc_114 (by omega) (by decide)
        (fun n τ hf => by rw [l_X11_layChain_144, if_pos (nI_le (Nat.le_refl _) (by omega))])
        (fun n i τ' y _ h3 hf hy hy2 hy3 => by
          have hg2 : τ'.1 114 i = nI (zuT (zcF S) v i) := by
            rw [hy2 i (by omega), c1, if_neg (by omega)]
            exact q2 i h3
          have := hb i h3
          rw [l_X11_layChain_144, if_neg (nI_ge h3 (by omega)), qX11_fit (hz1.keepr hf (by simp)) (h1.keepr hf (by simp) (by simp) (by simp)) hS (by omega) hv]
          simp only [Option.bind_some]
          rw [zrd_in zc_114 (show v < 24 by omega) (by decide), zrd_in zc_114 (show i < 24 by omega) (by decide), hy, hg2]
          simp only [Option.bind_some]
          rw [if_pos h3]
          by_cases d : zcF S i v = true
          · rw [d, if_neg (show ¬ zb true = 0 by decide), qX11_max (by omega) hy3, if_pos rfl]
            simp only [Option.bind_some]
            rw [zwr_in zc_114 (show v < 24 by omega) (by decide)]
            simp only [Option.bind_some, za1]
          · rw [(Bool.not_eq_true _).mp d, if_pos (show zb false = 0 by decide), if_neg (by decide)]
            simp only [Option.bind_some]
            rw [zwr_in zc_114 (show v < 24 by omega) (by decide)]
            simp only [Option.bind_some, za1])
        (fun i hi => by have := hb i hi; rw [if_pos hi]; omega) (fu := fu) (by omega) (by omega) (by rw [c1, if_pos rfl]; rfl)
      have hzz : ∀ n, n ≤ v → zmx (fun i => zcF S i v) (fun i => if i < v then zuT (zcF S) v i else 0) n = zmx (fun i => zcF S i v) (zuT (zcF S) v) n := by
        intro n
        induction n with
        | zero => intro _; rfl
        | succ n ih =>
          intro hn
          by_cases c : zcF S n v = true
          · rw [zmx_t (P := fun i => zcF S i v) c, zmx_t (P := fun i => zcF S i v) c, ih (by omega), if_pos (by omega)]
          · rw [zmx_f (P := fun i => zcF S i v) c, zmx_f (P := fun i => zcF S i v) c, ih (by omega)]
      refine ⟨s2, ?_, f2.tr f3, fun k hk => ?_⟩
      · rw [l_X11_layChain_127, (h.keepr q1 (by simp) (by simp) (by simp)).n, if_neg (nI_ge hv (by omega)), zwr_in zc_114 (show v < 24 by omega) (by decide)]
        simp only [Option.bind_some]
        show (l_X11_layChain_144 fu a1 (nI v) fu (nI 0) s1).bind _ = _
        rw [e2]
        simp only [Option.bind_some, za1]
      · by_cases d : k = v
        · rw [d, v2, hzz v (Nat.le_refl _), zuT_at]
        · rw [o2 k d, c1, if_neg d, zuT_ne d]
          exact q2 k (by omega))
    fu 0 σ (by omega) (by omega) ⟨zfr.rf, fun k hk => absurd hk (Nat.not_lt_zero _)⟩
  exact ⟨σ', e, p1, p2⟩
