/-! the reference picks the chain -/
theorem qX11_pick {fu : Nat} {σ : zmem} {S : zS} (hz : zMz σ 104 0 S) (h : zMn σ 10 109 (zanc S false)) (hS : zWf S) (hg : ∀ k, k < zcN S → σ.1 113 k = nI (zcg S k) ∧ σ.1 115 k = zM1) (hu : ∀ k, k < zcN S → σ.1 114 k = nI (zuT (zcF S) (zcN S) k)) (hfu : 100 < fu) :
    ∃ σ', l_X11_layChain_217 fu (nI (zcm S)) fu (0 : Int32) (zst σ 103 18 (0 : Int32)) = some σ' ∧ zMc σ' S ∧ zfr σ σ' [103, 115, 116] ∧ ∀ k, k ≠ 18 → σ'.1 103 k = σ.1 103 k := by
  have hN : zcN S ≤ 23 := (zanc_in (t := false) hS).1
  have hA1 : (zanc S false).1 = zcN S := rfl
  have hm := zmo_le (F := zcF S) (N := zcN S)
  have hm1 : zcm S = zmo (zcF S) (zcN S) := rfl
  obtain ⟨σ', e, p1, p2, p3, p4, p5⟩ := loopP (L := l_X11_layChain_217 fu (nI (zcm S))) (N := zcN S)
    (P := fun v τ => zfr σ τ [103, 115, 116] ∧ τ.1 103 18 = nI (zchk S v).1 ∧ (∀ j, j < (zchk S v).1 → τ.1 116 j = nI ((zchk S v).2.1 j)) ∧ (∀ k, k < zcN S → τ.1 115 k = if k < v then (zchk S v).2.2 k else zM1) ∧ ∀ k, k ≠ 18 → τ.1 103 k = σ.1 103 k)
    (fun n τ ⟨_, _, _, _, q5⟩ => by
      rw [l_X11_layChain_217, q5 10 (by decide), h.n, if_pos (nI_le (Nat.le_refl _) (by omega))])
    (fun n v τ hv ⟨q1, q2, q3, q4, q5⟩ => by
      have hz1 : zMz τ 104 0 S := hz.keepr q1 (by simp)
      have h1 : zMn τ 10 109 (zanc S false) := h.keep (q5 10 (by decide)) (q1.1 109 (by simp)) (q1.1 110 (by simp))
      have hl1 : (zchk S v).1 ≤ v ∧ ∀ j, j < (zchk S v).1 → (zchk S v).2.1 j < v := zpk_le (F := zcF S) (g := zcg S) (most := zcm S) v
      have hl2 := zchk_le (S := S) (k := v) (by omega)
      have hgv := zoT_le (F := zcF S) (N := zcN S) (zcN S) v
      have hgv1 : zcg S v = zoT (zcF S) (zcN S) (zcN S) v := rfl
      have gv : τ.1 113 v = nI (zcg S v) := by
        rw [q1.1 113 (by simp)]
        exact (hg v hv).1
      have E3 : ((if ¬ nI (zcg S v) = (nI (zcm S) - (τ.1 103 18)) then some (0 : Int32) else (if (τ.1 103 18) = 0 then some (1 : Int32) else (zrd τ 116 ((τ.1 103 18) - (1 : Int32))).bind fun x43 => (m_X11_fit fu τ x43 (nI v)).bind fun x44 => (if x44 = 0 then some (0 : Int32) else some (1 : Int32)))) : Option (Int32)) = some (zb (zpb (zcF S) (zcg S) (zcm S) (zchk S v) v)) := by
        rw [q2, pk_sub hl2]
        unfold zpb
        by_cases d1 : zcg S v = zcm S - (zchk S v).1
        · rw [if_neg (fun q => q (congrArg nI d1)), decide_eq_true d1, Bool.true_and]
          by_cases d2 : (zchk S v).1 = 0
          · rw [if_pos (show nI (zchk S v).1 = 0 by rw [d2]; rfl), decide_eq_true d2]
            rfl
          · have := hl1.2 ((zchk S v).1 - 1) (by omega)
            rw [if_neg (nI_ne0 (by omega) (by omega)), zs1 (by omega), zrd_in zc_116 (show (zchk S v).1 - 1 < 24 by omega) (by decide), q3 _ (by omega), decide_eq_false d2, Bool.false_or]
            simp only [Option.bind_some]
            rw [qX11_fit hz1 h1 hS (by omega) hv]
            simp only [Option.bind_some]
            by_cases d3 : zcF S ((zchk S v).2.1 ((zchk S v).1 - 1)) v = true
            · rw [d3, if_neg (by decide)]
              rfl
            · rw [(Bool.not_eq_true _).mp d3, if_pos (by decide)]
              rfl
        · rw [if_pos (fun q => d1 ((nI_eq (by omega) (by omega)).mp q)), decide_eq_false d1, Bool.false_and]
          rfl
      rw [l_X11_layChain_217, q5 10 (by decide), h.n, if_neg (nI_ge hv (by omega)), zrd_in zc_113 (show v < 24 by omega) (by decide), gv]
      simp only [Option.bind_some]
      rw [E3]
      simp only [Option.bind_some]
      by_cases c1 : zpb (zcF S) (zcg S) (zcm S) (zchk S v) v = true
      · rw [c1, if_neg (show ¬ zb true = 0 by decide), q2, zwr_in zc_116 (show (zchk S v).1 < 24 by omega) (by decide)]
        simp only [Option.bind_some]
        rw [zwr_in zc_115 (show v < 24 by omega) (by decide), zrw_ne (show 103 ≠ 116 by decide), zrw_ne (show 115 ≠ 116 by decide), q2]
        simp only [Option.bind_some]
        rw [zrw_ne (show 103 ≠ 115 by decide), zrw_ne (show 103 ≠ 116 by decide), q2, za1, za1]
        refine ⟨_, rfl, q1.tr (((zfr_rw (by simp)).tr (zfr_rw (by simp))).tr (zfr_st (by simp))), ?_, fun j hj => ?_, fun k hk => ?_, fun k hk => ?_⟩
        · rw [zchk_s, c1, zpn_t]
          exact zst_at
        · rw [zchk_s, c1, zpn_t] at hj ⊢
          have hj : j < (zchk S v).1 + 1 := hj
          show _ = nI (if j = (zchk S v).1 then v else (zchk S v).2.1 j)
          rw [zst_1 (by decide), zrw_ne (show 116 ≠ 115 by decide), zrw_at]
          by_cases d : j = (zchk S v).1
          · rw [if_pos d, d, upd_at]
          · rw [if_neg d, upd_ne d]
            exact q3 j (by omega)
        · rw [zchk_s, c1, zpn_t]
          show _ = if k < v + 1 then (if k = v then nI (zchk S v).1 else (zchk S v).2.2 k) else zM1
          rw [zst_1 (by decide), zrw_at]
          by_cases d : k = v
          · rw [if_pos (by omega), if_pos d, d, upd_at]
          · rw [upd_ne d, q4 k hk, if_neg d]
            by_cases d2 : k < v
            · rw [if_pos d2, if_pos (by omega)]
            · rw [if_neg d2, if_neg (by omega)]
        · rw [zst_s hk, zrw_ne (show 103 ≠ 115 by decide), zrw_ne (show 103 ≠ 116 by decide)]
          exact q5 k hk
      · have c1 := (Bool.not_eq_true _).mp c1
        rw [c1, if_pos (show zb false = 0 by decide)]
        simp only [Option.bind_some, za1]
        refine ⟨τ, rfl, q1, ?_, fun j hj => ?_, fun k hk => ?_, q5⟩
        · rw [zchk_s, c1, zpn_f]
          exact q2
        · rw [zchk_s, c1, zpn_f] at hj ⊢
          exact q3 j hj
        · rw [zchk_s, c1, zpn_f]
          show _ = if k < v + 1 then (if k = v then zM1 else (zchk S v).2.2 k) else zM1
          rw [q4 k hk]
          by_cases d : k = v
          · rw [if_neg (by omega), if_pos (by omega), if_pos d]
          · rw [if_neg d]
            by_cases d2 : k < v
            · rw [if_pos d2, if_pos (by omega)]
            · rw [if_neg d2, if_neg (by omega)])
    fu 0 (zst σ 103 18 (0 : Int32)) (by omega) (by omega) ⟨zfr_st (by simp), zst_at, fun j hj => absurd hj (Nat.not_lt_zero _), fun k hk => by rw [zst_1 (by decide), if_neg (by omega)]; exact (hg k hk).2, fun k hk => zst_s hk⟩
  refine ⟨σ', e, ⟨p2, p3, fun k hk => ⟨?_, ?_⟩⟩, p1, p5⟩
  · rw [p4 k hk, if_pos hk]
    rfl
  · rw [p1.1 114 (by simp)]
    exact hu k hk
theorem zfr.m {σ σ' : zmem} {l : List Nat} (h : zfr σ σ' l) (hl : ∀ a, a ∈ l → 109 ≤ a ∧ a < 122) : zfm σ σ' := ⟨fun a h1 h2 => h.1 a (fun q => by have := hl a q; omega), fun k _ _ _ _ => by rw [h.1 103 (fun q => by have := hl 103 q; omega)], h.2⟩
theorem qX11_layChain {fu : Nat} {σ : zmem} {S : zS} (hz : zMz σ 104 0 S) (hS : zWf S) (hfu : 100 < fu) :
    ∃ σ', m_X11_layChain fu σ = some σ' ∧ zMn σ' 10 109 (zanc S false) ∧ zMn σ' 13 111 (zanc S true) ∧ zMc σ' S ∧ zfm σ σ' := by
  obtain ⟨s1, e1, a1, t1, m1, _⟩ := qX11_layAnchors hz hS hfu
  have z1 := hz.keepm m1
  obtain ⟨s2, e2, f2, g2⟩ := qX11_down z1 a1 hS hfu
  have z2 := z1.keepr f2 (by simp)
  have a2 := a1.keepr f2 (by simp) (by simp) (by simp)
  have t2 := t1.keepr f2 (by simp) (by simp) (by simp)
  obtain ⟨s3, e3, f3, u3⟩ := qX11_up (a1 := nI (zcm S)) z2 a2 hS hfu
  have z3 := z2.keepr f3 (by simp)
  have a3 := a2.keepr f3 (by simp) (by simp) (by simp)
  have t3 := t2.keepr f3 (by simp) (by simp) (by simp)
  obtain ⟨s4, e4, c4, f4, k4⟩ := qX11_pick z3 a3 hS (fun k hk => by rw [f3.1 113 (by simp), f3.1 115 (by simp)]; exact g2 k hk) u3 hfu
  refine ⟨s4, ?_, a3.keep (k4 10 (by decide)) (f4.1 109 (by simp)) (f4.1 110 (by simp)), t3.keep (k4 13 (by decide)) (f4.1 111 (by simp)) (f4.1 112 (by simp)), c4, ((m1.tr (f2.m (by intro a; simp; omega))).tr (f3.m (by intro a; simp; omega))).tr ⟨fun a h1 h2 => f4.1 a (by simp; omega), fun k _ _ h3 _ => k4 k h3, f4.2⟩⟩
  unfold m_X11_layChain
  rw [e1]
  simp only [Option.bind_some]
  rw [e2]
  simp only [Option.bind_some]
  rw [e3]
  simp only [Option.bind_some]
  rw [e4]
  rfl
