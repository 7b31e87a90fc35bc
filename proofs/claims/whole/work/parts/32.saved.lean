/-! saved states: how one is laid into a list of numbers, and read out of it; the history -/
theorem l48 : (48 : Int32) = nI 48 := rfl
def zSv (σ : zmem) (d o : Nat) (S : zS) : Prop := σ.1 d o = nI (S.1 0) ∧ σ.1 d (o + 1) = nI (S.1 1) ∧ (∀ j, j < S.1 0 → σ.1 d (o + 2 + j) = nI (S.2.1 0 j)) ∧ (∀ j, j < S.1 1 → σ.1 d (o + 26 + j) = nI (S.2.1 1 j)) ∧ ∀ k, k < 4 → σ.1 d (o + 50 + k) = nI (S.2.2 k)
theorem zSv.keep {σ σ' : zmem} {d d' o o' : Nat} {S : zS} (h : zSv σ d o S) (hn : S.1 0 ≤ 24 ∧ S.1 1 ≤ 24) (hk : ∀ j, j < 54 → σ'.1 d' (o' + j) = σ.1 d (o + j)) : zSv σ' d' o' S := by
  obtain ⟨h1, h2, h3, h4, h5⟩ := h
  refine ⟨(hk 0 (by omega)).trans h1, (hk 1 (by omega)).trans h2, fun j hj => ?_, fun j hj => ?_, fun k hk4 => ?_⟩
  · have := hk (2 + j) (by omega)
    rw [show o' + 2 + j = o' + (2 + j) by omega, this, show o + (2 + j) = o + 2 + j by omega]
    exact h3 j hj
  · have := hk (26 + j) (by omega)
    rw [show o' + 26 + j = o' + (26 + j) by omega, this, show o + (26 + j) = o + 26 + j by omega]
    exact h4 j hj
  · have := hk (50 + k) (by omega)
    rw [show o' + 50 + k = o' + (50 + k) by omega, this, show o + (50 + k) = o + 50 + k by omega]
    exact h5 k hk4
theorem upd_at {f : Nat → Int32} {k : Nat} {v : Int32} : upd f k v k = v := if_pos rfl
theorem upd_ne {f : Nat → Int32} {k j : Nat} {v : Int32} (h : j ≠ k) : upd f k v j = f j := if_neg h
theorem pX7_writeTo {fu : Nat} {σ : zmem} {b q o : Nat} {S : zS} (h : zSt σ b S) (hq : zkd (q + 1) = (100, 324)) (ho : o + 54 ≤ 324) (hd : q + 1 < b ∨ b + 6 < q + 1) (hfu : 30 < fu) :
    ∃ σ', m_X7_writeTo fu σ b q (nI o) = some σ' ∧ zSv σ' (q + 1) o S ∧ zfr σ σ' [q + 1] ∧ ∀ j, j < o ∨ o + 54 ≤ j → σ'.1 (q + 1) j = σ.1 (q + 1) j := by
  obtain ⟨⟨hb, ⟨a1, a2, a3, a4⟩, ⟨b1, b2, b3, b4⟩⟩, hs⟩ := h
  let σ1 : zmem := zrw (zrw σ (q + 1) (upd (σ.1 (q + 1)) o (nI (S.1 0)))) (q + 1) (upd (upd (σ.1 (q + 1)) o (nI (S.1 0))) (o + 1) (nI (S.1 1)))
  have f1 : zfr σ σ1 [q + 1] := (zfr_rw (by simp)).tr (zfr_rw (by simp))
  have c1 : σ1.1 (q + 1) = upd (upd (σ.1 (q + 1)) o (nI (S.1 0))) (o + 1) (nI (S.1 1)) := zrw_at
  obtain ⟨σ2, e2, f2, p2, p3⟩ := loopP (L := l_X7_writeTo_28 fu b q (nI o)) (N := 24) (P := fun v τ => zfr σ1 τ [q + 1] ∧ (∀ j, j < v → τ.1 (q + 1) (o + 2 + j) = σ.1 (b + 2) j ∧ τ.1 (q + 1) (o + 26 + j) = σ.1 (b + 4) j) ∧ ∀ j, j < o + 2 ∨ o + 50 ≤ j → τ.1 (q + 1) j = σ1.1 (q + 1) j)
    (fun m τ _ => by rw [l_X7_writeTo_28, l24, if_pos (nI_le (Nat.le_refl _) (by decide))])
    (fun m v τ hv ⟨q1, q2, q3⟩ => by
      have g1 : τ.1 (b + 1 + 1) v = σ.1 (b + 2) v := by rw [(f1.tr q1).1 _ (by simp; omega)]
      have g2 : τ.1 (b + 3 + 1) v = σ.1 (b + 4) v := by rw [(f1.tr q1).1 _ (by simp; omega)]
      refine ⟨zrw (zrw τ (q + 1) (upd (τ.1 (q + 1)) (o + 2 + v) (σ.1 (b + 2) v))) (q + 1) (upd (upd (τ.1 (q + 1)) (o + 2 + v) (σ.1 (b + 2) v)) (o + 26 + v) (σ.1 (b + 4) v)), ?_, q1.tr ((zfr_rw (by simp)).tr (zfr_rw (by simp))), fun j hj => ?_, fun j hj => ?_⟩
      · rw [l_X7_writeTo_28, l24, if_neg (nI_ge hv (by decide))]
        simp only [pX6_signAt a1 hv, Option.bind_some, l2, nI_add, g1]
        rw [pX1_store hq (show o + 2 + v < 324 by omega) (by decide)]
        simp only [Option.bind_some]
        rw [pX6_signAt b1 hv, zrw_ne (by omega), g2]
        simp only [Option.bind_some]
        rw [show o + 2 + 24 + v = o + 26 + v by omega, pX1_store hq (show o + 26 + v < 324 by omega) (by decide), zrw_at]
        simp only [Option.bind_some, za1]
      · rw [zrw_at]
        by_cases c2 : j = v
        · subst c2
          exact ⟨(upd_ne (by omega)).trans upd_at, upd_at⟩
        · have := q2 j (by omega)
          exact ⟨(upd_ne (by omega)).trans ((upd_ne (by omega)).trans this.1), (upd_ne (by omega)).trans ((upd_ne (by omega)).trans this.2)⟩
      · rw [zrw_at]
        exact (upd_ne (by omega)).trans ((upd_ne (by omega)).trans (q3 j hj)))
    fu 0 σ1 (by omega) (by omega) ⟨zfr.rf, fun j hj => absurd hj (Nat.not_lt_zero _), fun _ _ => rfl⟩
  obtain ⟨σ3, e3, f3, p4, p5⟩ := loopP (L := l_X7_writeTo_79 fu b q (nI o)) (N := 4) (P := fun v τ => zfr σ2 τ [q + 1] ∧ (∀ k, k < v → τ.1 (q + 1) (o + 50 + k) = nI (S.2.2 k)) ∧ ∀ j, j < o + 50 ∨ o + 54 ≤ j → τ.1 (q + 1) j = σ2.1 (q + 1) j)
    (fun m τ _ => by rw [l_X7_writeTo_79, l4, if_pos (nI_le (Nat.le_refl _) (by decide))])
    (fun m v τ hv ⟨q1, q2, q3⟩ => by
      have g1 : τ.1 (b + 5 + 1) v = nI (S.2.2 v) := by rw [((f1.tr f2).tr q1).1 _ (by simp; omega)]; exact hs v hv
      refine ⟨zrw τ (q + 1) (upd (τ.1 (q + 1)) (o + 50 + v) (nI (S.2.2 v))), ?_, q1.tr (zfr_rw (by simp)), fun k hk => ?_, fun j hj => ?_⟩
      · rw [l_X7_writeTo_79, l4, if_neg (nI_ge hv (by decide)), pX1_at (zkd7_6 hb) hv (by decide), g1]
        simp only [Option.bind_some, l2, l48, nI_add]
        rw [show o + 2 + 48 + v = o + 50 + v by omega, pX1_store hq (show o + 50 + v < 324 by omega) (by decide)]
        simp only [Option.bind_some, za1]
      · rw [zrw_at]
        by_cases c2 : k = v
        · subst c2
          exact upd_at
        · exact (upd_ne (by omega)).trans (q2 k (by omega))
      · rw [zrw_at]
        exact (upd_ne (by omega)).trans (q3 j hj))
    fu 0 σ2 (by omega) (by omega) ⟨zfr.rf, fun j hj => absurd hj (Nat.not_lt_zero _), fun _ _ => rfl⟩
  refine ⟨σ3, ?_, ⟨?_, ?_, fun j hj => ?_, fun j hj => ?_, p4⟩, (f1.tr f2).tr f3, fun j hj => ?_⟩
  · unfold m_X7_writeTo
    rw [a3, pX1_store hq (show o < 324 by omega) (by decide)]
    simp only [Option.bind_some, za1]
    rw [zrw_ne (show b + 3 ≠ q + 1 by omega), b3, pX1_store hq (show o + 1 < 324 by omega) (by decide), zrw_at]
    simp only [Option.bind_some]
    rw [show (0 : Int32) = nI 0 from rfl]
    show (l_X7_writeTo_28 fu b q (nI o) fu (nI 0) σ1).bind _ = _
    rw [e2]
    exact congrArg (fun o => o.bind fun x => some x) e3
  · rw [p5 _ (by omega), p3 _ (by omega), c1]
    exact (upd_ne (by omega)).trans upd_at
  · rw [p5 _ (by omega), p3 _ (by omega), c1]
    exact upd_at
  · rw [p5 _ (by omega), (p2 j (by omega)).1]
    exact a4 j hj
  · rw [p5 _ (by omega), (p2 j (by omega)).2]
    exact b4 j hj
  · rw [p5 _ (by omega), p3 _ (by omega), c1]
    exact (upd_ne (by omega)).trans (upd_ne (by omega))
theorem pX7_readFrom {fu : Nat} {σ : zmem} {b q o : Nat} {S : zS} (hb : zkd b = (7, 0)) (h : zSv σ (q + 1) o S) (hn : S.1 0 ≤ 24 ∧ S.1 1 ≤ 24) (hq : zkd (q + 1) = (100, 324)) (ho : o + 54 ≤ 324) (hd : q + 1 < b ∨ b + 6 < q + 1) (hfu : 30 < fu) :
    ∃ σ', m_X7_readFrom fu σ b q (nI o) = some σ' ∧ zSt σ' b S ∧ zfr σ σ' [b + 1, b + 2, b + 3, b + 4, b + 6] := by
  obtain ⟨s1, s2, s3, s4, s5⟩ := h
  let σ1 : zmem := zst (zst σ (b + 1) 1 (nI (S.1 0))) (b + 3) 1 (nI (S.1 1))
  have f1 : zfr σ σ1 [b + 1, b + 2, b + 3, b + 4, b + 6] := (zfr_st (by simp)).tr (zfr_st (by simp))
  obtain ⟨σ2, e2, f2, p1, p2, p3⟩ := loopP (L := l_X7_readFrom_28 fu b q (nI o)) (N := 24) (P := fun v τ => zfr σ1 τ [b + 2, b + 4] ∧ (∀ j, j < v → τ.1 (b + 2) j = σ.1 (q + 1) (o + 2 + j)) ∧ (∀ j, j < v → τ.1 (b + 4) j = σ.1 (q + 1) (o + 26 + j)) ∧ True)
    (fun m τ _ => by rw [l_X7_readFrom_28, l24, if_pos (nI_le (Nat.le_refl _) (by decide))])
    (fun m v τ hv ⟨q1, q2, q3, _⟩ => by
      have gq : τ.1 (q + 1) = σ.1 (q + 1) := by rw [q1.1 _ (by simp; omega), f1.1 _ (by simp; omega)]
      refine ⟨zrw (zrw τ (b + 2) (upd (τ.1 (b + 2)) v (σ.1 (q + 1) (o + 2 + v)))) (b + 4) (upd (τ.1 (b + 4)) v (σ.1 (q + 1) (o + 26 + v))), ?_, q1.tr ((zfr_rw (by simp)).tr (zfr_rw (by simp))), fun j hj => ?_, fun j hj => ?_, trivial⟩
      · rw [l_X7_readFrom_28, l24, if_neg (nI_ge hv (by decide))]
        simp only [l2, nI_add]
        rw [pX1_at hq (show o + 2 + v < 324 by omega) (by decide), gq]
        simp only [Option.bind_some]
        rw [pX6_write (zkd7_1 hb) hv]
        simp only [Option.bind_some]
        rw [show o + 2 + 24 + v = o + 26 + v by omega, pX1_at hq (show o + 26 + v < 324 by omega) (by decide), zrw_ne (by omega), gq]
        simp only [Option.bind_some]
        rw [pX6_write (zkd7_3 hb) hv, zrw_ne (by omega)]
        simp only [Option.bind_some, za1]
      · rw [zrw_ne (by omega), zrw_at]
        by_cases c2 : j = v
        · subst c2; exact upd_at
        · exact (upd_ne c2).trans (q2 j (by omega))
      · rw [zrw_at]
        by_cases c2 : j = v
        · subst c2; exact upd_at
        · exact (upd_ne c2).trans (q3 j (by omega)))
    fu 0 σ1 (by omega) (by omega) ⟨zfr.rf, fun j hj => absurd hj (Nat.not_lt_zero _), fun j hj => absurd hj (Nat.not_lt_zero _), trivial⟩
  obtain ⟨σ3, e3, f3, p4⟩ := loopP (L := l_X7_readFrom_79 fu b q (nI o)) (N := 4) (P := fun v τ => zfr σ2 τ [b + 6] ∧ ∀ k, k < v → τ.1 (b + 6) k = nI (S.2.2 k))
    (fun m τ _ => by rw [l_X7_readFrom_79, l4, if_pos (nI_le (Nat.le_refl _) (by decide))])
    (fun m v τ hv ⟨q1, q2⟩ => by
      have gq : τ.1 (q + 1) = σ.1 (q + 1) := by rw [q1.1 _ (by simp; omega), f2.1 _ (by simp; omega), f1.1 _ (by simp; omega)]
      refine ⟨zrw τ (b + 6) (upd (τ.1 (b + 6)) v (nI (S.2.2 v))), ?_, q1.tr (zfr_rw (by simp)), fun k hk => ?_⟩
      · rw [l_X7_readFrom_79, l4, if_neg (nI_ge hv (by decide))]
        simp only [l2, l48, nI_add]
        rw [show o + 2 + 48 + v = o + 50 + v by omega, pX1_at hq (show o + 50 + v < 324 by omega) (by decide), gq, s5 v hv]
        simp only [Option.bind_some]
        rw [pX1_store (zkd7_6 hb) hv (by decide)]
        simp only [Option.bind_some, za1]
      · rw [zrw_at]
        by_cases c2 : k = v
        · subst c2; exact upd_at
        · exact (upd_ne c2).trans (q2 k (by omega)))
    fu 0 σ2 (by omega) (by omega) ⟨zfr.rf, fun j hj => absurd hj (Nat.not_lt_zero _)⟩
  have k1 : ∀ a, a ≠ b + 2 → a ≠ b + 4 → a ≠ b + 6 → σ3.1 a = σ1.1 a := fun a h1 h2 h3 => by rw [f3.1 _ (by simp; omega), f2.1 _ (by simp; omega)]
  refine ⟨σ3, ?_, ⟨⟨hb, ⟨zkd7_1 hb, hn.1, ?_, fun j hj => ?_⟩, ⟨zkd7_3 hb, hn.2, ?_, fun j hj => ?_⟩⟩, p4⟩, (f1.tr (f2.mono (by intro a; simp; omega))).tr (f3.mono (by intro a; simp; omega))⟩
  · unfold m_X7_readFrom
    rw [pX1_at hq (show o < 324 by omega) (by decide), s1]
    simp only [Option.bind_some, za1]
    rw [pX1_at hq (show o + 1 < 324 by omega) (by decide), zst_1 (by omega), s2]
    simp only [Option.bind_some]
    rw [show (0 : Int32) = nI 0 from rfl]
    show (l_X7_readFrom_28 fu b q (nI o) fu (nI 0) σ1).bind _ = _
    rw [e2]
    exact congrArg (fun o => o.bind fun x => some x) e3
  · rw [k1 _ (by omega) (by omega) (by omega)]
    show (zst (zst σ (b + 1) 1 (nI (S.1 0))) (b + 3) 1 (nI (S.1 1))).1 (b + 1) 1 = _
    rw [zst_1 (by omega), zst_at]
  · show σ3.1 (b + 2) j = _
    rw [f3.1 _ (by simp), p1 j (by omega)]
    exact s3 j hj
  · rw [k1 _ (by omega) (by omega) (by omega)]
    exact zst_at
  · show σ3.1 (b + 4) j = _
    rw [f3.1 _ (by simp), p2 j (by omega)]
    exact s4 j hj
