/-! the class picks the chain -/
theorem nI_m1 {n : Nat} (h : n < 2 ^ 31) : ¬ nI n = (-1 : Int32) := zM1_ne h
theorem zpn_t {T : zPkT} {k : Nat} : zpn true T k = (T.1 + 1, fun j => if j = T.1 then k else T.2.1 j, fun j => if j = k then nI T.1 else T.2.2 j) := rfl
theorem zpn_f {T : zPkT} {k : Nat} : zpn false T k = (T.1, T.2.1, fun j => if j = k then zM1 else T.2.2 j) := rfl
def zCc (σ : zmem) (c : Nat) (S : zS) : Prop := σ.1 c 4 = nI (zchn S).1 ∧ (∀ j, j < (zchn S).1 → σ.1 (c + 2) j = nI ((zchn S).2.1 j)) ∧ ∀ k, k < zcN S → σ.1 (c + 4) k = (zchn S).2.2 k ∧ σ.1 (c + 6) k = nI (zuT (zcF S) (zcN S) k)
theorem pX2_most {fu : Nat} {σ : zmem} {A c : Nat} {S : zS} (hc : zkd c = (2, 0)) (h : zAc σ A S false) (hS : zWf S) (hg : ∀ k, k < zcN S → σ.1 (c + 8) k = nI (zcg S k)) (hfu : 100 < fu) : m_X2_mostOfAll fu σ c A = some (nI (zcm S)) := by
  obtain ⟨_, _, _, k4⟩ := za2k hc
  have hN : zcN S ≤ 23 := (zanc_in (t := false) hS).1
  have hb := fun k => zoT_le (F := zcF S) (N := zcN S) (zcN S) k
  have hi := loopM (L := fun n x i => l_X2_mostOfAll_4 fu σ c A n x i) (P := fun _ => true) (g := zcg S) (a := 0) (N := zcN S)
    (fun n x => by
      show l_X2_mostOfAll_4 fu σ c A (n + 1) x (nI (zcN S)) = some x
      rw [l_X2_mostOfAll_4, h.n, if_pos (nI_le (Nat.le_refl _) (by omega))])
    (fun n x i _ hi hx => by
      show l_X2_mostOfAll_4 fu σ c A (n + 1) (nI x) (nI i) = l_X2_mostOfAll_4 fu σ c A n (if (true : Bool) = true then zmax (nI x) (nI (zcg S i)) else nI x) (nI (i + 1))
      rw [l_X2_mostOfAll_4, h.n, if_neg (nI_ge hi (by omega)), pX1_at k4 (show i < 24 by omega) (by decide), show σ.1 (c + 7 + 1) i = _ from hg i hi, if_pos rfl]
      simp only [Option.bind_some, za1])
    (fun i hi => by have := hb i; show zcg S i < 2 ^ 20; unfold zcg; omega) (fu := fu) (by omega) (by omega)
  have hi : l_X2_mostOfAll_4 fu σ c A fu (nI 0) (nI 0) = some (nI (zcm S)) := hi
  unfold m_X2_mostOfAll
  rw [l0, hi]
  rfl
theorem pX2_pick {fu : Nat} {σ : zmem} {A c : Nat} {S : zS} (hA : zkd A = (0, 0)) (hc : zkd c = (2, 0)) (h : zAc σ A S false) (hS : zWf S) (hd : A + 9 ≤ c) (hg : ∀ k, k < zcN S → σ.1 (c + 8) k = nI (zcg S k)) (hu : ∀ k, k < zcN S → σ.1 (c + 6) k = nI (zuT (zcF S) (zcN S) k)) (hfu : 100 < fu) :
    ∃ σ', m_X2_pick fu σ c A = some σ' ∧ zCc σ' c S ∧ zfn σ σ' c (c + 5) := by
  obtain ⟨k1, k2, k3, k4⟩ := za2k hc
  have hN : zcN S ≤ 23 := (zanc_in (t := false) hS).1
  have hN1 : (zanc S false).1 = zcN S := rfl
  have hm := zmo_le (F := zcF S) (N := zcN S)
  have hm1 : zcm S = zmo (zcF S) (zcN S) := rfl
  obtain ⟨σ', e, p1, p2, p3, p4⟩ := loopG (L := fun n v (x : Int32 × zmem) => l_X2_pick_16 fu c A (nI (zcm S)) n x.1 (nI v) x.2) (N := zcN S)
    (P := fun v x => zfn σ x.2 c (c + 5) ∧ x.2.1 c 4 = nI (zchk S v).1 ∧ (∀ j, j < (zchk S v).1 → x.2.1 (c + 2) j = nI ((zchk S v).2.1 j)) ∧ (∀ k, k < v → x.2.1 (c + 4) k = (zchk S v).2.2 k) ∧ x.1 = if (zchk S v).1 = 0 then zM1 else nI ((zchk S v).2.1 ((zchk S v).1 - 1)))
    (R := fun τ => zfn σ τ c (c + 5) ∧ τ.1 c 4 = nI (zchn S).1 ∧ (∀ j, j < (zchn S).1 → τ.1 (c + 2) j = nI ((zchn S).2.1 j)) ∧ (∀ k, k < zcN S → τ.1 (c + 4) k = (zchn S).2.2 k))
    (fun n x ⟨q1, q2, q3, q4, _⟩ => ⟨x.2, by
      show l_X2_pick_16 fu c A (nI (zcm S)) (n + 1) x.1 (nI (zcN S)) x.2 = some x.2
      rw [l_X2_pick_16, (h.keepn q1 (by omega)).n, if_pos (nI_le (Nat.le_refl _) (by omega))], q1, q2, q3, q4⟩)
    (fun n v x hv ⟨q1, q2, q3, q4, q5⟩ => by
      have hT := h.keepn q1 (by omega)
      have hl := zpk_le (F := zcF S) (g := zcg S) (most := zcm S) v
      have hl1 : (zchk S v).1 ≤ v ∧ ∀ j, j < (zchk S v).1 → (zchk S v).2.1 j < v := hl
      have hl2 := zchk_le (S := S) (k := v) (by omega)
      have hgv := zoT_le (F := zcF S) (N := zcN S) (zcN S) v
      have hgv1 : zcg S v = zoT (zcF S) (zcN S) (zcN S) v := rfl
      have E3 : ((if ¬ nI (zcg S v) = (nI (zcm S) - (x.2.1 c 4)) then some (0 : Int32) else (if x.1 = (-1 : Int32) then some (1 : Int32) else (m_X0_fit fu x.2 A x.1 (nI v)).bind fun x10 => (if x10 = 0 then some (0 : Int32) else some (1 : Int32)))) : Option (Int32)) = some (zb (zpb (zcF S) (zcg S) (zcm S) (zchk S v) v)) := by
        rw [q2, pk_sub hl2]
        unfold zpb
        by_cases d1 : zcg S v = zcm S - (zchk S v).1
        · rw [if_neg (fun q => q (congrArg nI d1)), decide_eq_true d1, Bool.true_and, q5]
          by_cases d2 : (zchk S v).1 = 0
          · rw [if_pos d2, if_pos (show zM1 = (-1 : Int32) from rfl), decide_eq_true d2]
            rfl
          · have := hl1.2 ((zchk S v).1 - 1) (by omega)
            rw [if_neg d2, if_neg (nI_m1 (by omega)), decide_eq_false d2, Bool.false_or, pX0_fit hA hT hS (by omega) hv]
            simp only [Option.bind_some]
            by_cases d3 : zcF S ((zchk S v).2.1 ((zchk S v).1 - 1)) v = true
            · rw [d3, if_neg (by decide)]
              rfl
            · rw [(Bool.not_eq_true _).mp d3, if_pos (by decide)]
              rfl
        · rw [if_pos (fun q => d1 ((nI_eq (by omega) (by omega)).mp q)), decide_eq_false d1, Bool.false_and]
          rfl
      have gv : x.2.1 (c + 7 + 1) v = nI (zcg S v) := by
        rw [show x.2.1 (c + 7 + 1) = σ.1 (c + 8) from q1.1 _ (by omega)]
        exact hg v hv
      have unf : l_X2_pick_16 fu c A (nI (zcm S)) (n + 1) x.1 (nI v) x.2 = ((if zb (zpb (zcF S) (zcg S) (zcm S) (zchk S v) v) = 0 then some (-1 : Int32) else some (x.2.1 c 4)) : Option (Int32)).bind fun x4 => (m_X1_store fu x.2 (c + 3) (nI v) x4).bind fun x5 => ((if zb (zpb (zcF S) (zcg S) (zcm S) (zchk S v) v) = 0 then some (x.1, x5) else (m_X1_store fu x5 (c + 1) (x5.1 c 4) (nI v)).bind fun x7 => some (nI v, (zst x7 c 4 ((x7.1 c 4) + (1 : Int32))))) : Option (Int32 × zmem)).bind fun x6 => l_X2_pick_16 fu c A (nI (zcm S)) n x6.1 (nI v + 1) x6.2 := by
        rw [l_X2_pick_16, hT.n, if_neg (nI_ge hv (by omega)), pX1_at k4 (show v < 24 by omega) (by decide), gv]
        simp only [Option.bind_some]
        rw [E3]
        simp only [Option.bind_some]
      by_cases c1 : zpb (zcF S) (zcg S) (zcm S) (zchk S v) v = true
      · rw [c1] at unf
        rw [if_neg (show ¬ zb true = 0 by decide)] at unf
        simp only [Option.bind_some] at unf
        rw [q2, pX1_store k2 (show v < 24 by omega) (by decide)] at unf
        simp only [Option.bind_some] at unf
        rw [if_neg (show ¬ zb true = 0 by decide), zrw_ne (show c ≠ c + 3 + 1 by omega), q2, pX1_store k1 (show (zchk S v).1 < 24 by omega) (by decide)] at unf
        simp only [Option.bind_some] at unf
        rw [zrw_ne (show c ≠ c + 1 + 1 by omega), zrw_ne (show c ≠ c + 3 + 1 by omega), q2, za1, za1] at unf
        refine ⟨(nI v, zst (zrw (zrw x.2 (c + 3 + 1) (upd (x.2.1 (c + 3 + 1)) v (nI (zchk S v).1))) (c + 1 + 1) (upd ((zrw x.2 (c + 3 + 1) (upd (x.2.1 (c + 3 + 1)) v (nI (zchk S v).1))).1 (c + 1 + 1)) (zchk S v).1 (nI v))) c 4 (nI ((zchk S v).1 + 1))), unf, (q1.tr ((zfn_rw (by omega) (by omega)).tr (zfn_rw (by omega) (by omega)))).tr (zfn_st (by omega) (by omega)), ?_, fun j hj => ?_, fun k hk => ?_, ?_⟩
        · rw [zchk_s, c1, zpn_t]
          exact zst_at
        · rw [zchk_s, c1, zpn_t] at hj ⊢
          have hj : j < (zchk S v).1 + 1 := hj
          show _ = nI (if j = (zchk S v).1 then v else (zchk S v).2.1 j)
          rw [zst_1 (by omega), show c + 2 = c + 1 + 1 from rfl, zrw_at]
          by_cases d : j = (zchk S v).1
          · rw [if_pos d, d, upd_at]
          · rw [if_neg d, upd_ne d, zrw_ne (by omega)]
            exact q3 j (by omega)
        · rw [zchk_s, c1, zpn_t]
          show _ = if k = v then nI (zchk S v).1 else (zchk S v).2.2 k
          rw [zst_1 (by omega), zrw_ne (by omega), show c + 4 = c + 3 + 1 from rfl, zrw_at]
          by_cases d : k = v
          · rw [if_pos d, d, upd_at]
          · rw [if_neg d, upd_ne d]
            exact q4 k (by omega)
        · rw [zchk_s, c1, zpn_t]
          show nI v = if (zchk S v).1 + 1 = 0 then zM1 else nI (if (zchk S v).1 + 1 - 1 = (zchk S v).1 then v else _)
          rw [if_neg (by omega), if_pos (by omega)]
      · have c1 := (Bool.not_eq_true _).mp c1
        rw [c1] at unf
        rw [if_pos (show zb false = 0 by decide)] at unf
        simp only [Option.bind_some] at unf
        rw [pX1_store k2 (show v < 24 by omega) (by decide)] at unf
        simp only [Option.bind_some] at unf
        rw [if_pos (show zb false = 0 by decide)] at unf
        simp only [Option.bind_some] at unf
        rw [za1] at unf
        refine ⟨(x.1, zrw x.2 (c + 3 + 1) (upd (x.2.1 (c + 3 + 1)) v (-1 : Int32))), unf, q1.tr (zfn_rw (by omega) (by omega)), ?_, fun j hj => ?_, fun k hk => ?_, ?_⟩
        · rw [zchk_s, c1, zpn_f]
          show (zrw x.2 (c + 3 + 1) _).1 c 4 = _
          rw [zrw_ne (by omega)]
          exact q2
        · rw [zchk_s, c1, zpn_f] at hj ⊢
          show (zrw x.2 (c + 3 + 1) _).1 (c + 2) j = _
          rw [zrw_ne (by omega)]
          exact q3 j hj
        · rw [zchk_s, c1, zpn_f]
          show (zrw x.2 (c + 3 + 1) (upd (x.2.1 (c + 3 + 1)) v (-1 : Int32))).1 (c + 4) k = if k = v then zM1 else (zchk S v).2.2 k
          rw [show c + 4 = c + 3 + 1 from rfl, zrw_at]
          by_cases d : k = v
          · rw [if_pos d, d, upd_at]
            rfl
          · rw [if_neg d, upd_ne d]
            exact q4 k (by omega)
        · rw [zchk_s, c1, zpn_f]
          exact q5)
    fu 0 ((-1 : Int32), zst σ c 4 (0 : Int32)) (by omega) (by omega) ⟨zfn_st (by omega) (by omega), zst_at, fun j hj => absurd hj (Nat.not_lt_zero _), fun k hk => absurd hk (Nat.not_lt_zero _), rfl⟩
  have e : l_X2_pick_16 fu c A (nI (zcm S)) fu (-1 : Int32) (0 : Int32) (zst σ c 4 (0 : Int32)) = some σ' := e
  refine ⟨σ', ?_, ⟨p2, p3, fun k hk => ⟨p4 k hk, ?_⟩⟩, p1⟩
  · unfold m_X2_pick
    rw [pX2_most hc h hS hg hfu]
    simp only [Option.bind_some]
    rw [e]
    rfl
  · rw [p1.1 _ (by omega)]
    exact hu k hk
theorem pX2_find {fu : Nat} {σ : zmem} {A c : Nat} {S : zS} (hA : zkd A = (0, 0)) (hc : zkd c = (2, 0)) (h : zAc σ A S false) (hS : zWf S) (hd : A + 9 ≤ c) (hfu : 100 < fu) :
    ∃ σ', m_X2_find fu σ c A = some σ' ∧ zAc σ' A S false ∧ zCc σ' c S ∧ zfn σ σ' c (c + 9) := by
  obtain ⟨s1, e1, u1, f1⟩ := pX2_upTo hA hc h hS hd hfu
  have h1 := h.keepn f1 (by omega)
  obtain ⟨s2, e2, g2, f2⟩ := pX2_from hA hc h1 hS hd hfu
  have h2 := h1.keepn f2 (by omega)
  obtain ⟨s3, e3, c3, f3⟩ := pX2_pick hA hc h2 hS hd g2 (fun k hk => by rw [f2.1 _ (by omega)]; exact u1 k hk) hfu
  refine ⟨s3, ?_, h2.keepn f3 (by omega), c3, ((f1.mono (by omega) (by omega)).tr (f2.mono (by omega) (by omega))).tr (f3.mono (by omega) (by omega))⟩
  unfold m_X2_find
  rw [e1]
  simp only [Option.bind_some]
  rw [e2]
  simp only [Option.bind_some]
  rw [e3]
  rfl
