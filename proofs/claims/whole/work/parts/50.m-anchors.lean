/-! the reference finds anchors -/
theorem l109 : (109 : Nat) + 1 = 110 := rfl
/-- what a look of the reference may change -/
def zfm (σ σ' : zmem) : Prop := (∀ a, a ≠ 103 → (a < 109 ∨ 122 ≤ a) → σ'.1 a = σ.1 a) ∧ (∀ k, k ≠ 10 → k ≠ 13 → k ≠ 18 → k ≠ 22 → σ'.1 103 k = σ.1 103 k) ∧ σ'.2 = σ.2
theorem zfm.rf {σ : zmem} : zfm σ σ := ⟨fun _ _ _ => rfl, fun _ _ _ _ _ => rfl, rfl⟩
theorem zfm.tr {σ σ1 σ2 : zmem} (h : zfm σ σ1) (h2 : zfm σ1 σ2) : zfm σ σ2 := ⟨fun a ha hb => (h2.1 a ha hb).trans (h.1 a ha hb), fun k h3 h4 h5 h6 => (h2.2.1 k h3 h4 h5 h6).trans (h.2.1 k h3 h4 h5 h6), h2.2.2.trans h.2.2⟩
theorem zfm_rw {σ : zmem} {i : Nat} {g : Nat → Int32} (h : 109 ≤ i) (h1 : i < 122) : zfm σ (zrw σ i g) := ⟨fun a ha hb => zrw_ne (by omega), fun k _ _ _ _ => by rw [zrw_ne (by omega)], rfl⟩
theorem zfm_st {σ : zmem} {k : Nat} {v : Int32} (h : k = 10 ∨ k = 13 ∨ k = 18 ∨ k = 22) : zfm σ (zst σ 103 k v) := ⟨fun a ha hb => zst_1 ha, fun j h1 h2 h3 h4 => zst_s (by omega), rfl⟩
theorem zMz.keepm {σ σ' : zmem} {S : zS} (h : zMz σ 104 0 S) (hf : zfm σ σ') : zMz σ' 104 0 S := h.keep (fun j _ => by rw [hf.1 104 (by decide) (by decide)])
theorem qX11_set {fu : Nat} {σ : zmem} {S : zS} {k : Nat} (h : zMz σ 104 0 S) (hk : k < 4) : zrd σ 104 (nI k) = some (nI (S.2.2 k)) := by
  have := h.2.2.1 k hk
  rw [Nat.zero_add] at this
  rw [zrd_in zc_104 (show k < 54 by omega) (by decide), this]
theorem zbo_zb {b : Bool} : zbo (zb b) = some (zb b) := by
  cases b
  · exact zbo_b (p := False)
  · exact zbo_b (p := True)
theorem qX11_stands {fu : Nat} {σ : zmem} {S : zS} {r p q : Nat} {b : Bool} (h : zMz σ 104 0 S) (hS : zWf S) (hr : r < 2) (hp : p + S.2.2 0 ≤ S.1 0) (hq : q + S.2.2 0 ≤ S.1 r) (hfu : 100 < fu) : m_X11_stands fu σ (nI p) (nI r) (nI q) (zb b) = some (zb (zeq S r p q b)) := by
  have hw := hS.2.2.2
  have hl0 := hS.1
  have hl := h.le hr
  let Q : Nat → Prop := fun v => ∀ k, k < v → S.2.1 r (q + k) = S.2.1 0 (if b then p + S.2.2 0 - 1 - k else p + k)
  obtain ⟨y, e, hy⟩ := loopG (L := fun n v a => l_X11_stands_6 fu σ (nI p) (nI r) (nI q) (zb b) n a (nI v)) (N := S.2.2 0) (P := fun v a => (a = 1 ∧ Q v) ∨ (a = 0 ∧ ¬ Q v)) (R := fun a => (a = 1 ∧ Q (S.2.2 0)) ∨ (a = 0 ∧ ¬ Q (S.2.2 0)))
    (fun n a hP => ⟨a, by
      show l_X11_stands_6 fu σ (nI p) (nI r) (nI q) (zb b) (n + 1) a (nI (S.2.2 0)) = some a
      rw [l_X11_stands_6, l0, qX11_set (fu := fu) h (by decide)]
      simp only [Option.bind_some]
      rw [if_pos (nI_le (Nat.le_refl _) (by omega))], hP⟩)
    (fun n v a hv hP => by
      have st : ∀ x, (((if a = 0 then some (0 : Int32) else (m_X11_at fu σ (nI r) (nI q + nI v)).bind fun x3 => ((if zb b = 0 then some (nI p + nI v) else (zrd σ 104 (0 : Int32)).bind fun x7 => some (((nI p + x7) - (1 : Int32)) - nI v)) : Option (Int32)).bind fun x4 => (m_X11_at fu σ (0 : Int32) x4).bind fun x5 => (if ¬ x3 = x5 then some (0 : Int32) else some (1 : Int32))) : Option (Int32)) = some x) → ∃ x', (fun n v a => l_X11_stands_6 fu σ (nI p) (nI r) (nI q) (zb b) n a (nI v)) (n + 1) v a = (fun n v a => l_X11_stands_6 fu σ (nI p) (nI r) (nI q) (zb b) n a (nI v)) n (v + 1) x' ∧ x' = x := fun x e => ⟨x, by
        show l_X11_stands_6 fu σ (nI p) (nI r) (nI q) (zb b) (n + 1) a (nI v) = l_X11_stands_6 fu σ (nI p) (nI r) (nI q) (zb b) n x (nI (v + 1))
        rw [l_X11_stands_6, show zrd σ 104 (0 : Int32) = some (nI (S.2.2 0)) from qX11_set (fu := fu) (k := 0) h (by decide)]
        rw [show zrd σ 104 (0 : Int32) = some (nI (S.2.2 0)) from qX11_set (fu := fu) (k := 0) h (by decide)] at e
        simp only [Option.bind_some] at e ⊢
        rw [if_neg (nI_ge hv (by omega)), e]
        simp only [Option.bind_some, za1], rfl⟩
      rcases hP with ⟨ha, hQ⟩ | ⟨ha, hQ⟩
      · have e4 : ((if zb b = 0 then some (nI p + nI v) else (zrd σ 104 (0 : Int32)).bind fun x7 => some (((nI p + x7) - (1 : Int32)) - nI v)) : Option (Int32)) = some (nI (if b then p + S.2.2 0 - 1 - v else p + v)) := by
          cases b
          · exact congrArg some (nI_add p v)
          · rw [if_neg (by decide), show zrd σ 104 (0 : Int32) = some (nI (S.2.2 0)) from qX11_set (fu := fu) (k := 0) h (by decide)]
            simp only [Option.bind_some, nI_add]
            rw [zs1 (by omega), pk_sub (by omega)]
            rfl
        have hj : (if b then p + S.2.2 0 - 1 - v else p + v) < S.1 0 := by split <;> omega
        have s1 := hS.2.2.1 r (q + v)
        have s2 := hS.2.2.1 0 (if b then p + S.2.2 0 - 1 - v else p + v)
        obtain ⟨x', g1, g2⟩ := st (if S.2.1 r (q + v) = S.2.1 0 (if b then p + S.2.2 0 - 1 - v else p + v) then 1 else 0) (by
          rw [if_neg (show ¬ a = 0 by rw [ha]; decide), nI_add, qX11_at h hr (by omega), e4]
          simp only [Option.bind_some]
          rw [l0, qX11_at h (by decide) hj]
          simp only [Option.bind_some]
          by_cases c : S.2.1 r (q + v) = S.2.1 0 (if b then p + S.2.2 0 - 1 - v else p + v)
          · rw [if_neg (fun z => z (congrArg nI c)), if_pos c]
          · rw [if_pos (fun z => c ((nI_eq (by omega) (by omega)).mp z)), if_neg c])
        refine ⟨x', g1, ?_⟩
        rw [g2]
        by_cases c : S.2.1 r (q + v) = S.2.1 0 (if b then p + S.2.2 0 - 1 - v else p + v)
        · rw [if_pos c]
          refine Or.inl ⟨rfl, fun k hk => ?_⟩
          by_cases d : k = v
          · rw [d]; exact c
          · exact hQ k (by omega)
        · rw [if_neg c]
          exact Or.inr ⟨rfl, fun z => c (z v (by omega))⟩
      · obtain ⟨x', g1, g2⟩ := st 0 (by rw [if_pos ha])
        refine ⟨x', g1, ?_⟩
        rw [g2]
        exact Or.inr ⟨rfl, fun z => hQ (fun k hk => z k (by omega))⟩)
    fu 0 (1 : Int32) (by omega) (by omega) (Or.inl ⟨rfl, fun k hk => absurd hk (Nat.not_lt_zero _)⟩)
  have e : l_X11_stands_6 fu σ (nI p) (nI r) (nI q) (zb b) fu (1 : Int32) (0 : Int32) = some y := e
  have ey : y = zb (zeq S r p q b) := by
    unfold zeq
    rcases hy with ⟨ha, hQ⟩ | ⟨ha, hQ⟩
    · rw [ha, decide_eq_true hQ]
      rfl
    · rw [ha, decide_eq_false hQ]
      rfl
  unfold m_X11_stands
  rw [e, ey]
  simp only [Option.bind_some, zbo_zb]
def zM1 : Int32 := -1
theorem zM1_ne {n : Nat} (h : n < 2 ^ 31) : nI n ≠ zM1 := fun q => by
  have := congrArg Int32.toInt q
  rw [nI_toInt h] at this
  have h2 : zM1.toInt = -1 := by decide
  omega
theorem qX11_onlyPlace {fu : Nat} {σ : zmem} {S : zS} {r p : Nat} {b : Bool} (h : zMz σ 104 0 S) (hS : zWf S) (hr : r < 2) (hp : p + S.2.2 0 ≤ S.1 0) (hfu : 100 < fu) : m_X11_onlyPlace fu σ (nI p) (nI r) (zb b) = some (if zct (fun q => zeq S r p q b) (zwn S r) = 1 then nI (zls (fun q => zeq S r p q b) (zwn S r)) else zM1) := by
  have hw := hS.2.2.2
  have hl := h.le hr
  have hN : zwn S r = S.1 r + 1 - S.2.2 0 := rfl
  let Q : Nat → Bool := fun q => zeq S r p q b
  obtain ⟨y, e, hy1, hy2⟩ := loopG (L := fun n v (a : Int32 × Int32) => l_X11_onlyPlace_9 fu σ (nI p) (nI r) (zb b) n a.1 a.2 (nI v)) (N := zwn S r) (P := fun v a => a.2 = nI (zct Q v) ∧ (1 ≤ zct Q v → a.1 = nI (zls Q v))) (R := fun a => a.2 = nI (zct Q (zwn S r)) ∧ (1 ≤ zct Q (zwn S r) → a.1 = nI (zls Q (zwn S r))))
    (fun n a hP => ⟨a, by
      show l_X11_onlyPlace_9 fu σ (nI p) (nI r) (zb b) (n + 1) a.1 a.2 (nI (zwn S r)) = some a
      rw [l_X11_onlyPlace_9, show zrd σ 104 (0 : Int32) = some (nI (S.2.2 0)) from qX11_set (fu := fu) (k := 0) h (by decide), qX11_signs h hr]
      simp only [Option.bind_some]
      rw [nI_add, if_pos (nI_lt (by omega) (by omega))], hP⟩)
    (fun n v a hv ⟨hP1, hP2⟩ => by
      refine ⟨if Q v = true then (nI v, nI (zct Q v + 1)) else a, ?_, ?_⟩
      · show l_X11_onlyPlace_9 fu σ (nI p) (nI r) (zb b) (n + 1) a.1 a.2 (nI v) = l_X11_onlyPlace_9 fu σ (nI p) (nI r) (zb b) n (if Q v = true then (nI v, nI (zct Q v + 1)) else a).1 (if Q v = true then (nI v, nI (zct Q v + 1)) else a).2 (nI (v + 1))
        rw [l_X11_onlyPlace_9, show zrd σ 104 (0 : Int32) = some (nI (S.2.2 0)) from qX11_set (fu := fu) (k := 0) h (by decide), qX11_signs h hr]
        simp only [Option.bind_some]
        rw [nI_add, if_neg (nI_nlt (by omega) (by omega)), qX11_stands h hS hr hp (by omega) hfu]
        simp only [Option.bind_some]
        by_cases c : zeq S r p v b = true
        · rw [if_pos (show Q v = true from c), c, if_neg (show ¬ zb true = 0 by decide)]
          simp only [Option.bind_some]
          rw [hP1, za1, za1]
        · rw [if_neg (show ¬ Q v = true from c), (Bool.not_eq_true _).mp c, if_pos (show zb false = 0 by decide)]
          simp only [Option.bind_some]
          rw [za1]
      · by_cases c : Q v = true
        · rw [if_pos c, zct_t c]
          refine ⟨rfl, fun _ => ?_⟩
          show nI v = nI (if Q v = true then v else zls Q v)
          rw [if_pos c]
        · rw [if_neg c, zct_f c]
          refine ⟨hP1, fun h1 => ?_⟩
          rw [hP2 h1]
          show _ = nI (if Q v = true then v else zls Q v)
          rw [if_neg c])
    fu 0 ((-1 : Int32), (0 : Int32)) (by omega) (by omega) ⟨rfl, fun h1 => absurd h1 (Nat.not_succ_le_zero 0)⟩
  have e : l_X11_onlyPlace_9 fu σ (nI p) (nI r) (zb b) fu (-1 : Int32) (0 : Int32) (0 : Int32) = some y := e
  have b1 := zct_le (P := Q) (zwn S r)
  unfold m_X11_onlyPlace
  rw [e]
  simp only [Option.bind_some]
  rw [hy1]
  by_cases c : zct Q (zwn S r) = 1
  · rw [if_pos (show zct (fun q => zeq S r p q b) (zwn S r) = 1 from c), if_neg (fun q => q (congrArg nI c)), hy2 (by omega)]
  · rw [if_neg (show ¬ zct (fun q => zeq S r p q b) (zwn S r) = 1 from c), if_pos (nI_n1 (by omega) c)]
    rfl
def zMn (σ : zmem) (k a : Nat) (A : zAt) : Prop := σ.1 103 k = nI A.1 ∧ ∀ i, i < A.1 → σ.1 a i = nI (A.2.1 i) ∧ σ.1 (a + 1) i = nI (A.2.2 i)
theorem zMn_add {σ : zmem} {k a p q : Nat} {A : zAt} (h : zMn σ k a A) (hA : A.1 < 24) (h1 : zkd a = (100, 24)) (h2 : zkd (a + 1) = (100, 24)) (ha : 109 ≤ a) (ha2 : a < 121) (hk : k = 10 ∨ k = 13) :
    ∃ σ', ((zwr σ a (σ.1 103 k) (nI p)).bind fun s16 => (zwr s16 (a + 1) (s16.1 103 k) (nI q)).bind fun s17 => some (zst s17 103 k ((s17.1 103 k) + (1 : Int32)))) = some σ' ∧ zMn σ' k a (zadd A p q) ∧ zfm σ σ' ∧ (∀ b, b ≠ 103 → b ≠ a → b ≠ a + 1 → σ'.1 b = σ.1 b) ∧ ∀ j, j ≠ k → σ'.1 103 j = σ.1 103 j := by
  obtain ⟨q1, q2⟩ := h
  rw [q1, zwr_in h1 hA (by decide)]
  simp only [Option.bind_some]
  rw [zrw_ne (show 103 ≠ a by omega), q1, zwr_in h2 hA (by decide)]
  simp only [Option.bind_some]
  rw [zrw_ne (show 103 ≠ a + 1 by omega), zrw_ne (show 103 ≠ a by omega), q1, za1]
  refine ⟨_, rfl, ⟨zst_at, fun i hi => ?_⟩, ((zfm_rw (by omega) (by omega)).tr (zfm_rw (by omega) (by omega))).tr (zfm_st (by omega)), fun b h3 h4 h5 => ?_, fun j hj => ?_⟩
  · have hi : i < A.1 + 1 := hi
    show _ = nI (if i = A.1 then p else A.2.1 i) ∧ _ = nI (if i = A.1 then q else A.2.2 i)
    rw [zst_1 (by omega), zst_1 (by omega), zrw_ne (show a ≠ a + 1 by omega), zrw_at, zrw_at]
    by_cases d : i = A.1
    · rw [if_pos d, if_pos d, d, upd_at, upd_at]
      exact ⟨rfl, rfl⟩
    · rw [if_neg d, if_neg d, upd_ne d, upd_ne d, zrw_ne (show a + 1 ≠ a by omega)]
      exact q2 i (by omega)
  · rw [zst_1 h3, zrw_ne h5, zrw_ne h4]
  · rw [zst_s hj, zrw_ne (show 103 ≠ a + 1 by omega), zrw_ne (show 103 ≠ a by omega)]
theorem zap_n {S : zS} {b : Bool} {p : Nat} (h : ¬ (zct (fun q => zeq S 0 p q false) (zwn S 0) = 1 ∧ (b = true → zeq S 0 p p true = false) ∧ zct (fun q => zeq S 1 p q b) (zwn S 1) = 1)) : (match zap S b p with | none => zM1 | some q => nI q) = zM1 := by
  rw [show zap S b p = none from if_neg h]
theorem zap_y {S : zS} {b : Bool} {p : Nat} (h : zct (fun q => zeq S 0 p q false) (zwn S 0) = 1 ∧ (b = true → zeq S 0 p p true = false) ∧ zct (fun q => zeq S 1 p q b) (zwn S 1) = 1) : (match zap S b p with | none => zM1 | some q => nI q) = nI (zls (fun q => zeq S 1 p q b) (zwn S 1)) := by
  rw [show zap S b p = some (zls (fun q => zeq S 1 p q b) (zwn S 1)) from if_pos h]
theorem zeq_self {S : zS} {p : Nat} : zeq S 0 p p false = true := decide_eq_true (fun _ _ => rfl)
theorem qX11_layAnchors {fu : Nat} {σ : zmem} {S : zS} (h : zMz σ 104 0 S) (hS : zWf S) (hfu : 100 < fu) :
    ∃ σ', m_X11_layAnchors fu σ = some σ' ∧ zMn σ' 10 109 (zanc S false) ∧ zMn σ' 13 111 (zanc S true) ∧ zfm σ σ' ∧ ∀ a, a ≠ 103 → a < 109 ∨ 113 ≤ a → σ'.1 a = σ.1 a := by
  have hw := hS.2.2.2
  have hl0 := hS.1
  have hN : zwn S 0 = S.1 0 + 1 - S.2.2 0 := rfl
  let s0 := zst (zst σ 103 10 (0 : Int32)) 103 13 (0 : Int32)
  have f0 : zfm σ s0 := (zfm_st (by omega)).tr (zfm_st (by omega))
  obtain ⟨σ', e, p1, p2, p3, p4⟩ := loopP (L := l_X11_layAnchors_12 fu) (N := zwn S 0) (P := fun v τ => zfm σ τ ∧ zMn τ 10 109 (zal S false v) ∧ zMn τ 13 111 (zal S true v) ∧ ∀ a, a ≠ 103 → a < 109 ∨ 113 ≤ a → τ.1 a = σ.1 a)
    (fun m τ ⟨q1, _, _, _⟩ => by
      have hT := h.keepm q1
      rw [l_X11_layAnchors_12, show zrd τ 104 (0 : Int32) = some (nI (S.2.2 0)) from qX11_set (fu := fu) (k := 0) hT (by decide), show m_X11_signs fu τ (0 : Int32) = some (nI (S.1 0)) from qX11_signs (r := 0) hT (by decide)]
      simp only [Option.bind_some]
      rw [nI_add, if_pos (nI_lt (by omega) (by omega))])
    (fun m v τ hv ⟨q1, q2, q3, q4⟩ => by
      have hT := h.keepm q1
      have m0 := zal_le (S := S) (b := false) v
      have m1 := zal_le (S := S) (b := true) v
      have n1 : zwn S 1 ≤ 24 := by have := hS.2.1; unfold zwn; omega
      rw [l_X11_layAnchors_12, show zrd τ 104 (0 : Int32) = some (nI (S.2.2 0)) from qX11_set (fu := fu) (k := 0) hT (by decide), show m_X11_signs fu τ (0 : Int32) = some (nI (S.1 0)) from qX11_signs (r := 0) hT (by decide)]
      simp only [Option.bind_some]
      rw [nI_add, if_neg (nI_nlt (by omega) (by omega)), show m_X11_onlyPlace fu τ (nI v) (0 : Int32) (0 : Int32) = _ from qX11_onlyPlace (r := 0) (b := false) hT hS (by decide) (by omega) hfu]
      simp only [Option.bind_some]
      have E4 : ((if ¬ (if zct (fun q => zeq S 0 v q false) (zwn S 0) = 1 then nI (zls (fun q => zeq S 0 v q false) (zwn S 0)) else zM1) = nI v then some (0 : Int32) else some (1 : Int32)) : Option Int32) = some (zb (decide (zct (fun q => zeq S 0 v q false) (zwn S 0) = 1))) := by
        by_cases c : zct (fun q => zeq S 0 v q false) (zwn S 0) = 1
        · rw [if_pos c, zct_one (q := v) _ c hv zeq_self, if_neg (fun q => q rfl), decide_eq_true c]
          rfl
        · rw [if_neg c, if_pos (fun q => zM1_ne (by omega) q.symm), decide_eq_false c]
          rfl
      rw [E4]
      simp only [Option.bind_some]
      have E5 : ((if zb (decide (zct (fun q => zeq S 0 v q false) (zwn S 0) = 1)) = 0 then some (-1 : Int32) else (m_X11_onlyPlace fu τ (nI v) (1 : Int32) (0 : Int32)).bind fun x19 => some x19) : Option (Int32)) = some (match zap S false v with | none => zM1 | some q => nI q) := by
        by_cases c : zct (fun q => zeq S 0 v q false) (zwn S 0) = 1
        · rw [decide_eq_true c, if_neg (by decide), show m_X11_onlyPlace fu τ (nI v) (1 : Int32) (0 : Int32) = _ from qX11_onlyPlace (r := 1) (b := false) hT hS (by decide) (by omega) hfu]
          simp only [Option.bind_some]
          by_cases d : zct (fun q => zeq S 1 v q false) (zwn S 1) = 1
          · rw [if_pos d, zap_y ⟨c, fun z => absurd z (by decide), d⟩]
          · rw [if_neg d, zap_n (fun z => d z.2.2)]
        · rw [decide_eq_false c, if_pos (by decide), zap_n (fun z => c z.1)]
          rfl
      rw [E5]
      simp only [Option.bind_some]
      have E6 : ∃ τ1, ((if (match zap S false v with | none => zM1 | some q => nI q) = (-1 : Int32) then some τ else (zwr τ 109 (τ.1 103 10) (nI v)).bind fun s16 => (zwr s16 110 (s16.1 103 10) (match zap S false v with | none => zM1 | some q => nI q)).bind fun s17 => some (zst s17 103 10 ((s17.1 103 10) + (1 : Int32)))) : Option (zmem)) = some τ1 ∧ zfm τ τ1 ∧ zMn τ1 10 109 (zal S false (v + 1)) ∧ zMn τ1 13 111 (zal S true v) ∧ ∀ a, a ≠ 103 → a < 109 ∨ 113 ≤ a → τ1.1 a = τ.1 a := by
        cases hz : zap S false v with
        | none => exact ⟨τ, if_pos rfl, zfm.rf, by rw [zal_none hz]; exact q2, q3, fun _ _ _ => rfl⟩
        | some q =>
          have hq : q < 2 ^ 31 := by
            have i1 := zal_in (S := S) (b := false) (v + 1)
            rw [zal_some hz] at i1
            have := (i1 (zal S false v).1 (Nat.lt_succ_self _)).2
            have e9 : (zadd (zal S false v) v q).2.2 (zal S false v).1 = q := if_pos rfl
            omega
          obtain ⟨τ1, e1, a1, a2, a3, a4⟩ := zMn_add (p := v) (q := q) q2 (by omega) zc_109 zc_110 (by decide) (by decide) (by omega)
          refine ⟨τ1, (if_neg (zM1_ne hq)).trans e1, a2, by rw [zal_some hz]; exact a1, ⟨by rw [a4 13 (by decide)]; exact q3.1, fun i hi => ?_⟩, fun a h1 h2 => a3 a h1 (by omega) (by omega)⟩
          rw [a3 111 (by decide) (by decide) (by decide), a3 (111 + 1) (by decide) (by decide) (by decide)]
          exact q3.2 i hi
      obtain ⟨τ1, e6, a1, a2, a3, a4⟩ := E6
      rw [e6]
      simp only [Option.bind_some]
      have hT1 := hT.keepm a1
      have E7 : ((if zb (decide (zct (fun q => zeq S 0 v q false) (zwn S 0) = 1)) = 0 then some (-1 : Int32) else (m_X11_stands fu τ1 (nI v) (0 : Int32) (nI v) (1 : Int32)).bind fun x12 => (if ¬ x12 = 0 then some (-1 : Int32) else (m_X11_onlyPlace fu τ1 (nI v) (1 : Int32) (1 : Int32)).bind fun x13 => some x13)) : Option (Int32)) = some (match zap S true v with | none => zM1 | some q => nI q) := by
        by_cases c : zct (fun q => zeq S 0 v q false) (zwn S 0) = 1
        · rw [decide_eq_true c, if_neg (by decide), show m_X11_stands fu τ1 (nI v) (0 : Int32) (nI v) (1 : Int32) = _ from qX11_stands (r := 0) (b := true) hT1 hS (by decide) (by omega) (by omega) hfu]
          simp only [Option.bind_some]
          by_cases c2 : zeq S 0 v v true = true
          · rw [zap_n (fun z => by have := z.2.1 rfl; rw [c2] at this; exact absurd this (by decide)), c2, if_pos (by decide)]
            rfl
          · rw [(Bool.not_eq_true _).mp c2, if_neg (by decide), show m_X11_onlyPlace fu τ1 (nI v) (1 : Int32) (1 : Int32) = _ from qX11_onlyPlace (r := 1) (b := true) hT1 hS (by decide) (by omega) hfu]
            simp only [Option.bind_some]
            by_cases d : zct (fun q => zeq S 1 v q true) (zwn S 1) = 1
            · rw [if_pos d, zap_y ⟨c, fun _ => (Bool.not_eq_true _).mp c2, d⟩]
            · rw [if_neg d, zap_n (fun z => d z.2.2)]
        · rw [decide_eq_false c, if_pos (by decide), zap_n (fun z => c z.1)]
          rfl
      rw [E7]
      simp only [Option.bind_some]
      have E8 : ∃ τ2, ((if (match zap S true v with | none => zM1 | some q => nI q) = (-1 : Int32) then some τ1 else (zwr τ1 111 (τ1.1 103 13) (nI v)).bind fun s9 => (zwr s9 112 (s9.1 103 13) (match zap S true v with | none => zM1 | some q => nI q)).bind fun s10 => some (zst s10 103 13 ((s10.1 103 13) + (1 : Int32)))) : Option (zmem)) = some τ2 ∧ zfm τ1 τ2 ∧ zMn τ2 13 111 (zal S true (v + 1)) ∧ zMn τ2 10 109 (zal S false (v + 1)) ∧ ∀ a, a ≠ 103 → a < 109 ∨ 113 ≤ a → τ2.1 a = τ1.1 a := by
        cases hz : zap S true v with
        | none => exact ⟨τ1, if_pos rfl, zfm.rf, by rw [zal_none hz]; exact a3, a2, fun _ _ _ => rfl⟩
        | some q =>
          have hq : q < 2 ^ 31 := by
            have i1 := zal_in (S := S) (b := true) (v + 1)
            rw [zal_some hz] at i1
            have := (i1 (zal S true v).1 (Nat.lt_succ_self _)).2
            have e9 : (zadd (zal S true v) v q).2.2 (zal S true v).1 = q := if_pos rfl
            omega
          obtain ⟨τ2, e1, b1, b2, b3, b4⟩ := zMn_add (p := v) (q := q) a3 (by omega) zc_111 zc_112 (by decide) (by decide) (by omega)
          refine ⟨τ2, (if_neg (zM1_ne hq)).trans e1, b2, by rw [zal_some hz]; exact b1, ⟨by rw [b4 10 (by decide)]; exact a2.1, fun i hi => ?_⟩, fun a h1 h2 => b3 a h1 (by omega) (by omega)⟩
          rw [b3 109 (by decide) (by decide) (by decide), b3 (109 + 1) (by decide) (by decide) (by decide)]
          exact a2.2 i hi
      obtain ⟨τ2, e8, b1, b2, b3, b4⟩ := E8
      rw [e8]
      simp only [Option.bind_some, za1]
      exact ⟨τ2, rfl, (q1.tr a1).tr b1, b3, b2, fun a h1 h2 => (b4 a h1 h2).trans ((a4 a h1 h2).trans (q4 a h1 h2))⟩)
    fu 0 s0 (by omega) (by have : zwn S 0 ≤ 24 := by { unfold zwn; omega }; omega) ⟨f0, ⟨(zst_s (by decide)).trans zst_at, fun i hi => absurd hi (Nat.not_lt_zero _)⟩, ⟨zst_at, fun i hi => absurd hi (Nat.not_lt_zero _)⟩, fun a h1 h2 => (zst_1 h1).trans (zst_1 h1)⟩
  refine ⟨σ', ?_, p2, p3, p1, p4⟩
  unfold m_X11_layAnchors
  rw [l0]
  show (l_X11_layAnchors_12 fu fu (nI 0) s0).bind _ = _
  rw [e]
  rfl
