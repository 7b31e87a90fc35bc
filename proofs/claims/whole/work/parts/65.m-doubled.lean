/-! the reference's doubled stretches -/
theorem qX11_match {fu : Nat} {σ : zmem} {S : zS} {r a s p : Nat} {x4 : Int32} (h : zMz σ 104 0 S) (hS : zWf S) (hr : r < 2) (ha : a + s ≤ S.1 r) (hp : p + s ≤ S.1 r) (hfu : 100 < fu) : l_X11_standings_24 fu σ (nI r) (nI a) (nI s) x4 (nI p) fu (1 : Int32) (0 : Int32) = some (zb (zmt (S.2.1 r) a s p)) := by
  have hl := h.le hr
  let Q : Nat → Prop := fun v => ∀ k, k < v → S.2.1 r (p + k) = S.2.1 r (a + k)
  obtain ⟨y, e, hy⟩ := loopG (L := fun n v b => l_X11_standings_24 fu σ (nI r) (nI a) (nI s) x4 (nI p) n b (nI v)) (N := s) (P := fun v b => (b = 1 ∧ Q v) ∨ (b = 0 ∧ ¬ Q v)) (R := fun b => (b = 1 ∧ Q s) ∨ (b = 0 ∧ ¬ Q s))
    (fun n b hP => ⟨b, by
      show l_X11_standings_24 fu σ (nI r) (nI a) (nI s) x4 (nI p) (n + 1) b (nI s) = some b
      rw [l_X11_standings_24, if_pos (nI_le (Nat.le_refl _) (by omega))], hP⟩)
    (fun n v b hv hP => by
      have st : ∀ x, (((if b = 0 then some (0 : Int32) else (m_X11_at fu σ (nI r) (nI p + nI v)).bind fun x3 => (m_X11_at fu σ (nI r) (nI a + nI v)).bind fun x4 => (if ¬ x3 = x4 then some (0 : Int32) else some (1 : Int32))) : Option (Int32)) = some x) → ∃ x', (fun n v b => l_X11_standings_24 fu σ (nI r) (nI a) (nI s) x4 (nI p) n b (nI v)) (n + 1) v b = (fun n v b => l_X11_standings_24 fu σ (nI r) (nI a) (nI s) x4 (nI p) n b (nI v)) n (v + 1) x' ∧ x' = x := fun x e => ⟨x, by
        show l_X11_standings_24 fu σ (nI r) (nI a) (nI s) x4 (nI p) (n + 1) b (nI v) = l_X11_standings_24 fu σ (nI r) (nI a) (nI s) x4 (nI p) n x (nI (v + 1))
        rw [l_X11_standings_24, if_neg (nI_ge hv (by omega)), e]
        simp only [Option.bind_some, za1], rfl⟩
      rcases hP with ⟨hb, hQ⟩ | ⟨hb, hQ⟩
      · have s1 := hS.2.2.1 r (p + v)
        have s2 := hS.2.2.1 r (a + v)
        obtain ⟨x', g1, g2⟩ := st (if S.2.1 r (p + v) = S.2.1 r (a + v) then 1 else 0) (by
          rw [if_neg (show ¬ b = 0 by rw [hb]; decide), nI_add, nI_add, qX11_at h hr (by omega), Option.bind_some, qX11_at h hr (by omega), Option.bind_some]
          by_cases c : S.2.1 r (p + v) = S.2.1 r (a + v)
          · rw [if_neg (fun z => z (congrArg nI c)), if_pos c]
          · rw [if_pos (fun z => c ((nI_eq (by omega) (by omega)).mp z)), if_neg c])
        refine ⟨x', g1, ?_⟩
        rw [g2]
        by_cases c : S.2.1 r (p + v) = S.2.1 r (a + v)
        · rw [if_pos c]
          refine Or.inl ⟨rfl, fun k hk => ?_⟩
          by_cases d : k = v
          · rw [d]; exact c
          · exact hQ k (by omega)
        · rw [if_neg c]
          exact Or.inr ⟨rfl, fun z => c (z v (by omega))⟩
      · obtain ⟨x', g1, g2⟩ := st 0 (by rw [if_pos hb])
        refine ⟨x', g1, ?_⟩
        rw [g2]
        exact Or.inr ⟨rfl, fun z => hQ (fun k hk => z k (by omega))⟩)
    fu 0 (1 : Int32) (by omega) (by omega) (Or.inl ⟨rfl, fun k hk => absurd hk (Nat.not_lt_zero _)⟩)
  have e : l_X11_standings_24 fu σ (nI r) (nI a) (nI s) x4 (nI p) fu (1 : Int32) (0 : Int32) = some y := e
  rw [e]
  unfold zmt
  rcases hy with ⟨ha, hQ⟩ | ⟨ha, hQ⟩
  · rw [ha, decide_eq_true hQ]
    rfl
  · rw [ha, decide_eq_false hQ]
    rfl
theorem qX11_standings {fu : Nat} {σ : zmem} {S : zS} {r a s : Nat} (h : zMz σ 104 0 S) (hS : zWf S) (hr : r < 2) (ha : a + s ≤ S.1 r) (hfu : 100 < fu) : m_X11_standings fu σ (nI r) (nI a) (nI s) = some (nI (zsd (S.2.1 r) (S.1 r) a s)) := by
  have hl := h.le hr
  obtain ⟨y, e, hy⟩ := loopG (L := fun n v x => l_X11_standings_6 fu σ (nI r) (nI a) (nI s) n x (nI v)) (N := S.1 r + 1 - s) (P := fun v x => x = nI (zct (zmt (S.2.1 r) a s) v)) (R := fun x => x = nI (zsd (S.2.1 r) (S.1 r) a s))
    (fun n x hP => ⟨x, by
      show l_X11_standings_6 fu σ (nI r) (nI a) (nI s) (n + 1) x (nI (S.1 r + 1 - s)) = some x
      rw [l_X11_standings_6, qX11_signs h hr, Option.bind_some, nI_add, if_pos (nI_lt (by omega) (by omega))], hP⟩)
    (fun n v x hv hx => ⟨nI (zct (zmt (S.2.1 r) a s) (v + 1)), by
      show l_X11_standings_6 fu σ (nI r) (nI a) (nI s) (n + 1) x (nI v) = l_X11_standings_6 fu σ (nI r) (nI a) (nI s) n (nI (zct (zmt (S.2.1 r) a s) (v + 1))) (nI (v + 1))
      rw [l_X11_standings_6, qX11_signs h hr, Option.bind_some, nI_add, if_neg (nI_nlt (by omega) (by omega)), qX11_match h hS hr ha (by omega) hfu, Option.bind_some, hx]
      by_cases c : zmt (S.2.1 r) a s v = true
      · rw [c, if_neg (show ¬ zb true = 0 by decide), zct_t c]
        simp only [Option.bind_some, za1]
      · rw [(Bool.not_eq_true _).mp c, if_pos (show zb false = 0 by decide), zct_f c]
        simp only [Option.bind_some]
        rw [l0, nI_add, za1]
        rfl, rfl⟩)
    fu 0 (0 : Int32) (by omega) (by omega) rfl
  have e : l_X11_standings_6 fu σ (nI r) (nI a) (nI s) fu (0 : Int32) (0 : Int32) = some y := e
  unfold m_X11_standings
  rw [e, hy]
  rfl
theorem zsd_le {f : Nat → Nat} {n a s : Nat} : zsd f n a s ≤ n + 1 := Nat.le_trans (zct_le _) (by omega)
theorem qX11_dnone {fu : Nat} {σ : zmem} {S : zS} {r s : Nat} {wh : Int32} (h : zMz σ 104 0 S) (hS : zWf S) (hr : r < 2) (h1 : 1 ≤ s) (hs : zdL (S.2.1 r) (S.1 r) < s) (hsn : s < S.1 r) (hfu : 100 < fu) : l_X11_doubledNow_15 fu σ (nI r) wh (nI s) fu (0 : Int32) = some (.inr ()) := by
  have hl := h.le hr
  have key : ∀ m v, v ≤ S.1 r - s → S.1 r - s - v < m → l_X11_doubledNow_15 fu σ (nI r) wh (nI s) m (nI v) = some (.inr ()) := by
    intro m
    induction m with
    | zero => intro v _ h9; omega
    | succ m ih =>
      intro v hv hm
      rw [l_X11_doubledNow_15, qX11_signs h hr, Option.bind_some, nI_add]
      by_cases c : v = S.1 r - s
      · rw [if_pos (nI_le (by omega) (by omega))]
      · have n1 := zsd_none (f := S.2.1 r) (n := S.1 r) (a := v) h1 (by omega) (Or.inl hs)
        rw [if_neg (nI_ge (by omega) (by omega)), qX11_standings h hS hr (by omega) hfu, Option.bind_some, if_pos (show nI (zsd (S.2.1 r) (S.1 r) v s) ≤ (1 : Int32) from nI_le n1 (by decide)), za1]
        exact ih (v + 1) (by omega) (by omega)
  exact key fu 0 (by omega) (by omega)
theorem qX11_dsome {fu : Nat} {σ : zmem} {S : zS} {r what : Nat} (h : zMz σ 104 0 S) (hS : zWf S) (hr : r < 2) (hw : what < 3) (h1 : 0 < zdL (S.2.1 r) (S.1 r)) (hfu : 100 < fu) : l_X11_doubledNow_15 fu σ (nI r) (nI what) (nI (zdL (S.2.1 r) (S.1 r))) fu (0 : Int32) = some (.inl (zdb (S.2.1 r) (S.1 r) what)) := by
  have hl := h.le hr
  have hs := zsd_some (f := S.2.1 r) (n := S.1 r) h1
  have key : ∀ m v, v ≤ zdF (S.2.1 r) (S.1 r) → zdF (S.2.1 r) (S.1 r) - v < m → l_X11_doubledNow_15 fu σ (nI r) (nI what) (nI (zdL (S.2.1 r) (S.1 r))) m (nI v) = some (.inl (zdb (S.2.1 r) (S.1 r) what)) := by
    intro m
    induction m with
    | zero => intro v _ h9; omega
    | succ m ih =>
      intro v hv hm
      have n2 := zsd_le (f := S.2.1 r) (n := S.1 r) (a := v) (s := zdL (S.2.1 r) (S.1 r))
      rw [l_X11_doubledNow_15, qX11_signs h hr, Option.bind_some, nI_add, if_neg (nI_ge (by omega) (by omega)), qX11_standings h hS hr (by omega) hfu, Option.bind_some]
      by_cases c : v = zdF (S.2.1 r) (S.1 r)
      · subst c
        rw [if_neg (show ¬ nI (zsd (S.2.1 r) (S.1 r) (zdF (S.2.1 r) (S.1 r)) (zdL (S.2.1 r) (S.1 r))) ≤ (1 : Int32) from nI_ge hs.2.1 (by omega))]
        unfold zdb
        rw [if_neg (show ¬ zdL (S.2.1 r) (S.1 r) = 0 by omega)]
        rcases (show what = 0 ∨ what = 1 ∨ what = 2 by omega) with rfl | rfl | rfl
        · rw [if_neg (show ¬ ¬ nI 0 = (0 : Int32) by decide), if_pos rfl]
        · rw [if_pos (show ¬ nI 1 = (0 : Int32) by decide), if_neg (show ¬ ¬ nI 1 = (1 : Int32) by decide), if_neg (show ¬ (1 = 0) by decide), if_pos rfl]
        · rw [if_pos (show ¬ nI 2 = (0 : Int32) by decide), if_pos (show ¬ nI 2 = (1 : Int32) by decide), if_neg (show ¬ (2 = 0) by decide), if_neg (show ¬ (2 = 1) by decide)]
      · have n1 := zsd_none (f := S.2.1 r) (n := S.1 r) (a := v) (s := zdL (S.2.1 r) (S.1 r)) (by omega) (by omega) (Or.inr ⟨rfl, by omega⟩)
        rw [if_pos (show nI (zsd (S.2.1 r) (S.1 r) v (zdL (S.2.1 r) (S.1 r))) ≤ (1 : Int32) from nI_le n1 (by decide)), za1]
        exact ih (v + 1) (by omega) (by omega)
  exact key fu 0 (by omega) (by omega)
theorem qX11_doubledNow {fu : Nat} {σ : zmem} {S : zS} {r what : Nat} (h : zMz σ 104 0 S) (hS : zWf S) (hr : r < 2) (hw : what < 3) (hfu : 100 < fu) : m_X11_doubledNow fu σ (nI r) (nI what) = some (zdb (S.2.1 r) (S.1 r) what) := by
  have hl := h.le hr
  have hL : zdL (S.2.1 r) (S.1 r) = 0 ∨ zdL (S.2.1 r) (S.1 r) < S.1 r := by
    by_cases c : zdL (S.2.1 r) (S.1 r) = 0
    · exact Or.inl c
    · have := (zsd_some (f := S.2.1 r) (n := S.1 r) (by omega)).1
      exact Or.inr (by omega)
  have key : ∀ m s, zdL (S.2.1 r) (S.1 r) ≤ s → (s = 0 ∨ s < S.1 r) → s < m → l_X11_doubledNow_8 fu σ (nI r) (nI what) m (nI s) = some (if zdL (S.2.1 r) (S.1 r) = 0 then .inr () else .inl (zdb (S.2.1 r) (S.1 r) what)) := by
    intro m
    induction m with
    | zero => intro s _ _ h9; omega
    | succ m ih =>
      intro s h1 h2 h3
      rw [l_X11_doubledNow_8]
      by_cases c : s = 0
      · rw [if_pos (show nI s ≤ 0 by rw [c]; decide), if_pos (by omega)]
      · rw [if_neg (nI_nle (by omega) (by omega))]
        by_cases d : s = zdL (S.2.1 r) (S.1 r)
        · subst d
          rw [qX11_dsome h hS hr hw (by omega) hfu, Option.bind_some, if_neg c]
        · rw [qX11_dnone h hS hr (by omega) (by omega) (by omega) hfu, Option.bind_some]
          show l_X11_doubledNow_8 fu σ (nI r) (nI what) m (nI s - (1 : Int32)) = _
          rw [zs1 (by omega)]
          exact ih (s - 1) (by omega) (by omega) (by omega)
  have e : l_X11_doubledNow_8 fu σ (nI r) (nI what) fu (nI (S.1 r) - (1 : Int32)) = some (if zdL (S.2.1 r) (S.1 r) = 0 then .inr () else .inl (zdb (S.2.1 r) (S.1 r) what)) := by
    by_cases c : S.1 r = 0
    · have hL0 : zdL (S.2.1 r) (S.1 r) = 0 := by omega
      obtain ⟨fu', rfl⟩ : ∃ k, fu = k + 1 := ⟨fu - 1, by omega⟩
      rw [l_X11_doubledNow_8, if_pos (show nI (S.1 r) - (1 : Int32) ≤ 0 by rw [c]; decide), if_pos hL0]
    · rw [zs1 (by omega)]
      exact key fu (S.1 r - 1) (by omega) (by omega) (by omega)
  unfold m_X11_doubledNow
  rw [qX11_signs h hr, Option.bind_some, e, Option.bind_some]
  by_cases c : zdL (S.2.1 r) (S.1 r) = 0
  · rw [if_pos c]
    unfold zdb
    rw [if_pos c]
    by_cases d : what = 0
    · rw [if_neg (show ¬ ¬ nI what = (0 : Int32) by rw [d]; decide), if_pos d]
      rfl
    · rw [if_pos (nI_ne0 (by omega) (by omega)), if_neg d]
      rfl
  · rw [if_neg c]
