/-! the whole of what class and reference hold: the abstract state, how it is laid in each -/
abbrev zU : Type := zS × (Nat × (Nat → zS)) × ((Nat → Bool) × (Nat → zS)) × (Nat × (Nat → Nat))
def zUw (u : zU) : Prop := zWf u.1 ∧ (∀ k, k < u.2.1.1 → zWf (u.2.1.2 k)) ∧ (∀ x, (∀ r j, (u.2.2.1.2 x).2.1 r j < 4) ∧ (u.2.2.1.2 x).1 0 ≤ 24 ∧ (u.2.2.1.2 x).1 1 ≤ 24)
def zCJ (σ : zmem) (u : zU) : Prop := zSt σ 1 u.1 ∧ zHs σ 29 u.2.1.1 u.2.1.2 ∧ zTx σ 32 u.2.2.2.1 u.2.2.2.2 ∧ σ.1 0 4 = zb (u.2.2.1.1 0) ∧ σ.1 0 5 = zb (u.2.2.1.1 1) ∧ ∀ x, x < 2 → u.2.2.1.1 x = true → zRs σ (15 + 7 * x) (u.2.2.1.2 x).1 (u.2.2.1.2 x).2.1
def zCF (σ : zmem) (u : zU) : Prop := zCJ σ u ∧ σ.1 0 11 = 0 ∧ zCl σ 35 u.1 ∧ zTu σ 91 u.1
def zCI (σ : zmem) (u : zU) : Prop := zCJ σ u ∧ (σ.1 0 11 = 1 ∨ (σ.1 0 11 = 0 ∧ zCl σ 35 u.1 ∧ zTu σ 91 u.1))
theorem zCF.i {σ : zmem} {u : zU} (h : zCF σ u) : zCI σ u := ⟨h.1, Or.inr h.2⟩
def zMs (σ : zmem) (x : Nat) (K : zS) : Prop := (∀ r, r < 2 → σ.1 106 (50 * x + r) = nI (K.1 r)) ∧ ∀ r j, r < 2 → j < K.1 r → σ.1 106 (50 * x + 2 + 24 * r + j) = nI (K.2.1 r j)
def zRI (σ : zmem) (u : zU) : Prop := zMz σ 104 0 u.1 ∧ zMh σ u.2.1.1 u.2.1.2 ∧ zMt σ u.2.2.2.1 u.2.2.2.2 ∧ (∀ x, x < 2 → σ.1 107 x = zb (u.2.2.1.1 x)) ∧ ∀ x, x < 2 → u.2.2.1.1 x = true → zMs σ x (u.2.2.1.2 x)
/-- the class's frame, the reference's frame -/
def zfc (σ σ' : zmem) : Prop := (∀ a, 103 ≤ a → σ'.1 a = σ.1 a) ∧ ∀ a, a ≠ 124 → σ'.2 a = σ.2 a
def zfx (σ σ' : zmem) : Prop := (∀ a, a < 103 ∨ 124 ≤ a → σ'.1 a = σ.1 a) ∧ ∀ a, a ≠ 103 → σ'.2 a = σ.2 a
theorem zfc.rf {σ : zmem} : zfc σ σ := ⟨fun _ _ => rfl, fun _ _ => rfl⟩
theorem zfx.rf {σ : zmem} : zfx σ σ := ⟨fun _ _ => rfl, fun _ _ => rfl⟩
theorem zfc.tr {σ σ1 σ2 : zmem} (h : zfc σ σ1) (h2 : zfc σ1 σ2) : zfc σ σ2 := ⟨fun a ha => (h2.1 a ha).trans (h.1 a ha), fun a ha => (h2.2 a ha).trans (h.2 a ha)⟩
theorem zfx.tr {σ σ1 σ2 : zmem} (h : zfx σ σ1) (h2 : zfx σ1 σ2) : zfx σ σ2 := ⟨fun a ha => (h2.1 a ha).trans (h.1 a ha), fun a ha => (h2.2 a ha).trans (h.2 a ha)⟩
theorem zfn.c {σ σ' : zmem} {lo hi : Nat} (h : zfn σ σ' lo hi) (h1 : hi ≤ 103) : zfc σ σ' := ⟨fun a ha => h.1 a (by omega), fun a _ => by rw [h.2]⟩
theorem zfr.c {σ σ' : zmem} {l : List Nat} (h : zfr σ σ' l) (hl : ∀ a, a ∈ l → a < 103) : zfc σ σ' := ⟨fun a ha => h.1 a (fun q => by have := hl a q; omega), fun a _ => by rw [h.2]⟩
theorem zfr.x {σ σ' : zmem} {l : List Nat} (h : zfr σ σ' l) (hl : ∀ a, a ∈ l → 103 ≤ a ∧ a < 124) : zfx σ σ' := ⟨fun a ha => h.1 a (fun q => by have := hl a q; omega), fun a _ => by rw [h.2]⟩
theorem zfm.x {σ σ' : zmem} (h : zfm σ σ') : zfx σ σ' := ⟨fun a ha => h.1 a (by omega) (by omega), fun a _ => by rw [h.2.2]⟩
theorem zRs.keepc {σ σ' : zmem} {b : Nat} {n : Nat → Nat} {f : Nat → Nat → Nat} (h : zRs σ b n f) (hc : ∀ a, b < a → a < b + 5 → σ'.1 a = σ.1 a) : zRs σ' b n f :=
  ⟨h.1, h.2.1.keep (hc _ (by omega) (by omega)) (hc _ (by omega) (by omega)), h.2.2.keep (hc _ (by omega) (by omega)) (hc _ (by omega) (by omega))⟩
theorem zSt.keepc {σ σ' : zmem} {b : Nat} {S : zS} (h : zSt σ b S) (hc : ∀ a, b < a → a < b + 7 → σ'.1 a = σ.1 a) : zSt σ' b S := ⟨h.1.keepc (fun a h1 h2 => hc a h1 (by omega)), fun k hk => by rw [hc _ (by omega) (by omega)]; exact h.2 k hk⟩
theorem zHs.keepc {σ σ' : zmem} {i m : Nat} {Hs : Nat → zS} (h : zHs σ i m Hs) (h1 : σ'.1 i = σ.1 i) (h2 : σ'.1 (i + 2) = σ.1 (i + 2)) : zHs σ' i m Hs :=
  ⟨h.1, h.2.1, by rw [h1]; exact h.2.2.1, h.2.2.2.1, fun k hk => ⟨(h.2.2.2.2 k hk).1.keep (h.2.2.2.2 k hk).2 (fun j _ => by rw [h2]), (h.2.2.2.2 k hk).2⟩⟩
theorem zTx.keepc {σ σ' : zmem} {i L : Nat} {C : Nat → Nat} (h : zTx σ i L C) (h1 : σ'.1 i = σ.1 i) (h2 : σ'.1 (i + 2) = σ.1 (i + 2)) : zTx σ' i L C :=
  ⟨h.1, h.2.1, h.2.2.1, by rw [h1]; exact h.2.2.2.1, fun j hj => by rw [h2]; exact h.2.2.2.2 j hj⟩
/-- the class's state, the current one changed -/
theorem zCJ.now {σ σ' : zmem} {u : zU} {S : zS} (h : zCJ σ u) (hS : zSt σ' 1 S) (hc : ∀ a, a < 2 ∨ 15 ≤ a → a < 35 → σ'.1 a = σ.1 a) : zCJ σ' (S, u.2) :=
  ⟨hS, h.2.1.keepc (hc _ (by omega) (by omega)) (hc _ (by omega) (by omega)), h.2.2.1.keepc (hc _ (by omega) (by omega)) (hc _ (by omega) (by omega)), by rw [hc 0 (by omega) (by omega)]; exact h.2.2.2.1, by rw [hc 0 (by omega) (by omega)]; exact h.2.2.2.2.1, fun x hx ht => (h.2.2.2.2.2 x hx ht).keepc (fun a h1 h2 => hc a (by omega) (by omega))⟩
theorem zCJ.keepc {σ σ' : zmem} {u : zU} (h : zCJ σ u) (hc : ∀ a, a < 8 ∨ 15 ≤ a → a < 35 → σ'.1 a = σ.1 a) : zCJ σ' u :=
  h.now (h.1.keepc (fun a h1 h2 => hc a (by omega) (by omega))) (fun a h1 h2 => hc a (by omega) h2)
theorem zCJ.keepn {σ σ' : zmem} {u : zU} {lo hi : Nat} (h : zCJ σ u) (hf : zfn σ σ' lo hi) (hl : 35 ≤ lo) : zCJ σ' u := h.keepc (fun a h1 h2 => hf.1 a (by omega))
theorem zCJ.st {σ : zmem} {u : zU} {v : Int32} (h : zCJ σ u) : zCJ (zst σ 0 11 v) u :=
  ⟨h.1.keepc (fun a h1 h2 => zst_1 (by omega)), h.2.1.keepc (zst_1 (by decide)) (zst_1 (by decide)), h.2.2.1.keepc (zst_1 (by decide)) (zst_1 (by decide)), (zst_s (by decide)).trans h.2.2.2.1, (zst_s (by decide)).trans h.2.2.2.2.1, fun x hx ht => (h.2.2.2.2.2 x hx ht).keepc (fun a h1 h2 => zst_1 (by omega))⟩
/-- the current state, saved -/
def zpush (u : zU) : zU := (u.1, zHpush u.2.1.1 u.2.1.2 u.1, u.2.2)
theorem zUw.hist {u : zU} (h : zUw u) {k : Nat} (hk : k < u.2.1.1) : zWf (u.2.1.2 k) := h.2.1 k hk
theorem zUw.push {u : zU} {S : zS} (h : zUw u) (hS : zWf S) : zUw (S, (zpush u).2) := by
  refine ⟨hS, fun k hk => ?_, h.2.2⟩
  show zWf ((zHpush u.2.1.1 u.2.1.2 u.1).2 k)
  have hk : k < (zHpush u.2.1.1 u.2.1.2 u.1).1 := hk
  unfold zHpush at hk ⊢
  by_cases c : u.2.1.1 < 6
  · rw [if_pos c] at hk ⊢
    have hk : k < u.2.1.1 + 1 := hk
    show zWf (if k = u.2.1.1 then u.1 else u.2.1.2 k)
    split
    · exact h.1
    · exact h.2.1 k (by omega)
  · rw [if_neg c] at hk ⊢
    have hk : k < 6 := hk
    show zWf (if k = 5 then u.1 else u.2.1.2 (k + 1))
    split
    · exact h.1
    · exact h.2.1 (k + 1) (by omega)
theorem pX10_save {fu : Nat} {σ : zmem} {u : zU} (h : zCJ σ u) (hfu : 400 < fu) : ∃ σ', m_X10_saveState fu σ = some σ' ∧ zCJ σ' (zpush u) ∧ σ'.1 0 11 = 1 ∧ zfr σ σ' [0, 29, 31] := by
  obtain ⟨s1, e1, h1, f1⟩ := pX4_save (fu := fu) h.2.1 h.1 (by omega) hfu
  have f1' : zfr σ s1 [0, 29, 31] := f1.mono (by intro a; simp; omega)
  have j1 : zCJ s1 (zpush u) := ⟨h.1.keepc (fun a h1 h2 => f1.1 a (by simp; omega)), h1, h.2.2.1.keepc (f1.1 _ (by simp)) (f1.1 _ (by simp)), by rw [f1.1 0 (by simp)]; exact h.2.2.2.1, by rw [f1.1 0 (by simp)]; exact h.2.2.2.2.1, fun x hx ht => (h.2.2.2.2.2 x hx ht).keepc (fun a h1 h2 => f1.1 a (by simp; omega))⟩
  refine ⟨zst s1 0 11 (1 : Int32), ?_, j1.st, zst_at, f1'.tr (zfr_st (by simp))⟩
  unfold m_X10_saveState
  rw [e1]
  rfl
theorem pX10_refresh {fu : Nat} {σ : zmem} {u : zU} (h : zCI σ u) (hu : zUw u) (hfu : 100 < fu) : ∃ σ', m_X10_refresh fu σ = some σ' ∧ zCF σ' u ∧ zfc σ σ' := by
  obtain ⟨hJ, hs⟩ := h
  unfold m_X10_refresh
  rcases hs with hs | ⟨hs, hl, ht⟩
  · rw [hs, if_neg (by decide)]
    obtain ⟨s1, e1, l1, f1⟩ := pX5_build (fu := fu) (i0 := 35) zc_35 hJ.1 hu.1 (by omega) hfu
    have j1 := hJ.keepn f1 (by omega)
    obtain ⟨s2, e2, t2, f2⟩ := pX9_find (fu := fu) (t0 := 91) zc_91 j1.1 hu.1 (by omega) hfu
    have j2 := j1.keepn f2 (by omega)
    have l2 : zCl s2 35 u.1 := ⟨l1.1.keepn f2 (by omega), ⟨by rw [f2.1 _ (by omega)]; exact l1.2.1.1, fun j hj => by rw [f2.1 _ (by omega)]; exact l1.2.1.2.1 j hj, fun k hk => by rw [f2.1 _ (by omega), f2.1 _ (by omega)]; exact l1.2.1.2.2 k hk⟩, by rw [f2.1 _ (by omega)]; exact l1.2.2.1, by rw [f2.1 _ (by omega)]; exact l1.2.2.2.1, fun g k hg hk => by rw [f2.1 _ (by omega)]; exact l1.2.2.2.2.1 g k hg hk, l1.2.2.2.2.2.keep (f2.1 _ (by omega)) (f2.1 _ (by omega))⟩
    rw [e1, Option.bind_some, e2, Option.bind_some]
    refine ⟨_, rfl, ⟨j2.st, zst_at, ?_, ?_⟩, ((f1.c (by omega)).tr (f2.c (by omega))).tr ((zfr_st (l := [0]) (by simp)).c (by simp))⟩
    · exact ⟨l2.1.keepn (zfn_st (lo := 0) (hi := 1) (by omega) (by omega)) (by omega), ⟨(congrFun (zst_1 (by decide)) _).trans l2.2.1.1, fun j hj => (congrFun (zst_1 (by decide)) _).trans (l2.2.1.2.1 j hj), fun k hk => ⟨(congrFun (zst_1 (by decide)) _).trans (l2.2.1.2.2 k hk).1, (congrFun (zst_1 (by decide)) _).trans (l2.2.1.2.2 k hk).2⟩⟩, (congrFun (zst_1 (by decide)) _).trans l2.2.2.1, (congrFun (zst_1 (by decide)) _).trans l2.2.2.2.1, fun g k hg hk => (congrFun (zst_1 (by decide)) _).trans (l2.2.2.2.2.1 g k hg hk), l2.2.2.2.2.2.keep (zst_1 (by decide)) (zst_1 (by decide))⟩
    · exact ⟨t2.1.keepn (zfn_st (lo := 0) (hi := 1) (by omega) (by omega)) (by omega), (congrFun (zst_1 (by decide)) _).trans t2.2.1, (congrFun (zst_1 (by decide)) _).trans t2.2.2.1, fun k hk => (congrFun (zst_1 (by decide)) _).trans (t2.2.2.2 k hk)⟩
  · rw [hs, if_pos rfl]
    exact ⟨σ, rfl, ⟨hJ, hs, hl, ht⟩, zfc.rf⟩
/-! the reference's side -/
theorem zMs.keep {σ σ' : zmem} {x : Nat} {K : zS} (h : zMs σ x K) (h1 : σ'.1 106 = σ.1 106) : zMs σ' x K := ⟨fun r hr => by rw [h1]; exact h.1 r hr, fun r j hr hj => by rw [h1]; exact h.2 r j hr hj⟩
/-- the reference's state, the current one changed -/
theorem zRI.now {σ σ' : zmem} {u : zU} {S : zS} (h : zRI σ u) (hS : zMz σ' 104 0 S) (hc : ∀ a, 105 ≤ a → a < 109 → σ'.1 a = σ.1 a) (h1 : σ'.1 103 1 = σ.1 103 1) (h5 : σ'.1 103 5 = σ.1 103 5) : zRI σ' (S, u.2) :=
  ⟨hS, h.2.1.keep h1 (hc 105 (by omega) (by omega)), h.2.2.1.keep h5 (hc 108 (by omega) (by omega)), fun x hx => by rw [hc 107 (by omega) (by omega)]; exact h.2.2.2.1 x hx, fun x hx ht => (h.2.2.2.2 x hx ht).keep (hc 106 (by omega) (by omega))⟩
theorem zRI.keep {σ σ' : zmem} {u : zU} (h : zRI σ u) (hc : ∀ a, 104 ≤ a → a < 109 → σ'.1 a = σ.1 a) (h1 : σ'.1 103 1 = σ.1 103 1) (h5 : σ'.1 103 5 = σ.1 103 5) : zRI σ' u :=
  h.now (h.1.keep (fun j _ => by rw [hc 104 (by omega) (by omega)])) (fun a g1 g2 => hc a (by omega) g2) h1 h5
theorem zRI.m {σ σ' : zmem} {u : zU} (h : zRI σ u) (hf : zfm σ σ') : zRI σ' u := h.keep (fun a g1 g2 => hf.1 a (by omega) (by omega)) (hf.2.1 1 (by decide) (by decide) (by decide) (by decide)) (hf.2.1 5 (by decide) (by decide) (by decide) (by decide))
theorem zRI.st {σ : zmem} {u : zU} {k : Nat} {v : Int32} (h : zRI σ u) (h1 : k ≠ 1) (h5 : k ≠ 5) : zRI (zst σ 103 k v) u := h.keep (fun a g1 g2 => zst_1 (by omega)) (zst_s (by omega)) (zst_s (by omega))
theorem qX11_saveI {fu : Nat} {σ : zmem} {u : zU} (h : zRI σ u) (hfu : 400 < fu) : ∃ σ', m_X11_save fu σ = some σ' ∧ zRI σ' (zpush u) ∧ zfr σ σ' [103, 105] ∧ ∀ k, k ≠ 1 → σ'.1 103 k = σ.1 103 k := by
  obtain ⟨s1, e1, h1, f1, k1⟩ := qX11_save (fu := fu) h.2.1 h.1 hfu
  exact ⟨s1, e1, ⟨h.1.keepr f1 (by simp), h1, h.2.2.1.keep (k1 5 (by decide)) (f1.1 108 (by simp)), fun x hx => by rw [f1.1 107 (by simp)]; exact h.2.2.2.1 x hx, fun x hx ht => (h.2.2.2.2 x hx ht).keep (f1.1 106 (by simp))⟩, f1, k1⟩
/-! what a call of the law does, on each side -/
def zLo (m : Option (Int32 × zmem)) (σ : zmem) (code : Nat) (v : Int32) (u : zU) : Prop := ∃ σ', m = some (nI code, σ') ∧ zCI σ' u ∧ zfc σ σ' ∧ (code = 0 → σ'.2 124 0 = v.toInt64)
def zXo (m : Option (Int32 × zmem)) (σ : zmem) (code : Nat) (v : Int32) (u : zU) : Prop := ∃ σ' b, m = some (b, σ') ∧ zRI σ' u ∧ zfx σ σ' ∧ σ'.1 103 7 = nI code ∧ (code = 0 → b = v)
def zStep (mL mX : zmem → Option (Int32 × zmem)) (u : zU) : Prop := ∃ code v u', code < 4 ∧ zUw u' ∧ (∀ σ, zCI σ u → zLo (mL σ) σ code v u') ∧ ∀ σ, zRI σ u → zXo (mX σ) σ code v u'
theorem zCI.sl {σ : zmem} {u : zU} {w : Int64} (h : zCI σ u) : zCI (zsl σ 124 0 w) u := h
theorem zwL_out {σ : zmem} {w : Int64} : zwL σ 124 0 w = some (zsl σ 124 0 w) := by
  unfold zwL
  rw [if_neg (by decide)]
  rfl
theorem zfc_sl {σ : zmem} {w : Int64} : zfc σ (zsl σ 124 0 w) := ⟨fun _ _ => rfl, fun a ha => funext fun k => if_neg (fun z => ha z.1)⟩
theorem zsl_at {σ : zmem} {w : Int64} : (zsl σ 124 0 w).2 124 0 = w := by
  show (if 124 = 124 ∧ 0 = 0 then w else σ.2 124 0) = w
  exact if_pos ⟨rfl, rfl⟩
/-! numbers that are, or are not, within -/
theorem zin_em (a : Int32) (lo hi : Nat) : (∃ k, lo ≤ k ∧ k ≤ hi ∧ a = nI k) ∨ ∀ k, lo ≤ k → k ≤ hi → a ≠ nI k := by
  rcases Classical.em (∃ k, lo ≤ k ∧ k ≤ hi ∧ a = nI k) with h | h
  · exact Or.inl h
  · exact Or.inr (fun k h1 h2 e => h ⟨k, h1, h2, e⟩)
theorem qX11_w1 {fu : Nat} {σ : zmem} {k lo hi : Nat} (h1 : lo ≤ k) (h2 : k ≤ hi) (hh : hi < 2 ^ 30) : m_X11_within fu σ (nI k) (nI lo) (nI hi) = some 1 := by
  rcases qX11_within (fu := fu) (σ := σ) (a := nI k) (lo := lo) (hi := hi) hh (by omega) with ⟨e, _⟩ | ⟨_, h⟩
  · exact e
  · exact absurd rfl (h k h1 h2)
theorem qX11_w0 {fu : Nat} {σ : zmem} {a : Int32} {lo hi : Nat} (h : ∀ k, lo ≤ k → k ≤ hi → a ≠ nI k) (hh : hi < 2 ^ 30) (hl : lo < 2 ^ 30) : m_X11_within fu σ a (nI lo) (nI hi) = some 0 := by
  rcases qX11_within (fu := fu) (σ := σ) (a := a) (lo := lo) (hi := hi) hh hl with ⟨_, k, h1, h2, e⟩ | ⟨e, _⟩
  · exact absurd e (h k h1 h2)
  · exact e
theorem znot_le {a : Int32} {n : Nat} (h : ∀ k, k ≤ n → a ≠ nI k) (hn : n < 2 ^ 30) : a < 0 ∨ ¬ a ≤ nI n := by
  by_cases c : a < 0
  · exact Or.inl c
  · refine Or.inr (fun z => ?_)
    obtain ⟨k, hk, e⟩ := za_le c z hn
    exact h k hk e
theorem znot_lt {a : Int32} {n : Nat} (h : ∀ k, k < n → a ≠ nI k) (hn : n < 2 ^ 31) : a < 0 ∨ nI n ≤ a := by
  by_cases c : a < 0
  · exact Or.inl c
  · by_cases d : nI n ≤ a
    · exact Or.inr d
    · obtain ⟨k, hk, e⟩ := za_in c d hn
      exact absurd e (h k hk)
