/-! doubled stretches: plain functions -/
def zax (f : Nat → Nat) : Nat → Nat → Nat → Nat
  | _, _, 0 => 0
  | a, b, m + 1 => if f a = f b then 1 + zax f (a + 1) (b + 1) m else 0
theorem zax_iff {f : Nat → Nat} : ∀ m a b l, l ≤ zax f a b m ↔ l ≤ m ∧ ∀ k, k < l → f (a + k) = f (b + k) := by
  intro m
  induction m with
  | zero => intro a b l; exact ⟨fun h => ⟨h, fun k hk => by have : l ≤ 0 := h; omega⟩, fun h => h.1⟩
  | succ m ih =>
    intro a b l
    show l ≤ (if f a = f b then 1 + zax f (a + 1) (b + 1) m else 0) ↔ _
    by_cases c : f a = f b
    · rw [if_pos c]
      constructor
      · intro h
        by_cases d : l = 0
        · subst d
          exact ⟨Nat.zero_le _, fun k hk => absurd hk (Nat.not_lt_zero _)⟩
        · have := (ih (a + 1) (b + 1) (l - 1)).mp (by omega)
          refine ⟨by omega, fun k hk => ?_⟩
          cases k with
          | zero => exact c
          | succ k =>
            have e := this.2 k (by omega)
            rw [show a + (k + 1) = a + 1 + k by omega, show b + (k + 1) = b + 1 + k by omega]
            exact e
      · intro h
        by_cases d : l = 0
        · omega
        · have := (ih (a + 1) (b + 1) (l - 1)).mpr ⟨by omega, fun k hk => by
            have e := h.2 (k + 1) (by omega)
            rw [show a + (k + 1) = a + 1 + k by omega, show b + (k + 1) = b + 1 + k by omega] at e
            exact e⟩
          omega
    · rw [if_neg c]
      constructor
      · intro h
        have : l = 0 := by omega
        subst this
        exact ⟨Nat.zero_le _, fun k hk => absurd hk (Nat.not_lt_zero _)⟩
      · intro h
        by_cases d : l = 0
        · omega
        · exact absurd (h.2 0 (by omega)) c
def zag (f : Nat → Nat) (n a : Nat) : Nat := zmx (fun b => decide (a < b)) (fun b => zax f a b (n - b)) n
theorem zmx_ge {P : Nat → Bool} {g : Nat → Nat} {i : Nat} : ∀ n, i < n → P i = true → g i ≤ zmx P g n := by
  intro n
  induction n with
  | zero => intro h; omega
  | succ n ih =>
    intro h hp
    by_cases c : i = n
    · subst c
      rw [zmx_t hp]
      omega
    · have := ih (by omega) hp
      by_cases d : P n = true
      · rw [zmx_t d]
        omega
      · rw [zmx_f d]
        exact this
theorem zmx_att {P : Nat → Bool} {g : Nat → Nat} : ∀ n, 0 < zmx P g n → ∃ i, i < n ∧ P i = true ∧ g i = zmx P g n := by
  intro n
  induction n with
  | zero => intro h; exact absurd h (Nat.lt_irrefl 0)
  | succ n ih =>
    intro h
    by_cases d : P n = true
    · rw [zmx_t d] at h ⊢
      by_cases e : zmx P g n ≤ g n
      · exact ⟨n, by omega, d, by omega⟩
      · obtain ⟨i, h1, h2, h3⟩ := ih (by omega)
        exact ⟨i, by omega, h2, by omega⟩
    · rw [zmx_f d] at h ⊢
      obtain ⟨i, h1, h2, h3⟩ := ih h
      exact ⟨i, by omega, h2, h3⟩
theorem zag_ge {f : Nat → Nat} {n a b l : Nat} (hab : a < b) (hb : b + l ≤ n) (hl : 1 ≤ l) (h : ∀ k, k < l → f (a + k) = f (b + k)) : l ≤ zag f n a := by
  have h1 : l ≤ zax f a b (n - b) := (zax_iff (n - b) a b l).mpr ⟨by omega, h⟩
  exact Nat.le_trans h1 (zmx_ge (P := fun b => decide (a < b)) (g := fun b => zax f a b (n - b)) n (by omega) (decide_eq_true hab))
/-- the longest doubled stretch among the first places, and its place -/
def zbe (f : Nat → Nat) (n : Nat) : Nat → Nat × Nat
  | 0 => (0, 0)
  | p + 1 => if (zbe f n p).1 < zag f n p then (zag f n p, p) else zbe f n p
theorem zbe_t {f : Nat → Nat} {n p : Nat} (h : (zbe f n p).1 < zag f n p) : zbe f n (p + 1) = (zag f n p, p) := if_pos h
theorem zbe_f {f : Nat → Nat} {n p : Nat} (h : ¬ (zbe f n p).1 < zag f n p) : zbe f n (p + 1) = zbe f n p := if_neg h
theorem zbe_all {f : Nat → Nat} {n : Nat} : ∀ N, (∀ p, p < N → zag f n p ≤ (zbe f n N).1) ∧ (0 < (zbe f n N).1 → (zbe f n N).2 < N ∧ zag f n (zbe f n N).2 = (zbe f n N).1 ∧ ∀ p, p < (zbe f n N).2 → zag f n p < (zbe f n N).1) := by
  intro N
  induction N with
  | zero => exact ⟨fun p hp => absurd hp (Nat.not_lt_zero _), fun h => absurd h (Nat.lt_irrefl 0)⟩
  | succ N ih =>
    by_cases c : (zbe f n N).1 < zag f n N
    · rw [zbe_t c]
      refine ⟨fun p hp => ?_, fun _ => ⟨Nat.lt_succ_self _, rfl, fun p hp => ?_⟩⟩
      · by_cases d : p = N
        · rw [d]
          exact Nat.le_refl _
        · have := ih.1 p (by omega)
          show zag f n p ≤ zag f n N
          omega
      · have := ih.1 p hp
        show zag f n p < zag f n N
        omega
    · rw [zbe_f c]
      refine ⟨fun p hp => ?_, fun h => ?_⟩
      · by_cases d : p = N
        · rw [d]
          omega
        · exact ih.1 p (by omega)
      · have := ih.2 h
        exact ⟨by omega, this.2⟩
def zdL (f : Nat → Nat) (n : Nat) : Nat := (zbe f n n).1
def zdF (f : Nat → Nat) (n : Nat) : Nat := (zbe f n n).2
/-- whether the stretch of s signs at a stands at p -/
def zmt (f : Nat → Nat) (a s p : Nat) : Bool := decide (∀ k, k < s → f (p + k) = f (a + k))
/-- at how many places it stands -/
def zsd (f : Nat → Nat) (n a s : Nat) : Nat := zct (zmt f a s) (n + 1 - s)
theorem zct_two {P : Nat → Bool} {q : Nat} : ∀ n, 2 ≤ zct P n → ∃ q', q' < n ∧ q' ≠ q ∧ P q' = true := by
  intro n
  induction n with
  | zero => intro h; exact absurd h (Nat.not_succ_le_zero 1)
  | succ n ih =>
    intro h
    by_cases c : P n = true
    · by_cases d : n = q
      · rw [zct_t c] at h
        have := zct_last n (show 1 ≤ zct P n by omega)
        exact ⟨zls P n, by omega, by omega, this.2⟩
      · exact ⟨n, by omega, d, c⟩
    · rw [zct_f c] at h
      obtain ⟨q', h1, h2, h3⟩ := ih h
      exact ⟨q', by omega, h2, h3⟩
theorem zct_2 {P : Nat → Bool} {a b : Nat} : ∀ n, a < b → b < n → P a = true → P b = true → 2 ≤ zct P n := by
  intro n
  induction n with
  | zero => intro _ h; omega
  | succ n ih =>
    intro h1 h2 h3 h4
    by_cases c : b = n
    · subst c
      rw [zct_t h4]
      have := zct_pos b h1 h3
      omega
    · have := ih h1 (by omega) h3 h4
      show 2 ≤ zct P n + (if P n then 1 else 0)
      omega
theorem zct_ext {P : Nat → Bool} {m : Nat} : ∀ n, m ≤ n → (∀ q, m ≤ q → q < n → P q = false) → zct P n = zct P m := by
  intro n
  induction n with
  | zero => intro h _; rw [show m = 0 by omega]
  | succ n ih =>
    intro h1 h2
    by_cases c : m = n + 1
    · rw [c]
    · rw [zct_f (by rw [h2 n (by omega) (by omega)]; decide), ih (by omega) (fun q g1 g2 => h2 q g1 (by omega))]
theorem zmt_self {f : Nat → Nat} {a s : Nat} : zmt f a s a = true := decide_eq_true (fun _ _ => rfl)
/-- no stretch is doubled that is longer than the longest -/
theorem zsd_none {f : Nat → Nat} {n a s : Nat} (h1 : 1 ≤ s) (h : a + s < n) (hs : zdL f n < s ∨ (zdL f n = s ∧ a < zdF f n)) : zsd f n a s ≤ 1 := by
  by_cases c : zsd f n a s ≤ 1
  · exact c
  · exfalso
    obtain ⟨q, g1, g2, g3⟩ := zct_two (P := zmt f a s) (q := a) (n + 1 - s) (by have : zsd f n a s = zct (zmt f a s) (n + 1 - s) := rfl; omega)
    have g3 := of_decide_eq_true g3
    have al := (zbe_all (f := f) (n := n) n).1
    have al2 := (zbe_all (f := f) (n := n) n).2
    have eL : zdL f n = (zbe f n n).1 := rfl
    have eF : zdF f n = (zbe f n n).2 := rfl
    by_cases d : q < a
    · have k1 := zag_ge (n := n) d (by omega) h1 g3
      have k2 := al q (by omega)
      rcases hs with hs | ⟨hs, ha⟩
      · omega
      · have := (al2 (by omega)).2.2 q (by omega)
        omega
    · have k1 := zag_ge (n := n) (show a < q by omega) (by omega) h1 (fun k hk => (g3 k hk).symm)
      have k2 := al a (by omega)
      rcases hs with hs | ⟨hs, ha⟩
      · omega
      · have := (al2 (by omega)).2.2 a (by omega)
        omega
theorem zsd_some {f : Nat → Nat} {n : Nat} (h : 0 < zdL f n) : zdF f n + zdL f n < n ∧ 2 ≤ zsd f n (zdF f n) (zdL f n) ∧ zct (fun p => decide (zdF f n ≤ p) && decide (zdL f n ≤ zax f (zdF f n) p (n - p))) n = zsd f n (zdF f n) (zdL f n) := by
  have al := (zbe_all (f := f) (n := n) n).1
  have al2 := (zbe_all (f := f) (n := n) n).2 h
  have eL : zdL f n = (zbe f n n).1 := rfl
  have eF : zdF f n = (zbe f n n).2 := rfl
  rw [← eL, ← eF] at al2
  obtain ⟨b, b1, b2, b3⟩ := zmx_att (P := fun b => decide (zdF f n < b)) (g := fun b => zax f (zdF f n) b (n - b)) n (by have : zag f n (zdF f n) = zmx (fun b => decide (zdF f n < b)) (fun b => zax f (zdF f n) b (n - b)) n := rfl; omega)
  have b2 : zdF f n < b := of_decide_eq_true b2
  have b3 : zax f (zdF f n) b (n - b) = zag f n (zdF f n) := b3
  have b4 := (zax_iff (n - b) (zdF f n) b (zdL f n)).mp (Nat.le_of_eq (al2.2.1.symm.trans b3.symm))
  refine ⟨by omega, zct_2 (n + 1 - zdL f n) b2 (by omega) zmt_self (decide_eq_true (fun k hk => (b4.2 k hk).symm)), ?_⟩
  rw [zct_ext (m := n + 1 - zdL f n) n (by omega) (fun q g1 g2 => by
    have : ¬ zdL f n ≤ zax f (zdF f n) q (n - q) := fun z => by
      have := ((zax_iff (n - q) (zdF f n) q (zdL f n)).mp z).1
      omega
    rw [decide_eq_false this, Bool.and_false])]
  refine zct_congr _ (fun q hq => ?_)
  unfold zmt
  by_cases c : q < zdF f n
  · rw [decide_eq_false (show ¬ zdF f n ≤ q by omega), Bool.false_and]
    refine (decide_eq_false (fun z => ?_)).symm
    have k1 := zag_ge (n := n) c (by omega) h z
    have := al2.2.2 q c
    omega
  · rw [decide_eq_true (show zdF f n ≤ q by omega), Bool.true_and]
    refine decide_eq_decide.mpr ((zax_iff (n - q) (zdF f n) q (zdL f n)).trans ?_)
    exact ⟨fun z k hk => (z.2 k hk).symm, fun z => ⟨by omega, fun k hk => (z k hk).symm⟩⟩
def zdb (f : Nat → Nat) (n what : Nat) : Int32 := if zdL f n = 0 then (if what = 0 then nI 0 else zM1) else if what = 0 then nI (zdL f n) else if what = 1 then nI (zdF f n) else nI (zsd f n (zdF f n) (zdL f n))
/-! the class's doubled stretches -/
theorem pX6_alike {fu : Nat} {σ : zmem} {i n a b : Nat} {f : Nat → Nat} (h : zRow σ i n f) (hf : ∀ j, f j < 4) (ha : a ≤ b) (hb : b < n) (hfu : 100 < fu) : m_X6_alikeFrom fu σ i (nI a) (nI b) = some (nI (zax f a b (n - b))) := by
  have hn := h.2.1
  have key : ∀ m k, k ≤ n - b → n - b - k < m → l_X6_alikeFrom_5 fu σ i (nI a) (nI b) m (nI k) (nI k) = some (nI (k + zax f (a + k) (b + k) (n - b - k))) := by
    intro m
    induction m with
    | zero => intro k _ h9; omega
    | succ m ih =>
      intro k hk hm
      rw [l_X6_alikeFrom_5, h.2.2.1, pk_sub (by omega)]
      by_cases c : k = n - b
      · rw [if_pos (nI_le (by omega) (by omega)), show n - b - k = 0 by omega]
        rfl
      · rw [if_neg (nI_ge (by omega) (by omega)), nI_add, nI_add, pX6_signAt h.1 (by omega), pX6_signAt h.1 (by omega), h.2.2.2 (a + k) (by omega), h.2.2.2 (b + k) (by omega)]
        simp only [Option.bind_some]
        obtain ⟨r, hr⟩ : ∃ r, n - b - k = r + 1 := ⟨n - b - k - 1, by omega⟩
        have e : zax f (a + k) (b + k) (r + 1) = if f (a + k) = f (b + k) then 1 + zax f (a + k + 1) (b + k + 1) r else 0 := rfl
        have f1 := hf (a + k)
        have f2 := hf (b + k)
        rw [hr, e]
        by_cases d : f (a + k) = f (b + k)
        · rw [if_neg (fun z => z (congrArg nI d)), if_pos d, za1, ih (k + 1) (by omega) (by omega), show n - b - (k + 1) = r by omega, show k + 1 + zax f (a + (k + 1)) (b + (k + 1)) r = k + (1 + zax f (a + k + 1) (b + k + 1) r) by rw [show a + (k + 1) = a + k + 1 by omega, show b + (k + 1) = b + k + 1 by omega]; omega]
        · rw [if_pos (fun z => d ((nI_eq (by omega) (by omega)).mp z)), if_neg d]
          rfl
  unfold m_X6_alikeFrom
  rw [l0, key fu 0 (by omega) (by omega), Nat.zero_add, Nat.add_zero, Nat.add_zero, Nat.sub_zero]
  rfl
theorem zax_le {f : Nat → Nat} {a b m : Nat} : zax f a b m ≤ m := ((zax_iff m a b _).mp (Nat.le_refl _)).1
theorem pX6_again {fu : Nat} {σ : zmem} {i n a : Nat} {f : Nat → Nat} (h : zRow σ i n f) (hf : ∀ j, f j < 4) (ha : a < n) (hfu : 100 < fu) : m_X6_againLength fu σ i (nI a) = some (nI (zag f n a)) := by
  have hn := h.2.1
  have hz : zmx (fun b => decide (a < b)) (fun b => zax f a b (n - b)) (a + 1) = 0 := zmx_zero _ (fun b hb => decide_eq_false (by omega))
  have e := loopM (L := fun m x v => l_X6_againLength_6 fu σ i (nI a) m x v) (P := fun b => decide (a < b)) (g := fun b => zax f a b (n - b)) (a := a + 1) (N := n)
    (fun m x => by
      show l_X6_againLength_6 fu σ i (nI a) (m + 1) x (nI n) = some x
      rw [l_X6_againLength_6, h.2.2.1, if_pos (nI_le (Nat.le_refl _) (by omega))])
    (fun m x v h1 hv hx => by
      show l_X6_againLength_6 fu σ i (nI a) (m + 1) (nI x) (nI v) = l_X6_againLength_6 fu σ i (nI a) m (if decide (a < v) = true then zmax (nI x) (nI (zax f a v (n - v))) else nI x) (nI (v + 1))
      rw [l_X6_againLength_6, h.2.2.1, if_neg (nI_ge hv (by omega)), pX6_alike h hf (by omega) hv hfu, if_pos (decide_eq_true (show a < v by omega))]
      simp only [Option.bind_some, za1])
    (fun v hv => by
      have := zax_le (f := f) (a := a) (b := v) (m := n - v)
      omega) (fu := fu) (by omega) (by omega)
  rw [hz] at e
  have e : l_X6_againLength_6 fu σ i (nI a) fu (nI 0) (nI (a + 1)) = some (nI (zag f n a)) := e
  unfold m_X6_againLength
  rw [l0, za1, e]
  rfl
theorem zag_le {f : Nat → Nat} {n a : Nat} : zag f n a ≤ n := zmx_le n (fun b _ _ => by have := zax_le (f := f) (a := a) (b := b) (m := n - b); omega)
theorem zbe_le {f : Nat → Nat} {n : Nat} : ∀ N, (zbe f n N).1 ≤ n ∧ (zbe f n N).2 ≤ N := by
  intro N
  induction N with
  | zero => exact ⟨Nat.zero_le _, Nat.le_refl _⟩
  | succ N ih =>
    by_cases c : (zbe f n N).1 < zag f n N
    · rw [zbe_t c]
      have := zag_le (f := f) (n := n) (a := N)
      exact ⟨this, Nat.le_succ _⟩
    · rw [zbe_f c]
      omega
theorem pX6_places {fu : Nat} {σ : zmem} {i n a l : Nat} {f : Nat → Nat} (h : zRow σ i n f) (hf : ∀ j, f j < 4) (ha : a < n) (hl : l ≤ 24) (hfu : 100 < fu) : m_X6_placesOfStretch fu σ i (nI a) (nI l) = some (nI (zct (fun p => decide (a ≤ p) && decide (l ≤ zax f a p (n - p))) n)) := by
  have hn := h.2.1
  let P : Nat → Bool := fun p => decide (a ≤ p) && decide (l ≤ zax f a p (n - p))
  have hz : zct P a = 0 := by
    have := zct_ext (P := P) (m := 0) a (Nat.zero_le _) (fun q _ hq => by show (decide (a ≤ q) && _) = false; rw [decide_eq_false (by omega), Bool.false_and])
    exact this
  obtain ⟨y, e, hy⟩ := loopG (L := fun m v x => l_X6_placesOfStretch_5 fu σ i (nI a) (nI l) m x (nI v)) (N := n) (P := fun v x => a ≤ v ∧ x = nI (zct P v)) (R := fun x => x = nI (zct P n))
    (fun m x hP => ⟨x, by
      show l_X6_placesOfStretch_5 fu σ i (nI a) (nI l) (m + 1) x (nI n) = some x
      rw [l_X6_placesOfStretch_5, h.2.2.1, if_pos (nI_le (Nat.le_refl _) (by omega))], hP.2⟩)
    (fun m v x hv ⟨h1, hx⟩ => ⟨nI (zct P (v + 1)), by
      show l_X6_placesOfStretch_5 fu σ i (nI a) (nI l) (m + 1) x (nI v) = l_X6_placesOfStretch_5 fu σ i (nI a) (nI l) m (nI (zct P (v + 1))) (nI (v + 1))
      have hle := zax_le (f := f) (a := a) (b := v) (m := n - v)
      rw [l_X6_placesOfStretch_5, h.2.2.1, if_neg (nI_ge hv (by omega)), pX6_alike h hf h1 hv hfu]
      simp only [Option.bind_some]
      by_cases c : l ≤ zax f a v (n - v)
      · rw [if_neg (nI_nlt c (by omega)), zct_t (P := P) (by show (decide (a ≤ v) && decide (l ≤ zax f a v (n - v))) = true; rw [decide_eq_true h1, decide_eq_true c]; rfl), hx]
        simp only [Option.bind_some, za1]
      · rw [if_pos (nI_lt (by omega) (by omega)), zct_f (P := P) (by show ¬ (decide (a ≤ v) && decide (l ≤ zax f a v (n - v))) = true; rw [decide_eq_false c, Bool.and_false]; decide), hx]
        simp only [Option.bind_some, za1], by omega, rfl⟩)
    fu a (0 : Int32) (by omega) (by omega) ⟨Nat.le_refl _, by rw [hz]; rfl⟩
  have e : l_X6_placesOfStretch_5 fu σ i (nI a) (nI l) fu (0 : Int32) (nI a) = some y := e
  unfold m_X6_placesOfStretch
  rw [e, hy]
  rfl
theorem pX6_doubled {fu : Nat} {σ : zmem} {i n what : Nat} {f : Nat → Nat} (h : zRow σ i n f) (hf : ∀ j, f j < 4) (hw : what < 3) (hfu : 100 < fu) : m_X6_stretchProperty fu σ i (nI what) = some (zdb f n what) := by
  have hn := h.2.1
  obtain ⟨y, e, hy1, hy2⟩ := loopG (L := fun m v (x : Int32 × Int32) => l_X6_stretchProperty_7 fu σ i (nI what) m x.1 x.2 (nI v)) (N := n)
    (P := fun v x => x.1 = nI (zbe f n v).1 ∧ x.2 = if (zbe f n v).1 = 0 then zM1 else nI (zbe f n v).2) (R := fun x => x.1 = nI (zdL f n) ∧ x.2 = if zdL f n = 0 then zM1 else nI (zdF f n))
    (fun m x hP => ⟨x, by
      show l_X6_stretchProperty_7 fu σ i (nI what) (m + 1) x.1 x.2 (nI n) = some x
      rw [l_X6_stretchProperty_7, h.2.2.1, if_pos (nI_le (Nat.le_refl _) (by omega))], hP⟩)
    (fun m v x hv ⟨q1, q2⟩ => by
      have b1 := zag_le (f := f) (n := n) (a := v)
      have b2 := zbe_le (f := f) (n := n) v
      by_cases c : (zbe f n v).1 < zag f n v
      · refine ⟨(nI (zag f n v), nI v), ?_, ?_, ?_⟩
        · show l_X6_stretchProperty_7 fu σ i (nI what) (m + 1) x.1 x.2 (nI v) = l_X6_stretchProperty_7 fu σ i (nI what) m (nI (zag f n v)) (nI v) (nI (v + 1))
          rw [l_X6_stretchProperty_7, h.2.2.1, if_neg (nI_ge hv (by omega)), pX6_again h hf hv hfu]
          simp only [Option.bind_some]
          rw [q1, if_neg (nI_ge c (by omega))]
          simp only [Option.bind_some, za1]
        · rw [zbe_t c]
        · rw [zbe_t c]
          show nI v = if zag f n v = 0 then zM1 else nI v
          rw [if_neg (by omega)]
      · refine ⟨x, ?_, ?_, ?_⟩
        · show l_X6_stretchProperty_7 fu σ i (nI what) (m + 1) x.1 x.2 (nI v) = l_X6_stretchProperty_7 fu σ i (nI what) m x.1 x.2 (nI (v + 1))
          rw [l_X6_stretchProperty_7, h.2.2.1, if_neg (nI_ge hv (by omega)), pX6_again h hf hv hfu]
          simp only [Option.bind_some]
          rw [q1, if_pos (nI_le (by omega) (by omega))]
          simp only [Option.bind_some, za1]
        · rw [zbe_f c]
          exact q1
        · rw [zbe_f c]
          exact q2)
    fu 0 ((0 : Int32), (-1 : Int32)) (by omega) (by omega) ⟨rfl, rfl⟩
  have e : l_X6_stretchProperty_7 fu σ i (nI what) fu (0 : Int32) (-1 : Int32) (0 : Int32) = some y := e
  unfold m_X6_stretchProperty zdb
  rw [e]
  simp only [Option.bind_some]
  rw [hy1, hy2]
  have b2 := zbe_le (f := f) (n := n) n
  have b1 : zdL f n ≤ n := b2.1
  rcases (show what = 0 ∨ what = 1 ∨ what = 2 by omega) with rfl | rfl | rfl
  · rw [if_pos (show nI 0 = (0 : Int32) from rfl), if_pos rfl, if_pos rfl]
    by_cases c : zdL f n = 0
    · rw [if_pos c, c]
    · rw [if_neg c]
  · rw [if_neg (show ¬ nI 1 = (0 : Int32) by decide), if_pos (show nI 1 = (1 : Int32) from rfl), if_neg (show ¬ (1 = 0) by decide), if_neg (show ¬ (1 = 0) by decide), if_pos rfl]
  · rw [if_neg (by decide), if_neg (by decide), if_neg (show ¬ (2 = 0) by decide), if_neg (show ¬ (2 = 0) by decide), if_neg (show ¬ (2 = 1) by decide)]
    by_cases c : zdL f n = 0
    · rw [if_pos c, if_pos c, if_neg (fun z => z rfl)]
      rfl
    · have hs := zsd_some (f := f) (n := n) (by omega)
      rw [if_neg c, if_neg c, if_pos (show ¬ nI (zdF f n) = (-1 : Int32) from nI_m1 (by omega)), pX6_places h hf (by omega) (by omega) hfu, hs.2.2]
      rfl
