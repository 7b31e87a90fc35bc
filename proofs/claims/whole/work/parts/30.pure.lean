/-! the functions themselves: what they answer (no machine from here on) -/
def zrw (σ : zmem) (i : Nat) (f : Nat → Int32) : zmem := (fun a => if a = i then f else σ.1 a, σ.2)
theorem zrw_1 {σ : zmem} {i a : Nat} {f : Nat → Int32} : (zrw σ i f).1 a = if a = i then f else σ.1 a := rfl
theorem zrw_2 {σ : zmem} {i : Nat} {f : Nat → Int32} : (zrw σ i f).2 = σ.2 := rfl
theorem zrw_at {σ : zmem} {i : Nat} {f : Nat → Int32} : (zrw σ i f).1 i = f := if_pos rfl
theorem zrw_ne {σ : zmem} {i a : Nat} {f : Nat → Int32} (h : a ≠ i) : (zrw σ i f).1 a = σ.1 a := if_neg h
theorem zrw_rw {σ : zmem} {i : Nat} {f h : Nat → Int32} : zrw (zrw σ i f) i h = zrw σ i h := by
  unfold zrw
  refine Prod.ext (funext fun a => ?_) rfl
  show (if a = i then h else if a = i then f else σ.1 a) = if a = i then h else σ.1 a
  by_cases q : a = i
  · rw [if_pos q, if_pos q]
  · rw [if_neg q, if_neg q, if_neg q]
theorem zrw_self {σ : zmem} {i : Nat} : zrw σ i (σ.1 i) = σ := by
  unfold zrw
  refine Prod.ext (funext fun a => ?_) rfl
  show (if a = i then σ.1 i else σ.1 a) = σ.1 a
  by_cases q : a = i
  · rw [if_pos q, q]
  · rw [if_neg q]
theorem zst_rw {σ : zmem} {i k : Nat} {v : Int32} : zst σ i k v = zrw σ i (upd (σ.1 i) k v) := by
  unfold zst zrw
  refine Prod.ext (funext fun a => ?_) rfl
  show zup σ.1 i k v a = if a = i then upd (σ.1 i) k v else σ.1 a
  by_cases q : a = i
  · rw [if_pos q, q, zup_row]
  · rw [if_neg q, zup_ne q]
theorem zrd_in {σ : zmem} {i j n : Nat} (hk : zkd i = (100, n)) (hj : j < n) (hn : n < 2 ^ 31) : zrd σ i (nI j) = some (σ.1 i j) := by
  unfold zrd
  rw [hk, if_neg (nI_in hj hn), nI_clamp (by omega)]
theorem zwr_in {σ : zmem} {i j n : Nat} {v : Int32} (hk : zkd i = (100, n)) (hj : j < n) (hn : n < 2 ^ 31) : zwr σ i (nI j) v = some (zrw σ i (upd (σ.1 i) j v)) := by
  unfold zwr
  rw [hk, if_neg (nI_in hj hn), nI_clamp (by omega), zst_rw]
theorem pX1_at {fu : Nat} {σ : zmem} {i j n : Nat} (hk : zkd (i + 1) = (100, n)) (hj : j < n) (hn : n < 2 ^ 31) : m_X1_at fu σ i (nI j) = some (σ.1 (i + 1) j) := by
  unfold m_X1_at
  rw [hk, if_neg (nI_pos (by omega)), if_neg (nI_ge hj hn), zrd_in hk hj hn]
  rfl
theorem pX1_store {fu : Nat} {σ : zmem} {i j n : Nat} {v : Int32} (hk : zkd (i + 1) = (100, n)) (hj : j < n) (hn : n < 2 ^ 31) : m_X1_store fu σ i (nI j) v = some (zrw σ (i + 1) (upd (σ.1 (i + 1)) j v)) := by
  unfold m_X1_store
  rw [hk, if_neg (nI_pos (by omega)), if_neg (nI_ge hj hn), zwr_in hk hj hn]
  rfl
theorem pX6_signAt {fu : Nat} {σ : zmem} {i j : Nat} (h : zkd i = (6, 0)) (hj : j < 24) : m_X6_signAt fu σ i (nI j) = some (σ.1 (i + 1) j) := by
  unfold m_X6_signAt
  rw [zs_6_0 h, if_neg (nI_pos (by omega)), if_neg (nI_ge hj (by decide)), zrd_in (zs_6_0 h) hj (by decide)]
  rfl
theorem pX6_write {fu : Nat} {σ : zmem} {i j : Nat} {v : Int32} (h : zkd i = (6, 0)) (hj : j < 24) : m_X6_write fu σ i (nI j) v = some (zrw σ (i + 1) (upd (σ.1 (i + 1)) j v)) := by
  unfold m_X6_write
  rw [zs_6_0 h, if_neg (nI_pos (by omega)), if_neg (nI_ge hj (by decide)), zwr_in (zs_6_0 h) hj (by decide)]
  rfl
/-- a row is laid: its length, its signs -/
def zRow (σ : zmem) (i n : Nat) (f : Nat → Nat) : Prop := zkd i = (6, 0) ∧ n ≤ 24 ∧ σ.1 i 1 = nI n ∧ ∀ j, j < n → σ.1 (i + 1) j = nI (f j)
theorem pX6_size {fu : Nat} {σ : zmem} {i n : Nat} {f : Nat → Nat} (h : zRow σ i n f) : m_X6_size fu σ i = some (nI n) := by
  unfold m_X6_size
  rw [h.2.2.1]
/-- a word as a number -/
def zwv (f : Nat → Nat) (p w : Nat) (b : Bool) : Nat → Nat
  | 0 => 0
  | k + 1 => zwv f p w b k * 4 + f (if b then p + w - 1 - k else p + k)
theorem zwv_lt {f : Nat → Nat} {p w n : Nat} {b : Bool} (hp : p + w ≤ n) (hf : ∀ j, j < n → f j < 4) : ∀ k, k ≤ w → zwv f p w b k < 4 ^ k := by
  intro k
  induction k with
  | zero => intro _; decide
  | succ k ih =>
    intro hk
    have h1 := ih (by omega)
    have h2 := hf (if b then p + w - 1 - k else p + k) (by split <;> omega)
    show zwv f p w b k * 4 + f (if b then p + w - 1 - k else p + k) < 4 ^ (k + 1)
    rw [Nat.pow_succ]
    omega
theorem zwv_inj {f g : Nat → Nat} {p q w n n' : Nat} {b c : Bool} (hp : p + w ≤ n) (hf : ∀ j, j < n → f j < 4) (hq : q + w ≤ n') (hg : ∀ j, j < n' → g j < 4) : ∀ k, k ≤ w → (zwv f p w b k = zwv g q w c k ↔ ∀ j, j < k → f (if b then p + w - 1 - j else p + j) = g (if c then q + w - 1 - j else q + j)) := by
  intro k
  induction k with
  | zero => intro _; exact ⟨fun _ j hj => absurd hj (Nat.not_lt_zero _), fun _ => rfl⟩
  | succ k ih =>
    intro hk
    have h0 := ih (by omega)
    have h2 := hf (if b then p + w - 1 - k else p + k) (by split <;> omega)
    have h3 := hg (if c then q + w - 1 - k else q + k) (by split <;> omega)
    show zwv f p w b k * 4 + f (if b then p + w - 1 - k else p + k) = zwv g q w c k * 4 + g (if c then q + w - 1 - k else q + k) ↔ _
    constructor
    · intro h j hj
      have h4 : zwv f p w b k = zwv g q w c k := by omega
      have h5 : f (if b then p + w - 1 - k else p + k) = g (if c then q + w - 1 - k else q + k) := by omega
      rcases Nat.lt_succ_iff_lt_or_eq.mp hj with h6 | rfl
      · exact h0.mp h4 j h6
      · exact h5
    · intro h
      have h4 := h0.mpr (fun j hj => h j (by omega))
      have h5 := h k (by omega)
      omega
theorem pX6_wordAt_l {fu : Nat} {σ : zmem} {i n p w : Nat} {f : Nat → Nat} {b : Bool} (h : zRow σ i n f) (hp : p + w ≤ n) (hf : ∀ j, j < n → f j < 4) (hw : w ≤ 5) : ∀ m k, k ≤ w → w - k < m → l_X6_wordAt_6 fu σ i (nI p) (nI w) (if b then 1 else 0) m (nI (zwv f p w b k)) (nI k) = some (nI (zwv f p w b w)) := by
  have hn := h.2.1
  intro m
  induction m with
  | zero => intro k _ h9; omega
  | succ m ih =>
    intro k hk hm
    rw [l_X6_wordAt_6]
    by_cases hkw : w ≤ k
    · rw [if_pos (nI_le hkw (by omega)), show k = w by omega]
    · rw [if_neg (fun q => hkw ((nI_leI (by omega) (by omega)).mp q))]
      have hlt : zwv f p w b k < 4 ^ 5 := Nat.lt_of_lt_of_le (zwv_lt hp hf k hk) (Nat.pow_le_pow_right (by omega) (by omega))
      have e : (if (if b = true then (1 : Int32) else 0) = 0 then some (nI p + nI k) else some (nI p + nI w - 1 - nI k)) = some (nI (if b then p + w - 1 - k else p + k)) := by
        cases b
        · exact congrArg some (nI_add p k)
        · show some (nI p + nI w - nI 1 - nI k) = _
          rw [nI_add, pk_sub (by omega), pk_sub (by omega)]
          rfl
      rw [e]
      show (m_X6_signAt fu σ i (nI (if b then p + w - 1 - k else p + k))).bind _ = _
      have hj : (if b then p + w - 1 - k else p + k) < n := by split <;> omega
      rw [pX6_signAt h.1 (by omega), h.2.2.2 _ hj]
      show l_X6_wordAt_6 fu σ i (nI p) (nI w) (if b then 1 else 0) m (nI (zwv f p w b k) * nI 4 + nI (f (if b then p + w - 1 - k else p + k))) (nI k + nI 1) = _
      rw [pk_mul, nI_add, nI_add]
      exact ih (k + 1) (by omega) (by omega)
theorem pX6_wordAt {fu : Nat} {σ : zmem} {i n p w : Nat} {f : Nat → Nat} {b : Bool} (h : zRow σ i n f) (hp : p + w ≤ n) (hf : ∀ j, j < n → f j < 4) (hw : w ≤ 5) (hfu : 6 < fu) : m_X6_wordAt fu σ i (nI p) (nI w) (if b then 1 else 0) = some (nI (zwv f p w b w)) := by
  unfold m_X6_wordAt
  rw [show (0 : Int32) = nI (zwv f p w b 0) from rfl, show nI (zwv f p w b 0) = nI 0 from rfl]
  have := pX6_wordAt_l (fu := fu) (b := b) h hp hf hw fu 0 (by omega) (by omega)
  rw [show nI (zwv f p w b 0) = nI 0 from rfl] at this
  rw [this]
  rfl
