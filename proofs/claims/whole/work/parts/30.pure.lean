/-! the functions themselves: what they answer (no machine from here on) -/
def zrw (σ : zmem) (i : Nat) (f : Nat → Int32) : zmem := (fun a => if a = i then f else σ.1 a, σ.2)
theorem zrw_1 {σ : zmem} {i a : Nat} {f : Nat → Int32} : (zrw σ i f).1 a = if a = i then f else σ.1 a := rfl
theorem zrw_2 {σ : zmem} {i : Nat} {f : Nat → Int32} : (zrw σ i f).2 = σ.2 := rfl
theorem zrw_at {σ : zmem} {i : Nat} {f : Nat → Int32} : (zrw σ i f).1 i = f := if_pos rfl
theorem zrw_ne {σ : zmem} {i a : Nat} {f : Nat → Int32} (h : a ≠ i) : (zrw σ i f).1 a = σ.1 a := if_neg h
theorem zrw_rw {σ : zmem} {i : Nat} {f h : Nat → Int32} : zrw (zrw σ i f) i h = zrw σ i h := by
  unfold zrw
  refine Prod.ext (funext fun a => ?_) rfl
  show (if a = i then h else if a = i then f else σ.1 a) = if a = i then h else σ.1 a
  by_cases q : a = i
  · rw [if_pos q, if_pos q]
  · rw [if_neg q, if_neg q, if_neg q]
theorem zrw_self {σ : zmem} {i : Nat} : zrw σ i (σ.1 i) = σ := by
  unfold zrw
  refine Prod.ext (funext fun a => ?_) rfl
  show (if a = i then σ.1 i else σ.1 a) = σ.1 a
  by_cases q : a = i
  · rw [if_pos q, q]
  · rw [if_neg q]
theorem zst_rw {σ : zmem} {i k : Nat} {v : Int32} : zst σ i k v = zrw σ i (upd (σ.1 i) k v) := by
  unfold zst zrw
  refine Prod.ext (funext fun a => ?_) rfl
  show zup σ.1 i k v a = if a = i then upd (σ.1 i) k v else σ.1 a
  by_cases q : a = i
  · rw [if_pos q, q, zup_row]
  · rw [if_neg q, zup_ne q]
theorem zrd_in {σ : zmem} {i j n : Nat} (hk : zkd i = (100, n)) (hj : j < n) (hn : n < 2 ^ 31) : zrd σ i (nI j) = some (σ.1 i j) := by
  unfold zrd
  rw [hk, if_neg (nI_in hj hn), nI_clamp (by omega)]
theorem zwr_in {σ : zmem} {i j n : Nat} {v : Int32} (hk : zkd i = (100, n)) (hj : j < n) (hn : n < 2 ^ 31) : zwr σ i (nI j) v = some (zrw σ i (upd (σ.1 i) j v)) := by
  unfold zwr
  rw [hk, if_neg (nI_in hj hn), nI_clamp (by omega), zst_rw]
theorem pX1_at {fu : Nat} {σ : zmem} {i j n : Nat} (hk : zkd (i + 1) = (100, n)) (hj : j < n) (hn : n < 2 ^ 31) : m_X1_at fu σ i (nI j) = some (σ.1 (i + 1) j) := by
  unfold m_X1_at
  rw [hk, if_neg (nI_pos (by omega)), if_neg (nI_ge hj hn), zrd_in hk hj hn]
  rfl
theorem pX1_store {fu : Nat} {σ : zmem} {i j n : Nat} {v : Int32} (hk : zkd (i + 1) = (100, n)) (hj : j < n) (hn : n < 2 ^ 31) : m_X1_store fu σ i (nI j) v = some (zrw σ (i + 1) (upd (σ.1 (i + 1)) j v)) := by
  unfold m_X1_store
  rw [hk, if_neg (nI_pos (by omega)), if_neg (nI_ge hj hn), zwr_in hk hj hn]
  rfl
theorem pX6_signAt {fu : Nat} {σ : zmem} {i j : Nat} (h : zkd i = (6, 0)) (hj : j < 24) : m_X6_signAt fu σ i (nI j) = some (σ.1 (i + 1) j) := by
  unfold m_X6_signAt
  rw [zs_6_0 h, if_neg (nI_pos (by omega)), if_neg (nI_ge hj (by decide)), zrd_in (zs_6_0 h) hj (by decide)]
  rfl
theorem pX6_write {fu : Nat} {σ : zmem} {i j : Nat} {v : Int32} (h : zkd i = (6, 0)) (hj : j < 24) : m_X6_write fu σ i (nI j) v = some (zrw σ (i + 1) (upd (σ.1 (i + 1)) j v)) := by
  unfold m_X6_write
  rw [zs_6_0 h, if_neg (nI_pos (by omega)), if_neg (nI_ge hj (by decide)), zwr_in (zs_6_0 h) hj (by decide)]
  rfl
/-- a row is laid: its length, its signs -/
def zRow (σ : zmem) (i n : Nat) (f : Nat → Nat) : Prop := zkd i = (6, 0) ∧ n ≤ 24 ∧ σ.1 i 1 = nI n ∧ ∀ j, j < n → σ.1 (i + 1) j = nI (f j)
theorem pX6_size {fu : Nat} {σ : zmem} {i n : Nat} {f : Nat → Nat} (h : zRow σ i n f) : m_X6_size fu σ i = some (nI n) := by
  unfold m_X6_size
  rw [h.2.2.1]
/-- a word as a number -/
def zwv (f : Nat → Nat) (p w : Nat) (b : Bool) : Nat → Nat
  | 0 => 0
  | k + 1 => zwv f p w b k * 4 + f (if b then p + w - 1 - k else p + k)
theorem zwv_lt {f : Nat → Nat} {p w n : Nat} {b : Bool} (hp : p + w ≤ n) (hf : ∀ j, j < n → f j < 4) : ∀ k, k ≤ w → zwv f p w b k < 4 ^ k := by
  intro k
  induction k with
  | zero => intro _; exact Nat.zero_lt_one
  | succ k ih =>
    intro hk
    have h1 := ih (by omega)
    have h2 := hf (if b then p + w - 1 - k else p + k) (by split <;> omega)
    show zwv f p w b k * 4 + f (if b then p + w - 1 - k else p + k) < 4 ^ (k + 1)
    rw [Nat.pow_succ]
    omega
theorem zwv_inj {f g : Nat → Nat} {p q w n n' : Nat} {b c : Bool} (hp : p + w ≤ n) (hf : ∀ j, j < n → f j < 4) (hq : q + w ≤ n') (hg : ∀ j, j < n' → g j < 4) : ∀ k, k ≤ w → (zwv f p w b k = zwv g q w c k ↔ ∀ j, j < k → f (if b then p + w - 1 - j else p + j) = g (if c then q + w - 1 - j else q + j)) := by
  intro k
  induction k with
  | zero => intro _; exact ⟨fun _ j hj => absurd hj (Nat.not_lt_zero _), fun _ => rfl⟩
  | succ k ih =>
    intro hk
    have h0 := ih (by omega)
    have h2 := hf (if b then p + w - 1 - k else p + k) (by split <;> omega)
    have h3 := hg (if c then q + w - 1 - k else q + k) (by split <;> omega)
    show zwv f p w b k * 4 + f (if b then p + w - 1 - k else p + k) = zwv g q w c k * 4 + g (if c then q + w - 1 - k else q + k) ↔ _
    constructor
    · intro h j hj
      have h4 : zwv f p w b k = zwv g q w c k := by omega
      have h5 : f (if b then p + w - 1 - k else p + k) = g (if c then q + w - 1 - k else q + k) := by omega
      rcases Nat.lt_succ_iff_lt_or_eq.mp hj with h6 | rfl
      · exact h0.mp h4 j h6
      · exact h5
    · intro h
      have h4 := h0.mpr (fun j hj => h j (by omega))
      have h5 := h k (by omega)
      omega
theorem pX6_wordAt_l {fu : Nat} {σ : zmem} {i n p w : Nat} {f : Nat → Nat} {b : Bool} (h : zRow σ i n f) (hp : p + w ≤ n) (hf : ∀ j, j < n → f j < 4) (hw : w ≤ 5) : ∀ m k, k ≤ w → w - k < m → l_X6_wordAt_6 fu σ i (nI p) (nI w) (if b then 1 else 0) m (nI (zwv f p w b k)) (nI k) = some (nI (zwv f p w b w)) := by
  have hn := h.2.1
  intro m
  induction m with
  | zero => intro k _ h9; omega
  | succ m ih =>
    intro k hk hm
    rw [l_X6_wordAt_6]
    by_cases hkw : w ≤ k
    · rw [if_pos (nI_le hkw (by omega)), show k = w by omega]
    · rw [if_neg (fun q => hkw ((nI_leI (by omega) (by omega)).mp q))]
      have hlt : zwv f p w b k < 4 ^ 5 := Nat.lt_of_lt_of_le (zwv_lt hp hf k hk) (Nat.pow_le_pow_right (by omega) (by omega))
      have e : (if (if b = true then (1 : Int32) else 0) = 0 then some (nI p + nI k) else some (nI p + nI w - 1 - nI k)) = some (nI (if b then p + w - 1 - k else p + k)) := by
        cases b
        · exact congrArg some (nI_add p k)
        · show some (nI p + nI w - nI 1 - nI k) = _
          rw [nI_add, pk_sub (by omega), pk_sub (by omega)]
          rfl
      rw [e]
      show (m_X6_signAt fu σ i (nI (if b then p + w - 1 - k else p + k))).bind _ = _
      have hj : (if b then p + w - 1 - k else p + k) < n := by split <;> omega
      rw [pX6_signAt h.1 (by omega), h.2.2.2 _ hj]
      show l_X6_wordAt_6 fu σ i (nI p) (nI w) (if b then 1 else 0) m (nI (zwv f p w b k) * nI 4 + nI (f (if b then p + w - 1 - k else p + k))) (nI k + nI 1) = _
      rw [pk_mul, nI_add, nI_add]
      exact ih (k + 1) (by omega) (by omega)
theorem pX6_wordAt {fu : Nat} {σ : zmem} {i n p w : Nat} {f : Nat → Nat} {b : Bool} (h : zRow σ i n f) (hp : p + w ≤ n) (hf : ∀ j, j < n → f j < 4) (hw : w ≤ 5) (hfu : 6 < fu) : m_X6_wordAt fu σ i (nI p) (nI w) (if b then 1 else 0) = some (nI (zwv f p w b w)) := by
  unfold m_X6_wordAt
  exact congrArg (fun o => o.bind fun x5 => some x5) (pX6_wordAt_l (fu := fu) (b := b) h hp hf hw fu 0 (by omega) (by omega))
theorem l0 : (0 : Int32) = nI 0 := rfl
theorem l1 : (1 : Int32) = nI 1 := rfl
theorem l2 : (2 : Int32) = nI 2 := rfl
theorem l3 : (3 : Int32) = nI 3 := rfl
theorem l4 : (4 : Int32) = nI 4 := rfl
theorem l5 : (5 : Int32) = nI 5 := rfl
theorem l6 : (6 : Int32) = nI 6 := rfl
theorem l24 : (24 : Int32) = nI 24 := rfl
theorem l25 : (25 : Int32) = nI 25 := rfl
theorem l50 : (50 : Int32) = nI 50 := rfl
theorem l52 : (52 : Int32) = nI 52 := rfl
theorem l54 : (54 : Int32) = nI 54 := rfl
theorem l60 : (60 : Int32) = nI 60 := rfl
theorem zs1 {v : Nat} (h : 1 ≤ v) : nI v - (1 : Int32) = nI (v - 1) := pk_sub h
theorem za1 {v : Nat} : nI v + (1 : Int32) = nI (v + 1) := nI_add v 1
theorem za2 {v : Nat} : nI v + (2 : Int32) = nI (v + 2) := nI_add v 2
/-- a row of memory, laid anew, and its length -/
def zRw (σ : zmem) (i n : Nat) (g : Nat → Int32) : zmem := zst (zrw σ (i + 1) g) i 1 (nI n)
theorem zst_1 {σ : zmem} {i k a : Nat} {v : Int32} (h : a ≠ i) : (zst σ i k v).1 a = σ.1 a := zup_ne h
theorem zst_at {σ : zmem} {i k : Nat} {v : Int32} : (zst σ i k v).1 i k = v := zup_at
theorem zst_s {σ : zmem} {i k j : Nat} {v : Int32} (h : j ≠ k) : (zst σ i k v).1 i j = σ.1 i j := zup_same h
theorem zRw_ne {σ : zmem} {i n a : Nat} {g : Nat → Int32} (h : a ≠ i) (h1 : a ≠ i + 1) : (zRw σ i n g).1 a = σ.1 a := (zst_1 h).trans (zrw_ne h1)
theorem zRw_row {σ : zmem} {i n : Nat} {f : Nat → Nat} {g : Nat → Int32} (hi : zkd i = (6, 0)) (hn : n ≤ 24) (hg : ∀ j, j < n → g j = nI (f j)) : zRow (zRw σ i n g) i n f := by
  refine ⟨hi, hn, zst_at, fun j hj => ?_⟩
  show (zst (zrw σ (i + 1) g) i 1 (nI n)).1 (i + 1) j = _
  rw [zst_1 (by omega), zrw_at]
  exact hg j hj
theorem zRow.keep {σ σ' : zmem} {i n : Nat} {f : Nat → Nat} (h : zRow σ i n f) (h1 : σ'.1 i = σ.1 i) (h2 : σ'.1 (i + 1) = σ.1 (i + 1)) : zRow σ' i n f := ⟨h.1, h.2.1, by rw [h1]; exact h.2.2.1, fun j hj => by rw [h2]; exact h.2.2.2 j hj⟩
theorem l_insert {fu i a : Nat} {x : Int32} (hi : zkd i = (6, 0)) : ∀ (m v : Nat) (σ : zmem), a ≤ v → v < 24 → v - a < m → l_X6_insert_27 fu i (nI a) x m (nI v) σ = some (zrw σ (i + 1) (fun j => if a < j ∧ j ≤ v then σ.1 (i + 1) (j - 1) else σ.1 (i + 1) j)) := by
  intro m
  induction m with
  | zero => intro v σ _ _ h; omega
  | succ m ih =>
    intro v σ h1 h2 h3
    rw [l_X6_insert_27]
    by_cases hv : v ≤ a
    · rw [if_pos (nI_le hv (by omega))]
      refine congrArg some ?_
      have e : (fun j => if a < j ∧ j ≤ v then σ.1 (i + 1) (j - 1) else σ.1 (i + 1) j) = σ.1 (i + 1) := funext fun j => if_neg (by omega)
      rw [e, zrw_self]
    · rw [if_neg (fun q => hv ((nI_leI (by omega) (by omega)).mp q)), zs1 (by omega), pX6_signAt hi (by omega)]
      show (m_X6_write fu σ i (nI v) (σ.1 (i + 1) (v - 1))).bind _ = _
      rw [pX6_write hi h2]
      show l_X6_insert_27 fu i (nI a) x m (nI (v - 1)) (zrw σ (i + 1) (upd (σ.1 (i + 1)) v (σ.1 (i + 1) (v - 1)))) = _
      rw [ih (v - 1) _ (by omega) (by omega) (by omega), zrw_rw, zrw_at]
      refine congrArg some (congrArg (zrw σ (i + 1)) (funext fun j => ?_))
      show (if a < j ∧ j ≤ v - 1 then upd (σ.1 (i + 1)) v (σ.1 (i + 1) (v - 1)) (j - 1) else upd (σ.1 (i + 1)) v (σ.1 (i + 1) (v - 1)) j) = _
      unfold upd
      by_cases c1 : a < j ∧ j ≤ v - 1
      · rw [if_pos c1, if_neg (by omega), if_pos (by omega)]
      · rw [if_neg c1]
        by_cases c2 : j = v
        · rw [if_pos c2, if_pos (by omega), c2]
        · rw [if_neg c2, if_neg (by omega)]
theorem pX6_insert {fu : Nat} {σ : zmem} {i n p : Nat} {f : Nat → Nat} {v : Int32} (h : zRow σ i n f) (hn : n < 24) (hp : p ≤ n) (hfu : 30 < fu) : ∃ g : Nat → Int32, m_X6_insert fu σ i (nI p) v = some (zRw σ i (n + 1) g) ∧ ∀ j, j ≤ n → g j = if j < p then nI (f j) else if j = p then v else nI (f (j - 1)) := by
  obtain ⟨hi, hn', h1, h2⟩ := h
  refine ⟨upd (fun j => if p < j ∧ j ≤ n then σ.1 (i + 1) (j - 1) else σ.1 (i + 1) j) p v, ?_, fun j hj => ?_⟩
  · unfold m_X6_insert
    rw [h1, if_neg (nI_pos (by omega)), if_neg (nI_nlt hp (by omega)), if_pos (show nI n < (24 : Int32) from nI_lt hn (by decide)), l_insert hi fu n σ hp hn (by omega)]
    show (m_X6_write fu _ i (nI p) v).bind _ = _
    rw [pX6_write hi (by omega), zrw_rw, zrw_at]
    show some (zst (zrw σ (i + 1) _) i 1 ((zrw σ (i + 1) _).1 i 1 + 1)) = _
    rw [zrw_ne (by omega), h1, za1]
    rfl
  · simp only [upd]
    repeat' split
    all_goals first | (exfalso; omega) | rfl | exact h2 _ (by omega)
theorem zrw_st {σ : zmem} {i a k : Nat} {v : Int32} {g : Nat → Int32} (h : a ≠ i) : zrw (zst σ i k v) a g = zst (zrw σ a g) i k v := by
  refine Prod.ext (funext fun b => funext fun j => ?_) rfl
  show (if b = a then g else zup σ.1 i k v b) j = (if b = i ∧ j = k then v else (if b = a then g else σ.1 b) j)
  unfold zup
  by_cases c1 : b = a
  · rw [if_pos c1, if_neg (by omega), if_pos c1]
  · rw [if_neg c1, if_neg c1]
theorem l_remove {fu i r n : Nat} (hi : zkd i = (6, 0)) (hn : n + r ≤ 24) : ∀ (m v : Nat) (σ : zmem), σ.1 i 1 = nI n → v ≤ n → n - v < m → l_X6_remove_36 fu i (nI r) m (nI v) σ = some (zrw σ (i + 1) (fun j => if v ≤ j ∧ j < n then σ.1 (i + 1) (j + r) else σ.1 (i + 1) j)) := by
  intro m
  induction m with
  | zero => intro v σ _ _ h; omega
  | succ m ih =>
    intro v σ h1 h2 h3
    rw [l_X6_remove_36, h1]
    by_cases hv : n ≤ v
    · rw [if_pos (nI_le hv (by omega))]
      have e : (fun j => if v ≤ j ∧ j < n then σ.1 (i + 1) (j + r) else σ.1 (i + 1) j) = σ.1 (i + 1) := funext fun j => if_neg (by omega)
      rw [e, zrw_self]
    · rw [if_neg (fun q => hv ((nI_leI (by omega) (by omega)).mp q)), nI_add, pX6_signAt hi (by omega)]
      show (m_X6_write fu σ i (nI v) (σ.1 (i + 1) (v + r))).bind _ = _
      rw [pX6_write hi (by omega)]
      show l_X6_remove_36 fu i (nI r) m (nI v + 1) (zrw σ (i + 1) (upd (σ.1 (i + 1)) v (σ.1 (i + 1) (v + r)))) = _
      rw [za1, ih (v + 1) _ (by rw [zrw_ne (by omega)]; exact h1) (by omega) (by omega), zrw_rw, zrw_at]
      refine congrArg some (congrArg (zrw σ (i + 1)) (funext fun j => ?_))
      simp only [upd]
      repeat' split
      all_goals first | (exfalso; omega) | rfl | (subst_vars; rfl)
theorem pX6_has {fu : Nat} {σ : zmem} {i n p : Nat} {f : Nat → Nat} (h : zRow σ i n f) (hp : p < n) : m_X6_has fu σ i (nI p) = some 1 := by
  obtain ⟨hi, hn', h1, h2⟩ := h
  unfold m_X6_has
  rw [h1, if_neg (nI_pos (by omega)), if_neg (nI_ge hp (by omega))]
theorem pX6_remove {fu : Nat} {σ : zmem} {i n p r : Nat} {f : Nat → Nat} (h : zRow σ i n f) (hr : 1 ≤ r) (hp : p + r ≤ n) (hfu : 30 < fu) : ∃ g : Nat → Int32, m_X6_remove fu σ i (nI p) (nI r) = some (zRw σ i (n - r) g) ∧ ∀ j, j < n - r → g j = nI (if j < p then f j else f (j + r)) := by
  have h' := h
  obtain ⟨hi, hn', h1, h2⟩ := h
  refine ⟨fun j => if p ≤ j ∧ j < n - r then σ.1 (i + 1) (j + r) else σ.1 (i + 1) j, ?_, fun j hj => ?_⟩
  · unfold m_X6_remove
    rw [pX6_has h' (by omega)]
    show (if (1 : Int32) = 0 then some σ else _) = _
    rw [if_neg (by decide), h1, l1, if_neg (nI_nlt hr (by omega)), pk_sub (by omega), if_pos (nI_le (by omega) (by omega)), pk_sub (by omega),
      l_remove hi (n := n - r) (by omega) fu p _ zst_at (by omega) (by omega), zst_1 (by omega), zrw_st (by omega)]
    rfl
  · dsimp only
    by_cases c1 : j < p
    · rw [if_pos c1, if_neg (by omega), h2 j (by omega)]
    · rw [if_neg c1, if_pos (by omega), h2 (j + r) (by omega)]
def zrc (f : Nat → Nat) : Nat → Nat → Nat → Nat
  | _, _, 0 => 0
  | a, b, m + 1 => if a < b then (if f a = f b then 0 else 2) + zrc f (a + 1) (b - 1) m else 0
theorem zrc_le (f : Nat → Nat) : ∀ m a b, zrc f a b m ≤ 2 * m := by
  intro m
  induction m with
  | zero => intro a b; exact Nat.le_refl _
  | succ m ih =>
    intro a b
    show (if a < b then (if f a = f b then 0 else 2) + zrc f (a + 1) (b - 1) m else 0) ≤ _
    have := ih (a + 1) (b - 1)
    repeat' split
    all_goals omega
theorem l_reverse {fu i : Nat} (hi : zkd i = (6, 0)) : ∀ (m a b : Nat) (c : Nat) (σ : zmem) (f : Nat → Nat), b < 24 → a ≤ b + 1 → (∀ j, a ≤ j → j ≤ b → σ.1 (i + 1) j = nI (f j) ∧ f j < 4) → b + 1 - a < m →
    l_X6_reverse_8 fu i m (nI c) (nI a) (nI b) σ = some (nI (c + zrc f a b m), zrw σ (i + 1) (fun j => if a ≤ j ∧ j ≤ b then σ.1 (i + 1) (a + b - j) else σ.1 (i + 1) j)) := by
  intro m
  induction m with
  | zero => intro a b c σ f _ _ _ h; omega
  | succ m ih =>
    intro a b c σ f h1 h2 h3 h4
    rw [l_X6_reverse_8]
    show _ = some (nI (c + (if a < b then (if f a = f b then 0 else 2) + zrc f (a + 1) (b - 1) m else 0)), _)
    by_cases hv : b ≤ a
    · rw [if_pos (nI_le hv (by omega)), if_neg (by omega)]
      have e : (fun j => if a ≤ j ∧ j ≤ b then σ.1 (i + 1) (a + b - j) else σ.1 (i + 1) j) = σ.1 (i + 1) := funext fun j => by
        by_cases c1 : a ≤ j ∧ j ≤ b
        · rw [if_pos c1, show a + b - j = j by omega]
        · rw [if_neg c1]
      rw [e, zrw_self]
      rfl
    · obtain ⟨fa, la⟩ := h3 a (by omega) (by omega)
      obtain ⟨fb, lb⟩ := h3 b (by omega) (by omega)
      rw [if_neg (fun q => hv ((nI_leI (by omega) (by omega)).mp q)), if_pos (by omega), pX6_signAt hi (by omega), pX6_signAt hi (by omega)]
      show ((if ¬ σ.1 (i + 1) a = σ.1 (i + 1) b then some (2 : Int32) else some (0 : Int32)) : Option Int32).bind _ = _
      have e1 : (if ¬ σ.1 (i + 1) a = σ.1 (i + 1) b then some (2 : Int32) else some (0 : Int32)) = some (nI (if f a = f b then 0 else 2)) := by
        rw [fa, fb]
        by_cases c1 : f a = f b
        · rw [if_neg (fun q => q (congrArg nI c1)), if_pos c1]; rfl
        · rw [if_pos (fun q => c1 ((nI_eq (by omega) (by omega)).mp q)), if_neg c1]; rfl
      rw [e1]
      show (m_X6_write fu σ i (nI a) (σ.1 (i + 1) b)).bind _ = _
      rw [pX6_write hi (by omega)]
      show (m_X6_write fu (zrw σ (i + 1) (upd (σ.1 (i + 1)) a (σ.1 (i + 1) b))) i (nI b) (σ.1 (i + 1) a)).bind _ = _
      rw [pX6_write hi (by omega), zrw_rw, zrw_at]
      show l_X6_reverse_8 fu i m (nI c + nI (if f a = f b then 0 else 2)) (nI a + 1) (nI b - 1) _ = _
      rw [nI_add, za1, zs1 (by omega), ih (a + 1) (b - 1) _ _ f (by omega) (by omega) (fun j j1 j2 => ?_) (by omega), zrw_rw, zrw_at, Nat.add_assoc]
      · refine congrArg some (Prod.ext rfl (congrArg (zrw σ (i + 1)) (funext fun j => ?_)))
        unfold upd
        by_cases c1 : a + 1 ≤ j ∧ j ≤ b - 1
        · rw [if_pos c1, if_neg (by omega), if_neg (by omega), if_pos (by omega), show a + 1 + (b - 1) - j = a + b - j by omega]
        · rw [if_neg c1]
          by_cases c2 : j = b
          · rw [if_pos c2, if_pos (by omega), c2, show a + b - b = a by omega]
          · rw [if_neg c2]
            by_cases c3 : j = a
            · rw [if_pos c3, if_pos (by omega), c3, show a + b - a = b by omega]
            · rw [if_neg c3, if_neg (by omega)]
      · rw [zrw_at]
        unfold upd
        rw [if_neg (by omega), if_neg (by omega)]
        exact h3 j (by omega) (by omega)
theorem pX6_reverse {fu : Nat} {σ : zmem} {i n a b : Nat} {f : Nat → Nat} (h : zRow σ i n f) (hf : ∀ j, j < n → f j < 4) (hab : a ≤ b) (hb : b < n) (hfu : 30 < fu) : ∃ g : Nat → Int32, m_X6_reverse fu σ i (nI a) (nI b) = some (nI (zrc f a b fu), zrw σ (i + 1) g) ∧ ∀ j, j < n → g j = nI (if a ≤ j ∧ j ≤ b then f (a + b - j) else f j) := by
  obtain ⟨hi, hn', h1, h2⟩ := h
  refine ⟨fun j => if a ≤ j ∧ j ≤ b then σ.1 (i + 1) (a + b - j) else σ.1 (i + 1) j, ?_, fun j hj => ?_⟩
  · unfold m_X6_reverse
    rw [show (0 : Int32) = nI 0 from rfl, l_reverse hi fu a b 0 σ f (by omega) (by omega) (fun j j1 j2 => ⟨h2 j (by omega), hf j (by omega)⟩) (by omega), Nat.zero_add]
    rfl
  · dsimp only
    by_cases c1 : a ≤ j ∧ j ≤ b
    · rw [if_pos c1, if_pos c1, h2 _ (by omega)]
    · rw [if_neg c1, if_neg c1, h2 _ hj]
theorem l_takeRow {fu i k : Nat} (hi : zkd i = (6, 0)) (hk : zkd k = (6, 0)) (hik : i ≠ k) : ∀ (m v : Nat) (σ : zmem), v ≤ 24 → 24 - v < m → l_X6_takeRow_10 fu i k m (nI v) σ = some (zrw σ (i + 1) (fun j => if v ≤ j ∧ j < 24 then σ.1 (k + 1) j else σ.1 (i + 1) j)) := by
  intro m
  induction m with
  | zero => intro v σ _ h; omega
  | succ m ih =>
    intro v σ h2 h3
    rw [l_X6_takeRow_10, l24]
    by_cases hv : 24 ≤ v
    · rw [if_pos (nI_le hv (by omega))]
      have e : (fun j => if v ≤ j ∧ j < 24 then σ.1 (k + 1) j else σ.1 (i + 1) j) = σ.1 (i + 1) := funext fun j => if_neg (by omega)
      rw [e, zrw_self]
    · rw [if_neg (fun q => hv ((nI_leI (by omega) (by omega)).mp q)), pX6_signAt hk (by omega)]
      show (m_X6_write fu σ i (nI v) (σ.1 (k + 1) v)).bind _ = _
      rw [pX6_write hi (by omega)]
      show l_X6_takeRow_10 fu i k m (nI v + 1) _ = _
      rw [za1, ih (v + 1) _ (by omega) (by omega), zrw_rw, zrw_at, zrw_ne (by omega)]
      refine congrArg some (congrArg (zrw σ (i + 1)) (funext fun j => ?_))
      simp only [upd]
      repeat' split
      all_goals first | (exfalso; omega) | rfl | (subst_vars; rfl)
theorem pX6_takeRow {fu : Nat} {σ : zmem} {i k n : Nat} {f : Nat → Nat} (hi : zkd i = (6, 0)) (h : zRow σ k n f) (hik : i ≠ k) (hik1 : i ≠ k + 1) (hfu : 30 < fu) : ∃ g : Nat → Int32, m_X6_takeRow fu σ i k = some (zRw σ i n g) ∧ ∀ j, j < n → g j = nI (f j) := by
  obtain ⟨hk, hn', h1, h2⟩ := h
  refine ⟨fun j => if 0 ≤ j ∧ j < 24 then (zst σ i 1 (nI n)).1 (k + 1) j else (zst σ i 1 (nI n)).1 (i + 1) j, ?_, fun j hj => ?_⟩
  · unfold m_X6_takeRow
    rw [h1, show (0 : Int32) = nI 0 from rfl, l_takeRow hi hk hik fu 0 _ (by omega) (by omega), zrw_st (by omega)]
    rfl
  · dsimp only
    rw [if_pos (by omega), zst_1 (by omega), h2 j hj]
theorem pX6_extend {fu : Nat} {σ : zmem} {i n : Nat} {f : Nat → Nat} {v : Int32} (h : zRow σ i n f) (hn : n < 24) : ∃ g : Nat → Int32, m_X6_extend fu σ i v = some (zRw σ i (n + 1) g) ∧ ∀ j, j < n + 1 → g j = if j = n then v else nI (f j) := by
  obtain ⟨hi, hn', h1, h2⟩ := h
  refine ⟨upd (σ.1 (i + 1)) n v, ?_, fun j hj => ?_⟩
  · unfold m_X6_extend
    rw [h1, l24, if_neg (nI_ge hn (by decide)), pX6_write hi hn]
    show some (zst (zrw σ (i + 1) _) i 1 ((zrw σ (i + 1) _).1 i 1 + 1)) = _
    rw [zrw_ne (by omega), h1, za1]
    rfl
  · simp only [upd]
    repeat' split
    all_goals first | (exfalso; omega) | rfl | exact h2 _ (by omega)
