/-! the words of a state, its anchors (turned or not), as plain functions; loops over any state -/
theorem loopG {α β : Type} {L : Nat → Nat → α → Option β} {N : Nat} {P : Nat → α → Prop} {R : β → Prop} (h0 : ∀ n x, P N x → ∃ y, L (n + 1) N x = some y ∧ R y) (h1 : ∀ n v x, v < N → P v x → ∃ x', L (n + 1) v x = L n (v + 1) x' ∧ P (v + 1) x') : ∀ (m v : Nat) (x : α), v ≤ N → N - v < m → P v x → ∃ y, L m v x = some y ∧ R y := by
  intro m
  induction m with
  | zero => intro v x _ h; omega
  | succ m ih =>
    intro v x hv hm hP
    by_cases h : v = N
    · subst h
      exact h0 m x hP
    · obtain ⟨x', e, hP'⟩ := h1 m v x (by omega) hP
      obtain ⟨y, e2, hR⟩ := ih (v + 1) x' (by omega) (by omega) hP'
      exact ⟨y, e.trans e2, hR⟩
/-- only cells from lo up to hi have changed -/
def zfn (σ σ' : zmem) (lo hi : Nat) : Prop := (∀ a, a < lo ∨ hi ≤ a → σ'.1 a = σ.1 a) ∧ σ'.2 = σ.2
theorem zfn.rf {σ : zmem} {lo hi : Nat} : zfn σ σ lo hi := ⟨fun _ _ => rfl, rfl⟩
theorem zfn.tr {σ σ1 σ2 : zmem} {lo hi : Nat} (h : zfn σ σ1 lo hi) (h2 : zfn σ1 σ2 lo hi) : zfn σ σ2 lo hi := ⟨fun a ha => (h2.1 a ha).trans (h.1 a ha), h2.2.trans h.2⟩
theorem zfn.mono {σ σ1 : zmem} {lo hi lo' hi' : Nat} (h : zfn σ σ1 lo hi) (h1 : lo' ≤ lo) (h2 : hi ≤ hi') : zfn σ σ1 lo' hi' := ⟨fun a ha => h.1 a (by omega), h.2⟩
theorem zfn_rw {σ : zmem} {i lo hi : Nat} {g : Nat → Int32} (h : lo ≤ i) (h1 : i < hi) : zfn σ (zrw σ i g) lo hi := ⟨fun a ha => zrw_ne (by omega), rfl⟩
theorem zfn_st {σ : zmem} {i k lo hi : Nat} {v : Int32} (h : lo ≤ i) (h1 : i < hi) : zfn σ (zst σ i k v) lo hi := ⟨fun a ha => zst_1 (by omega), rfl⟩
theorem zfn.fr {σ σ' : zmem} {l : List Nat} {lo hi : Nat} (h : zfr σ σ' l) (hl : ∀ a, a ∈ l → lo ≤ a ∧ a < hi) : zfn σ σ' lo hi := ⟨fun a ha => h.1 a (fun q => by have := hl a q; omega), h.2⟩
theorem zRow.keepn {σ σ' : zmem} {i n lo hi : Nat} {f : Nat → Nat} (h : zRow σ i n f) (hf : zfn σ σ' lo hi) (hd : hi ≤ i ∨ i + 1 < lo) : zRow σ' i n f := h.keep (hf.1 _ (by omega)) (hf.1 _ (by omega))
theorem zRs.keepn {σ σ' : zmem} {b lo hi : Nat} {n : Nat → Nat} {f : Nat → Nat → Nat} (h : zRs σ b n f) (hf : zfn σ σ' lo hi) (hd : hi ≤ b ∨ b + 6 < lo) : zRs σ' b n f := ⟨h.1, h.2.1.keepn hf (by omega), h.2.2.keepn hf (by omega)⟩
theorem zSt.keepn {σ σ' : zmem} {b lo hi : Nat} {S : zS} (h : zSt σ b S) (hf : zfn σ σ' lo hi) (hd : hi ≤ b ∨ b + 6 < lo) : zSt σ' b S := ⟨h.1.keepn hf hd, fun k hk => by rw [hf.1 _ (by omega)]; exact h.2 k hk⟩
/-- a state as it can be -/
def zWf (S : zS) : Prop := S.1 0 ≤ 24 ∧ S.1 1 ≤ 24 ∧ (∀ r j, S.2.1 r j < 4) ∧ 2 ≤ S.2.2 0 ∧ S.2.2 0 ≤ 5 ∧ S.2.2 1 ≤ 9 ∧ S.2.2 2 ≤ 9 ∧ S.2.2 3 ≤ 24
theorem zWf.le {S : zS} (h : zWf S) {r : Nat} (hr : r < 2) : S.1 r ≤ 24 := by
  rcases (show r = 0 ∨ r = 1 by omega) with rfl | rfl
  · exact h.1
  · exact h.2.1
def zct (P : Nat → Bool) : Nat → Nat
  | 0 => 0
  | n + 1 => zct P n + (if P n then 1 else 0)
def zls (P : Nat → Bool) : Nat → Nat
  | 0 => 0
  | n + 1 => if P n then n else zls P n
theorem zct_le {P : Nat → Bool} : ∀ n, zct P n ≤ n := by
  intro n
  induction n with
  | zero => exact Nat.le_refl _
  | succ n ih =>
    show zct P n + (if P n then 1 else 0) ≤ n + 1
    split <;> omega
theorem zct_congr {P Q : Nat → Bool} : ∀ n, (∀ q, q < n → P q = Q q) → zct P n = zct Q n := by
  intro n
  induction n with
  | zero => intro _; rfl
  | succ n ih =>
    intro h
    show zct P n + (if P n then 1 else 0) = zct Q n + (if Q n then 1 else 0)
    rw [ih (fun q hq => h q (by omega)), h n (by omega)]
theorem zls_congr {P Q : Nat → Bool} : ∀ n, (∀ q, q < n → P q = Q q) → zls P n = zls Q n := by
  intro n
  induction n with
  | zero => intro _; rfl
  | succ n ih =>
    intro h
    show (if P n then n else zls P n) = (if Q n then n else zls Q n)
    rw [ih (fun q hq => h q (by omega)), h n (by omega)]
theorem zct_pos {P : Nat → Bool} {q : Nat} : ∀ n, q < n → P q = true → 1 ≤ zct P n := by
  intro n
  induction n with
  | zero => intro h; omega
  | succ n ih =>
    intro h hq
    show 1 ≤ zct P n + (if P n then 1 else 0)
    by_cases c : q = n
    · subst c
      rw [if_pos hq]
      omega
    · have := ih (by omega) hq
      omega
theorem zct_last {P : Nat → Bool} : ∀ n, 1 ≤ zct P n → zls P n < n ∧ P (zls P n) = true := by
  intro n
  induction n with
  | zero => intro h; exact absurd h (Nat.not_succ_le_zero 0)
  | succ n ih =>
    intro h
    show (if P n then n else zls P n) < n + 1 ∧ P (if P n then n else zls P n) = true
    by_cases c : P n = true
    · rw [if_pos c]
      exact ⟨by omega, c⟩
    · have h : 1 ≤ zct P n + (if P n then 1 else 0) := h
      rw [if_neg c] at h
      rw [if_neg c]
      have := ih (by omega)
      exact ⟨by omega, this.2⟩
theorem zct_one {P : Nat → Bool} {q : Nat} : ∀ n, zct P n = 1 → q < n → P q = true → zls P n = q := by
  intro n
  induction n with
  | zero => intro _ h; omega
  | succ n ih =>
    intro h hn hq
    have h : zct P n + (if P n then 1 else 0) = 1 := h
    show (if P n then n else zls P n) = q
    by_cases c : q = n
    · subst c
      rw [if_pos hq]
    · have h1 := zct_pos n (show q < n by omega) hq
      by_cases d : P n = true
      · rw [if_pos d] at h
        omega
      · rw [if_neg d] at h
        rw [if_neg d]
        exact ih h (by omega) hq
/-- whether the word at p of the upper row stands at q of row r, read backwards or not -/
def zeq (S : zS) (r p q : Nat) (b : Bool) : Bool := decide (∀ k, k < S.2.2 0 → S.2.1 r (q + k) = S.2.1 0 (if b then p + S.2.2 0 - 1 - k else p + k))
def zwn (S : zS) (r : Nat) : Nat := S.1 r + 1 - S.2.2 0
/-- the lower place of the anchor at upper place p, where there is one -/
def zap (S : zS) (b : Bool) (p : Nat) : Option Nat := if zct (fun q => zeq S 0 p q false) (zwn S 0) = 1 ∧ (b = true → zeq S 0 p p true = false) ∧ zct (fun q => zeq S 1 p q b) (zwn S 1) = 1 then some (zls (fun q => zeq S 1 p q b) (zwn S 1)) else none
abbrev zAt : Type := Nat × (Nat → Nat) × (Nat → Nat)
def zadd (A : zAt) (p q : Nat) : zAt := (A.1 + 1, fun i => if i = A.1 then p else A.2.1 i, fun i => if i = A.1 then q else A.2.2 i)
def zal (S : zS) (b : Bool) : Nat → zAt
  | 0 => (0, fun _ => 0, fun _ => 0)
  | p + 1 => match zap S b p with
    | none => zal S b p
    | some q => zadd (zal S b p) p q
def zanc (S : zS) (b : Bool) : zAt := zal S b (zwn S 0)
theorem zal_none {S : zS} {b : Bool} {p : Nat} (h : zap S b p = none) : zal S b (p + 1) = zal S b p := by
  show (match zap S b p with
    | none => zal S b p
    | some q => zadd (zal S b p) p q) = _
  rw [h]
theorem zal_some {S : zS} {b : Bool} {p q : Nat} (h : zap S b p = some q) : zal S b (p + 1) = zadd (zal S b p) p q := by
  show (match zap S b p with
    | none => zal S b p
    | some q => zadd (zal S b p) p q) = _
  rw [h]
theorem zal_le {S : zS} {b : Bool} : ∀ p, (zal S b p).1 ≤ p := by
  intro p
  induction p with
  | zero => exact Nat.le_refl _
  | succ p ih =>
    cases h : zap S b p with
    | none => rw [zal_none h]; omega
    | some q => rw [zal_some h]; show (zal S b p).1 + 1 ≤ p + 1; omega
theorem zal_in {S : zS} {b : Bool} : ∀ p, ∀ i, i < (zal S b p).1 → (zal S b p).2.1 i < p ∧ (zal S b p).2.2 i < zwn S 1 := by
  intro p
  induction p with
  | zero => intro i hi; exact absurd hi (Nat.not_lt_zero _)
  | succ p ih =>
    intro i hi
    cases h : zap S b p with
    | none =>
      rw [zal_none h] at hi ⊢
      have := ih i hi
      omega
    | some q =>
      rw [zal_some h] at hi ⊢
      have hi : i < (zal S b p).1 + 1 := hi
      show (if i = (zal S b p).1 then p else (zal S b p).2.1 i) < p + 1 ∧ (if i = (zal S b p).1 then q else (zal S b p).2.2 i) < zwn S 1
      by_cases c : i = (zal S b p).1
      · rw [if_pos c, if_pos c]
        refine ⟨by omega, ?_⟩
        unfold zap at h
        split at h
        · rename_i c2
          have := zct_last (zwn S 1) (Nat.le_of_eq c2.2.2.symm)
          injection h with h
          omega
        · exact absurd h (by simp)
      · rw [if_neg c, if_neg c]
        have := ih i (by omega)
        omega
theorem zal_up {S : zS} {b : Bool} : ∀ p, ∀ i j, i < j → j < (zal S b p).1 → (zal S b p).2.1 i < (zal S b p).2.1 j := by
  intro p
  induction p with
  | zero => intro i j _ hi; exact absurd hi (Nat.not_lt_zero _)
  | succ p ih =>
    intro i j hij hj
    cases h : zap S b p with
    | none =>
      rw [zal_none h] at hj ⊢
      exact ih i j hij hj
    | some q =>
      rw [zal_some h] at hj ⊢
      have hj : j < (zal S b p).1 + 1 := hj
      show (if i = (zal S b p).1 then p else (zal S b p).2.1 i) < (if j = (zal S b p).1 then p else (zal S b p).2.1 j)
      rw [if_neg (show ¬ i = (zal S b p).1 by omega)]
      by_cases c : j = (zal S b p).1
      · rw [if_pos c]
        exact (zal_in p i (by omega)).1
      · rw [if_neg c]
        exact ih i j hij (by omega)
