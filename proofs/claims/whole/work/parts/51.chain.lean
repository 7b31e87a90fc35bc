/-! anchors that fit, the chain: plain functions -/
def zft (w : Nat) (A : zAt) (i j : Nat) : Bool := decide (A.2.1 i < A.2.1 j ∧ A.2.2 i < A.2.2 j ∧ (A.2.1 j - A.2.1 i = A.2.2 j - A.2.2 i ∨ (w ≤ A.2.1 j - A.2.1 i ∧ w ≤ A.2.2 j - A.2.2 i)))
def zmx (P : Nat → Bool) (g : Nat → Nat) : Nat → Nat
  | 0 => 0
  | n + 1 => if P n then max (zmx P g n) (g n) else zmx P g n
theorem zmx_t {P : Nat → Bool} {g : Nat → Nat} {n : Nat} (h : P n = true) : zmx P g (n + 1) = max (zmx P g n) (g n) := if_pos h
theorem zmx_f {P : Nat → Bool} {g : Nat → Nat} {n : Nat} (h : ¬ P n = true) : zmx P g (n + 1) = zmx P g n := if_neg h
theorem zmx_le {P : Nat → Bool} {g : Nat → Nat} {B : Nat} : ∀ n, (∀ i, i < n → P i = true → g i ≤ B) → zmx P g n ≤ B := by
  intro n
  induction n with
  | zero => intro _; exact Nat.zero_le _
  | succ n ih =>
    intro h
    have h1 := ih (fun i hi => h i (by omega))
    by_cases c : P n = true
    · rw [zmx_t c]
      have := h n (by omega) c
      omega
    · rw [zmx_f c]
      exact h1
theorem zmx_zero {P : Nat → Bool} {g : Nat → Nat} : ∀ n, (∀ i, i < n → P i = false) → zmx P g n = 0 := by
  intro n h
  exact Nat.le_zero.mp (zmx_le n (fun i hi hp => absurd hp (by rw [h i hi]; decide)))
theorem zmx_all {g : Nat → Nat} {B : Nat} : ∀ n, zmx (fun _ => true) g n ≤ B ↔ ∀ i, i < n → g i ≤ B := by
  intro n
  induction n with
  | zero => exact ⟨fun _ i hi => absurd hi (Nat.not_lt_zero _), fun _ => Nat.zero_le _⟩
  | succ n ih =>
    rw [zmx_t rfl]
    constructor
    · intro h i hi
      by_cases c : i = n
      · rw [c]; omega
      · exact ih.mp (by omega) i (by omega)
    · intro h
      have := ih.mpr (fun i hi => h i (by omega))
      have := h n (by omega)
      omega
def zuT (F : Nat → Nat → Bool) : Nat → Nat → Nat
  | 0 => fun _ => 0
  | n + 1 => fun k => if k = n then 1 + zmx (fun i => F i n) (zuT F n) n else zuT F n k
theorem zuT_at {F : Nat → Nat → Bool} {n : Nat} : zuT F (n + 1) n = 1 + zmx (fun i => F i n) (zuT F n) n := if_pos rfl
theorem zuT_ne {F : Nat → Nat → Bool} {n k : Nat} (h : k ≠ n) : zuT F (n + 1) k = zuT F n k := if_neg h
theorem zuT_le {F : Nat → Nat → Bool} : ∀ n k, k < n → zuT F n k ≤ n := by
  intro n
  induction n with
  | zero => intro k h; omega
  | succ n ih =>
    intro k hk
    by_cases c : k = n
    · rw [c, zuT_at]
      have := zmx_le (P := fun i => F i n) (g := zuT F n) (B := n) n (fun i hi _ => ih i hi)
      omega
    · rw [zuT_ne c]
      have := ih k (by omega)
      omega
def zoT (F : Nat → Nat → Bool) (N : Nat) : Nat → Nat → Nat
  | 0 => fun _ => 0
  | j + 1 => fun k => if k = N - 1 - j then 1 + zmx (fun i => decide (N - 1 - j < i) && F (N - 1 - j) i) (zoT F N j) N else zoT F N j k
theorem zoT_at {F : Nat → Nat → Bool} {N j : Nat} : zoT F N (j + 1) (N - 1 - j) = 1 + zmx (fun i => decide (N - 1 - j < i) && F (N - 1 - j) i) (zoT F N j) N := if_pos rfl
theorem zoT_ne {F : Nat → Nat → Bool} {N j k : Nat} (h : k ≠ N - 1 - j) : zoT F N (j + 1) k = zoT F N j k := if_neg h
theorem zoT_le {F : Nat → Nat → Bool} {N : Nat} : ∀ j, ∀ k, zoT F N j k ≤ j := by
  intro j
  induction j with
  | zero => intro k; exact Nat.le_refl _
  | succ j ih =>
    intro k
    by_cases c : k = N - 1 - j
    · rw [c, zoT_at]
      have := zmx_le (P := fun i => decide (N - 1 - j < i) && F (N - 1 - j) i) (g := zoT F N j) (B := j) N (fun i _ _ => ih i)
      omega
    · rw [zoT_ne c]
      have := ih k
      omega
theorem zoT_ge {F : Nat → Nat → Bool} {N : Nat} : ∀ j k, j ≤ N → N - j ≤ k → k < N → 1 ≤ zoT F N j k := by
  intro j
  induction j with
  | zero => intro k _ h1 h2; omega
  | succ j ih =>
    intro k h1 h2 h3
    by_cases c : k = N - 1 - j
    · rw [c, zoT_at]
      omega
    · rw [zoT_ne c]
      exact ih k (by omega) (by omega) h3
/-- the most of a chain, counted down -/
def zmd (F : Nat → Nat → Bool) (N : Nat) : Nat → Nat
  | 0 => 0
  | j + 1 => max (zmd F N j) (zoT F N (j + 1) (N - 1 - j))
theorem zmd_iff {F : Nat → Nat → Bool} {N B : Nat} : ∀ j, j ≤ N → (zmd F N j ≤ B ↔ ∀ i, N - j ≤ i → i < N → zoT F N j i ≤ B) := by
  intro j
  induction j with
  | zero => exact fun _ => ⟨fun _ i h1 h2 => by omega, fun _ => Nat.zero_le _⟩
  | succ j ih =>
    intro hj
    show max (zmd F N j) (zoT F N (j + 1) (N - 1 - j)) ≤ B ↔ _
    constructor
    · intro h i h1 h2
      by_cases c : i = N - 1 - j
      · rw [c]; omega
      · rw [zoT_ne c]
        exact (ih (by omega)).mp (by omega) i (by omega) h2
    · intro h
      have g1 := (ih (by omega)).mpr (fun i h1 h2 => by
        have := h i (by omega) h2
        rw [zoT_ne (show i ≠ N - 1 - j by omega)] at this
        exact this)
      have g2 := h (N - 1 - j) (by omega) (by omega)
      omega
def zmo (F : Nat → Nat → Bool) (N : Nat) : Nat := zmx (fun _ => true) (zoT F N N) N
theorem zmd_mo {F : Nat → Nat → Bool} {N : Nat} : zmd F N N = zmo F N := by
  have h1 := (zmd_iff (F := F) (N := N) (B := zmo F N) N (Nat.le_refl _)).mpr (fun i _ h2 => (zmx_all (g := zoT F N N) N).mp (Nat.le_refl _) i h2)
  have h2 := (zmx_all (g := zoT F N N) (B := zmd F N N) N).mpr (fun i h2 => (zmd_iff (F := F) (N := N) N (Nat.le_refl _)).mp (Nat.le_refl _) i (by omega) h2)
  exact Nat.le_antisymm h1 h2
theorem zmo_le {F : Nat → Nat → Bool} {N : Nat} : zmo F N ≤ N := (zmx_all N).mpr (fun i _ => zoT_le N i)
theorem zmd_le {F : Nat → Nat → Bool} {N j : Nat} (h : j ≤ N) : zmd F N j ≤ N := (zmd_iff j h).mpr (fun i _ _ => by have := zoT_le (F := F) (N := N) j i; omega)
abbrev zPkT : Type := Nat × (Nat → Nat) × (Nat → Int32)
def zpb (F : Nat → Nat → Bool) (g : Nat → Nat) (most : Nat) (T : zPkT) (k : Nat) : Bool := decide (g k = most - T.1) && (decide (T.1 = 0) || F (T.2.1 (T.1 - 1)) k)
def zpn (b : Bool) (T : zPkT) (k : Nat) : zPkT := if b then (T.1 + 1, fun j => if j = T.1 then k else T.2.1 j, fun j => if j = k then nI T.1 else T.2.2 j) else (T.1, T.2.1, fun j => if j = k then zM1 else T.2.2 j)
def zpk (F : Nat → Nat → Bool) (g : Nat → Nat) (most : Nat) : Nat → zPkT
  | 0 => (0, fun _ => 0, fun _ => zM1)
  | k + 1 => zpn (zpb F g most (zpk F g most k) k) (zpk F g most k) k
theorem zpk_le {F : Nat → Nat → Bool} {g : Nat → Nat} {most : Nat} : ∀ k, (zpk F g most k).1 ≤ k ∧ ∀ j, j < (zpk F g most k).1 → (zpk F g most k).2.1 j < k := by
  intro k
  induction k with
  | zero => exact ⟨Nat.le_refl _, fun j hj => absurd hj (Nat.not_lt_zero _)⟩
  | succ k ih =>
    show (zpn (zpb F g most (zpk F g most k) k) (zpk F g most k) k).1 ≤ k + 1 ∧ ∀ j, j < (zpn (zpb F g most (zpk F g most k) k) (zpk F g most k) k).1 → (zpn (zpb F g most (zpk F g most k) k) (zpk F g most k) k).2.1 j < k + 1
    unfold zpn
    split
    · refine ⟨by show (zpk F g most k).1 + 1 ≤ k + 1; omega, fun j hj => ?_⟩
      have hj : j < (zpk F g most k).1 + 1 := hj
      show (if j = (zpk F g most k).1 then k else (zpk F g most k).2.1 j) < k + 1
      split
      · omega
      · have := ih.2 j (by omega)
        omega
    · refine ⟨by show (zpk F g most k).1 ≤ k + 1; omega, fun j hj => ?_⟩
      have := ih.2 j hj
      show (zpk F g most k).2.1 j < k + 1
      omega
theorem zpk_most {F : Nat → Nat → Bool} {g : Nat → Nat} {most N : Nat} (hg : ∀ k, k < N → 1 ≤ g k) : ∀ k, k ≤ N → (zpk F g most k).1 ≤ most := by
  intro k
  induction k with
  | zero => exact fun _ => Nat.zero_le _
  | succ k ih =>
    intro hk
    show (zpn (zpb F g most (zpk F g most k) k) (zpk F g most k) k).1 ≤ most
    have h1 := ih (by omega)
    have h2 := hg k (by omega)
    by_cases c : zpb F g most (zpk F g most k) k = true
    · have c2 := c
      unfold zpb at c2
      rw [Bool.and_eq_true] at c2
      have c3 : g k = most - (zpk F g most k).1 := of_decide_eq_true c2.1
      unfold zpn
      rw [if_pos c]
      show (zpk F g most k).1 + 1 ≤ most
      omega
    · unfold zpn
      rw [if_neg c]
      exact h1
/-- each one of the chain and the next one fit -/
theorem zpk_fit {F : Nat → Nat → Bool} {g : Nat → Nat} {most : Nat} : ∀ k j, j + 1 < (zpk F g most k).1 → F ((zpk F g most k).2.1 j) ((zpk F g most k).2.1 (j + 1)) = true := by
  intro k
  induction k with
  | zero => intro j hj; exact absurd hj (Nat.not_lt_zero _)
  | succ k ih =>
    intro j hj
    show F ((zpn (zpb F g most (zpk F g most k) k) (zpk F g most k) k).2.1 j) ((zpn (zpb F g most (zpk F g most k) k) (zpk F g most k) k).2.1 (j + 1)) = true
    have hj : j + 1 < (zpn (zpb F g most (zpk F g most k) k) (zpk F g most k) k).1 := hj
    unfold zpn at hj ⊢
    by_cases c : zpb F g most (zpk F g most k) k = true
    · rw [if_pos c] at hj ⊢
      have hj : j + 1 < (zpk F g most k).1 + 1 := hj
      show F (if j = (zpk F g most k).1 then k else (zpk F g most k).2.1 j) (if j + 1 = (zpk F g most k).1 then k else (zpk F g most k).2.1 (j + 1)) = true
      rw [if_neg (by omega)]
      by_cases d : j + 1 = (zpk F g most k).1
      · rw [if_pos d]
        unfold zpb at c
        rw [Bool.and_eq_true, Bool.or_eq_true] at c
        rcases c.2 with c2 | c2
        · have : (zpk F g most k).1 = 0 := of_decide_eq_true c2
          omega
        · rw [← d, Nat.add_sub_cancel] at c2
          exact c2
      · rw [if_neg d]
        exact ih j (by omega)
    · rw [if_neg c] at hj ⊢
      exact ih j hj
/-- the chain of a state -/
def zcF (S : zS) : Nat → Nat → Bool := zft (S.2.2 0) (zanc S false)
def zcN (S : zS) : Nat := (zanc S false).1
def zcg (S : zS) : Nat → Nat := zoT (zcF S) (zcN S) (zcN S)
def zcm (S : zS) : Nat := zmo (zcF S) (zcN S)
def zchk (S : zS) (k : Nat) : zPkT := zpk (zcF S) (zcg S) (zcm S) k
def zchn (S : zS) : zPkT := zchk S (zcN S)
theorem zchk_s {S : zS} {k : Nat} : zchk S (k + 1) = zpn (zpb (zcF S) (zcg S) (zcm S) (zchk S k) k) (zchk S k) k := rfl
theorem zchk_le {S : zS} {k : Nat} (h : k ≤ zcN S) : (zchk S k).1 ≤ zcm S := zpk_most (N := zcN S) (fun i hi => zoT_ge (zcN S) i (Nat.le_refl _) (by omega) hi) k h
theorem zanc_in {S : zS} {t : Bool} (hS : zWf S) : (zanc S t).1 ≤ 23 ∧ ∀ i, i < (zanc S t).1 → (zanc S t).2.1 i + S.2.2 0 ≤ S.1 0 ∧ (zanc S t).2.2 i + S.2.2 0 ≤ S.1 1 := by
  have hw := hS.2.2.2
  have h0 := hS.1
  have h1 := hS.2.1
  have n0 : zwn S 0 = S.1 0 + 1 - S.2.2 0 := rfl
  have n1 : zwn S 1 = S.1 1 + 1 - S.2.2 0 := rfl
  refine ⟨by have := zal_le (S := S) (b := t) (zwn S 0); show (zal S t (zwn S 0)).1 ≤ 23; omega, fun i hi => ?_⟩
  have := zal_in (S := S) (b := t) (zwn S 0) i hi
  show (zal S t (zwn S 0)).2.1 i + S.2.2 0 ≤ S.1 0 ∧ (zal S t (zwn S 0)).2.2 i + S.2.2 0 ≤ S.1 1
  omega
