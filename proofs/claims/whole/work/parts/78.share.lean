/-! shares as doubles: all of them, by the kernel -/
def zsh (x n : Nat) : UInt64 := FP.ddiv (FP.dmul (FP.i2d (nI x)) (4611686018427387904 : UInt64)) (FP.i2d (nI n))
def zσe : zmem := ((fun _ _ => 0), fun _ _ => 0)
theorem zbits_mono : ∀ (m : Nat) (v : UInt64) (e : Int64) (i : Int32) (r : UInt64 × Int64) (fu fu' : Nat) (σ σ' : zmem) (k : Nat), l_X10_bitsOfShare_18 fu σ m v e i = some r → l_X10_bitsOfShare_18 fu' σ' (m + k) v e i = some r := by
  intro m
  induction m with
  | zero => intro v e i r fu fu' σ σ' k h; exact absurd h (by rw [l_X10_bitsOfShare_18]; exact fun z => nomatch z)
  | succ m ih =>
    intro v e i r fu fu' σ σ' k h
    rw [show m + 1 + k = (m + k) + 1 by omega, l_X10_bitsOfShare_18]
    rw [l_X10_bitsOfShare_18] at h
    by_cases c : (64 : Int32) ≤ i
    · rw [if_pos c] at h ⊢
      exact h
    · rw [if_neg c] at h ⊢
      by_cases d : 0 ≤ (Op.cmpValue (FP.dcmp v FP.dconst1) CmpOp.g)
      · rw [if_pos d] at h ⊢
        exact h
      · rw [if_neg d] at h ⊢
        cases q : zdn (FP.dmul v (4611686018427387904 : UInt64)) with
        | none => rw [q] at h; exact nomatch h
        | some w =>
          rw [q, Option.bind_some] at h
          rw [Option.bind_some]
          exact ih _ _ _ r fu fu' σ σ' k h
theorem zbits_fu {v : UInt64} {r : Int64} {fu : Nat} {σ : zmem} (h : m_X10_bitsOfShare 8 zσe v = some r) (hfu : 8 ≤ fu) : m_X10_bitsOfShare fu σ v = some r := by
  unfold m_X10_bitsOfShare at h ⊢
  by_cases c : 0 < (Op.cmpValue (FP.dcmp v FP.dconst0) CmpOp.g)
  · rw [if_pos c] at h ⊢
    cases q : l_X10_bitsOfShare_18 8 zσe 8 v (1023 : Int64) (0 : Int32) with
    | none => rw [q] at h; exact nomatch h
    | some x4 =>
      rw [q] at h
      have := zbits_mono 8 v (1023 : Int64) (0 : Int32) x4 8 fu zσe σ (fu - 8) q
      rw [show 8 + (fu - 8) = fu by omega] at this
      rw [this]
      exact h
  · rw [if_neg c] at h ⊢
    exact h
def zshk (x n : Nat) : Bool := (zdn (FP.dmul (FP.i2d (nI x)) (4611686018427387904 : UInt64))).isSome && (zdn (zsh x n)).isSome && decide (Op.cmpValue (FP.dcmp (zsh x n) (zsh x n)) CmpOp.l = 0) && decide (m_X10_bitsOfShare 8 zσe (zsh x n) = some (m_J_bits (zsh x n)))
set_option maxRecDepth 100000 in
theorem zsh_all : ∀ x, x < 25 → ∀ n, n < 49 → 1 ≤ n → x ≤ n → zshk x n = true := by decide +kernel
theorem zsh_one : Op.cmpValue (FP.dcmp FP.dconst1 FP.dconst1) CmpOp.l = 0 ∧ m_X10_bitsOfShare 8 zσe FP.dconst1 = some (m_J_bits FP.dconst1) := by decide +kernel
