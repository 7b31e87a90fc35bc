/-! the share of like signs; the class's digest -/
def zall (S : zS) : Nat := S.1 0 + S.1 1
def zshare (S : zS) : UInt64 := if zall S = 0 then FP.dconst1 else zsh (zlikes S) (zall S)
theorem zlikes_le {S : zS} : zlikes S ≤ S.1 0 := zct_le _
theorem zsh_ok {S : zS} (hS : zWf S) (h : ¬ zall S = 0) : zshk (zlikes S) (zall S) = true := by
  have h0 := hS.1
  have h1 := hS.2.1
  have h2 := zlikes_le (S := S)
  have h3 : zall S = S.1 0 + S.1 1 := rfl
  exact zsh_all _ (by omega) _ (by omega) (by omega) (by omega)
theorem zsh_parts {x n : Nat} (h : zshk x n = true) : (∃ w, zdn (FP.dmul (FP.i2d (nI x)) (4611686018427387904 : UInt64)) = some w) ∧ (∃ w, zdn (zsh x n) = some w) ∧ Op.cmpValue (FP.dcmp (zsh x n) (zsh x n)) CmpOp.l = 0 ∧ m_X10_bitsOfShare 8 zσe (zsh x n) = some (m_J_bits (zsh x n)) := by
  unfold zshk at h
  rw [Bool.and_eq_true, Bool.and_eq_true, Bool.and_eq_true] at h
  obtain ⟨⟨⟨h1, h2⟩, h3⟩, h4⟩ := h
  exact ⟨Option.isSome_iff_exists.mp h1, Option.isSome_iff_exists.mp h2, of_decide_eq_true h3, of_decide_eq_true h4⟩
theorem zshare_cmp {S : zS} (hS : zWf S) : Op.cmpValue (FP.dcmp (zshare S) (zshare S)) CmpOp.l = 0 := by
  unfold zshare
  by_cases c : zall S = 0
  · rw [if_pos c]
    exact zsh_one.1
  · rw [if_neg c]
    exact (zsh_parts (zsh_ok hS c)).2.2.1
theorem zshare_bits {S : zS} {fu : Nat} {σ : zmem} (hS : zWf S) (hfu : 100 < fu) : m_X10_bitsOfShare fu σ (zshare S) = some (m_J_bits (zshare S)) := by
  unfold zshare
  by_cases c : zall S = 0
  · rw [if_pos c]
    exact zbits_fu zsh_one.2 (by omega)
  · rw [if_neg c]
    exact zbits_fu (zsh_parts (zsh_ok hS c)).2.2.2 (by omega)
theorem pX10_share {fu : Nat} {σ : zmem} {u : zU} (h : zCF σ u) (hu : zUw u) (hfu : 100 < fu) : m_X10_shareOfLikeSigns fu σ = some (zshare u.1) := by
  have h0 := hu.1.1
  have h1 := hu.1.2.1
  have h3 : zall u.1 = u.1.1 0 + u.1.1 1 := rfl
  unfold m_X10_shareOfLikeSigns zshare
  rw [pX7_signs h.1.1.1, Option.bind_some, ← h3]
  by_cases c : zall u.1 = 0
  · rw [if_neg (fun z => z (by rw [c]; rfl)), if_pos c]
  · obtain ⟨⟨w1, e1⟩, ⟨w2, e2⟩, _⟩ := zsh_parts (zsh_ok hu.1 c)
    rw [if_pos (nI_ne0 (by omega) (by omega)), if_neg c, pX5_like zc_35 h.1.1 hu.1 h.2.2.1.2.2.2.2.2 hfu, Option.bind_some, e1, Option.bind_some]
    show (zdn (zsh (zlikes u.1) (zall u.1))).bind _ = _
    rw [e2, Option.bind_some]
    rfl
theorem qX11_share {fu : Nat} {σ : zmem} {u : zU} (h : zRI σ u) (hu : zUw u) (hfu : 100 < fu) : ∃ σ', m_X11_share fu σ = some (zshare u.1, σ') ∧ zfm σ σ' := by
  have h0 := hu.1.1
  have h1 := hu.1.2.1
  have h3 : zall u.1 = u.1.1 0 + u.1.1 1 := rfl
  unfold m_X11_share zshare
  rw [l0, l1, qX11_signs (r := 0) h.1 (by decide), Option.bind_some, qX11_signs (r := 1) h.1 (by decide), Option.bind_some, nI_add, ← h3]
  by_cases c : zall u.1 = 0
  · rw [if_neg (fun z => z (by rw [c])), if_pos c]
    exact ⟨σ, rfl, zfm.rf⟩
  · obtain ⟨s1, e, m1⟩ := qX11_like (fu := fu) h.1 hu.1 hfu
    obtain ⟨⟨w1, e1⟩, ⟨w2, e2⟩, _⟩ := zsh_parts (zsh_ok hu.1 c)
    rw [if_pos (show ¬ nI (zall u.1) = nI 0 from nI_ne0 (by omega) (by omega)), if_neg c, e, Option.bind_some]
    dsimp only
    rw [e1, Option.bind_some]
    refine ⟨s1, ?_, m1⟩
    show ((zdn (zsh (zlikes u.1) (zall u.1))).bind fun q5 => some (zsh (zlikes u.1) (zall u.1), s1)) = _
    rw [e2, Option.bind_some]
theorem case_share {fu : Nat} {u : zU} (hu : zUw u) (hfu : 400 < fu) : (∀ σ, zCI σ u → ∃ σ', m_X10_likeShare fu σ = some (zshare u.1, σ') ∧ zCI σ' u ∧ zfc σ σ') ∧ ∀ σ, zRI σ u → ∃ σ', m_X11_likeShare fu σ = some (zshare u.1, σ') ∧ zRI σ' u ∧ zfx σ σ' := by
  refine ⟨fun σ h => ?_, fun σ h => ?_⟩
  · obtain ⟨s1, e1, c1, f1⟩ := pX10_refresh (fu := fu) h hu (by omega)
    refine ⟨s1, ?_, c1.i, f1⟩
    unfold m_X10_likeShare
    rw [e1, Option.bind_some, pX10_share c1 hu (by omega), Option.bind_some]
  · have h0 := h.st (k := 7) (v := (0 : Int32)) (by decide) (by decide)
    obtain ⟨s2, e2, m2⟩ := qX11_share (fu := fu) h0 hu (by omega)
    refine ⟨s2, ?_, h0.m m2, zst7.tr m2.x⟩
    unfold m_X11_likeShare
    rw [e2, Option.bind_some]
/-- a hash that goes on -/
def zfl (h : Int64) (g : Nat → Int64) : Nat → Int64
  | 0 => h
  | n + 1 => 31 * zfl h g n + g n
theorem zfl_add {h : Int64} {g : Nat → Int64} {m : Nat} : ∀ n, zfl h g (m + n) = zfl (zfl h g m) (fun j => g (m + j)) n := by
  intro n
  induction n with
  | zero => rfl
  | succ n ih =>
    show 31 * zfl h g (m + n) + g (m + n) = 31 * zfl (zfl h g m) (fun j => g (m + j)) n + g (m + n)
    rw [ih]
theorem zfl_congr {h : Int64} {g g' : Nat → Int64} : ∀ n, (∀ j, j < n → g j = g' j) → zfl h g n = zfl h g' n := by
  intro n
  induction n with
  | zero => intro _; rfl
  | succ n ih =>
    intro e
    show 31 * zfl h g n + g n = 31 * zfl h g' n + g' n
    rw [ih (fun j hj => e j (by omega)), e n (by omega)]
theorem zfl_nest {h : Int64} {F : Nat → Nat → Int64} {c a : Nat} (hc : 0 < c) : zfl (zfl h (fun k => F (k / c) (k % c)) (c * a)) (fun w => F a w) c = zfl h (fun k => F (k / c) (k % c)) (c * (a + 1)) := by
  rw [Nat.mul_succ, zfl_add]
  refine zfl_congr c (fun j hj => ?_)
  show F a j = F ((c * a + j) / c) ((c * a + j) % c)
  rw [Nat.mul_add_div hc, Nat.div_eq_of_lt hj, Nat.add_zero, Nat.mul_add_mod, Nat.mod_eq_of_lt hj]
theorem loopF {L : Nat → Int64 → Int32 → Option Int64} {g : Nat → Int64} {N : Nat} (h0 : ∀ n x, L (n + 1) x (nI N) = some x) (h1 : ∀ n x v, v < N → L (n + 1) x (nI v) = L n (31 * x + g v) (nI (v + 1))) (h : Int64) {fu : Nat} (hfu : N < fu) : L fu h (nI 0) = some (zfl h g N) := by
  obtain ⟨y, e, hy⟩ := loopG (L := fun n v x => L n x (nI v)) (N := N) (P := fun v x => x = zfl h g v) (R := fun x => x = zfl h g N)
    (fun n x hP => ⟨x, h0 n x, hP⟩)
    (fun n v x hv hP => ⟨zfl h g (v + 1), by
      show L (n + 1) x (nI v) = L n (31 * zfl h g v + g v) (nI (v + 1))
      rw [hP]
      exact h1 n _ v hv, rfl⟩)
    fu 0 h (by omega) (by omega) rfl
  exact e.trans (congrArg some hy)
def zdRow (S : zS) (r : Nat) (h : Int64) : Int64 := zfl (zfl (zfl h (fun j => (nI (S.2.1 r j)).toInt64) (S.1 r)) (fun j => (zpr (zlu S).2.2 r j).toInt64) (S.1 r)) (fun w => (zdb (S.2.1 r) (S.1 r) w).toInt64) 3
theorem pX10_foldRow {fu : Nat} {σ : zmem} {u : zU} {r : Nat} {h : Int64} (hc : zCF σ u) (hu : zUw u) (hr : r < 2) (hfu : 100 < fu) : m_X10_foldRow fu σ h (nI r) = some (zdRow u.1 r h) := by
  have hle := hu.1.le hr
  have r0 : zRow σ (zRr 1 r) (u.1.1 r) (u.1.2.1 r) := hc.1.1.1.row hr
  have e1 := loopF (L := fun n x v => l_X10_foldRow_19 fu σ (nI r) (nI (u.1.1 r)) n x v) (g := fun j => (nI (u.1.2.1 r j)).toInt64) (N := u.1.1 r)
    (fun n x => by
      show l_X10_foldRow_19 fu σ (nI r) (nI (u.1.1 r)) (n + 1) x (nI (u.1.1 r)) = some x
      rw [l_X10_foldRow_19, if_pos (nI_le (Nat.le_refl _) (by omega))])
    (fun n x v hv => by
      show l_X10_foldRow_19 fu σ (nI r) (nI (u.1.1 r)) (n + 1) x (nI v) = l_X10_foldRow_19 fu σ (nI r) (nI (u.1.1 r)) n (31 * x + (nI (u.1.2.1 r v)).toInt64) (nI (v + 1))
      rw [l_X10_foldRow_19, if_neg (nI_ge hv (by omega)), pX7_rowOf hr, Option.bind_some, pX6_signAt r0.1 (by omega), Option.bind_some, r0.2.2.2 v hv]
      unfold m_X10_fold
      rw [Option.bind_some, za1])
    h (fu := fu) (by omega)
  have e2 := loopF (L := fun n x v => l_X10_foldRow_56 fu σ (nI r) (nI (u.1.1 r)) n x v) (g := fun j => (zpr (zlu u.1).2.2 r j).toInt64) (N := u.1.1 r)
    (fun n x => by
      show l_X10_foldRow_56 fu σ (nI r) (nI (u.1.1 r)) (n + 1) x (nI (u.1.1 r)) = some x
      rw [l_X10_foldRow_56, if_pos (nI_le (Nat.le_refl _) (by omega))])
    (fun n x v hv => by
      show l_X10_foldRow_56 fu σ (nI r) (nI (u.1.1 r)) (n + 1) x (nI v) = l_X10_foldRow_56 fu σ (nI r) (nI (u.1.1 r)) n (31 * x + (zpr (zlu u.1).2.2 r v).toInt64) (nI (v + 1))
      rw [l_X10_foldRow_56, if_neg (nI_ge hv (by omega)), pX5_partnersOf hr, Option.bind_some, pX5_partner zc_35 hc.2.2.1.2.2.2.2.2 hr (by omega), Option.bind_some]
      unfold m_X10_fold
      rw [Option.bind_some, za1])
    (zfl h (fun j => (nI (u.1.2.1 r j)).toInt64) (u.1.1 r)) (fu := fu) (by omega)
  have e3 := loopF (L := fun n x v => l_X10_foldRow_93 fu σ (nI r) n x v) (g := fun w => (zdb (u.1.2.1 r) (u.1.1 r) w).toInt64) (N := 3)
    (fun n x => by
      show l_X10_foldRow_93 fu σ (nI r) (n + 1) x (nI 3) = some x
      rw [l_X10_foldRow_93, if_pos (by decide)])
    (fun n x v hv => by
      show l_X10_foldRow_93 fu σ (nI r) (n + 1) x (nI v) = l_X10_foldRow_93 fu σ (nI r) n (31 * x + (zdb (u.1.2.1 r) (u.1.1 r) v).toInt64) (nI (v + 1))
      rw [l_X10_foldRow_93, if_neg (show ¬ (3 : Int32) ≤ nI v from nI_ge hv (by decide)), pX7_rowOf hr, Option.bind_some, pX6_doubled r0 (hu.1.2.2.1 r) hv hfu, Option.bind_some]
      unfold m_X10_fold
      rw [Option.bind_some, za1])
    (zfl (zfl h (fun j => (nI (u.1.2.1 r j)).toInt64) (u.1.1 r)) (fun j => (zpr (zlu u.1).2.2 r j).toInt64) (u.1.1 r)) (fu := fu) (by omega)
  unfold m_X10_foldRow
  rw [pX7_rowOf hr, Option.bind_some, pX6_size r0, Option.bind_some, l0, e1, Option.bind_some, e2, Option.bind_some, e3, Option.bind_some]
  rfl
def zdAnc (S : zS) (h : Int64) : Int64 := zfl (zfl h (fun k => (zaP S (k / 4) (k % 4)).toInt64) (4 * zcN S)) (fun k => (ztP S (k / 3) (k % 3)).toInt64) (3 * ztN S)
theorem pX10_foldAnchors {fu : Nat} {σ : zmem} {u : zU} {h : Int64} (hc : zCF σ u) (hu : zUw u) (hfu : 100 < fu) : m_X10_foldAnchors fu σ h = some (zdAnc u.1 h) := by
  have hN : zcN u.1 ≤ 23 := (zanc_in (t := false) hu.1).1
  have hT : ztN u.1 ≤ 23 := (zanc_in (t := true) hu.1).1
  obtain ⟨y, e1, hy⟩ := loopG (L := fun n a x => l_X10_foldAnchors_5 fu σ n x (nI a)) (N := zcN u.1) (P := fun a x => x = zfl h (fun k => (zaP u.1 (k / 4) (k % 4)).toInt64) (4 * a)) (R := fun x => x = zfl h (fun k => (zaP u.1 (k / 4) (k % 4)).toInt64) (4 * zcN u.1))
    (fun n x hP => ⟨x, by
      show l_X10_foldAnchors_5 fu σ (n + 1) x (nI (zcN u.1)) = some x
      rw [l_X10_foldAnchors_5, hc.n, if_pos (nI_le (Nat.le_refl _) (by omega))], hP⟩)
    (fun n a x ha hP => ⟨zfl h (fun k => (zaP u.1 (k / 4) (k % 4)).toInt64) (4 * (a + 1)), by
      show l_X10_foldAnchors_5 fu σ (n + 1) x (nI a) = l_X10_foldAnchors_5 fu σ n (zfl h (fun k => (zaP u.1 (k / 4) (k % 4)).toInt64) (4 * (a + 1))) (nI (a + 1))
      have e := loopF (L := fun n x v => l_X10_foldAnchors_23 fu σ (nI a) n x v) (g := fun w => (zaP u.1 a w).toInt64) (N := 4)
        (fun n x => by
          show l_X10_foldAnchors_23 fu σ (nI a) (n + 1) x (nI 4) = some x
          rw [l_X10_foldAnchors_23, if_pos (by decide)])
        (fun n x v hv => by
          show l_X10_foldAnchors_23 fu σ (nI a) (n + 1) x (nI v) = l_X10_foldAnchors_23 fu σ (nI a) n (31 * x + (zaP u.1 a v).toInt64) (nI (v + 1))
          rw [l_X10_foldAnchors_23, if_neg (show ¬ (4 : Int32) ≤ nI v from nI_ge hv (by decide)), pX5_anchorP zc_35 hc.2.2.1 hu.1 ha hv, Option.bind_some]
          unfold m_X10_fold
          rw [Option.bind_some, za1])
        x (fu := fu) (by omega)
      have e : l_X10_foldAnchors_23 fu σ (nI a) fu x (0 : Int32) = some (zfl x (fun w => (zaP u.1 a w).toInt64) 4) := e
      rw [l_X10_foldAnchors_5, hc.n, if_neg (nI_ge ha (by omega)), e, Option.bind_some, hP, zfl_nest (F := fun i w => (zaP u.1 i w).toInt64) (by decide), za1], rfl⟩)
    fu 0 h (by omega) (by omega) rfl
  have e1 : l_X10_foldAnchors_5 fu σ fu h (0 : Int32) = some y := e1
  obtain ⟨y2, e2, hy2⟩ := loopG (L := fun n a x => l_X10_foldAnchors_61 fu σ n x (nI a)) (N := ztN u.1) (P := fun a x => x = zfl y (fun k => (ztP u.1 (k / 3) (k % 3)).toInt64) (3 * a)) (R := fun x => x = zfl y (fun k => (ztP u.1 (k / 3) (k % 3)).toInt64) (3 * ztN u.1))
    (fun n x hP => ⟨x, by
      show l_X10_foldAnchors_61 fu σ (n + 1) x (nI (ztN u.1)) = some x
      rw [l_X10_foldAnchors_61, show σ.1 92 2 = nI (ztN u.1) from hc.2.2.2.1.1, if_pos (nI_le (Nat.le_refl _) (by omega))], hP⟩)
    (fun n a x ha hP => ⟨zfl y (fun k => (ztP u.1 (k / 3) (k % 3)).toInt64) (3 * (a + 1)), by
      show l_X10_foldAnchors_61 fu σ (n + 1) x (nI a) = l_X10_foldAnchors_61 fu σ n (zfl y (fun k => (ztP u.1 (k / 3) (k % 3)).toInt64) (3 * (a + 1))) (nI (a + 1))
      have e := loopF (L := fun n x v => l_X10_foldAnchors_79 fu σ (nI a) n x v) (g := fun w => (ztP u.1 a w).toInt64) (N := 3)
        (fun n x => by
          show l_X10_foldAnchors_79 fu σ (nI a) (n + 1) x (nI 3) = some x
          rw [l_X10_foldAnchors_79, if_pos (by decide)])
        (fun n x v hv => by
          show l_X10_foldAnchors_79 fu σ (nI a) (n + 1) x (nI v) = l_X10_foldAnchors_79 fu σ (nI a) n (31 * x + (ztP u.1 a v).toInt64) (nI (v + 1))
          rw [l_X10_foldAnchors_79, if_neg (show ¬ (3 : Int32) ≤ nI v from nI_ge hv (by decide)), pX9_prop zc_91 hc.2.2.2 hu.1 ha hv, Option.bind_some]
          unfold m_X10_fold
          rw [Option.bind_some, za1])
        x (fu := fu) (by omega)
      have e : l_X10_foldAnchors_79 fu σ (nI a) fu x (0 : Int32) = some (zfl x (fun w => (ztP u.1 a w).toInt64) 3) := e
      rw [l_X10_foldAnchors_61, show σ.1 92 2 = nI (ztN u.1) from hc.2.2.2.1.1, if_neg (nI_ge ha (by omega)), e, Option.bind_some, hP, zfl_nest (F := fun i w => (ztP u.1 i w).toInt64) (by decide), za1], rfl⟩)
    fu 0 y (by omega) (by omega) rfl
  have e2 : l_X10_foldAnchors_61 fu σ fu y (0 : Int32) = some y2 := e2
  unfold m_X10_foldAnchors
  rw [e1, Option.bind_some, e2, Option.bind_some, hy2, hy]
  rfl
def zdGap (S : zS) (h : Int64) : Int64 := zfl h (fun k => (zgP S (k / 5) (k % 5)).toInt64) (5 * (zlu S).1)
theorem pX10_foldGaps {fu : Nat} {σ : zmem} {u : zU} {h : Int64} (hc : zCF σ u) (hu : zUw u) (hfu : 100 < fu) : m_X10_foldGaps fu σ h = some (zdGap u.1 h) := by
  have hN := zlu_le hu.1
  obtain ⟨y, e1, hy⟩ := loopG (L := fun n a x => l_X10_foldGaps_5 fu σ n x (nI a)) (N := (zlu u.1).1) (P := fun a x => x = zfl h (fun k => (zgP u.1 (k / 5) (k % 5)).toInt64) (5 * a)) (R := fun x => x = zfl h (fun k => (zgP u.1 (k / 5) (k % 5)).toInt64) (5 * (zlu u.1).1))
    (fun n x hP => ⟨x, by
      show l_X10_foldGaps_5 fu σ (n + 1) x (nI (zlu u.1).1) = some x
      rw [l_X10_foldGaps_5, hc.2.2.1.2.2.1, if_pos (nI_le (Nat.le_refl _) (by omega))], hP⟩)
    (fun n a x ha hP => ⟨zfl h (fun k => (zgP u.1 (k / 5) (k % 5)).toInt64) (5 * (a + 1)), by
      show l_X10_foldGaps_5 fu σ (n + 1) x (nI a) = l_X10_foldGaps_5 fu σ n (zfl h (fun k => (zgP u.1 (k / 5) (k % 5)).toInt64) (5 * (a + 1))) (nI (a + 1))
      have e := loopF (L := fun n x v => l_X10_foldGaps_20 fu σ (nI a) n x v) (g := fun w => (zgP u.1 a w).toInt64) (N := 5)
        (fun n x => by
          show l_X10_foldGaps_20 fu σ (nI a) (n + 1) x (nI 5) = some x
          rw [l_X10_foldGaps_20, if_pos (by decide)])
        (fun n x v hv => by
          show l_X10_foldGaps_20 fu σ (nI a) (n + 1) x (nI v) = l_X10_foldGaps_20 fu σ (nI a) n (31 * x + (zgP u.1 a v).toInt64) (nI (v + 1))
          rw [l_X10_foldGaps_20, if_neg (show ¬ (5 : Int32) ≤ nI v from nI_ge hv (by decide)), pX5_gapP zc_35 hc.2.2.1.2.2 hu.1 (by omega) hv, Option.bind_some]
          unfold m_X10_fold
          rw [Option.bind_some, za1])
        x (fu := fu) (by omega)
      have e : l_X10_foldGaps_20 fu σ (nI a) fu x (0 : Int32) = some (zfl x (fun w => (zgP u.1 a w).toInt64) 5) := e
      rw [l_X10_foldGaps_5, hc.2.2.1.2.2.1, if_neg (nI_ge ha (by omega)), e, Option.bind_some, hP, zfl_nest (F := fun i w => (zgP u.1 i w).toInt64) (by decide), za1], rfl⟩)
    fu 0 h (by omega) (by omega) rfl
  have e1 : l_X10_foldGaps_5 fu σ fu h (0 : Int32) = some y := e1
  unfold m_X10_foldGaps
  rw [e1, Option.bind_some, hy]
  rfl
def zdTxt (u : zU) (h : Int64) : Int64 := zfl (31 * h + (nI u.2.2.2.1).toInt64) (fun j => (nI (u.2.2.2.2 j)).toInt64) u.2.2.2.1
theorem pX10_foldText {fu : Nat} {σ : zmem} {u : zU} {h : Int64} (hc : zCJ σ u) (hfu : 100 < fu) : m_X10_foldText fu σ h = some (zdTxt u h) := by
  have hL := hc.2.2.1.2.2.1
  have e := loopF (L := fun n x v => l_X10_foldText_16 fu σ n x v) (g := fun j => (nI (u.2.2.2.2 j)).toInt64) (N := u.2.2.2.1)
    (fun n x => by
      show l_X10_foldText_16 fu σ (n + 1) x (nI u.2.2.2.1) = some x
      rw [l_X10_foldText_16, pX8_size hc.2.2.1, Option.bind_some, if_pos (nI_le (Nat.le_refl _) (by omega))])
    (fun n x v hv => by
      show l_X10_foldText_16 fu σ (n + 1) x (nI v) = l_X10_foldText_16 fu σ n (31 * x + (nI (u.2.2.2.2 v)).toInt64) (nI (v + 1))
      rw [l_X10_foldText_16, pX8_size hc.2.2.1, Option.bind_some, if_neg (nI_ge hv (by omega))]
      unfold m_X8_codeAt
      rw [show m_X1_at fu σ (32 + 1) (nI v) = some (nI (u.2.2.2.2 v)) from (pX1_at zc_34 (show v < 60 by omega) (by decide)).trans (congrArg some (hc.2.2.1.2.2.2.2 v hv).1), Option.bind_some, Option.bind_some]
      unfold m_X10_fold
      rw [Option.bind_some, za1])
    (31 * h + (nI u.2.2.2.1).toInt64) (fu := fu) (by omega)
  have e : l_X10_foldText_16 fu σ fu (31 * h + (nI u.2.2.2.1).toInt64) (0 : Int32) = some (zdTxt u h) := e
  unfold m_X10_foldText
  rw [pX8_size hc.2.2.1, Option.bind_some]
  unfold m_X10_fold
  rw [Option.bind_some, e, Option.bind_some]
