/-! the digest, both sides -/
def zd1 (u : zU) : Int64 := zfl (zfl (2609 : Int64) (fun w => (nI (zco u w)).toInt64) 15) (fun k => (nI (u.1.2.2 k)).toInt64) 4
def zd2 (u : zU) : Int64 := zdGap u.1 (zdAnc u.1 (zdRow u.1 1 (zdRow u.1 0 (zd1 u))))
def zd3 (u : zU) : Int64 := 31 * (31 * zd2 u + (nI (zcost (zset u.1 0 2))).toInt64) + (nI (zcost (zset u.1 3 0))).toInt64
def zd4 (u : zU) : Int64 := if 0 < u.1.1 0 then 31 * zd3 u + (nI (zcost (zchg u.1 0 0 0))).toInt64 else zd3 u
def zd5 (u : zU) : Int64 := 31 * (31 * zd4 u + (nI (zbest u.1)).toInt64) + m_J_bits (zshare u.1)
def zdig (u : zU) : Int64 := zdTxt u (zd5 u)
theorem pX6_has0 {fu : Nat} {σ : zmem} {i : Nat} {f : Nat → Nat} (h : zRow σ i 0 f) : m_X6_has fu σ i (0 : Int32) = some 0 := by
  unfold m_X6_has
  rw [h.2.2.1, if_neg (by decide), if_pos (by decide)]
theorem pX10_digest {fu : Nat} {σ : zmem} {u : zU} (h : zCI σ u) (hu : zUw u) (hfu : 400 < fu) : ∃ σ', m_X10_digest fu σ = some (zdig u, σ') ∧ zCI σ' u ∧ zfc σ σ' := by
  obtain ⟨s1, e1, c1, f1⟩ := pX10_refresh (fu := fu) h hu (by omega)
  obtain ⟨y, e2, hy, c2, f2⟩ := loopG (L := fun n v (x : Int64 × zmem) => l_X10_digest_10 fu n x.1 (nI v) x.2) (N := 15) (P := fun v x => x.1 = zfl (2609 : Int64) (fun w => (nI (zco u w)).toInt64) v ∧ zCF x.2 u ∧ zfc s1 x.2) (R := fun x => x.1 = zfl (2609 : Int64) (fun w => (nI (zco u w)).toInt64) 15 ∧ zCF x.2 u ∧ zfc s1 x.2)
    (fun n x hP => ⟨x, by
      show l_X10_digest_10 fu (n + 1) x.1 (nI 15) x.2 = some x
      rw [l_X10_digest_10, if_pos (by decide)], hP⟩)
    (fun n v x hv ⟨q1, q2, q3⟩ => by
      obtain ⟨τ, e, cτ, fτ⟩ := pX10_number (fu := fu) (w := v) q2 hu hv hfu
      refine ⟨(31 * x.1 + (nI (zco u v)).toInt64, τ), ?_, by rw [q1]; rfl, cτ, q3.tr fτ⟩
      show l_X10_digest_10 fu (n + 1) x.1 (nI v) x.2 = l_X10_digest_10 fu n (31 * x.1 + (nI (zco u v)).toInt64) (nI (v + 1)) τ
      rw [l_X10_digest_10, if_neg (show ¬ (15 : Int32) ≤ nI v from nI_ge hv (by decide)), e, Option.bind_some]
      unfold m_X10_fold
      rw [Option.bind_some, za1])
    fu 0 ((2609 : Int64), s1) (by omega) (by omega) ⟨rfl, c1, zfc.rf⟩
  have e2 : l_X10_digest_10 fu fu (2609 : Int64) (0 : Int32) s1 = some y := e2
  have e3 := loopF (L := fun n x v => l_X10_digest_35 fu y.2 n x v) (g := fun k => (nI (u.1.2.2 k)).toInt64) (N := 4)
    (fun n x => by
      show l_X10_digest_35 fu y.2 (n + 1) x (nI 4) = some x
      rw [l_X10_digest_35, if_pos (by decide)])
    (fun n x v hv => by
      show l_X10_digest_35 fu y.2 (n + 1) x (nI v) = l_X10_digest_35 fu y.2 n (31 * x + (nI (u.1.2.2 v)).toInt64) (nI (v + 1))
      rw [l_X10_digest_35, if_neg (show ¬ (4 : Int32) ≤ nI v from nI_ge hv (by decide)), show m_X1_at fu y.2 6 (nI v) = some (nI (u.1.2.2 v)) from (pX1_at zc_7 hv (by decide)).trans (congrArg some (c2.1.1.2 v hv)), Option.bind_some]
      unfold m_X10_fold
      rw [Option.bind_some, za1])
    y.1 (fu := fu) (by omega)
  have e3 : l_X10_digest_35 fu y.2 fu y.1 (0 : Int32) = some (zd1 u) := by
    rw [hy] at e3 ⊢
    exact e3
  obtain ⟨s3, e4, f3⟩ := pX10_costSet (fu := fu) (i := 0) (v := 2) c2.1.1 hu.1 (by decide) (by decide) (by decide) (by omega)
  have c3 := c2.t8 f3
  obtain ⟨s4, e5, f4⟩ := pX10_costSet (fu := fu) (i := 3) (v := 0) c3.1.1 hu.1 (by decide) (by decide) (by decide) (by omega)
  have c4 := c3.t8 f4
  have e6 : ∃ s5, (((m_X6_has fu s4 2 (0 : Int32)).bind fun x18 => ((if x18 = 0 then some (zd3 u, s4) else (m_X10_costWithSign fu s4 (0 : Int32) (0 : Int32) (0 : Int32)).bind fun x26 => (m_X10_fold fu x26.2 (zd3 u) (x26.1.toInt64)).bind fun x27 => some (x27, x26.2)) : Option (Int64 × zmem))) : Option (Int64 × zmem)) = some (zd4 u, s5) ∧ zft8 s4 s5 := by
    have r0 : zRow s4 2 (u.1.1 0) (u.1.2.1 0) := c4.1.1.1.2.1
    unfold zd4
    by_cases c : 0 < u.1.1 0
    · obtain ⟨s5, e, f5⟩ := pX10_costSign (fu := fu) (r := 0) (p := 0) (x := 0) c4.1.1 hu.1 (by decide) c (by decide) (by omega)
      refine ⟨s5, ?_, f5⟩
      rw [show m_X6_has fu s4 2 (0 : Int32) = some 1 from pX6_has (p := 0) r0 c, Option.bind_some, if_neg (by decide), show m_X10_costWithSign fu s4 (0 : Int32) (0 : Int32) (0 : Int32) = _ from e, Option.bind_some, if_pos c]
      rfl
    · have r0' : zRow s4 2 0 (u.1.2.1 0) := by
        have : u.1.1 0 = 0 := by omega
        rw [this] at r0
        exact r0
      refine ⟨s4, ?_, ⟨fun _ _ => rfl, rfl⟩⟩
      rw [pX6_has0 r0', Option.bind_some, if_pos rfl, if_neg c]
  obtain ⟨s5, e6, f5⟩ := e6
  have c5 := c4.t8 f5
  obtain ⟨s6, e7, f6⟩ := pX10_best (fu := fu) c5.1.1 hu.1 (by omega)
  have c6 := c5.t8 f6
  refine ⟨s6, ?_, c6.i, (f1.tr f2).tr ((((f3.tr f4).tr f5).tr f6).c)⟩
  unfold m_X10_digest
  rw [e1, Option.bind_some, e2, Option.bind_some, e3, Option.bind_some, show m_X10_foldRow fu y.2 (zd1 u) (0 : Int32) = _ from pX10_foldRow (r := 0) c2 hu (by decide) (by omega), Option.bind_some, show m_X10_foldRow fu y.2 (zdRow u.1 0 (zd1 u)) (1 : Int32) = _ from pX10_foldRow (r := 1) c2 hu (by decide) (by omega), Option.bind_some, pX10_foldAnchors c2 hu (by omega), Option.bind_some, pX10_foldGaps c2 hu (by omega), Option.bind_some]
  rw [show m_X10_costWithSetting fu y.2 (0 : Int32) (2 : Int32) = _ from e4, Option.bind_some]
  unfold m_X10_fold
  rw [Option.bind_some]
  dsimp only
  rw [show m_X10_costWithSetting fu s3 (3 : Int32) (0 : Int32) = _ from e5, Option.bind_some, Option.bind_some]
  dsimp only
  unfold m_X10_fold at e6
  rw [← Option.bind_assoc]
  rw [show ((m_X6_has fu s4 2 (0 : Int32)).bind fun x18 => ((if x18 = 0 then some (31 * (31 * zdGap u.1 (zdAnc u.1 (zdRow u.1 1 (zdRow u.1 0 (zd1 u)))) + (nI (zcost (zset u.1 0 2))).toInt64) + (nI (zcost (zset u.1 3 0))).toInt64, s4) else (m_X10_costWithSign fu s4 (0 : Int32) (0 : Int32) (0 : Int32)).bind fun x26 => (some (31 * (31 * (31 * zdGap u.1 (zdAnc u.1 (zdRow u.1 1 (zdRow u.1 0 (zd1 u)))) + (nI (zcost (zset u.1 0 2))).toInt64) + (nI (zcost (zset u.1 3 0))).toInt64) + x26.1.toInt64)).bind fun x27 => some (x27, x26.2)) : Option (Int64 × zmem))) = some (zd4 u, s5) from e6, Option.bind_some]
  dsimp only
  rw [e7, Option.bind_some, Option.bind_some]
  dsimp only
  rw [pX10_share c6 hu (by omega), Option.bind_some, zshare_bits hu.1 (by omega), Option.bind_some, Option.bind_some]
  rw [show (31 * (31 * zd4 u + (nI (zbest u.1)).toInt64) + m_J_bits (zshare u.1)) = zd5 u from rfl, pX10_foldText c6.1 (by omega), Option.bind_some]
  rfl
