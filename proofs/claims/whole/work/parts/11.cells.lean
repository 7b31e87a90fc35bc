def m_X6_size (fu : Nat) (σ : zmem) (i0 : Nat) : Option (Int32) := some (σ.1 i0 1)
set_option maxHeartbeats 4000000 in
set_option maxRecDepth 100000 in
theorem c_X6_size (l : Launch) (g : zgeo) (fu : Nat) {σ : zmem} {i0 : Nat} {r : Int32} (h0 : zkd i0 = (6, 0)) (hr : m_X6_size fu σ i0 = some r) : zCt (zQI g r σ) l g yX6_size cX6_size 1 (some .int) 0 0 [.ref (zA g i0)] σ := by
  refine zopen (by decide) (Nat.le_of_ble_eq_true rfl) ?_
  intro p e s m below meth c M ls hl I
  have M : zMC RX6 cX6_size 1 (some .int) g p m c s ([.ref (zA g i0)] : List Value).toArray meth := M
  have hl : lv_has ls 1 [(0, .ref (zA g i0))] := hl
  generalize ([.ref (zA g i0)] : List Value).toArray = args at M ⊢
  have hx := M.1.1
  have hb := M.1.2.1
  unfold m_X6_size at hr
  refine lv_aload_n hx hb dX6_size_0 rfl (lv_at hl 0 rfl) ?_
  refine zgetI M I h0 zfl_X6_15 dX6_size_1 ?_
  obtain rfl := Option.some.inj hr
  exact zretI M I dX6_size_4
def m_X1_at (fu : Nat) (σ : zmem) (i0 : Nat) (a1 : Int32) : Option (Int32) := (if a1 < 0 then some (-1 : Int32) else (if (nI (zkd (i0 + 1)).2) ≤ a1 then some (-1 : Int32) else (zrd σ (i0 + 1) a1).bind fun x1 => some x1))
set_option maxHeartbeats 4000000 in
set_option maxRecDepth 100000 in
theorem c_X1_at (l : Launch) (g : zgeo) (fu : Nat) {σ : zmem} {i0 : Nat} {a1 : Int32} {r : Int32} (h0 : zkd i0 = (1, 0)) (hr : m_X1_at fu σ i0 a1 = some r) : zCt (zQI g r σ) l g yX1_at cX1_at 2 (some .int) 0 0 [.ref (zA g i0), .int a1] σ := by
  refine zopen (by decide) (Nat.le_of_ble_eq_true rfl) ?_
  intro p e s m below meth c M ls hl I
  have M : zMC RX1 cX1_at 2 (some .int) g p m c s ([.ref (zA g i0), .int a1] : List Value).toArray meth := M
  have hl : lv_has ls 2 [(0, .ref (zA g i0)), (1, .int a1)] := hl
  generalize ([.ref (zA g i0), .int a1] : List Value).toArray = args at M ⊢
  have hx := M.1.1
  have hb := M.1.2.1
  unfold m_X1_at at hr
  refine lv_iload_n hx hb dX1_at_0 rfl (lv_at hl 1 rfl) ?_
  refine lv_if_lt (tgt := 22) hx hb dX1_at_1 (by decide) (fun c3 => ?_) (fun c3 => ?_)
  · replace hr := zif_t hr c3
    refine lv_iconst (v := (-1 : Int32)) hx hb dX1_at_22 (by decide) ?_
    obtain rfl := Option.some.inj hr
    exact zretI M I dX1_at_23
  · replace hr := zif_f hr c3
    refine lv_iload_n hx hb dX1_at_4 rfl (lv_at hl 1 rfl) ?_
    refine lv_aload_n hx hb dX1_at_5 rfl (lv_at hl 0 rfl) ?_
    refine zgetR (j := (i0 + 1)) M I h0 zfl_X1_9 dX1_at_6 rfl ?_
    refine zalen M I (zs_1_0 h0) dX1_at_9 ?_
    refine lv_icmp_ge (tgt := 22) hx hb dX1_at_10 (by decide) (fun c2 => ?_) (fun c2 => ?_)
    · replace hr := zif_t hr c2
      refine lv_iconst (v := (-1 : Int32)) hx hb dX1_at_22 (by decide) ?_
      obtain rfl := Option.some.inj hr
      exact zretI M I dX1_at_23
    · replace hr := zif_f hr c2
      refine lv_aload_n hx hb dX1_at_13 rfl (lv_at hl 0 rfl) ?_
      refine zgetR (j := (i0 + 1)) M I h0 zfl_X1_9 dX1_at_14 rfl ?_
      refine lv_iload_n hx hb dX1_at_17 rfl (lv_at hl 1 rfl) ?_
      obtain ⟨x1, e_x1, hr⟩ := zb_some hr
      refine ziald M I (zs_1_0 h0) e_x1 dX1_at_18 ?_
      refine lv_goto (tgt := 23) hx hb dX1_at_19 (by decide) ?_
      obtain rfl := Option.some.inj hr
      exact zretI M I dX1_at_23
def m_X1_store (fu : Nat) (σ : zmem) (i0 : Nat) (a1 : Int32) (a2 : Int32) : Option (zmem) := (if a1 < 0 then some σ else (if (nI (zkd (i0 + 1)).2) ≤ a1 then some σ else (zwr σ (i0 + 1) a1 a2).bind fun s1 => some s1))
set_option maxHeartbeats 4000000 in
set_option maxRecDepth 100000 in
theorem c_X1_store (l : Launch) (g : zgeo) (fu : Nat) {σ : zmem} {i0 : Nat} {a1 : Int32} {a2 : Int32} {r : zmem} (h0 : zkd i0 = (1, 0)) (hr : m_X1_store fu σ i0 a1 a2 = some r) : zCt (zQV g r) l g yX1_store cX1_store 3 none 0 0 [.ref (zA g i0), .int a1, .int a2] σ := by
  refine zopen (by decide) (Nat.le_of_ble_eq_true rfl) ?_
  intro p e s m below meth c M ls hl I
  have M : zMC RX1 cX1_store 3 none g p m c s ([.ref (zA g i0), .int a1, .int a2] : List Value).toArray meth := M
  have hl : lv_has ls 3 [(0, .ref (zA g i0)), (1, .int a1), (2, .int a2)] := hl
  generalize ([.ref (zA g i0), .int a1, .int a2] : List Value).toArray = args at M ⊢
  have hx := M.1.1
  have hb := M.1.2.1
  unfold m_X1_store at hr
  refine lv_iload_n hx hb dX1_store_0 rfl (lv_at hl 1 rfl) ?_
  refine lv_if_lt (tgt := 20) hx hb dX1_store_1 (by decide) (fun c3 => ?_) (fun c3 => ?_)
  · replace hr := zif_t hr c3
    obtain rfl := Option.some.inj hr
    exact zretV M I dX1_store_20
  · replace hr := zif_f hr c3
    refine lv_iload_n hx hb dX1_store_4 rfl (lv_at hl 1 rfl) ?_
    refine lv_aload_n hx hb dX1_store_5 rfl (lv_at hl 0 rfl) ?_
    refine zgetR (j := (i0 + 1)) M I h0 zfl_X1_9 dX1_store_6 rfl ?_
    refine zalen M I (zs_1_0 h0) dX1_store_9 ?_
    refine lv_icmp_ge (tgt := 20) hx hb dX1_store_10 (by decide) (fun c2 => ?_) (fun c2 => ?_)
    · replace hr := zif_t hr c2
      obtain rfl := Option.some.inj hr
      exact zretV M I dX1_store_20
    · replace hr := zif_f hr c2
      refine lv_aload_n hx hb dX1_store_13 rfl (lv_at hl 0 rfl) ?_
      refine zgetR (j := (i0 + 1)) M I h0 zfl_X1_9 dX1_store_14 rfl ?_
      refine lv_iload_n hx hb dX1_store_17 rfl (lv_at hl 1 rfl) ?_
      refine lv_iload_n hx hb dX1_store_18 rfl (lv_at hl 2 rfl) ?_
      obtain ⟨s1, e_s1, hr⟩ := zb_some hr
      refine ziast M I (zs_1_0 h0) e_s1 dX1_store_19 (fun H locs I => ?_)
      obtain rfl := Option.some.inj hr
      exact zretV M I dX1_store_20
def m_X6_signAt (fu : Nat) (σ : zmem) (i0 : Nat) (a1 : Int32) : Option (Int32) := (if a1 < 0 then some (-1 : Int32) else (if (nI (zkd (i0 + 1)).2) ≤ a1 then some (-1 : Int32) else (zrd σ (i0 + 1) a1).bind fun x1 => some x1))
set_option maxHeartbeats 4000000 in
set_option maxRecDepth 100000 in
theorem c_X6_signAt (l : Launch) (g : zgeo) (fu : Nat) {σ : zmem} {i0 : Nat} {a1 : Int32} {r : Int32} (h0 : zkd i0 = (6, 0)) (hr : m_X6_signAt fu σ i0 a1 = some r) : zCt (zQI g r σ) l g yX6_signAt cX6_signAt 2 (some .int) 0 0 [.ref (zA g i0), .int a1] σ := by
  refine zopen (by decide) (Nat.le_of_ble_eq_true rfl) ?_
  intro p e s m below meth c M ls hl I
  have M : zMC RX6 cX6_signAt 2 (some .int) g p m c s ([.ref (zA g i0), .int a1] : List Value).toArray meth := M
  have hl : lv_has ls 2 [(0, .ref (zA g i0)), (1, .int a1)] := hl
  generalize ([.ref (zA g i0), .int a1] : List Value).toArray = args at M ⊢
  have hx := M.1.1
  have hb := M.1.2.1
  unfold m_X6_signAt at hr
  refine lv_iload_n hx hb dX6_signAt_0 rfl (lv_at hl 1 rfl) ?_
  refine lv_if_lt (tgt := 22) hx hb dX6_signAt_1 (by decide) (fun c3 => ?_) (fun c3 => ?_)
  · replace hr := zif_t hr c3
    refine lv_iconst (v := (-1 : Int32)) hx hb dX6_signAt_22 (by decide) ?_
    obtain rfl := Option.some.inj hr
    exact zretI M I dX6_signAt_23
  · replace hr := zif_f hr c3
    refine lv_iload_n hx hb dX6_signAt_4 rfl (lv_at hl 1 rfl) ?_
    refine lv_aload_n hx hb dX6_signAt_5 rfl (lv_at hl 0 rfl) ?_
    refine zgetR (j := (i0 + 1)) M I h0 zfl_X6_9 dX6_signAt_6 rfl ?_
    refine zalen M I (zs_6_0 h0) dX6_signAt_9 ?_
    refine lv_icmp_ge (tgt := 22) hx hb dX6_signAt_10 (by decide) (fun c2 => ?_) (fun c2 => ?_)
    · replace hr := zif_t hr c2
      refine lv_iconst (v := (-1 : Int32)) hx hb dX6_signAt_22 (by decide) ?_
      obtain rfl := Option.some.inj hr
      exact zretI M I dX6_signAt_23
    · replace hr := zif_f hr c2
      refine lv_aload_n hx hb dX6_signAt_13 rfl (lv_at hl 0 rfl) ?_
      refine zgetR (j := (i0 + 1)) M I h0 zfl_X6_9 dX6_signAt_14 rfl ?_
      refine lv_iload_n hx hb dX6_signAt_17 rfl (lv_at hl 1 rfl) ?_
      obtain ⟨x1, e_x1, hr⟩ := zb_some hr
      refine ziald M I (zs_6_0 h0) e_x1 dX6_signAt_18 ?_
      refine lv_goto (tgt := 23) hx hb dX6_signAt_19 (by decide) ?_
      obtain rfl := Option.some.inj hr
      exact zretI M I dX6_signAt_23
def m_X6_write (fu : Nat) (σ : zmem) (i0 : Nat) (a1 : Int32) (a2 : Int32) : Option (zmem) := (if a1 < 0 then some σ else (if (nI (zkd (i0 + 1)).2) ≤ a1 then some σ else (zwr σ (i0 + 1) a1 a2).bind fun s1 => some s1))
set_option maxHeartbeats 4000000 in
set_option maxRecDepth 100000 in
theorem c_X6_write (l : Launch) (g : zgeo) (fu : Nat) {σ : zmem} {i0 : Nat} {a1 : Int32} {a2 : Int32} {r : zmem} (h0 : zkd i0 = (6, 0)) (hr : m_X6_write fu σ i0 a1 a2 = some r) : zCt (zQV g r) l g yX6_write cX6_write 3 none 0 0 [.ref (zA g i0), .int a1, .int a2] σ := by
  refine zopen (by decide) (Nat.le_of_ble_eq_true rfl) ?_
  intro p e s m below meth c M ls hl I
  have M : zMC RX6 cX6_write 3 none g p m c s ([.ref (zA g i0), .int a1, .int a2] : List Value).toArray meth := M
  have hl : lv_has ls 3 [(0, .ref (zA g i0)), (1, .int a1), (2, .int a2)] := hl
  generalize ([.ref (zA g i0), .int a1, .int a2] : List Value).toArray = args at M ⊢
  have hx := M.1.1
  have hb := M.1.2.1
  unfold m_X6_write at hr
  refine lv_iload_n hx hb dX6_write_0 rfl (lv_at hl 1 rfl) ?_
  refine lv_if_lt (tgt := 20) hx hb dX6_write_1 (by decide) (fun c3 => ?_) (fun c3 => ?_)
  · replace hr := zif_t hr c3
    obtain rfl := Option.some.inj hr
    exact zretV M I dX6_write_20
  · replace hr := zif_f hr c3
    refine lv_iload_n hx hb dX6_write_4 rfl (lv_at hl 1 rfl) ?_
    refine lv_aload_n hx hb dX6_write_5 rfl (lv_at hl 0 rfl) ?_
    refine zgetR (j := (i0 + 1)) M I h0 zfl_X6_9 dX6_write_6 rfl ?_
    refine zalen M I (zs_6_0 h0) dX6_write_9 ?_
    refine lv_icmp_ge (tgt := 20) hx hb dX6_write_10 (by decide) (fun c2 => ?_) (fun c2 => ?_)
    · replace hr := zif_t hr c2
      obtain rfl := Option.some.inj hr
      exact zretV M I dX6_write_20
    · replace hr := zif_f hr c2
      refine lv_aload_n hx hb dX6_write_13 rfl (lv_at hl 0 rfl) ?_
      refine zgetR (j := (i0 + 1)) M I h0 zfl_X6_9 dX6_write_14 rfl ?_
      refine lv_iload_n hx hb dX6_write_17 rfl (lv_at hl 1 rfl) ?_
      refine lv_iload_n hx hb dX6_write_18 rfl (lv_at hl 2 rfl) ?_
      obtain ⟨s1, e_s1, hr⟩ := zb_some hr
      refine ziast M I (zs_6_0 h0) e_s1 dX6_write_19 (fun H locs I => ?_)
      obtain rfl := Option.some.inj hr
      exact zretV M I dX6_write_20
def l_X6_insert_27 (fu : Nat) (i0 : Nat) (a1 : Int32) (a2 : Int32) : Nat → Int32 → zmem → Option (zmem)
  | 0, _, _ => none
  | n + 1, v3, σ => (if v3 ≤ a1 then some σ else (m_X6_signAt fu σ i0 (v3 - (1 : Int32))).bind fun x1 => (m_X6_write fu σ i0 v3 x1).bind fun x2 => l_X6_insert_27 fu i0 a1 a2 n (v3 - 1) x2)
set_option maxHeartbeats 4000000 in
set_option maxRecDepth 100000 in
theorem k_X6_insert_27 {l : Launch} {g : zgeo} {fu : Nat} {p : Program} {e : Env} {s : State} {m : MethodId} {args : Array Value} {below : List Frame} {meth : Method} {c : Code} (M : zMC RX6 cX6_insert 4 none g p m c s args meth) {i0 : Nat} {a1 : Int32} {a2 : Int32} (h0 : zkd i0 = (6, 0)) {Q : State → Prop} : ∀ (n : Nat) (v3 : Int32) (σ : zmem) (o : zmem), l_X6_insert_27 fu i0 a1 a2 n v3 σ = some o → ∀ (ls : Array Slot) (H : Heap) (locs : List Loc), lv_has ls 4 [(0, .ref (zA g i0)), (1, .int a1), (2, .int a2), (3, .int v3)] → zIV g σ (zAA g) s.heap H locs → (∀ (ls : Array Slot) (H : Heap) (locs : List Loc), lv_has ls 4 [(0, .ref (zA g i0)), (1, .int a1), (2, .int a2)] → zIV g o (zAA g) s.heap H locs → W p l e (zrm 1 22) s m args below meth c H locs 0 0 Q (F0 m 50 ls [])) → W p l e (zrm 1 22) s m args below meth c H locs 0 0 Q (F0 m 27 ls []) := by
  have hx := M.1.1
  have hb := M.1.2.1
  intro n
  induction n with
  | zero =>
    intro v3 σ o hr ls H locs hl I KF
    have hr : (none : Option (zmem)) = some o := hr
    cases hr
  | succ n ih =>
    intro v3 σ o hr ls H locs hl I KF
    rw [l_X6_insert_27] at hr
    refine lv_iload_n hx hb dX6_insert_27 rfl (lv_at hl 3 rfl) ?_
    refine lv_iload_n hx hb dX6_insert_28 rfl (lv_at hl 1 rfl) ?_
    refine lv_icmp_le (tgt := 50) hx hb dX6_insert_29 (by decide) (fun c3 => ?_) (fun c3 => ?_)
    · replace hr := zif_t hr c3
      obtain rfl := Option.some.inj hr
      exact KF ls _ _ (lv_sub hl [0, 1, 2] rfl) I
    · replace hr := zif_f hr c3
      refine lv_aload_n hx hb dX6_insert_32 rfl (lv_at hl 0 rfl) ?_
      refine lv_iload_n hx hb dX6_insert_33 rfl (lv_at hl 3 rfl) ?_
      refine lv_aload_n hx hb dX6_insert_34 rfl (lv_at hl 0 rfl) ?_
      refine lv_iload_n hx hb dX6_insert_35 rfl (lv_at hl 3 rfl) ?_
      refine lv_iconst (v := (1 : Int32)) hx hb dX6_insert_36 (by decide) ?_
      refine lv_isub hx hb dX6_insert_37 ?_
      obtain ⟨x1, e_x1, hr⟩ := zb_some hr
      refine zcallI M I (zrunV (as := [.int (v3 - (1 : Int32))]) M I (c_X6_signAt l g fu h0 e_x1) h0 zK6.1 (by decide) zlv_X6_23 ⟨Nat.le_of_ble_eq_true rfl, Nat.le_of_ble_eq_true rfl⟩ ⟨Nat.zero_le _, Nat.zero_le _⟩ rfl rfl (Nat.le_of_ble_eq_true rfl) hl.1 dX6_insert_38) (fun H locs I => ?_)
      obtain ⟨x2, e_x2, hr⟩ := zb_some hr
      refine zcallU M I (zrunV (as := [.int v3, .int x1]) M I (c_X6_write l g fu h0 e_x2) h0 zK6.1 (by decide) zlv_X6_19 ⟨Nat.le_of_ble_eq_true rfl, Nat.le_of_ble_eq_true rfl⟩ ⟨Nat.zero_le _, Nat.zero_le _⟩ rfl rfl (Nat.le_of_ble_eq_true rfl) hl.1 dX6_insert_41) (fun H locs I => ?_)
      refine lv_iinc (lv' := [(3, .int (v3 - 1)), (0, .ref (zA g i0)), (1, .int a1), (2, .int a2)]) (k := 3) (v := (v3 - 1)) hx hb dX6_insert_44 hl rfl (zi_m1 _) (by decide) rfl (fun ls hl => ?_)
      refine lv_goto (tgt := 27) hx hb dX6_insert_47 (by decide) ?_
      exact ih _ _  _ hr ls _ _ (lv_sub hl [1, 2, 3, 0] rfl) I KF
def m_X6_insert (fu : Nat) (σ : zmem) (i0 : Nat) (a1 : Int32) (a2 : Int32) : Option (zmem) := (if a1 < 0 then some σ else (if (σ.1 i0 1) < a1 then some σ else (if (σ.1 i0 1) < (24 : Int32) then (l_X6_insert_27 fu i0 a1 a2 fu (σ.1 i0 1) σ).bind fun x4 => (m_X6_write fu x4 i0 a1 a2).bind fun x5 => some (zst x5 i0 1 ((x5.1 i0 1) + (1 : Int32))) else some σ)))
set_option maxHeartbeats 4000000 in
set_option maxRecDepth 100000 in
theorem c_X6_insert (l : Launch) (g : zgeo) (fu : Nat) {σ : zmem} {i0 : Nat} {a1 : Int32} {a2 : Int32} {r : zmem} (h0 : zkd i0 = (6, 0)) (hr : m_X6_insert fu σ i0 a1 a2 = some r) : zCt (zQV g r) l g yX6_insert cX6_insert 4 none 1 22 [.ref (zA g i0), .int a1, .int a2] σ := by
  refine zopen (by decide) (Nat.le_of_ble_eq_true rfl) ?_
  intro p e s m below meth c M ls hl I
  have M : zMC RX6 cX6_insert 4 none g p m c s ([.ref (zA g i0), .int a1, .int a2] : List Value).toArray meth := M
  have hl : lv_has ls 4 [(0, .ref (zA g i0)), (1, .int a1), (2, .int a2)] := hl
  generalize ([.ref (zA g i0), .int a1, .int a2] : List Value).toArray = args at M ⊢
  have hx := M.1.1
  have hb := M.1.2.1
  unfold m_X6_insert at hr
  refine lv_iload_n hx hb dX6_insert_0 rfl (lv_at hl 1 rfl) ?_
  refine lv_if_lt (tgt := 21) hx hb dX6_insert_1 (by decide) (fun c8 => ?_) (fun c8 => ?_)
  · replace hr := zif_t hr c8
    obtain rfl := Option.some.inj hr
    exact zretV M I dX6_insert_21
  · replace hr := zif_f hr c8
    refine lv_iload_n hx hb dX6_insert_4 rfl (lv_at hl 1 rfl) ?_
    refine lv_aload_n hx hb dX6_insert_5 rfl (lv_at hl 0 rfl) ?_
    refine zgetI M I h0 zfl_X6_15 dX6_insert_6 ?_
    refine lv_icmp_gt (tgt := 21) hx hb dX6_insert_9 (by decide) (fun c7 => ?_) (fun c7 => ?_)
    · replace hr := zif_t hr c7
      obtain rfl := Option.some.inj hr
      exact zretV M I dX6_insert_21
    · replace hr := zif_f hr c7
      refine lv_aload_n hx hb dX6_insert_12 rfl (lv_at hl 0 rfl) ?_
      refine zgetI M I h0 zfl_X6_15 dX6_insert_13 ?_
      refine lv_bipush (v := (24 : Int32)) hx hb dX6_insert_16 (by decide) ?_
      refine lv_icmp_lt (tgt := 22) hx hb dX6_insert_18 (by decide) (fun c6 => ?_) (fun c6 => ?_)
      · replace hr := zif_t hr c6
        refine lv_aload_n hx hb dX6_insert_22 rfl (lv_at hl 0 rfl) ?_
        refine zgetI M I h0 zfl_X6_15 dX6_insert_23 ?_
        refine lv_istore_n (lv' := [(3, .int (σ.1 i0 1)), (0, .ref (zA g i0)), (1, .int a1), (2, .int a2)]) hx hb dX6_insert_26 rfl hl (by decide) rfl (fun ls hl => ?_)
        obtain ⟨x4, e_x4, hr⟩ := zb_some hr
        refine k_X6_insert_27 M h0 fu _ _  _ e_x4 ls _ _ (lv_sub hl [1, 2, 3, 0] rfl) I (fun ls H locs hl I => ?_)
        refine lv_aload_n hx hb dX6_insert_50 rfl (lv_at hl 0 rfl) ?_
        refine lv_iload_n hx hb dX6_insert_51 rfl (lv_at hl 1 rfl) ?_
        refine lv_iload_n hx hb dX6_insert_52 rfl (lv_at hl 2 rfl) ?_
        obtain ⟨x5, e_x5, hr⟩ := zb_some hr
        refine zcallU M I (zrunV (as := [.int a1, .int a2]) M I (c_X6_write l g fu h0 e_x5) h0 zK6.1 (by decide) zlv_X6_19 ⟨Nat.le_of_ble_eq_true rfl, Nat.le_of_ble_eq_true rfl⟩ ⟨Nat.zero_le _, Nat.zero_le _⟩ rfl rfl (Nat.le_of_ble_eq_true rfl) hl.1 dX6_insert_53) (fun H locs I => ?_)
        refine lv_aload_n hx hb dX6_insert_56 rfl (lv_at hl 0 rfl) ?_
        refine lv_dup hx hb dX6_insert_57 rfl ?_
        refine zgetI M I h0 zfl_X6_15 dX6_insert_58 ?_
        refine lv_iconst (v := (1 : Int32)) hx hb dX6_insert_61 (by decide) ?_
        refine lv_iadd hx hb dX6_insert_62 ?_
        refine zputI M I h0 zfw_X6_15 dX6_insert_63 (fun H locs I => ?_)
        obtain rfl := Option.some.inj hr
        exact zretV M I dX6_insert_66
      · replace hr := zif_f hr c6
        obtain rfl := Option.some.inj hr
        exact zretV M I dX6_insert_21
def m_X6_has (fu : Nat) (σ : zmem) (i0 : Nat) (a1 : Int32) : Option (Int32) := (if a1 < 0 then some (0 : Int32) else (if (σ.1 i0 1) ≤ a1 then some (0 : Int32) else some (1 : Int32)))
set_option maxHeartbeats 4000000 in
set_option maxRecDepth 100000 in
theorem c_X6_has (l : Launch) (g : zgeo) (fu : Nat) {σ : zmem} {i0 : Nat} {a1 : Int32} {r : Int32} (h0 : zkd i0 = (6, 0)) (hr : m_X6_has fu σ i0 a1 = some r) : zCt (zQI g r σ) l g yX6_has cX6_has 2 (some .boolean) 0 0 [.ref (zA g i0), .int a1] σ := by
  refine zopen (by decide) (Nat.le_of_ble_eq_true rfl) ?_
  intro p e s m below meth c M ls hl I
  have M : zMC RX6 cX6_has 2 (some .boolean) g p m c s ([.ref (zA g i0), .int a1] : List Value).toArray meth := M
  have hl : lv_has ls 2 [(0, .ref (zA g i0)), (1, .int a1)] := hl
  generalize ([.ref (zA g i0), .int a1] : List Value).toArray = args at M ⊢
  have hx := M.1.1
  have hb := M.1.2.1
  unfold m_X6_has at hr
  refine lv_iload_n hx hb dX6_has_0 rfl (lv_at hl 1 rfl) ?_
  refine lv_if_lt (tgt := 16) hx hb dX6_has_1 (by decide) (fun c2 => ?_) (fun c2 => ?_)
  · replace hr := zif_t hr c2
    refine lv_iconst (v := (0 : Int32)) hx hb dX6_has_16 (by decide) ?_
    obtain rfl := Option.some.inj hr
    exact zretZ M I (Or.inl rfl) dX6_has_17
  · replace hr := zif_f hr c2
    refine lv_iload_n hx hb dX6_has_4 rfl (lv_at hl 1 rfl) ?_
    refine lv_aload_n hx hb dX6_has_5 rfl (lv_at hl 0 rfl) ?_
    refine zgetI M I h0 zfl_X6_15 dX6_has_6 ?_
    refine lv_icmp_ge (tgt := 16) hx hb dX6_has_9 (by decide) (fun c1 => ?_) (fun c1 => ?_)
    · replace hr := zif_t hr c1
      refine lv_iconst (v := (0 : Int32)) hx hb dX6_has_16 (by decide) ?_
      obtain rfl := Option.some.inj hr
      exact zretZ M I (Or.inl rfl) dX6_has_17
    · replace hr := zif_f hr c1
      refine lv_iconst (v := (1 : Int32)) hx hb dX6_has_12 (by decide) ?_
      refine lv_goto (tgt := 17) hx hb dX6_has_13 (by decide) ?_
      obtain rfl := Option.some.inj hr
      exact zretZ M I (Or.inr rfl) dX6_has_17
def l_X6_remove_36 (fu : Nat) (i0 : Nat) (a2 : Int32) : Nat → Int32 → zmem → Option (zmem)
  | 0, _, _ => none
  | n + 1, v3, σ => (if (σ.1 i0 1) ≤ v3 then some σ else (m_X6_signAt fu σ i0 (v3 + a2)).bind fun x2 => (m_X6_write fu σ i0 v3 x2).bind fun x3 => l_X6_remove_36 fu i0 a2 n (v3 + 1) x3)
set_option maxHeartbeats 4000000 in
set_option maxRecDepth 100000 in
theorem k_X6_remove_36 {l : Launch} {g : zgeo} {fu : Nat} {p : Program} {e : Env} {s : State} {m : MethodId} {args : Array Value} {below : List Frame} {meth : Method} {c : Code} (M : zMC RX6 cX6_remove 4 none g p m c s args meth) {i0 : Nat} {a2 : Int32} (h0 : zkd i0 = (6, 0)) {Q : State → Prop} : ∀ (n : Nat) (v3 : Int32) (σ : zmem) (o : zmem), l_X6_remove_36 fu i0 a2 n v3 σ = some o → ∀ (ls : Array Slot) (H : Heap) (locs : List Loc), lv_has ls 4 [(0, .ref (zA g i0)), (2, .int a2), (3, .int v3)] → zIV g σ (zAA g) s.heap H locs → (∀ (ls : Array Slot) (H : Heap) (locs : List Loc), lv_has ls 4 [] → zIV g o (zAA g) s.heap H locs → W p l e (zrm 1 22) s m args below meth c H locs 0 0 Q (F0 m 62 ls [])) → W p l e (zrm 1 22) s m args below meth c H locs 0 0 Q (F0 m 36 ls []) := by
  have hx := M.1.1
  have hb := M.1.2.1
  intro n
  induction n with
  | zero =>
    intro v3 σ o hr ls H locs hl I KF
    have hr : (none : Option (zmem)) = some o := hr
    cases hr
  | succ n ih =>
    intro v3 σ o hr ls H locs hl I KF
    rw [l_X6_remove_36] at hr
    refine lv_iload_n hx hb dX6_remove_36 rfl (lv_at hl 2 rfl) ?_
    refine lv_aload_n hx hb dX6_remove_37 rfl (lv_at hl 0 rfl) ?_
    refine zgetI M I h0 zfl_X6_15 dX6_remove_38 ?_
    refine lv_icmp_ge (tgt := 62) hx hb dX6_remove_41 (by decide) (fun c4 => ?_) (fun c4 => ?_)
    · replace hr := zif_t hr c4
      obtain rfl := Option.some.inj hr
      exact KF ls _ _ (lv_sub hl [] rfl) I
    · replace hr := zif_f hr c4
      refine lv_aload_n hx hb dX6_remove_44 rfl (lv_at hl 0 rfl) ?_
      refine lv_iload_n hx hb dX6_remove_45 rfl (lv_at hl 2 rfl) ?_
      refine lv_aload_n hx hb dX6_remove_46 rfl (lv_at hl 0 rfl) ?_
      refine lv_iload_n hx hb dX6_remove_47 rfl (lv_at hl 2 rfl) ?_
      refine lv_iload_n hx hb dX6_remove_48 rfl (lv_at hl 1 rfl) ?_
      refine lv_iadd hx hb dX6_remove_49 ?_
      obtain ⟨x2, e_x2, hr⟩ := zb_some hr
      refine zcallI M I (zrunV (as := [.int (v3 + a2)]) M I (c_X6_signAt l g fu h0 e_x2) h0 zK6.1 (by decide) zlv_X6_23 ⟨Nat.le_of_ble_eq_true rfl, Nat.le_of_ble_eq_true rfl⟩ ⟨Nat.zero_le _, Nat.zero_le _⟩ rfl rfl (Nat.le_of_ble_eq_true rfl) hl.1 dX6_remove_50) (fun H locs I => ?_)
      obtain ⟨x3, e_x3, hr⟩ := zb_some hr
      refine zcallU M I (zrunV (as := [.int v3, .int x2]) M I (c_X6_write l g fu h0 e_x3) h0 zK6.1 (by decide) zlv_X6_19 ⟨Nat.le_of_ble_eq_true rfl, Nat.le_of_ble_eq_true rfl⟩ ⟨Nat.zero_le _, Nat.zero_le _⟩ rfl rfl (Nat.le_of_ble_eq_true rfl) hl.1 dX6_remove_53) (fun H locs I => ?_)
      refine lv_iinc (lv' := [(3, .int (v3 + 1)), (0, .ref (zA g i0)), (2, .int a2)]) (k := 2) (v := (v3 + 1)) hx hb dX6_remove_56 hl rfl (zi_1 _) (by decide) rfl (fun ls hl => ?_)
      refine lv_goto (tgt := 36) hx hb dX6_remove_59 (by decide) ?_
      exact ih _ _  _ hr ls _ _ (lv_sub hl [1, 2, 0] rfl) I KF
def m_X6_remove (fu : Nat) (σ : zmem) (i0 : Nat) (a1 : Int32) (a2 : Int32) : Option (zmem) := (m_X6_has fu σ i0 a1).bind fun x1 => (if x1 = 0 then some σ else (if a2 < (1 : Int32) then some σ else (if a2 ≤ ((σ.1 i0 1) - a1) then (l_X6_remove_36 fu i0 a2 fu a1 (zst σ i0 1 ((σ.1 i0 1) - a2))).bind fun x5 => some x5 else some σ)))
set_option maxHeartbeats 4000000 in
set_option maxRecDepth 100000 in
theorem c_X6_remove (l : Launch) (g : zgeo) (fu : Nat) {σ : zmem} {i0 : Nat} {a1 : Int32} {a2 : Int32} {r : zmem} (h0 : zkd i0 = (6, 0)) (hr : m_X6_remove fu σ i0 a1 a2 = some r) : zCt (zQV g r) l g yX6_remove cX6_remove 4 none 1 22 [.ref (zA g i0), .int a1, .int a2] σ := by
  refine zopen (by decide) (Nat.le_of_ble_eq_true rfl) ?_
  intro p e s m below meth c M ls hl I
  have M : zMC RX6 cX6_remove 4 none g p m c s ([.ref (zA g i0), .int a1, .int a2] : List Value).toArray meth := M
  have hl : lv_has ls 4 [(0, .ref (zA g i0)), (1, .int a1), (2, .int a2)] := hl
  generalize ([.ref (zA g i0), .int a1, .int a2] : List Value).toArray = args at M ⊢
  have hx := M.1.1
  have hb := M.1.2.1
  unfold m_X6_remove at hr
  refine lv_aload_n hx hb dX6_remove_0 rfl (lv_at hl 0 rfl) ?_
  refine lv_iload_n hx hb dX6_remove_1 rfl (lv_at hl 1 rfl) ?_
  obtain ⟨x1, e_x1, hr⟩ := zb_some hr
  refine zcallI M I (zrunV (as := [.int a1]) M I (c_X6_has l g fu h0 e_x1) h0 zK6.1 (by decide) zlv_X6_27 ⟨Nat.le_of_ble_eq_true rfl, Nat.le_of_ble_eq_true rfl⟩ ⟨Nat.zero_le _, Nat.zero_le _⟩ rfl rfl (Nat.le_of_ble_eq_true rfl) hl.1 dX6_remove_2) (fun H locs I => ?_)
  refine lv_if_eq (tgt := 23) hx hb dX6_remove_5 (by decide) (fun c8 => ?_) (fun c8 => ?_)
  · replace hr := zif_t hr c8
    obtain rfl := Option.some.inj hr
    exact zretV M I dX6_remove_23
  · replace hr := zif_f hr c8
    refine lv_iload_n hx hb dX6_remove_8 rfl (lv_at hl 2 rfl) ?_
    refine lv_iconst (v := (1 : Int32)) hx hb dX6_remove_9 (by decide) ?_
    refine lv_icmp_lt (tgt := 23) hx hb dX6_remove_10 (by decide) (fun c7 => ?_) (fun c7 => ?_)
    · replace hr := zif_t hr c7
      obtain rfl := Option.some.inj hr
      exact zretV M I dX6_remove_23
    · replace hr := zif_f hr c7
      refine lv_iload_n hx hb dX6_remove_13 rfl (lv_at hl 2 rfl) ?_
      refine lv_aload_n hx hb dX6_remove_14 rfl (lv_at hl 0 rfl) ?_
      refine zgetI M I h0 zfl_X6_15 dX6_remove_15 ?_
      refine lv_iload_n hx hb dX6_remove_18 rfl (lv_at hl 1 rfl) ?_
      refine lv_isub hx hb dX6_remove_19 ?_
      refine lv_icmp_le (tgt := 24) hx hb dX6_remove_20 (by decide) (fun c6 => ?_) (fun c6 => ?_)
      · replace hr := zif_t hr c6
        refine lv_aload_n hx hb dX6_remove_24 rfl (lv_at hl 0 rfl) ?_
        refine lv_dup hx hb dX6_remove_25 rfl ?_
        refine zgetI M I h0 zfl_X6_15 dX6_remove_26 ?_
        refine lv_iload_n hx hb dX6_remove_29 rfl (lv_at hl 2 rfl) ?_
        refine lv_isub hx hb dX6_remove_30 ?_
        refine zputI M I h0 zfw_X6_15 dX6_remove_31 (fun H locs I => ?_)
        refine lv_iload_n hx hb dX6_remove_34 rfl (lv_at hl 1 rfl) ?_
        refine lv_istore_n (lv' := [(3, .int a1), (0, .ref (zA g i0)), (1, .int a1), (2, .int a2)]) hx hb dX6_remove_35 rfl hl (by decide) rfl (fun ls hl => ?_)
        obtain ⟨x5, e_x5, hr⟩ := zb_some hr
        refine k_X6_remove_36 M h0 fu _ _  _ e_x5 ls _ _ (lv_sub hl [1, 3, 0] rfl) I (fun ls H locs hl I => ?_)
        obtain rfl := Option.some.inj hr
        exact zretV M I dX6_remove_62
      · replace hr := zif_f hr c6
        obtain rfl := Option.some.inj hr
        exact zretV M I dX6_remove_23
def l_X6_reverse_8 (fu : Nat) (i0 : Nat) : Nat → Int32 → Int32 → Int32 → zmem → Option (Int32 × zmem)
  | 0, _, _, _, _ => none
  | n + 1, v3, v4, v5, σ => (if v5 ≤ v4 then some (v3, σ) else (m_X6_signAt fu σ i0 v4).bind fun x1 => (m_X6_signAt fu σ i0 v5).bind fun x2 => ((if ¬ x1 = x2 then some (2 : Int32) else some (0 : Int32)) : Option (Int32)).bind fun x3 => (m_X6_write fu σ i0 v4 x2).bind fun x4 => (m_X6_write fu x4 i0 v5 x1).bind fun x5 => l_X6_reverse_8 fu i0 n (v3 + x3) (v4 + 1) (v5 - 1) x5)
set_option maxHeartbeats 4000000 in
set_option maxRecDepth 100000 in
theorem k_X6_reverse_8 {l : Launch} {g : zgeo} {fu : Nat} {p : Program} {e : Env} {s : State} {m : MethodId} {args : Array Value} {below : List Frame} {meth : Method} {c : Code} (M : zMC RX6 cX6_reverse 8 (some .int) g p m c s args meth) {i0 : Nat} (h0 : zkd i0 = (6, 0)) {Q : State → Prop} : ∀ (n : Nat) (v3 : Int32) (v4 : Int32) (v5 : Int32) (σ : zmem) (o : Int32 × zmem), l_X6_reverse_8 fu i0 n v3 v4 v5 σ = some o → ∀ (ls : Array Slot) (H : Heap) (locs : List Loc), lv_has ls 8 [(0, .ref (zA g i0)), (3, .int v3), (4, .int v4), (5, .int v5)] → zIV g σ (zAA g) s.heap H locs → (∀ (ls : Array Slot) (H : Heap) (locs : List Loc), lv_has ls 8 [(3, .int o.1)] → zIV g o.2 (zAA g) s.heap H locs → W p l e (zrm 1 22) s m args below meth c H locs 0 0 Q (F0 m 71 ls [])) → W p l e (zrm 1 22) s m args below meth c H locs 0 0 Q (F0 m 8 ls []) := by
  have hx := M.1.1
  have hb := M.1.2.1
  intro n
  induction n with
  | zero =>
    intro v3 v4 v5 σ o hr ls H locs hl I KF
    have hr : (none : Option (Int32 × zmem)) = some o := hr
    cases hr
  | succ n ih =>
    intro v3 v4 v5 σ o hr ls H locs hl I KF
    rw [l_X6_reverse_8] at hr
    refine lv_iload hx hb dX6_reverse_8 (lv_at hl 2 rfl) ?_
    refine lv_iload hx hb dX6_reverse_10 (lv_at hl 3 rfl) ?_
    refine lv_icmp_ge (tgt := 71) hx hb dX6_reverse_12 (by decide) (fun c7 => ?_) (fun c7 => ?_)
    · replace hr := zif_t hr c7
      obtain rfl := Option.some.inj hr
      exact KF ls _ _ (lv_sub hl [1] rfl) I
    · replace hr := zif_f hr c7
      refine lv_aload_n hx hb dX6_reverse_15 rfl (lv_at hl 0 rfl) ?_
      refine lv_iload hx hb dX6_reverse_16 (lv_at hl 2 rfl) ?_
      obtain ⟨x1, e_x1, hr⟩ := zb_some hr
      refine zcallI M I (zrunV (as := [.int v4]) M I (c_X6_signAt l g fu h0 e_x1) h0 zK6.1 (by decide) zlv_X6_23 ⟨Nat.le_of_ble_eq_true rfl, Nat.le_of_ble_eq_true rfl⟩ ⟨Nat.zero_le _, Nat.zero_le _⟩ rfl rfl (Nat.le_of_ble_eq_true rfl) hl.1 dX6_reverse_18) (fun H locs I => ?_)
      refine lv_istore (lv' := [(6, .int x1), (0, .ref (zA g i0)), (3, .int v3), (4, .int v4), (5, .int v5)]) hx hb dX6_reverse_21 hl (by decide) rfl (fun ls hl => ?_)
      refine lv_aload_n hx hb dX6_reverse_23 rfl (lv_at hl 1 rfl) ?_
      refine lv_iload hx hb dX6_reverse_24 (lv_at hl 4 rfl) ?_
      obtain ⟨x2, e_x2, hr⟩ := zb_some hr
      refine zcallI M I (zrunV (as := [.int v5]) M I (c_X6_signAt l g fu h0 e_x2) h0 zK6.1 (by decide) zlv_X6_23 ⟨Nat.le_of_ble_eq_true rfl, Nat.le_of_ble_eq_true rfl⟩ ⟨Nat.zero_le _, Nat.zero_le _⟩ rfl rfl (Nat.le_of_ble_eq_true rfl) hl.1 dX6_reverse_26) (fun H locs I => ?_)
      refine lv_istore (lv' := [(7, .int x2), (6, .int x1), (0, .ref (zA g i0)), (3, .int v3), (4, .int v4), (5, .int v5)]) hx hb dX6_reverse_29 hl (by decide) rfl (fun ls hl => ?_)
      refine lv_iload_n hx hb dX6_reverse_31 rfl (lv_at hl 3 rfl) ?_
      refine lv_iload hx hb dX6_reverse_32 (lv_at hl 1 rfl) ?_
      refine lv_iload hx hb dX6_reverse_34 (lv_at hl 0 rfl) ?_
      obtain ⟨x3, e_x3, hr⟩ := zb_some hr
      have K_x3 : ∀ (ls : Array Slot) (H : Heap) (locs : List Loc), lv_has ls 8 [(0, .ref (zA g i0)), (4, .int v4), (5, .int v5), (6, .int x1), (7, .int x2)] → zIV g σ (zAA g) s.heap H locs → W p l e (zrm 1 22) s m args below meth c H locs 0 0 Q (F0 m 44 ls [.int x3, .int v3]) := by
        intro ls H locs hl I
        refine lv_iadd hx hb dX6_reverse_44 ?_
        refine lv_istore_n (lv' := [(3, .int (v3 + x3)), (0, .ref (zA g i0)), (4, .int v4), (5, .int v5), (6, .int x1), (7, .int x2)]) hx hb dX6_reverse_45 rfl hl (by decide) rfl (fun ls hl => ?_)
        refine lv_aload_n hx hb dX6_reverse_46 rfl (lv_at hl 1 rfl) ?_
        refine lv_iload hx hb dX6_reverse_47 (lv_at hl 2 rfl) ?_
        refine lv_iload hx hb dX6_reverse_49 (lv_at hl 5 rfl) ?_
        obtain ⟨x4, e_x4, hr⟩ := zb_some hr
        refine zcallU M I (zrunV (as := [.int v4, .int x2]) M I (c_X6_write l g fu h0 e_x4) h0 zK6.1 (by decide) zlv_X6_19 ⟨Nat.le_of_ble_eq_true rfl, Nat.le_of_ble_eq_true rfl⟩ ⟨Nat.zero_le _, Nat.zero_le _⟩ rfl rfl (Nat.le_of_ble_eq_true rfl) hl.1 dX6_reverse_51) (fun H locs I => ?_)
        refine lv_aload_n hx hb dX6_reverse_54 rfl (lv_at hl 1 rfl) ?_
        refine lv_iload hx hb dX6_reverse_55 (lv_at hl 3 rfl) ?_
        refine lv_iload hx hb dX6_reverse_57 (lv_at hl 4 rfl) ?_
        obtain ⟨x5, e_x5, hr⟩ := zb_some hr
        refine zcallU M I (zrunV (as := [.int v5, .int x1]) M I (c_X6_write l g fu h0 e_x5) h0 zK6.1 (by decide) zlv_X6_19 ⟨Nat.le_of_ble_eq_true rfl, Nat.le_of_ble_eq_true rfl⟩ ⟨Nat.zero_le _, Nat.zero_le _⟩ rfl rfl (Nat.le_of_ble_eq_true rfl) hl.1 dX6_reverse_59) (fun H locs I => ?_)
        refine lv_iinc (lv' := [(4, .int (v4 + 1)), (3, .int (v3 + x3)), (0, .ref (zA g i0)), (5, .int v5), (6, .int x1), (7, .int x2)]) (k := 2) (v := (v4 + 1)) hx hb dX6_reverse_62 hl rfl (zi_1 _) (by decide) rfl (fun ls hl => ?_)
        refine lv_iinc (lv' := [(5, .int (v5 - 1)), (4, .int (v4 + 1)), (3, .int (v3 + x3)), (0, .ref (zA g i0)), (6, .int x1), (7, .int x2)]) (k := 3) (v := (v5 - 1)) hx hb dX6_reverse_65 hl rfl (zi_m1 _) (by decide) rfl (fun ls hl => ?_)
        refine lv_goto (tgt := 8) hx hb dX6_reverse_68 (by decide) ?_
        exact ih _ _ _ _  _ hr ls _ _ (lv_sub hl [3, 2, 1, 0] rfl) I KF
      refine lv_icmp_ne (tgt := 43) hx hb dX6_reverse_36 (by decide) (fun c6 => ?_) (fun c6 => ?_)
      · replace e_x3 := zif_t e_x3 c6
        refine lv_iconst (v := (2 : Int32)) hx hb dX6_reverse_43 (by decide) ?_
        obtain rfl := Option.some.inj e_x3
        exact K_x3 ls _ _ (lv_sub hl [2, 4, 5, 1, 0] rfl) I
      · replace e_x3 := zif_f e_x3 (fun hq => hq c6)
        refine lv_iconst (v := (0 : Int32)) hx hb dX6_reverse_39 (by decide) ?_
        refine lv_goto (tgt := 44) hx hb dX6_reverse_40 (by decide) ?_
        obtain rfl := Option.some.inj e_x3
        exact K_x3 ls _ _ (lv_sub hl [2, 4, 5, 1, 0] rfl) I
def m_X6_reverse (fu : Nat) (σ : zmem) (i0 : Nat) (a1 : Int32) (a2 : Int32) : Option (Int32 × zmem) := (l_X6_reverse_8 fu i0 fu (0 : Int32) a1 a2 σ).bind fun x8 => some (x8.1, x8.2)
set_option maxHeartbeats 4000000 in
set_option maxRecDepth 100000 in
theorem c_X6_reverse (l : Launch) (g : zgeo) (fu : Nat) {σ : zmem} {i0 : Nat} {a1 : Int32} {a2 : Int32} {r : Int32 × zmem} (h0 : zkd i0 = (6, 0)) (hr : m_X6_reverse fu σ i0 a1 a2 = some r) : zCt (zQI g r.1 r.2) l g yX6_reverse cX6_reverse 8 (some .int) 1 22 [.ref (zA g i0), .int a1, .int a2] σ := by
  refine zopen (by decide) (Nat.le_of_ble_eq_true rfl) ?_
  intro p e s m below meth c M ls hl I
  have M : zMC RX6 cX6_reverse 8 (some .int) g p m c s ([.ref (zA g i0), .int a1, .int a2] : List Value).toArray meth := M
  have hl : lv_has ls 8 [(0, .ref (zA g i0)), (1, .int a1), (2, .int a2)] := hl
  generalize ([.ref (zA g i0), .int a1, .int a2] : List Value).toArray = args at M ⊢
  have hx := M.1.1
  have hb := M.1.2.1
  unfold m_X6_reverse at hr
  refine lv_iconst (v := (0 : Int32)) hx hb dX6_reverse_0 (by decide) ?_
  refine lv_istore_n (lv' := [(3, .int (0 : Int32)), (0, .ref (zA g i0)), (1, .int a1), (2, .int a2)]) hx hb dX6_reverse_1 rfl hl (by decide) rfl (fun ls hl => ?_)
  refine lv_iload_n hx hb dX6_reverse_2 rfl (lv_at hl 2 rfl) ?_
  refine lv_istore (lv' := [(4, .int a1), (3, .int (0 : Int32)), (0, .ref (zA g i0)), (1, .int a1), (2, .int a2)]) hx hb dX6_reverse_3 hl (by decide) rfl (fun ls hl => ?_)
  refine lv_iload_n hx hb dX6_reverse_5 rfl (lv_at hl 4 rfl) ?_
  refine lv_istore (lv' := [(5, .int a2), (4, .int a1), (3, .int (0 : Int32)), (0, .ref (zA g i0)), (1, .int a1), (2, .int a2)]) hx hb dX6_reverse_6 hl (by decide) rfl (fun ls hl => ?_)
  obtain ⟨x8, e_x8, hr⟩ := zb_some hr
  refine k_X6_reverse_8 M h0 fu _ _ _ _  _ e_x8 ls _ _ (lv_sub hl [3, 2, 1, 0] rfl) I (fun ls H locs hl I => ?_)
  refine lv_iload_n hx hb dX6_reverse_71 rfl (lv_at hl 0 rfl) ?_
  obtain rfl := Option.some.inj hr
  exact zretI M I dX6_reverse_72
def m_X6_extend (fu : Nat) (σ : zmem) (i0 : Nat) (a1 : Int32) : Option (zmem) := (if (24 : Int32) ≤ (σ.1 i0 1) then some σ else (m_X6_write fu σ i0 (σ.1 i0 1) a1).bind fun x1 => some (zst x1 i0 1 ((x1.1 i0 1) + (1 : Int32))))
set_option maxHeartbeats 4000000 in
set_option maxRecDepth 100000 in
theorem c_X6_extend (l : Launch) (g : zgeo) (fu : Nat) {σ : zmem} {i0 : Nat} {a1 : Int32} {r : zmem} (h0 : zkd i0 = (6, 0)) (hr : m_X6_extend fu σ i0 a1 = some r) : zCt (zQV g r) l g yX6_extend cX6_extend 2 none 1 22 [.ref (zA g i0), .int a1] σ := by
  refine zopen (by decide) (Nat.le_of_ble_eq_true rfl) ?_
  intro p e s m below meth c M ls hl I
  have M : zMC RX6 cX6_extend 2 none g p m c s ([.ref (zA g i0), .int a1] : List Value).toArray meth := M
  have hl : lv_has ls 2 [(0, .ref (zA g i0)), (1, .int a1)] := hl
  generalize ([.ref (zA g i0), .int a1] : List Value).toArray = args at M ⊢
  have hx := M.1.1
  have hb := M.1.2.1
  unfold m_X6_extend at hr
  refine lv_aload_n hx hb dX6_extend_0 rfl (lv_at hl 0 rfl) ?_
  refine zgetI M I h0 zfl_X6_15 dX6_extend_1 ?_
  refine lv_bipush (v := (24 : Int32)) hx hb dX6_extend_4 (by decide) ?_
  refine lv_icmp_ge (tgt := 28) hx hb dX6_extend_6 (by decide) (fun c2 => ?_) (fun c2 => ?_)
  · replace hr := zif_t hr c2
    obtain rfl := Option.some.inj hr
    exact zretV M I dX6_extend_28
  · replace hr := zif_f hr c2
    refine lv_aload_n hx hb dX6_extend_9 rfl (lv_at hl 0 rfl) ?_
    refine lv_aload_n hx hb dX6_extend_10 rfl (lv_at hl 0 rfl) ?_
    refine zgetI M I h0 zfl_X6_15 dX6_extend_11 ?_
    refine lv_iload_n hx hb dX6_extend_14 rfl (lv_at hl 1 rfl) ?_
    obtain ⟨x1, e_x1, hr⟩ := zb_some hr
    refine zcallU M I (zrunV (as := [.int (σ.1 i0 1), .int a1]) M I (c_X6_write l g fu h0 e_x1) h0 zK6.1 (by decide) zlv_X6_19 ⟨Nat.le_of_ble_eq_true rfl, Nat.le_of_ble_eq_true rfl⟩ ⟨Nat.zero_le _, Nat.zero_le _⟩ rfl rfl (Nat.le_of_ble_eq_true rfl) hl.1 dX6_extend_15) (fun H locs I => ?_)
    refine lv_aload_n hx hb dX6_extend_18 rfl (lv_at hl 0 rfl) ?_
    refine lv_dup hx hb dX6_extend_19 rfl ?_
    refine zgetI M I h0 zfl_X6_15 dX6_extend_20 ?_
    refine lv_iconst (v := (1 : Int32)) hx hb dX6_extend_23 (by decide) ?_
    refine lv_iadd hx hb dX6_extend_24 ?_
    refine zputI M I h0 zfw_X6_15 dX6_extend_25 (fun H locs I => ?_)
    obtain rfl := Option.some.inj hr
    exact zretV M I dX6_extend_28
def l_X6_wordAt_6 (fu : Nat) (σ : zmem) (i0 : Nat) (a1 : Int32) (a2 : Int32) (a3 : Int32) : Nat → Int32 → Int32 → Option (Int32)
  | 0, _, _ => none
  | n + 1, v4, v5 => (if a2 ≤ v5 then some v4 else ((if a3 = 0 then some (a1 + v5) else some (((a1 + a2) - (1 : Int32)) - v5)) : Option (Int32)).bind fun x1 => (m_X6_signAt fu σ i0 x1).bind fun x2 => l_X6_wordAt_6 fu σ i0 a1 a2 a3 n ((v4 * (4 : Int32)) + x2) (v5 + 1))
set_option maxHeartbeats 4000000 in
set_option maxRecDepth 100000 in
theorem k_X6_wordAt_6 {l : Launch} {g : zgeo} {fu : Nat} {p : Program} {e : Env} {s : State} {m : MethodId} {args : Array Value} {below : List Frame} {meth : Method} {c : Code} (M : zMC RX6 cX6_wordAt 7 (some .int) g p m c s args meth) {σ : zmem} {i0 : Nat} {a1 : Int32} {a2 : Int32} {a3 : Int32} (h0 : zkd i0 = (6, 0)) {Q : State → Prop} : ∀ (n : Nat) (v4 : Int32) (v5 : Int32) (o : Int32), l_X6_wordAt_6 fu σ i0 a1 a2 a3 n v4 v5 = some o → ∀ (ls : Array Slot) (H : Heap) (locs : List Loc), lv_has ls 7 [(0, .ref (zA g i0)), (1, .int a1), (2, .int a2), (3, .int a3), (4, .int v4), (5, .int v5)] → zIV g σ (zAA g) s.heap H locs → (∀ (ls : Array Slot) (H : Heap) (locs : List Loc), lv_has ls 7 [(4, .int o)] → zIV g σ (zAA g) s.heap H locs → W p l e (zrm 1 21) s m args below meth c H locs 0 0 Q (F0 m 52 ls [])) → W p l e (zrm 1 21) s m args below meth c H locs 0 0 Q (F0 m 6 ls []) := by
  have hx := M.1.1
  have hb := M.1.2.1
  intro n
  induction n with
  | zero =>
    intro v4 v5 o hr ls H locs hl I KF
    have hr : (none : Option (Int32)) = some o := hr
    cases hr
  | succ n ih =>
    intro v4 v5 o hr ls H locs hl I KF
    rw [l_X6_wordAt_6] at hr
    refine lv_iload hx hb dX6_wordAt_6 (lv_at hl 5 rfl) ?_
    refine lv_iload_n hx hb dX6_wordAt_8 rfl (lv_at hl 2 rfl) ?_
    refine lv_icmp_ge (tgt := 52) hx hb dX6_wordAt_9 (by decide) (fun c4 => ?_) (fun c4 => ?_)
    · replace hr := zif_t hr c4
      obtain rfl := Option.some.inj hr
      exact KF ls _ _ (lv_sub hl [4] rfl) I
    · replace hr := zif_f hr c4
      refine lv_iload_n hx hb dX6_wordAt_12 rfl (lv_at hl 3 rfl) ?_
      obtain ⟨x1, e_x1, hr⟩ := zb_some hr
      have K_x1 : ∀ (ls : Array Slot) (H : Heap) (locs : List Loc), lv_has ls 7 [(0, .ref (zA g i0)), (1, .int a1), (2, .int a2), (3, .int a3), (4, .int v4), (5, .int v5)] → zIV g σ (zAA g) s.heap H locs → W p l e (zrm 1 21) s m args below meth c H locs 0 0 Q (F0 m 31 ls [.int x1]) := by
        intro ls H locs hl I
        refine lv_istore (lv' := [(6, .int x1), (0, .ref (zA g i0)), (1, .int a1), (2, .int a2), (3, .int a3), (4, .int v4), (5, .int v5)]) hx hb dX6_wordAt_31 hl (by decide) rfl (fun ls hl => ?_)
        refine lv_iload hx hb dX6_wordAt_33 (lv_at hl 5 rfl) ?_
        refine lv_iconst (v := (4 : Int32)) hx hb dX6_wordAt_35 (by decide) ?_
        refine lv_imul hx hb dX6_wordAt_36 ?_
        refine lv_aload_n hx hb dX6_wordAt_37 rfl (lv_at hl 1 rfl) ?_
        refine lv_iload hx hb dX6_wordAt_38 (lv_at hl 0 rfl) ?_
        obtain ⟨x2, e_x2, hr⟩ := zb_some hr
        refine zcallI M I (zrunV (as := [.int x1]) M I (c_X6_signAt l g fu h0 e_x2) h0 zK6.1 (by decide) zlv_X6_23 ⟨Nat.le_of_ble_eq_true rfl, Nat.le_of_ble_eq_true rfl⟩ ⟨Nat.zero_le _, Nat.zero_le _⟩ rfl rfl (Nat.le_of_ble_eq_true rfl) hl.1 dX6_wordAt_40) (fun H locs I => ?_)
        refine lv_iadd hx hb dX6_wordAt_43 ?_
        refine lv_istore (lv' := [(4, .int ((v4 * (4 : Int32)) + x2)), (6, .int x1), (0, .ref (zA g i0)), (1, .int a1), (2, .int a2), (3, .int a3), (5, .int v5)]) hx hb dX6_wordAt_44 hl (by decide) rfl (fun ls hl => ?_)
        refine lv_iinc (lv' := [(5, .int (v5 + 1)), (4, .int ((v4 * (4 : Int32)) + x2)), (6, .int x1), (0, .ref (zA g i0)), (1, .int a1), (2, .int a2), (3, .int a3)]) (k := 6) (v := (v5 + 1)) hx hb dX6_wordAt_46 hl rfl (zi_1 _) (by decide) rfl (fun ls hl => ?_)
        refine lv_goto (tgt := 6) hx hb dX6_wordAt_49 (by decide) ?_
        exact ih _ _  _ hr ls _ _ (lv_sub hl [3, 4, 5, 6, 1, 0] rfl) I KF
      refine lv_if_eq (tgt := 27) hx hb dX6_wordAt_13 (by decide) (fun c3 => ?_) (fun c3 => ?_)
      · replace e_x1 := zif_t e_x1 c3
        refine lv_iload_n hx hb dX6_wordAt_27 rfl (lv_at hl 1 rfl) ?_
        refine lv_iload hx hb dX6_wordAt_28 (lv_at hl 5 rfl) ?_
        refine lv_iadd hx hb dX6_wordAt_30 ?_
        obtain rfl := Option.some.inj e_x1
        exact K_x1 ls _ _ hl I
      · replace e_x1 := zif_f e_x1 c3
        refine lv_iload_n hx hb dX6_wordAt_16 rfl (lv_at hl 1 rfl) ?_
        refine lv_iload_n hx hb dX6_wordAt_17 rfl (lv_at hl 2 rfl) ?_
        refine lv_iadd hx hb dX6_wordAt_18 ?_
        refine lv_iconst (v := (1 : Int32)) hx hb dX6_wordAt_19 (by decide) ?_
        refine lv_isub hx hb dX6_wordAt_20 ?_
        refine lv_iload hx hb dX6_wordAt_21 (lv_at hl 5 rfl) ?_
        refine lv_isub hx hb dX6_wordAt_23 ?_
        refine lv_goto (tgt := 31) hx hb dX6_wordAt_24 (by decide) ?_
        obtain rfl := Option.some.inj e_x1
        exact K_x1 ls _ _ hl I
def m_X6_wordAt (fu : Nat) (σ : zmem) (i0 : Nat) (a1 : Int32) (a2 : Int32) (a3 : Int32) : Option (Int32) := (l_X6_wordAt_6 fu σ i0 a1 a2 a3 fu (0 : Int32) (0 : Int32)).bind fun x5 => some x5
set_option maxHeartbeats 4000000 in
set_option maxRecDepth 100000 in
theorem c_X6_wordAt (l : Launch) (g : zgeo) (fu : Nat) {σ : zmem} {i0 : Nat} {a1 : Int32} {a2 : Int32} {a3 : Int32} {r : Int32} (h0 : zkd i0 = (6, 0)) (hr : m_X6_wordAt fu σ i0 a1 a2 a3 = some r) : zCt (zQI g r σ) l g yX6_wordAt cX6_wordAt 7 (some .int) 1 21 [.ref (zA g i0), .int a1, .int a2, .int a3] σ := by
  refine zopen (by decide) (Nat.le_of_ble_eq_true rfl) ?_
  intro p e s m below meth c M ls hl I
  have M : zMC RX6 cX6_wordAt 7 (some .int) g p m c s ([.ref (zA g i0), .int a1, .int a2, .int a3] : List Value).toArray meth := M
  have hl : lv_has ls 7 [(0, .ref (zA g i0)), (1, .int a1), (2, .int a2), (3, .int a3)] := hl
  generalize ([.ref (zA g i0), .int a1, .int a2, .int a3] : List Value).toArray = args at M ⊢
  have hx := M.1.1
  have hb := M.1.2.1
  unfold m_X6_wordAt at hr
  refine lv_iconst (v := (0 : Int32)) hx hb dX6_wordAt_0 (by decide) ?_
  refine lv_istore (lv' := [(4, .int (0 : Int32)), (0, .ref (zA g i0)), (1, .int a1), (2, .int a2), (3, .int a3)]) hx hb dX6_wordAt_1 hl (by decide) rfl (fun ls hl => ?_)
  refine lv_iconst (v := (0 : Int32)) hx hb dX6_wordAt_3 (by decide) ?_
  refine lv_istore (lv' := [(5, .int (0 : Int32)), (4, .int (0 : Int32)), (0, .ref (zA g i0)), (1, .int a1), (2, .int a2), (3, .int a3)]) hx hb dX6_wordAt_4 hl (by decide) rfl (fun ls hl => ?_)
  obtain ⟨x5, e_x5, hr⟩ := zb_some hr
  refine k_X6_wordAt_6 M h0 fu _ _  _ e_x5 ls _ _ (lv_sub hl [2, 3, 4, 5, 1, 0] rfl) I (fun ls H locs hl I => ?_)
  refine lv_iload hx hb dX6_wordAt_52 (lv_at hl 0 rfl) ?_
  obtain rfl := Option.some.inj hr
  exact zretI M I dX6_wordAt_54
def l_X6_listWords_17 (fu : Nat) (i0 : Nat) (i1 : Nat) (a2 : Int32) (a3 : Int32) (a4 : Int32) : Nat → Int32 → zmem → Option (zmem)
  | 0, _, _ => none
  | n + 1, v5, σ => (if a4 ≤ v5 then some σ else (m_X6_wordAt fu σ i0 v5 a2 a3).bind fun x1 => (m_X1_store fu σ i1 v5 x1).bind fun x2 => l_X6_listWords_17 fu i0 i1 a2 a3 a4 n (v5 + 1) x2)
set_option maxHeartbeats 4000000 in
set_option maxRecDepth 100000 in
theorem k_X6_listWords_17 {l : Launch} {g : zgeo} {fu : Nat} {p : Program} {e : Env} {s : State} {m : MethodId} {args : Array Value} {below : List Frame} {meth : Method} {c : Code} (M : zMC RX6 cX6_listWords 6 (some .int) g p m c s args meth) {i0 : Nat} {i1 : Nat} {a2 : Int32} {a3 : Int32} {a4 : Int32} (h0 : zkd i0 = (6, 0)) (h1 : zkd i1 = (1, 0)) {Q : State → Prop} : ∀ (n : Nat) (v5 : Int32) (σ : zmem) (o : zmem), l_X6_listWords_17 fu i0 i1 a2 a3 a4 n v5 σ = some o → ∀ (ls : Array Slot) (H : Heap) (locs : List Loc), lv_has ls 6 [(0, .ref (zA g i0)), (1, .ref (zA g i1)), (2, .int a2), (3, .int a3), (4, .int a4), (5, .int v5)] → zIV g σ (zAA g) s.heap H locs → (∀ (ls : Array Slot) (H : Heap) (locs : List Loc), lv_has ls 6 [(4, .int a4)] → zIV g o (zAA g) s.heap H locs → W p l e (zrm 2 47) s m args below meth c H locs 0 0 Q (F0 m 44 ls [])) → W p l e (zrm 2 47) s m args below meth c H locs 0 0 Q (F0 m 17 ls []) := by
  have hx := M.1.1
  have hb := M.1.2.1
  intro n
  induction n with
  | zero =>
    intro v5 σ o hr ls H locs hl I KF
    have hr : (none : Option (zmem)) = some o := hr
    cases hr
  | succ n ih =>
    intro v5 σ o hr ls H locs hl I KF
    rw [l_X6_listWords_17] at hr
    refine lv_iload hx hb dX6_listWords_17 (lv_at hl 5 rfl) ?_
    refine lv_iload hx hb dX6_listWords_19 (lv_at hl 4 rfl) ?_
    refine lv_icmp_ge (tgt := 44) hx hb dX6_listWords_21 (by decide) (fun c3 => ?_) (fun c3 => ?_)
    · replace hr := zif_t hr c3
      obtain rfl := Option.some.inj hr
      exact KF ls _ _ (lv_sub hl [4] rfl) I
    · replace hr := zif_f hr c3
      refine lv_aload_n hx hb dX6_listWords_24 rfl (lv_at hl 1 rfl) ?_
      refine lv_iload hx hb dX6_listWords_25 (lv_at hl 5 rfl) ?_
      refine lv_aload_n hx hb dX6_listWords_27 rfl (lv_at hl 0 rfl) ?_
      refine lv_iload hx hb dX6_listWords_28 (lv_at hl 5 rfl) ?_
      refine lv_iload_n hx hb dX6_listWords_30 rfl (lv_at hl 2 rfl) ?_
      refine lv_iload_n hx hb dX6_listWords_31 rfl (lv_at hl 3 rfl) ?_
      obtain ⟨x1, e_x1, hr⟩ := zb_some hr
      refine zcallI M I (zrunV (as := [.int v5, .int a2, .int a3]) M I (c_X6_wordAt l g fu h0 e_x1) h0 zK6.1 (by decide) zlv_X6_37 ⟨Nat.le_of_ble_eq_true rfl, Nat.le_of_ble_eq_true rfl⟩ ⟨Nat.zero_le _, Nat.zero_le _⟩ rfl rfl (Nat.le_of_ble_eq_true rfl) hl.1 dX6_listWords_32) (fun H locs I => ?_)
      obtain ⟨x2, e_x2, hr⟩ := zb_some hr
      refine zcallU M I (zrunV (as := [.int v5, .int x1]) M I (c_X1_store l g fu h1 e_x2) h1 zK1.1 (by decide) zlv_X6_41 ⟨Nat.le_of_ble_eq_true rfl, Nat.le_of_ble_eq_true rfl⟩ ⟨Nat.zero_le _, Nat.zero_le _⟩ rfl rfl (Nat.le_of_ble_eq_true rfl) hl.1 dX6_listWords_35) (fun H locs I => ?_)
      refine lv_iinc (lv' := [(5, .int (v5 + 1)), (0, .ref (zA g i0)), (1, .ref (zA g i1)), (2, .int a2), (3, .int a3), (4, .int a4)]) (k := 5) (v := (v5 + 1)) hx hb dX6_listWords_38 hl rfl (zi_1 _) (by decide) rfl (fun ls hl => ?_)
      refine lv_goto (tgt := 17) hx hb dX6_listWords_41 (by decide) ?_
      exact ih _ _  _ hr ls _ _ (lv_sub hl [1, 2, 3, 4, 5, 0] rfl) I KF
def m_X6_listWords (fu : Nat) (σ : zmem) (i0 : Nat) (i1 : Nat) (a2 : Int32) (a3 : Int32) : Option (Int32 × zmem) := (l_X6_listWords_17 fu i0 i1 a2 a3 (zmax (0 : Int32) (((σ.1 i0 1) - a2) + (1 : Int32))) fu (0 : Int32) σ).bind fun x4 => some ((zmax (0 : Int32) (((σ.1 i0 1) - a2) + (1 : Int32))), x4)
set_option maxHeartbeats 4000000 in
set_option maxRecDepth 100000 in
theorem c_X6_listWords (l : Launch) (g : zgeo) (fu : Nat) {σ : zmem} {i0 : Nat} {i1 : Nat} {a2 : Int32} {a3 : Int32} {r : Int32 × zmem} (h0 : zkd i0 = (6, 0)) (h1 : zkd i1 = (1, 0)) (hr : m_X6_listWords fu σ i0 i1 a2 a3 = some r) : zCt (zQI g r.1 r.2) l g yX6_listWords cX6_listWords 6 (some .int) 2 47 [.ref (zA g i0), .ref (zA g i1), .int a2, .int a3] σ := by
  refine zopen (by decide) (Nat.le_of_ble_eq_true rfl) ?_
  intro p e s m below meth c M ls hl I
  have M : zMC RX6 cX6_listWords 6 (some .int) g p m c s ([.ref (zA g i0), .ref (zA g i1), .int a2, .int a3] : List Value).toArray meth := M
  have hl : lv_has ls 6 [(0, .ref (zA g i0)), (1, .ref (zA g i1)), (2, .int a2), (3, .int a3)] := hl
  generalize ([.ref (zA g i0), .ref (zA g i1), .int a2, .int a3] : List Value).toArray = args at M ⊢
  have hx := M.1.1
  have hb := M.1.2.1
  unfold m_X6_listWords at hr
  refine lv_iconst (v := (0 : Int32)) hx hb dX6_listWords_0 (by decide) ?_
  refine lv_aload_n hx hb dX6_listWords_1 rfl (lv_at hl 0 rfl) ?_
  refine zgetI M I h0 zfl_X6_15 dX6_listWords_2 ?_
  refine lv_iload_n hx hb dX6_listWords_5 rfl (lv_at hl 2 rfl) ?_
  refine lv_isub hx hb dX6_listWords_6 ?_
  refine lv_iconst (v := (1 : Int32)) hx hb dX6_listWords_7 (by decide) ?_
  refine lv_iadd hx hb dX6_listWords_8 ?_
  refine va_mmax (own := RX6) hx hb (M.1.2.2.1.trans hl.1.symm) M.1.2.2.2.1 (M.1.2.2.2.2 _ (zin (i := 433) (by decide +kernel) rfl)) (M.1.2.2.2.2 _ (zin (i := 434) (by decide +kernel) rfl)) (M.1.2.2.2.2 _ (zin (i := 86) (by decide +kernel) rfl)) (M.1.2.2.2.2 _ (zin (i := 435) (by decide +kernel) rfl)) (Nat.le_of_ble_eq_true rfl) (Nat.le_of_ble_eq_true rfl) (Nat.zero_le _) (Nat.zero_le _) dX6_listWords_9 ?_
  refine lv_istore (lv' := [(4, .int (zmax (0 : Int32) (((σ.1 i0 1) - a2) + (1 : Int32)))), (0, .ref (zA g i0)), (1, .ref (zA g i1)), (2, .int a2), (3, .int a3)]) hx hb dX6_listWords_12 hl (by decide) rfl (fun ls hl => ?_)
  refine lv_iconst (v := (0 : Int32)) hx hb dX6_listWords_14 (by decide) ?_
  refine lv_istore (lv' := [(5, .int (0 : Int32)), (4, .int (zmax (0 : Int32) (((σ.1 i0 1) - a2) + (1 : Int32)))), (0, .ref (zA g i0)), (1, .ref (zA g i1)), (2, .int a2), (3, .int a3)]) hx hb dX6_listWords_15 hl (by decide) rfl (fun ls hl => ?_)
  obtain ⟨x4, e_x4, hr⟩ := zb_some hr
  refine k_X6_listWords_17 M h0 h1 fu _ _  _ e_x4 ls _ _ (lv_sub hl [2, 3, 4, 5, 1, 0] rfl) I (fun ls H locs hl I => ?_)
  refine lv_iload hx hb dX6_listWords_44 (lv_at hl 0 rfl) ?_
  obtain rfl := Option.some.inj hr
  exact zretI M I dX6_listWords_46
def m_X6_clear (fu : Nat) (σ : zmem) (i0 : Nat) : Option (zmem) := some (zst σ i0 1 (0 : Int32))
set_option maxHeartbeats 4000000 in
set_option maxRecDepth 100000 in
theorem c_X6_clear (l : Launch) (g : zgeo) (fu : Nat) {σ : zmem} {i0 : Nat} {r : zmem} (h0 : zkd i0 = (6, 0)) (hr : m_X6_clear fu σ i0 = some r) : zCt (zQV g r) l g yX6_clear cX6_clear 1 none 0 0 [.ref (zA g i0)] σ := by
  refine zopen (by decide) (Nat.le_of_ble_eq_true rfl) ?_
  intro p e s m below meth c M ls hl I
  have M : zMC RX6 cX6_clear 1 none g p m c s ([.ref (zA g i0)] : List Value).toArray meth := M
  have hl : lv_has ls 1 [(0, .ref (zA g i0))] := hl
  generalize ([.ref (zA g i0)] : List Value).toArray = args at M ⊢
  have hx := M.1.1
  have hb := M.1.2.1
  unfold m_X6_clear at hr
  refine lv_aload_n hx hb dX6_clear_0 rfl (lv_at hl 0 rfl) ?_
  refine lv_iconst (v := (0 : Int32)) hx hb dX6_clear_1 (by decide) ?_
  refine zputI M I h0 zfw_X6_15 dX6_clear_2 (fun H locs I => ?_)
  obtain rfl := Option.some.inj hr
  exact zretV M I dX6_clear_5
def l_X6_takeRow_10 (fu : Nat) (i0 : Nat) (i1 : Nat) : Nat → Int32 → zmem → Option (zmem)
  | 0, _, _ => none
  | n + 1, v2, σ => (if (24 : Int32) ≤ v2 then some σ else (m_X6_signAt fu σ i1 v2).bind fun x1 => (m_X6_write fu σ i0 v2 x1).bind fun x2 => l_X6_takeRow_10 fu i0 i1 n (v2 + 1) x2)
set_option maxHeartbeats 4000000 in
set_option maxRecDepth 100000 in
theorem k_X6_takeRow_10 {l : Launch} {g : zgeo} {fu : Nat} {p : Program} {e : Env} {s : State} {m : MethodId} {args : Array Value} {below : List Frame} {meth : Method} {c : Code} (M : zMC RX6 cX6_takeRow 3 none g p m c s args meth) {i0 : Nat} {i1 : Nat} (h0 : zkd i0 = (6, 0)) (h1 : zkd i1 = (6, 0)) {Q : State → Prop} : ∀ (n : Nat) (v2 : Int32) (σ : zmem) (o : zmem), l_X6_takeRow_10 fu i0 i1 n v2 σ = some o → ∀ (ls : Array Slot) (H : Heap) (locs : List Loc), lv_has ls 3 [(0, .ref (zA g i0)), (1, .ref (zA g i1)), (2, .int v2)] → zIV g σ (zAA g) s.heap H locs → (∀ (ls : Array Slot) (H : Heap) (locs : List Loc), lv_has ls 3 [] → zIV g o (zAA g) s.heap H locs → W p l e (zrm 1 22) s m args below meth c H locs 0 0 Q (F0 m 32 ls [])) → W p l e (zrm 1 22) s m args below meth c H locs 0 0 Q (F0 m 10 ls []) := by
  have hx := M.1.1
  have hb := M.1.2.1
  intro n
  induction n with
  | zero =>
    intro v2 σ o hr ls H locs hl I KF
    have hr : (none : Option (zmem)) = some o := hr
    cases hr
  | succ n ih =>
    intro v2 σ o hr ls H locs hl I KF
    rw [l_X6_takeRow_10] at hr
    refine lv_iload_n hx hb dX6_takeRow_10 rfl (lv_at hl 2 rfl) ?_
    refine lv_bipush (v := (24 : Int32)) hx hb dX6_takeRow_11 (by decide) ?_
    refine lv_icmp_ge (tgt := 32) hx hb dX6_takeRow_13 (by decide) (fun c3 => ?_) (fun c3 => ?_)
    · replace hr := zif_t hr c3
      obtain rfl := Option.some.inj hr
      exact KF ls _ _ (lv_sub hl [] rfl) I
    · replace hr := zif_f hr c3
      refine lv_aload_n hx hb dX6_takeRow_16 rfl (lv_at hl 0 rfl) ?_
      refine lv_iload_n hx hb dX6_takeRow_17 rfl (lv_at hl 2 rfl) ?_
      refine lv_aload_n hx hb dX6_takeRow_18 rfl (lv_at hl 1 rfl) ?_
      refine lv_iload_n hx hb dX6_takeRow_19 rfl (lv_at hl 2 rfl) ?_
      obtain ⟨x1, e_x1, hr⟩ := zb_some hr
      refine zcallI M I (zrunV (as := [.int v2]) M I (c_X6_signAt l g fu h1 e_x1) h1 zK6.1 (by decide) zlv_X6_23 ⟨Nat.le_of_ble_eq_true rfl, Nat.le_of_ble_eq_true rfl⟩ ⟨Nat.zero_le _, Nat.zero_le _⟩ rfl rfl (Nat.le_of_ble_eq_true rfl) hl.1 dX6_takeRow_20) (fun H locs I => ?_)
      obtain ⟨x2, e_x2, hr⟩ := zb_some hr
      refine zcallU M I (zrunV (as := [.int v2, .int x1]) M I (c_X6_write l g fu h0 e_x2) h0 zK6.1 (by decide) zlv_X6_19 ⟨Nat.le_of_ble_eq_true rfl, Nat.le_of_ble_eq_true rfl⟩ ⟨Nat.zero_le _, Nat.zero_le _⟩ rfl rfl (Nat.le_of_ble_eq_true rfl) hl.1 dX6_takeRow_23) (fun H locs I => ?_)
      refine lv_iinc (lv' := [(2, .int (v2 + 1)), (0, .ref (zA g i0)), (1, .ref (zA g i1))]) (k := 2) (v := (v2 + 1)) hx hb dX6_takeRow_26 hl rfl (zi_1 _) (by decide) rfl (fun ls hl => ?_)
      refine lv_goto (tgt := 10) hx hb dX6_takeRow_29 (by decide) ?_
      exact ih _ _  _ hr ls _ _ (lv_sub hl [1, 2, 0] rfl) I KF
def m_X6_takeRow (fu : Nat) (σ : zmem) (i0 : Nat) (i1 : Nat) : Option (zmem) := (l_X6_takeRow_10 fu i0 i1 fu (0 : Int32) (zst σ i0 1 (σ.1 i1 1))).bind fun x4 => some x4
set_option maxHeartbeats 4000000 in
set_option maxRecDepth 100000 in
theorem c_X6_takeRow (l : Launch) (g : zgeo) (fu : Nat) {σ : zmem} {i0 : Nat} {i1 : Nat} {r : zmem} (h0 : zkd i0 = (6, 0)) (h1 : zkd i1 = (6, 0)) (hr : m_X6_takeRow fu σ i0 i1 = some r) : zCt (zQV g r) l g yX6_takeRow cX6_takeRow 3 none 1 22 [.ref (zA g i0), .ref (zA g i1)] σ := by
  refine zopen (by decide) (Nat.le_of_ble_eq_true rfl) ?_
  intro p e s m below meth c M ls hl I
  have M : zMC RX6 cX6_takeRow 3 none g p m c s ([.ref (zA g i0), .ref (zA g i1)] : List Value).toArray meth := M
  have hl : lv_has ls 3 [(0, .ref (zA g i0)), (1, .ref (zA g i1))] := hl
  generalize ([.ref (zA g i0), .ref (zA g i1)] : List Value).toArray = args at M ⊢
  have hx := M.1.1
  have hb := M.1.2.1
  unfold m_X6_takeRow at hr
  refine lv_aload_n hx hb dX6_takeRow_0 rfl (lv_at hl 0 rfl) ?_
  refine lv_aload_n hx hb dX6_takeRow_1 rfl (lv_at hl 1 rfl) ?_
  refine zgetI M I h1 zfl_X6_15 dX6_takeRow_2 ?_
  refine zputI M I h0 zfw_X6_15 dX6_takeRow_5 (fun H locs I => ?_)
  refine lv_iconst (v := (0 : Int32)) hx hb dX6_takeRow_8 (by decide) ?_
  refine lv_istore_n (lv' := [(2, .int (0 : Int32)), (0, .ref (zA g i0)), (1, .ref (zA g i1))]) hx hb dX6_takeRow_9 rfl hl (by decide) rfl (fun ls hl => ?_)
  obtain ⟨x4, e_x4, hr⟩ := zb_some hr
  refine k_X6_takeRow_10 M h0 h1 fu _ _  _ e_x4 ls _ _ (lv_sub hl [1, 2, 0] rfl) I (fun ls H locs hl I => ?_)
  obtain rfl := Option.some.inj hr
  exact zretV M I dX6_takeRow_32
def l_X6_alikeFrom_5 (fu : Nat) (σ : zmem) (i0 : Nat) (a1 : Int32) (a2 : Int32) : Nat → Int32 → Int32 → Option (Int32)
  | 0, _, _ => none
  | n + 1, v3, v4 => (if ((σ.1 i0 1) - a2) ≤ v4 then some v3 else (m_X6_signAt fu σ i0 (a1 + v4)).bind fun x1 => (m_X6_signAt fu σ i0 (a2 + v4)).bind fun x2 => (if ¬ x1 = x2 then some v3 else l_X6_alikeFrom_5 fu σ i0 a1 a2 n (v3 + 1) (v4 + 1)))
set_option maxHeartbeats 4000000 in
set_option maxRecDepth 100000 in
theorem k_X6_alikeFrom_5 {l : Launch} {g : zgeo} {fu : Nat} {p : Program} {e : Env} {s : State} {m : MethodId} {args : Array Value} {below : List Frame} {meth : Method} {c : Code} (M : zMC RX6 cX6_alikeFrom 5 (some .int) g p m c s args meth) {σ : zmem} {i0 : Nat} {a1 : Int32} {a2 : Int32} (h0 : zkd i0 = (6, 0)) {Q : State → Prop} : ∀ (n : Nat) (v3 : Int32) (v4 : Int32) (o : Int32), l_X6_alikeFrom_5 fu σ i0 a1 a2 n v3 v4 = some o → ∀ (ls : Array Slot) (H : Heap) (locs : List Loc), lv_has ls 5 [(0, .ref (zA g i0)), (1, .int a1), (2, .int a2), (3, .int v3), (4, .int v4)] → zIV g σ (zAA g) s.heap H locs → (∀ (ls : Array Slot) (H : Heap) (locs : List Loc), lv_has ls 5 [(3, .int o)] → zIV g σ (zAA g) s.heap H locs → W p l e (zrm 1 21) s m args below meth c H locs 0 0 Q (F0 m 44 ls [])) → W p l e (zrm 1 21) s m args below meth c H locs 0 0 Q (F0 m 5 ls []) := by
  have hx := M.1.1
  have hb := M.1.2.1
  intro n
  induction n with
  | zero =>
    intro v3 v4 o hr ls H locs hl I KF
    have hr : (none : Option (Int32)) = some o := hr
    cases hr
  | succ n ih =>
    intro v3 v4 o hr ls H locs hl I KF
    rw [l_X6_alikeFrom_5] at hr
    refine lv_iload hx hb dX6_alikeFrom_5 (lv_at hl 4 rfl) ?_
    refine lv_aload_n hx hb dX6_alikeFrom_7 rfl (lv_at hl 0 rfl) ?_
    refine zgetI M I h0 zfl_X6_15 dX6_alikeFrom_8 ?_
    refine lv_iload_n hx hb dX6_alikeFrom_11 rfl (lv_at hl 2 rfl) ?_
    refine lv_isub hx hb dX6_alikeFrom_12 ?_
    refine lv_icmp_ge (tgt := 44) hx hb dX6_alikeFrom_13 (by decide) (fun c4 => ?_) (fun c4 => ?_)
    · replace hr := zif_t hr c4
      obtain rfl := Option.some.inj hr
      exact KF ls _ _ (lv_sub hl [3] rfl) I
    · replace hr := zif_f hr c4
      refine lv_aload_n hx hb dX6_alikeFrom_16 rfl (lv_at hl 0 rfl) ?_
      refine lv_iload_n hx hb dX6_alikeFrom_17 rfl (lv_at hl 1 rfl) ?_
      refine lv_iload hx hb dX6_alikeFrom_18 (lv_at hl 4 rfl) ?_
      refine lv_iadd hx hb dX6_alikeFrom_20 ?_
      obtain ⟨x1, e_x1, hr⟩ := zb_some hr
      refine zcallI M I (zrunV (as := [.int (a1 + v4)]) M I (c_X6_signAt l g fu h0 e_x1) h0 zK6.1 (by decide) zlv_X6_23 ⟨Nat.le_of_ble_eq_true rfl, Nat.le_of_ble_eq_true rfl⟩ ⟨Nat.zero_le _, Nat.zero_le _⟩ rfl rfl (Nat.le_of_ble_eq_true rfl) hl.1 dX6_alikeFrom_21) (fun H locs I => ?_)
      refine lv_aload_n hx hb dX6_alikeFrom_24 rfl (lv_at hl 0 rfl) ?_
      refine lv_iload_n hx hb dX6_alikeFrom_25 rfl (lv_at hl 2 rfl) ?_
      refine lv_iload hx hb dX6_alikeFrom_26 (lv_at hl 4 rfl) ?_
      refine lv_iadd hx hb dX6_alikeFrom_28 ?_
      obtain ⟨x2, e_x2, hr⟩ := zb_some hr
      refine zcallI M I (zrunV (as := [.int (a2 + v4)]) M I (c_X6_signAt l g fu h0 e_x2) h0 zK6.1 (by decide) zlv_X6_23 ⟨Nat.le_of_ble_eq_true rfl, Nat.le_of_ble_eq_true rfl⟩ ⟨Nat.zero_le _, Nat.zero_le _⟩ rfl rfl (Nat.le_of_ble_eq_true rfl) hl.1 dX6_alikeFrom_29) (fun H locs I => ?_)
      refine lv_icmp_ne (tgt := 44) hx hb dX6_alikeFrom_32 (by decide) (fun c3 => ?_) (fun c3 => ?_)
      · replace hr := zif_t hr c3
        obtain rfl := Option.some.inj hr
        exact KF ls _ _ (lv_sub hl [3] rfl) I
      · replace hr := zif_f hr (fun hq => hq c3)
        refine lv_iinc (lv' := [(3, .int (v3 + 1)), (0, .ref (zA g i0)), (1, .int a1), (2, .int a2), (4, .int v4)]) (k := 3) (v := (v3 + 1)) hx hb dX6_alikeFrom_35 hl rfl (zi_1 _) (by decide) rfl (fun ls hl => ?_)
        refine lv_iinc (lv' := [(4, .int (v4 + 1)), (3, .int (v3 + 1)), (0, .ref (zA g i0)), (1, .int a1), (2, .int a2)]) (k := 4) (v := (v4 + 1)) hx hb dX6_alikeFrom_38 hl rfl (zi_1 _) (by decide) rfl (fun ls hl => ?_)
        refine lv_goto (tgt := 5) hx hb dX6_alikeFrom_41 (by decide) ?_
        exact ih _ _  _ hr ls _ _ (lv_sub hl [2, 3, 4, 1, 0] rfl) I KF
def m_X6_alikeFrom (fu : Nat) (σ : zmem) (i0 : Nat) (a1 : Int32) (a2 : Int32) : Option (Int32) := (l_X6_alikeFrom_5 fu σ i0 a1 a2 fu (0 : Int32) (0 : Int32)).bind fun x5 => some x5
set_option maxHeartbeats 4000000 in
set_option maxRecDepth 100000 in
theorem c_X6_alikeFrom (l : Launch) (g : zgeo) (fu : Nat) {σ : zmem} {i0 : Nat} {a1 : Int32} {a2 : Int32} {r : Int32} (h0 : zkd i0 = (6, 0)) (hr : m_X6_alikeFrom fu σ i0 a1 a2 = some r) : zCt (zQI g r σ) l g yX6_alikeFrom cX6_alikeFrom 5 (some .int) 1 21 [.ref (zA g i0), .int a1, .int a2] σ := by
  refine zopen (by decide) (Nat.le_of_ble_eq_true rfl) ?_
  intro p e s m below meth c M ls hl I
  have M : zMC RX6 cX6_alikeFrom 5 (some .int) g p m c s ([.ref (zA g i0), .int a1, .int a2] : List Value).toArray meth := M
  have hl : lv_has ls 5 [(0, .ref (zA g i0)), (1, .int a1), (2, .int a2)] := hl
  generalize ([.ref (zA g i0), .int a1, .int a2] : List Value).toArray = args at M ⊢
  have hx := M.1.1
  have hb := M.1.2.1
  unfold m_X6_alikeFrom at hr
  refine lv_iconst (v := (0 : Int32)) hx hb dX6_alikeFrom_0 (by decide) ?_
  refine lv_istore_n (lv' := [(3, .int (0 : Int32)), (0, .ref (zA g i0)), (1, .int a1), (2, .int a2)]) hx hb dX6_alikeFrom_1 rfl hl (by decide) rfl (fun ls hl => ?_)
  refine lv_iconst (v := (0 : Int32)) hx hb dX6_alikeFrom_2 (by decide) ?_
  refine lv_istore (lv' := [(4, .int (0 : Int32)), (3, .int (0 : Int32)), (0, .ref (zA g i0)), (1, .int a1), (2, .int a2)]) hx hb dX6_alikeFrom_3 hl (by decide) rfl (fun ls hl => ?_)
  obtain ⟨x5, e_x5, hr⟩ := zb_some hr
  refine k_X6_alikeFrom_5 M h0 fu _ _  _ e_x5 ls _ _ (lv_sub hl [2, 3, 4, 1, 0] rfl) I (fun ls H locs hl I => ?_)
  refine lv_iload_n hx hb dX6_alikeFrom_44 rfl (lv_at hl 0 rfl) ?_
  obtain rfl := Option.some.inj hr
  exact zretI M I dX6_alikeFrom_45
def l_X6_againLength_6 (fu : Nat) (σ : zmem) (i0 : Nat) (a1 : Int32) : Nat → Int32 → Int32 → Option (Int32)
  | 0, _, _ => none
  | n + 1, v2, v3 => (if (σ.1 i0 1) ≤ v3 then some v2 else (m_X6_alikeFrom fu σ i0 a1 v3).bind fun x1 => l_X6_againLength_6 fu σ i0 a1 n (zmax v2 x1) (v3 + 1))
set_option maxHeartbeats 4000000 in
set_option maxRecDepth 100000 in
theorem k_X6_againLength_6 {l : Launch} {g : zgeo} {fu : Nat} {p : Program} {e : Env} {s : State} {m : MethodId} {args : Array Value} {below : List Frame} {meth : Method} {c : Code} (M : zMC RX6 cX6_againLength 4 (some .int) g p m c s args meth) {σ : zmem} {i0 : Nat} {a1 : Int32} (h0 : zkd i0 = (6, 0)) {Q : State → Prop} : ∀ (n : Nat) (v2 : Int32) (v3 : Int32) (o : Int32), l_X6_againLength_6 fu σ i0 a1 n v2 v3 = some o → ∀ (ls : Array Slot) (H : Heap) (locs : List Loc), lv_has ls 4 [(0, .ref (zA g i0)), (1, .int a1), (2, .int v2), (3, .int v3)] → zIV g σ (zAA g) s.heap H locs → (∀ (ls : Array Slot) (H : Heap) (locs : List Loc), lv_has ls 4 [(2, .int o)] → zIV g σ (zAA g) s.heap H locs → W p l e (zrm 2 45) s m args below meth c H locs 0 0 Q (F0 m 31 ls [])) → W p l e (zrm 2 45) s m args below meth c H locs 0 0 Q (F0 m 6 ls []) := by
  have hx := M.1.1
  have hb := M.1.2.1
  intro n
  induction n with
  | zero =>
    intro v2 v3 o hr ls H locs hl I KF
    have hr : (none : Option (Int32)) = some o := hr
    cases hr
  | succ n ih =>
    intro v2 v3 o hr ls H locs hl I KF
    rw [l_X6_againLength_6] at hr
    refine lv_iload_n hx hb dX6_againLength_6 rfl (lv_at hl 3 rfl) ?_
    refine lv_aload_n hx hb dX6_againLength_7 rfl (lv_at hl 0 rfl) ?_
    refine zgetI M I h0 zfl_X6_15 dX6_againLength_8 ?_
    refine lv_icmp_ge (tgt := 31) hx hb dX6_againLength_11 (by decide) (fun c2 => ?_) (fun c2 => ?_)
    · replace hr := zif_t hr c2
      obtain rfl := Option.some.inj hr
      exact KF ls _ _ (lv_sub hl [2] rfl) I
    · replace hr := zif_f hr c2
      refine lv_iload_n hx hb dX6_againLength_14 rfl (lv_at hl 2 rfl) ?_
      refine lv_aload_n hx hb dX6_againLength_15 rfl (lv_at hl 0 rfl) ?_
      refine lv_iload_n hx hb dX6_againLength_16 rfl (lv_at hl 1 rfl) ?_
      refine lv_iload_n hx hb dX6_againLength_17 rfl (lv_at hl 3 rfl) ?_
      obtain ⟨x1, e_x1, hr⟩ := zb_some hr
      refine zcallI M I (zrunV (as := [.int a1, .int v3]) M I (c_X6_alikeFrom l g fu h0 e_x1) h0 zK6.1 (by decide) zlv_X6_46 ⟨Nat.le_of_ble_eq_true rfl, Nat.le_of_ble_eq_true rfl⟩ ⟨Nat.zero_le _, Nat.zero_le _⟩ rfl rfl (Nat.le_of_ble_eq_true rfl) hl.1 dX6_againLength_18) (fun H locs I => ?_)
      refine va_mmax (own := RX6) hx hb (M.1.2.2.1.trans hl.1.symm) M.1.2.2.2.1 (M.1.2.2.2.2 _ (zin (i := 433) (by decide +kernel) rfl)) (M.1.2.2.2.2 _ (zin (i := 434) (by decide +kernel) rfl)) (M.1.2.2.2.2 _ (zin (i := 86) (by decide +kernel) rfl)) (M.1.2.2.2.2 _ (zin (i := 435) (by decide +kernel) rfl)) (Nat.le_of_ble_eq_true rfl) (Nat.le_of_ble_eq_true rfl) (Nat.zero_le _) (Nat.zero_le _) dX6_againLength_21 ?_
      refine lv_istore_n (lv' := [(2, .int (zmax v2 x1)), (0, .ref (zA g i0)), (1, .int a1), (3, .int v3)]) hx hb dX6_againLength_24 rfl hl (by decide) rfl (fun ls hl => ?_)
      refine lv_iinc (lv' := [(3, .int (v3 + 1)), (2, .int (zmax v2 x1)), (0, .ref (zA g i0)), (1, .int a1)]) (k := 3) (v := (v3 + 1)) hx hb dX6_againLength_25 hl rfl (zi_1 _) (by decide) rfl (fun ls hl => ?_)
      refine lv_goto (tgt := 6) hx hb dX6_againLength_28 (by decide) ?_
      exact ih _ _  _ hr ls _ _ (lv_sub hl [2, 3, 1, 0] rfl) I KF
def m_X6_againLength (fu : Nat) (σ : zmem) (i0 : Nat) (a1 : Int32) : Option (Int32) := (l_X6_againLength_6 fu σ i0 a1 fu (0 : Int32) (a1 + (1 : Int32))).bind fun x3 => some x3
set_option maxHeartbeats 4000000 in
set_option maxRecDepth 100000 in
theorem c_X6_againLength (l : Launch) (g : zgeo) (fu : Nat) {σ : zmem} {i0 : Nat} {a1 : Int32} {r : Int32} (h0 : zkd i0 = (6, 0)) (hr : m_X6_againLength fu σ i0 a1 = some r) : zCt (zQI g r σ) l g yX6_againLength cX6_againLength 4 (some .int) 2 45 [.ref (zA g i0), .int a1] σ := by
  refine zopen (by decide) (Nat.le_of_ble_eq_true rfl) ?_
  intro p e s m below meth c M ls hl I
  have M : zMC RX6 cX6_againLength 4 (some .int) g p m c s ([.ref (zA g i0), .int a1] : List Value).toArray meth := M
  have hl : lv_has ls 4 [(0, .ref (zA g i0)), (1, .int a1)] := hl
  generalize ([.ref (zA g i0), .int a1] : List Value).toArray = args at M ⊢
  have hx := M.1.1
  have hb := M.1.2.1
  unfold m_X6_againLength at hr
  refine lv_iconst (v := (0 : Int32)) hx hb dX6_againLength_0 (by decide) ?_
  refine lv_istore_n (lv' := [(2, .int (0 : Int32)), (0, .ref (zA g i0)), (1, .int a1)]) hx hb dX6_againLength_1 rfl hl (by decide) rfl (fun ls hl => ?_)
  refine lv_iload_n hx hb dX6_againLength_2 rfl (lv_at hl 2 rfl) ?_
  refine lv_iconst (v := (1 : Int32)) hx hb dX6_againLength_3 (by decide) ?_
  refine lv_iadd hx hb dX6_againLength_4 ?_
  refine lv_istore_n (lv' := [(3, .int (a1 + (1 : Int32))), (2, .int (0 : Int32)), (0, .ref (zA g i0)), (1, .int a1)]) hx hb dX6_againLength_5 rfl hl (by decide) rfl (fun ls hl => ?_)
  obtain ⟨x3, e_x3, hr⟩ := zb_some hr
  refine k_X6_againLength_6 M h0 fu _ _  _ e_x3 ls _ _ (lv_sub hl [2, 3, 1, 0] rfl) I (fun ls H locs hl I => ?_)
  refine lv_iload_n hx hb dX6_againLength_31 rfl (lv_at hl 0 rfl) ?_
  obtain rfl := Option.some.inj hr
  exact zretI M I dX6_againLength_32
def l_X6_placesOfStretch_5 (fu : Nat) (σ : zmem) (i0 : Nat) (a1 : Int32) (a2 : Int32) : Nat → Int32 → Int32 → Option (Int32)
  | 0, _, _ => none
  | n + 1, v3, v4 => (if (σ.1 i0 1) ≤ v4 then some v3 else (m_X6_alikeFrom fu σ i0 a1 v4).bind fun x1 => ((if x1 < a2 then some v3 else some (v3 + 1)) : Option (Int32)).bind fun x2 => l_X6_placesOfStretch_5 fu σ i0 a1 a2 n x2 (v4 + 1))
set_option maxHeartbeats 4000000 in
set_option maxRecDepth 100000 in
theorem k_X6_placesOfStretch_5 {l : Launch} {g : zgeo} {fu : Nat} {p : Program} {e : Env} {s : State} {m : MethodId} {args : Array Value} {below : List Frame} {meth : Method} {c : Code} (M : zMC RX6 cX6_placesOfStretch 5 (some .int) g p m c s args meth) {σ : zmem} {i0 : Nat} {a1 : Int32} {a2 : Int32} (h0 : zkd i0 = (6, 0)) {Q : State → Prop} : ∀ (n : Nat) (v3 : Int32) (v4 : Int32) (o : Int32), l_X6_placesOfStretch_5 fu σ i0 a1 a2 n v3 v4 = some o → ∀ (ls : Array Slot) (H : Heap) (locs : List Loc), lv_has ls 5 [(0, .ref (zA g i0)), (1, .int a1), (2, .int a2), (3, .int v3), (4, .int v4)] → zIV g σ (zAA g) s.heap H locs → (∀ (ls : Array Slot) (H : Heap) (locs : List Loc), lv_has ls 5 [(3, .int o)] → zIV g σ (zAA g) s.heap H locs → W p l e (zrm 2 45) s m args below meth c H locs 0 0 Q (F0 m 34 ls [])) → W p l e (zrm 2 45) s m args below meth c H locs 0 0 Q (F0 m 5 ls []) := by
  have hx := M.1.1
  have hb := M.1.2.1
  intro n
  induction n with
  | zero =>
    intro v3 v4 o hr ls H locs hl I KF
    have hr : (none : Option (Int32)) = some o := hr
    cases hr
  | succ n ih =>
    intro v3 v4 o hr ls H locs hl I KF
    rw [l_X6_placesOfStretch_5] at hr
    refine lv_iload hx hb dX6_placesOfStretch_5 (lv_at hl 4 rfl) ?_
    refine lv_aload_n hx hb dX6_placesOfStretch_7 rfl (lv_at hl 0 rfl) ?_
    refine zgetI M I h0 zfl_X6_15 dX6_placesOfStretch_8 ?_
    refine lv_icmp_ge (tgt := 34) hx hb dX6_placesOfStretch_11 (by decide) (fun c4 => ?_) (fun c4 => ?_)
    · replace hr := zif_t hr c4
      obtain rfl := Option.some.inj hr
      exact KF ls _ _ (lv_sub hl [3] rfl) I
    · replace hr := zif_f hr c4
      refine lv_aload_n hx hb dX6_placesOfStretch_14 rfl (lv_at hl 0 rfl) ?_
      refine lv_iload_n hx hb dX6_placesOfStretch_15 rfl (lv_at hl 1 rfl) ?_
      refine lv_iload hx hb dX6_placesOfStretch_16 (lv_at hl 4 rfl) ?_
      obtain ⟨x1, e_x1, hr⟩ := zb_some hr
      refine zcallI M I (zrunV (as := [.int a1, .int v4]) M I (c_X6_alikeFrom l g fu h0 e_x1) h0 zK6.1 (by decide) zlv_X6_46 ⟨Nat.le_of_ble_eq_true rfl, Nat.le_of_ble_eq_true rfl⟩ ⟨Nat.zero_le _, Nat.zero_le _⟩ rfl rfl (Nat.le_of_ble_eq_true rfl) hl.1 dX6_placesOfStretch_18) (fun H locs I => ?_)
      refine lv_iload_n hx hb dX6_placesOfStretch_21 rfl (lv_at hl 2 rfl) ?_
      obtain ⟨x2, e_x2, hr⟩ := zb_some hr
      have K_x2 : ∀ (ls : Array Slot) (H : Heap) (locs : List Loc), lv_has ls 5 [(0, .ref (zA g i0)), (1, .int a1), (2, .int a2), (3, .int x2), (4, .int v4)] → zIV g σ (zAA g) s.heap H locs → W p l e (zrm 2 45) s m args below meth c H locs 0 0 Q (F0 m 28 ls []) := by
        intro ls H locs hl I
        refine lv_iinc (lv' := [(4, .int (v4 + 1)), (0, .ref (zA g i0)), (1, .int a1), (2, .int a2), (3, .int x2)]) (k := 4) (v := (v4 + 1)) hx hb dX6_placesOfStretch_28 hl rfl (zi_1 _) (by decide) rfl (fun ls hl => ?_)
        refine lv_goto (tgt := 5) hx hb dX6_placesOfStretch_31 (by decide) ?_
        exact ih _ _  _ hr ls _ _ (lv_sub hl [1, 2, 3, 4, 0] rfl) I KF
      refine lv_icmp_lt (tgt := 28) hx hb dX6_placesOfStretch_22 (by decide) (fun c3 => ?_) (fun c3 => ?_)
      · replace e_x2 := zif_t e_x2 c3
        obtain rfl := Option.some.inj e_x2
        exact K_x2 ls _ _ hl I
      · replace e_x2 := zif_f e_x2 c3
        refine lv_iinc (lv' := [(3, .int (v3 + 1)), (0, .ref (zA g i0)), (1, .int a1), (2, .int a2), (4, .int v4)]) (k := 3) (v := (v3 + 1)) hx hb dX6_placesOfStretch_25 hl rfl (zi_1 _) (by decide) rfl (fun ls hl => ?_)
        obtain rfl := Option.some.inj e_x2
        exact K_x2 ls _ _ (lv_sub hl [1, 2, 3, 0, 4] rfl) I
def m_X6_placesOfStretch (fu : Nat) (σ : zmem) (i0 : Nat) (a1 : Int32) (a2 : Int32) : Option (Int32) := (l_X6_placesOfStretch_5 fu σ i0 a1 a2 fu (0 : Int32) a1).bind fun x5 => some x5
set_option maxHeartbeats 4000000 in
set_option maxRecDepth 100000 in
theorem c_X6_placesOfStretch (l : Launch) (g : zgeo) (fu : Nat) {σ : zmem} {i0 : Nat} {a1 : Int32} {a2 : Int32} {r : Int32} (h0 : zkd i0 = (6, 0)) (hr : m_X6_placesOfStretch fu σ i0 a1 a2 = some r) : zCt (zQI g r σ) l g yX6_placesOfStretch cX6_placesOfStretch 5 (some .int) 2 45 [.ref (zA g i0), .int a1, .int a2] σ := by
  refine zopen (by decide) (Nat.le_of_ble_eq_true rfl) ?_
  intro p e s m below meth c M ls hl I
  have M : zMC RX6 cX6_placesOfStretch 5 (some .int) g p m c s ([.ref (zA g i0), .int a1, .int a2] : List Value).toArray meth := M
  have hl : lv_has ls 5 [(0, .ref (zA g i0)), (1, .int a1), (2, .int a2)] := hl
  generalize ([.ref (zA g i0), .int a1, .int a2] : List Value).toArray = args at M ⊢
  have hx := M.1.1
  have hb := M.1.2.1
  unfold m_X6_placesOfStretch at hr
  refine lv_iconst (v := (0 : Int32)) hx hb dX6_placesOfStretch_0 (by decide) ?_
  refine lv_istore_n (lv' := [(3, .int (0 : Int32)), (0, .ref (zA g i0)), (1, .int a1), (2, .int a2)]) hx hb dX6_placesOfStretch_1 rfl hl (by decide) rfl (fun ls hl => ?_)
  refine lv_iload_n hx hb dX6_placesOfStretch_2 rfl (lv_at hl 2 rfl) ?_
  refine lv_istore (lv' := [(4, .int a1), (3, .int (0 : Int32)), (0, .ref (zA g i0)), (1, .int a1), (2, .int a2)]) hx hb dX6_placesOfStretch_3 hl (by decide) rfl (fun ls hl => ?_)
  obtain ⟨x5, e_x5, hr⟩ := zb_some hr
  refine k_X6_placesOfStretch_5 M h0 fu _ _  _ e_x5 ls _ _ (lv_sub hl [2, 3, 4, 1, 0] rfl) I (fun ls H locs hl I => ?_)
  refine lv_iload_n hx hb dX6_placesOfStretch_34 rfl (lv_at hl 0 rfl) ?_
  obtain rfl := Option.some.inj hr
  exact zretI M I dX6_placesOfStretch_35
def l_X6_stretchProperty_7 (fu : Nat) (σ : zmem) (i0 : Nat) (a1 : Int32) : Nat → Int32 → Int32 → Int32 → Option (Int32 × Int32)
  | 0, _, _, _ => none
  | n + 1, v2, v3, v4 => (if (σ.1 i0 1) ≤ v4 then some (v2, v3) else (m_X6_againLength fu σ i0 v4).bind fun x1 => ((if x1 ≤ v2 then some (v2, v3) else some (x1, v4)) : Option (Int32 × Int32)).bind fun x2 => l_X6_stretchProperty_7 fu σ i0 a1 n x2.1 x2.2 (v4 + 1))
set_option maxHeartbeats 4000000 in
set_option maxRecDepth 100000 in
theorem k_X6_stretchProperty_7 {l : Launch} {g : zgeo} {fu : Nat} {p : Program} {e : Env} {s : State} {m : MethodId} {args : Array Value} {below : List Frame} {meth : Method} {c : Code} (M : zMC RX6 cX6_stretchProperty 6 (some .int) g p m c s args meth) {σ : zmem} {i0 : Nat} {a1 : Int32} (h0 : zkd i0 = (6, 0)) {Q : State → Prop} : ∀ (n : Nat) (v2 : Int32) (v3 : Int32) (v4 : Int32) (o : Int32 × Int32), l_X6_stretchProperty_7 fu σ i0 a1 n v2 v3 v4 = some o → ∀ (ls : Array Slot) (H : Heap) (locs : List Loc), lv_has ls 6 [(0, .ref (zA g i0)), (1, .int a1), (2, .int v2), (3, .int v3), (4, .int v4)] → zIV g σ (zAA g) s.heap H locs → (∀ (ls : Array Slot) (H : Heap) (locs : List Loc), lv_has ls 6 [(0, .ref (zA g i0)), (1, .int a1), (2, .int o.1), (3, .int o.2)] → zIV g σ (zAA g) s.heap H locs → W p l e (zrm 3 69) s m args below meth c H locs 0 0 Q (F0 m 42 ls [])) → W p l e (zrm 3 69) s m args below meth c H locs 0 0 Q (F0 m 7 ls []) := by
  have hx := M.1.1
  have hb := M.1.2.1
  intro n
  induction n with
  | zero =>
    intro v2 v3 v4 o hr ls H locs hl I KF
    have hr : (none : Option (Int32 × Int32)) = some o := hr
    cases hr
  | succ n ih =>
    intro v2 v3 v4 o hr ls H locs hl I KF
    rw [l_X6_stretchProperty_7] at hr
    refine lv_iload hx hb dX6_stretchProperty_7 (lv_at hl 4 rfl) ?_
    refine lv_aload_n hx hb dX6_stretchProperty_9 rfl (lv_at hl 0 rfl) ?_
    refine zgetI M I h0 zfl_X6_15 dX6_stretchProperty_10 ?_
    refine lv_icmp_ge (tgt := 42) hx hb dX6_stretchProperty_13 (by decide) (fun c4 => ?_) (fun c4 => ?_)
    · replace hr := zif_t hr c4
      obtain rfl := Option.some.inj hr
      exact KF ls _ _ (lv_sub hl [0, 1, 2, 3] rfl) I
    · replace hr := zif_f hr c4
      refine lv_aload_n hx hb dX6_stretchProperty_16 rfl (lv_at hl 0 rfl) ?_
      refine lv_iload hx hb dX6_stretchProperty_17 (lv_at hl 4 rfl) ?_
      obtain ⟨x1, e_x1, hr⟩ := zb_some hr
      refine zcallI M I (zrunV (as := [.int v4]) M I (c_X6_againLength l g fu h0 e_x1) h0 zK6.1 (by decide) zlv_X6_49 ⟨Nat.le_of_ble_eq_true rfl, Nat.le_of_ble_eq_true rfl⟩ ⟨Nat.zero_le _, Nat.zero_le _⟩ rfl rfl (Nat.le_of_ble_eq_true rfl) hl.1 dX6_stretchProperty_19) (fun H locs I => ?_)
      refine lv_istore (lv' := [(5, .int x1), (0, .ref (zA g i0)), (1, .int a1), (2, .int v2), (3, .int v3), (4, .int v4)]) hx hb dX6_stretchProperty_22 hl (by decide) rfl (fun ls hl => ?_)
      refine lv_iload hx hb dX6_stretchProperty_24 (lv_at hl 0 rfl) ?_
      refine lv_iload_n hx hb dX6_stretchProperty_26 rfl (lv_at hl 3 rfl) ?_
      obtain ⟨x2, e_x2, hr⟩ := zb_some hr
      have K_x2 : ∀ (ls : Array Slot) (H : Heap) (locs : List Loc), lv_has ls 6 [(0, .ref (zA g i0)), (1, .int a1), (2, .int x2.1), (3, .int x2.2), (4, .int v4)] → zIV g σ (zAA g) s.heap H locs → W p l e (zrm 3 69) s m args below meth c H locs 0 0 Q (F0 m 36 ls []) := by
        intro ls H locs hl I
        refine lv_iinc (lv' := [(4, .int (v4 + 1)), (0, .ref (zA g i0)), (1, .int a1), (2, .int x2.1), (3, .int x2.2)]) (k := 4) (v := (v4 + 1)) hx hb dX6_stretchProperty_36 hl rfl (zi_1 _) (by decide) rfl (fun ls hl => ?_)
        refine lv_goto (tgt := 7) hx hb dX6_stretchProperty_39 (by decide) ?_
        exact ih _ _ _  _ hr ls _ _ (lv_sub hl [1, 2, 3, 4, 0] rfl) I KF
      refine lv_icmp_le (tgt := 36) hx hb dX6_stretchProperty_27 (by decide) (fun c3 => ?_) (fun c3 => ?_)
      · replace e_x2 := zif_t e_x2 c3
        obtain rfl := Option.some.inj e_x2
        exact K_x2 ls _ _ (lv_sub hl [1, 2, 3, 4, 5] rfl) I
      · replace e_x2 := zif_f e_x2 c3
        refine lv_iload hx hb dX6_stretchProperty_30 (lv_at hl 0 rfl) ?_
        refine lv_istore_n (lv' := [(2, .int x1), (5, .int x1), (0, .ref (zA g i0)), (1, .int a1), (3, .int v3), (4, .int v4)]) hx hb dX6_stretchProperty_32 rfl hl (by decide) rfl (fun ls hl => ?_)
        refine lv_iload hx hb dX6_stretchProperty_33 (lv_at hl 5 rfl) ?_
        refine lv_istore_n (lv' := [(3, .int v4), (2, .int x1), (5, .int x1), (0, .ref (zA g i0)), (1, .int a1), (4, .int v4)]) hx hb dX6_stretchProperty_35 rfl hl (by decide) rfl (fun ls hl => ?_)
        obtain rfl := Option.some.inj e_x2
        exact K_x2 ls _ _ (lv_sub hl [3, 4, 1, 0, 5] rfl) I
def m_X6_stretchProperty (fu : Nat) (σ : zmem) (i0 : Nat) (a1 : Int32) : Option (Int32) := (l_X6_stretchProperty_7 fu σ i0 a1 fu (0 : Int32) (-1 : Int32) (0 : Int32)).bind fun x5 => (if a1 = (0 : Int32) then some x5.1 else (if a1 = (1 : Int32) then some x5.2 else (if ¬ x5.2 = (-1 : Int32) then (m_X6_placesOfStretch fu σ i0 x5.2 x5.1).bind fun x8 => some x8 else some (-1 : Int32))))
set_option maxHeartbeats 4000000 in
set_option maxRecDepth 100000 in
theorem c_X6_stretchProperty (l : Launch) (g : zgeo) (fu : Nat) {σ : zmem} {i0 : Nat} {a1 : Int32} {r : Int32} (h0 : zkd i0 = (6, 0)) (hr : m_X6_stretchProperty fu σ i0 a1 = some r) : zCt (zQI g r σ) l g yX6_stretchProperty cX6_stretchProperty 6 (some .int) 3 69 [.ref (zA g i0), .int a1] σ := by
  refine zopen (by decide) (Nat.le_of_ble_eq_true rfl) ?_
  intro p e s m below meth c M ls hl I
  have M : zMC RX6 cX6_stretchProperty 6 (some .int) g p m c s ([.ref (zA g i0), .int a1] : List Value).toArray meth := M
  have hl : lv_has ls 6 [(0, .ref (zA g i0)), (1, .int a1)] := hl
  generalize ([.ref (zA g i0), .int a1] : List Value).toArray = args at M ⊢
  have hx := M.1.1
  have hb := M.1.2.1
  unfold m_X6_stretchProperty at hr
  refine lv_iconst (v := (0 : Int32)) hx hb dX6_stretchProperty_0 (by decide) ?_
  refine lv_istore_n (lv' := [(2, .int (0 : Int32)), (0, .ref (zA g i0)), (1, .int a1)]) hx hb dX6_stretchProperty_1 rfl hl (by decide) rfl (fun ls hl => ?_)
  refine lv_iconst (v := (-1 : Int32)) hx hb dX6_stretchProperty_2 (by decide) ?_
  refine lv_istore_n (lv' := [(3, .int (-1 : Int32)), (2, .int (0 : Int32)), (0, .ref (zA g i0)), (1, .int a1)]) hx hb dX6_stretchProperty_3 rfl hl (by decide) rfl (fun ls hl => ?_)
  refine lv_iconst (v := (0 : Int32)) hx hb dX6_stretchProperty_4 (by decide) ?_
  refine lv_istore (lv' := [(4, .int (0 : Int32)), (3, .int (-1 : Int32)), (2, .int (0 : Int32)), (0, .ref (zA g i0)), (1, .int a1)]) hx hb dX6_stretchProperty_5 hl (by decide) rfl (fun ls hl => ?_)
  obtain ⟨x5, e_x5, hr⟩ := zb_some hr
  refine k_X6_stretchProperty_7 M h0 fu _ _ _  _ e_x5 ls _ _ (lv_sub hl [3, 4, 2, 1, 0] rfl) I (fun ls H locs hl I => ?_)
  refine lv_iload_n hx hb dX6_stretchProperty_42 rfl (lv_at hl 1 rfl) ?_
  by_cases c6 : a1 = (0 : Int32)
  · replace hr := zif_t hr c6
    refine lv_lookup (tgt := 68) hx hb dX6_stretchProperty_43 (by decide) (by rw [c6]; try rfl) (by decide) ?_
    refine lv_iload_n hx hb dX6_stretchProperty_68 rfl (lv_at hl 2 rfl) ?_
    obtain rfl := Option.some.inj hr
    exact zretI M I dX6_stretchProperty_69
  · replace hr := zif_f hr c6
    by_cases c7 : a1 = (1 : Int32)
    · replace hr := zif_t hr c7
      refine lv_lookup (tgt := 70) hx hb dX6_stretchProperty_43 (by decide) (by rw [c7]; try rfl) (by decide) ?_
      refine lv_iload_n hx hb dX6_stretchProperty_70 rfl (lv_at hl 3 rfl) ?_
      obtain rfl := Option.some.inj hr
      exact zretI M I dX6_stretchProperty_71
    · replace hr := zif_f hr c7
      refine lv_lookup (tgt := 72) hx hb dX6_stretchProperty_43 (by decide) (zlook_2 c6 c7) (by decide) ?_
      refine lv_iload_n hx hb dX6_stretchProperty_72 rfl (lv_at hl 3 rfl) ?_
      refine lv_iconst (v := (-1 : Int32)) hx hb dX6_stretchProperty_73 (by decide) ?_
      refine lv_icmp_ne (tgt := 81) hx hb dX6_stretchProperty_74 (by decide) (fun c9 => ?_) (fun c9 => ?_)
      · replace hr := zif_t hr c9
        refine lv_aload_n hx hb dX6_stretchProperty_81 rfl (lv_at hl 0 rfl) ?_
        refine lv_iload_n hx hb dX6_stretchProperty_82 rfl (lv_at hl 3 rfl) ?_
        refine lv_iload_n hx hb dX6_stretchProperty_83 rfl (lv_at hl 2 rfl) ?_
        obtain ⟨x8, e_x8, hr⟩ := zb_some hr
        refine zcallI M I (zrunV (as := [.int x5.2, .int x5.1]) M I (c_X6_placesOfStretch l g fu h0 e_x8) h0 zK6.1 (by decide) zlv_X6_52 ⟨Nat.le_of_ble_eq_true rfl, Nat.le_of_ble_eq_true rfl⟩ ⟨Nat.zero_le _, Nat.zero_le _⟩ rfl rfl (Nat.le_of_ble_eq_true rfl) hl.1 dX6_stretchProperty_84) (fun H locs I => ?_)
        obtain rfl := Option.some.inj hr
        exact zretI M I dX6_stretchProperty_87
      · replace hr := zif_f hr (fun hq => hq c9)
        refine lv_iconst (v := (-1 : Int32)) hx hb dX6_stretchProperty_77 (by decide) ?_
        refine lv_goto (tgt := 87) hx hb dX6_stretchProperty_78 (by decide) ?_
        obtain rfl := Option.some.inj hr
        exact zretI M I dX6_stretchProperty_87
